/-! one refuge of makeWay, on both sides -/
section SG
def KM : List Nat := [174, 175, 180, 181, 182, 183, 184]
theorem MK_mod {σ : Nat → Int} {B : am_M} {r o : Nat} {g q : Int} (hs : sg B = σ) (hO : OK σ) (h11 : iv B 174 11 = -1) (hr : (r : Int) < σ 6) (ho : (o : Int) < σ 6) (hro : r ≠ o) (h3 : ro σ r 3 = 0) (hid : ro σ o 2 = 0) (hg : 0 ≤ g ∧ g < 40) (hq : 0 ≤ q ∧ q < 40) : ∃ B', fr KM B B' ∧ (∀ k, k ≠ 15 → k ≠ 16 → k ≠ 17 → iv B' 174 k = iv B 174 k) ∧ ((g_X10_makes (pI r) (pI g) (pI o) (pI q) B = some (pI 0, B') ∧ sg B' = σ ∧ ∀ e, ¬ pl σ o q e) ∨ ∃ α n, (rtg σ o (-1) 0 (ro σ o 0) q 1 α n ∧ lco α n ≤ ro σ o 1 ∧ n ≤ 30 ∧ OK (folF σ o α n)) ∧ ((g_X10_makes (pI r) (pI g) (pI o) (pI q) B = some (pI 0, B') ∧ sg B' = folF (folF σ o α n) o α 0 ∧ ∀ e, ¬ pl (folF σ o α n) r g e) ∨ ∃ β m, g_X10_makes (pI r) (pI g) (pI o) (pI q) B = some (pI 1, B') ∧ sg B' = folF (folF σ o α n) r β m ∧ rtg (folF σ o α n) r (-1) 0 (ro (folF σ o α n) r 0) g 1 β m ∧ lco β m ≤ ro (folF σ o α n) r 1 ∧ m ≤ 30)) := by
  have h6 := hO.2.2.1
  obtain ⟨hi3, hi4⟩ := idle_facts hO ho hid
  obtain ⟨N, f1, k1, h⟩ := s_canPlan (g := q) hs hO h11 ho hi3 hq
  have hsN : sg N = σ := (sg_fr f1 (by decide)).trans hs
  rcases h with ⟨α, n, g1, q1, q2, q3⟩ | ⟨g1, q1⟩
  · have hfac := rtg_facts hO.2.1 (ro_cell (hO.2.2.2.2.2.1 o ho).1) q1
    have hln := lt_ge α n
    have hn30 : n ≤ 30 := by omega
    have hO2 : OK (folF σ o α n) := OK_fol hO ho hi3 hn30 (rtg_LG hO.2.1 (ro_cell (hO.2.2.2.2.2.1 o ho).1) q1)
    obtain ⟨τ, eτ⟩ : ∃ τ, τ = folF σ o α n := ⟨_, rfl⟩
    obtain ⟨N2, g2, f2, e2⟩ := s_follows (r := o) (α := α) (n := n) hsN (by omega) (by omega) hn30 q3.1 q3.2.2.2
    have f12 : fr KM B N2 := fr_trans (fr_mono f1 (by decide)) (fr_mono f2 (by decide))
    have e6 : τ 6 = σ 6 := by rw [eτ]; exact folF_low (by omega)
    have r3 : ro τ r 3 = 0 := by rw [eτ]; exact (folF_other (k := 3) hn30 (by omega) (by omega) hro (by omega)).trans h3
    rw [← eτ] at e2 hO2
    have k12 : ∀ k, k ≠ 15 → k ≠ 16 → k ≠ 17 → iv N2 174 k = iv B 174 k := fun k a1 a2 a3 => by rw [fr_i f2 (by decide)]; exact k1 k a1 a2 a3
    obtain ⟨N3, f3, k3, h'⟩ := s_canPlan (g := g) (r := r) e2 hO2 (by rw [k12 11 (by omega) (by omega) (by omega)]; exact h11) (by rw [e6]; exact hr) r3 hg
    have hsN3 : sg N3 = τ := (sg_fr f3 (by decide)).trans e2
    have f13 : fr KM B N3 := fr_trans f12 (fr_mono f3 (by decide))
    have k13 : ∀ k, k ≠ 15 → k ≠ 16 → k ≠ 17 → iv N3 174 k = iv B 174 k := fun k a1 a2 a3 => by rw [k3 k a1 a2 a3]; exact k12 k a1 a2 a3
    rcases h' with ⟨β, m, g3, p1, p2, p3⟩ | ⟨g3, p1⟩
    · have hfb := rtg_facts hO2.2.1 (ro_cell (hO2.2.2.2.2.2.1 r (by rw [e6]; exact hr)).1) p1
      have hlm := lt_ge β m
      have h4b := (hO2.2.2.2.2.2.1 r (by rw [e6]; exact hr)).2.2.2.1
      have h7b := hO2.2.2.2.1
      obtain ⟨N4, g4, f4, e4⟩ := s_follows (r := r) (α := β) (n := m) hsN3 (by omega) (by omega) (by omega) p3.1 p3.2.2.2
      refine ⟨N4, fr_trans f13 (fr_mono f4 (by decide)), fun k a1 a2 a3 => by rw [fr_i f4 (by decide)]; exact k13 k a1 a2 a3, Or.inr ⟨α, n, ⟨q1, q2, hn30, by rw [← eτ]; exact hO2⟩, Or.inr ⟨β, m, ?_, by rw [e4, ← eτ], by rw [← eτ]; exact p1, by rw [← eτ]; exact p2, by omega⟩⟩⟩
      unfold g_X10_makes
      rw [g1, am_b_some, if_neg ci1, g2, am_b_some, g3, am_b_some, if_neg ci1, g4, am_b_some]
      rfl
    · have g4 : g_X10_put (pI o) (2 : Int32) (0 : Int32) N3 = some ((), am_s N3 175 (90 + 42 * o) (pI 0)) := by
        rw [show (2 : Int32) = pI 2 from rfl, s_rput _ _ (by omega) (by omega), show (88 + 42 * (o : Int) + 2).toNat = 90 + 42 * o by omega]
        rfl
      refine ⟨am_s N3 175 (90 + 42 * o) (pI 0), fr_trans f13 (fr_s (by decide)), fun k a1 a2 a3 => by rw [iv_s (by omega) (by omega), if_neg (by omega)]; exact k13 k a1 a2 a3, Or.inr ⟨α, n, ⟨q1, q2, hn30, by rw [← eτ]; exact hO2⟩, Or.inl ⟨?_, ?_, by rw [← eτ]; exact p1⟩⟩⟩
      · unfold g_X10_makes
        rw [g1, am_b_some, if_neg ci1, g2, am_b_some, g3, am_b_some, if_pos ci0, g4, am_b_some]
        rfl
      · rw [sg_up (by omega) (by omega), hsN3, ← eτ]
        funext k
        have e4 : ro τ o 4 = -1 := by rw [eτ]; exact folF_four (by omega)
        show (if k = 90 + 42 * o then (0 : Int) else τ k) = if 99 + 42 * o ≤ k ∧ k < 99 + 42 * o + 0 then α (k - (99 + 42 * o)) else if k = 90 + 42 * o then ((0 : Nat) : Int) else reoF τ o k
        rw [if_neg (show ¬ (99 + 42 * o ≤ k ∧ k < 99 + 42 * o + 0) by omega)]
        unfold reoF
        rw [if_pos e4]
        rfl
  · refine ⟨N, fr_mono f1 (by decide), k1, Or.inl ⟨?_, hsN, q1⟩⟩
    unfold g_X10_makes
    rw [g1, am_b_some, if_pos ci0]
    rfl
/-- the class finds no plan for the other robot -/
theorem MK_clsA {σ : Nat → Int} {A : am_M} {o q : Nat} {a1 a2 : Int32} (hW : WD σ 1 A) (hO : OK σ) (ho : (o : Int) < σ 6) (hid : ro σ o 2 = 0) (hq : q < 40) (hno : ∀ e, ¬ pl σ o q e) : ∃ A', (∀ f, g_X3_moveAside_L49 a1 a2 (pI o) (1 : Int32) (f + 1) (pI (q : Nat)) A = g_X3_moveAside_L49 a1 a2 (pI o) (1 : Int32) f (pI (q + 1 : Nat)) A') ∧ fr KD A A' ∧ WD σ 1 A' := by
  obtain ⟨hi3, hi4⟩ := idle_facts hO ho hid
  have h6 := hO.2.2.1
  have h7 := hO.2.2.2.1
  obtain ⟨O, f1, e1, h⟩ := s_isPlannable (g := (q : Int)) hW hO ho hi3 (by omega)
  rcases h with ⟨α, n, g1, q1, q2, q3⟩ | ⟨g1, q1⟩
  · exact absurd ⟨α, n, q1, rfl, q2⟩ (hno (lt α n))
  · refine ⟨O, fun f => ?_, fr_mono f1 (fun a ha => mem_KD.mpr (by simp at ha; omega)), WD_fr hW h6.2 h7.2 f1 (by intro z z1 z2 z3; simp at z3; omega)⟩
    have nx : pI (q : Nat) + (1 : Int32) = pI (q + 1 : Nat) := by rw [show (1 : Int32) = pI 1 from rfl, pi_add]; rfl
    rw [g_X3_moveAside_L49, if_neg (by decide), if_neg (show ¬ ((40 : Int32) ≤ pI (q : Nat)) by rw [show (40 : Int32) = pI 40 from rfl, pi_le (by omega) (by omega) (by omega) (by omega)]; omega), g1, am_b_some, if_pos ci0, nx]
/-- the class finds one -/
theorem MK_clsB {σ : Nat → Int} {A : am_M} {r o q n : Nat} {g : Int} {α : Nat → Int} (hW : WD σ 1 A) (hO : OK σ) (hr : (r : Int) < σ 6) (ho : (o : Int) < σ 6) (hro : r ≠ o) (h3 : ro σ r 3 = 0) (hid : ro σ o 2 = 0) (hg : 0 ≤ g ∧ g < 40) (hq : q < 40) (q1 : rtg σ o (-1) 0 (ro σ o 0) q 1 α n) (q2 : lco α n ≤ ro σ o 1) (hn30 : n ≤ 30) (hO2 : OK (folF σ o α n)) : ((∀ e, ¬ pl (folF σ o α n) r g e) → ∃ A', (∀ f, g_X3_moveAside_L49 (pI r) (pI g) (pI o) (1 : Int32) (f + 1) (pI (q : Nat)) A = g_X3_moveAside_L49 (pI r) (pI g) (pI o) (1 : Int32) f (pI (q + 1 : Nat)) A') ∧ fr KD A A' ∧ WD (folF (folF σ o α n) o α 0) 1 A') ∧ ∀ β m, rtg (folF σ o α n) r (-1) 0 (ro (folF σ o α n) r 0) g 1 β m → lco β m ≤ ro (folF σ o α n) r 1 → m ≤ 30 → ∃ A' A'', (∀ f, g_X3_moveAside_L49 (pI r) (pI g) (pI o) (1 : Int32) (f + 1) (pI (q : Nat)) A = some (109, A')) ∧ g_X3_adopt (pI r) (-1 : Int32) A' = some ((), A'') ∧ fr KD A A'' ∧ WD (folF (folF σ o α n) r β m) 1 A'' := by
  obtain ⟨hi3, hi4⟩ := idle_facts hO ho hid
  have h6 := hO.2.2.1
  have h7 := hO.2.2.2.1
  have hcell := ro_cell (hO.2.2.2.2.2.1 o ho).1
  obtain ⟨O, f1, e1, h⟩ := s_isPlannable (g := (q : Int)) hW hO ho hi3 (by omega)
  rcases h with ⟨α', n', g1, q1', q2', q3⟩ | ⟨g1, q1'⟩
  rotate_left
  · exact absurd ⟨α, n, q1, rfl, q2⟩ (q1' (lt α n))
  obtain ⟨rfl, hαα⟩ := rtg_uniq q1 q1'
  have q3 := RW_congr (fun k hk => (hαα k hk).symm) q3
  have hfac := rtg_facts hO.2.1 hcell q1
  have hWO : WD σ 1 O := WD_fr hW h6.2 h7.2 f1 (by intro z z1 z2 z3; simp at z3; omega)
  have e5 : am_g O 1 4 = pI (σ 0) := by rw [pi_g, hWO.2.1.2.2]
  have gp := s_place0 hWO hO ho
  rw [fp_zero hi3] at gp
  obtain ⟨A2, g3, f3, hWA⟩ := s_adopt (s := -1) hWO hO ho hi3 hn30 (by omega) q3 e1 (by omega)
  rw [folS_self (by omega)] at hWA
  obtain ⟨τ, eτ⟩ : ∃ τ, τ = folF σ o α n := ⟨_, rfl⟩
  have e6 : τ 6 = σ 6 := by rw [eτ]; exact folF_low (by omega)
  have r3 : ro τ r 3 = 0 := by rw [eτ]; exact (folF_other (k := 3) hn30 (by omega) (by omega) hro (by omega)).trans h3
  have o3 : ro τ o 3 = 0 := by rw [eτ]; exact (folF_own (k := 3) (by omega) (by omega) (by omega) (by omega)).trans hi3
  have o0 : ro τ o 0 = ro σ o 0 := by rw [eτ]; exact folF_own (k := 0) (by omega) (by omega) (by omega) (by omega)
  have o4 : ro τ o 4 = -1 := by rw [eτ]; exact folF_four (by omega)
  rw [← eτ] at hWA hO2 ⊢
  have f12 : fr KD A A2 := fr_trans (fr_mono f1 (fun a ha => mem_KD.mpr (by simp at ha; omega))) (fr_mono f3 (fun a ha => mem_KD.mpr (by rw [hi4] at ha; simp at ha; omega)))
  have h6b := hO2.2.2.1
  have h7b := hO2.2.2.2.1
  obtain ⟨O3, f4, e4, h'⟩ := s_isPlannable (g := g) (r := r) hWA hO2 (by rw [e6]; exact hr) r3 hg
  have hWO3 : WD τ 1 O3 := WD_fr hWA h6b.2 h7b.2 f4 (by intro z z1 z2 z3; simp at z3; omega)
  have f14 : fr KD A O3 := fr_trans f12 (fr_mono f4 (fun a ha => mem_KD.mpr (by simp at ha; omega)))
  have nx : pI (q : Nat) + (1 : Int32) = pI (q + 1 : Nat) := by rw [show (1 : Int32) = pI 1 from rfl, pi_add]; rfl
  have ro1 : ∀ X : am_M, g_X8_robotOf 1 (pI o) X = some (16 + 5 * o, X) := fun X => by rw [s_robotOf X (by omega), show 1 + 15 + 5 * o = 16 + 5 * o by omega]
  have g3' : g_X3_adopt (pI o) (-1 : Int32) O = some ((), A2) := g3
  have pre : ∀ f, g_X3_moveAside_L49 (pI r) (pI g) (pI o) (1 : Int32) (f + 1) (pI (q : Nat)) A = am_b (g_X3_isPlannable (pI r) (pI g) A2) (fun v14 M13 => (if v14 = (0 : Int32) then (am_b (g_X8_robotOf 1 (pI o) M13) (fun v17 M16 => (am_b (g_X2_restAt (v17 + 1) (pI (ro σ o 0)) (am_g M16 1 4) M16) (fun _ M19 => (g_X3_moveAside_L49 (pI r) (pI g) (pI o) (1 : Int32) f (pI (q + 1 : Nat)) M19))))) else (some (109, M13)))) := fun f => by
    rw [g_X3_moveAside_L49, if_neg (by decide), if_neg (show ¬ ((40 : Int32) ≤ pI (q : Nat)) by rw [show (40 : Int32) = pI 40 from rfl, pi_le (by omega) (by omega) (by omega) (by omega)]; omega), g1, am_b_some, if_neg ci1, ro1, am_b_some, show 16 + 5 * o + 1 = 17 + 5 * o by omega, e5, gp, am_b_some, g3', am_b_some, nx]
  constructor
  · intro hno
    rcases h' with ⟨β, m, g5, p1, p2, p3⟩ | ⟨g5, p1⟩
    · exact absurd ⟨β, m, p1, rfl, p2⟩ (hno (lt β m))
    · obtain ⟨N1, N, a1, a2, a3, a4, a5, a6⟩ := s_rest (α := α) hWO3 hO2 (r := o) (by rw [e6]; exact ho) o3
      have eN := a4 o4
      subst eN
      rw [o0] at a3
      have e7 : am_g N1 1 4 = pI (τ 0) := by rw [pi_g, a2]
      refine ⟨N, fun f => ?_, fr_trans f14 (fr_mono a5 (fun a ha => mem_KD.mpr (by rw [o4] at ha; simp at ha; omega))), a6⟩
      rw [pre, g5, am_b_some, if_pos ci0, ro1, am_b_some, show 16 + 5 * o + 1 = 17 + 5 * o by omega, e7, a3, am_b_some]
  · intro β m hp1 hp2 hm
    rcases h' with ⟨β', m', g5, p1, p2, p3⟩ | ⟨g5, p1⟩
    · obtain ⟨rfl, hββ⟩ := rtg_uniq hp1 p1
      have p3 := RW_congr (fun k hk => (hββ k hk).symm) p3
      have hfb := rtg_facts hO2.2.1 (ro_cell (hO2.2.2.2.2.2.1 r (by rw [e6]; exact hr)).1) hp1
      obtain ⟨A4, g6, f6, hW4⟩ := s_adopt (s := -1) hWO3 hO2 (r := r) (by rw [e6]; exact hr) r3 hm (by omega) p3 e4 (by omega)
      rw [folS_self (by omega)] at hW4
      have h4b := (hO2.2.2.2.2.2.1 r (by rw [e6]; exact hr)).2.2.2.1
      refine ⟨O3, A4, fun f => ?_, g6, fr_trans f14 (fr_mono f6 (fun a ha => mem_KD.mpr (by simp at ha; omega))), hW4⟩
      rw [pre, g5, am_b_some, if_neg ci1]
    · exact absurd ⟨β, m, hp1, rfl, hp2⟩ (p1 (lt β m))
end SG
