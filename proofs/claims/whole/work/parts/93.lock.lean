/-! a tick on both sides: all robots act -/
section LOK
def KC : List Nat := (List.range 52).map (· + 1)
theorem mem_KC {a : Nat} : a ∈ KC ↔ 1 ≤ a ∧ a < 53 := by
  unfold KC
  rw [List.mem_map]
  constructor
  · rintro ⟨x, hx, rfl⟩
    have := List.mem_range.mp hx
    omega
  · intro h
    exact ⟨a - 1, List.mem_range.mpr (by omega), by omega⟩
/-- what a robot's row shows after it acted -/
def NW (σ τ : Nat → Int) (i : Nat) : Prop := (if 0 < ro σ i 2 then JX σ τ i (ac σ i 0) else ro τ i 0 = ro σ i 0 ∧ ro τ i 2 = ro σ i 2 ∧ ro τ i 3 = ro σ i 3) ∧ ro τ i 10 = ro σ i 10 + 1 ∧ ro τ i 4 = ro σ i 4 ∧ (ro τ i 7 = ro σ i 7 ∨ ro τ i 7 = ro σ i 7 + 1)
theorem rw_nat {τ ρ : Nat → Int} {i : Nat} (h : ∀ k : Nat, k < 42 → ro τ i k = ro ρ i k) : (ro τ i 0 = ro ρ i 0 ∧ ro τ i 2 = ro ρ i 2 ∧ ro τ i 3 = ro ρ i 3 ∧ ro τ i 4 = ro ρ i 4 ∧ ro τ i 7 = ro ρ i 7 ∧ ro τ i 10 = ro ρ i 10) ∧ ∀ k : Nat, k < 31 → ac τ i k = ac ρ i k := by
  have hS : SR ρ τ i := fun k hk _ => h k hk
  exact ⟨⟨h 0 (by omega), h 2 (by omega), h 3 (by omega), h 4 (by omega), h 7 (by omega), h 10 (by omega)⟩, fun k hk => ac_SR hS hk⟩
theorem NW_congr {σ τ ρ : Nat → Int} {i : Nat} (h2 : ro σ i 2 ≤ 30) (h : ∀ k : Nat, k < 42 → ro τ i k = ro ρ i k) (hn : NW σ ρ i) : NW σ τ i := by
  obtain ⟨⟨e0, e2, e3, e4, e7, e10⟩, ea⟩ := rw_nat h
  obtain ⟨n1, n2, n3, n4⟩ := hn
  refine ⟨?_, by rw [e10]; exact n2, by rw [e4]; exact n3, by rw [e7]; exact n4⟩
  by_cases c : 0 < ro σ i 2
  · rw [if_pos c] at n1 ⊢
    unfold JX at n1 ⊢
    rw [e0, e2, e3]
    by_cases d : ro σ i 3 + 1 = tk (ac σ i 0)
    · rw [if_pos d] at n1 ⊢
      exact ⟨n1.1, n1.2.1, n1.2.2.1, fun k hk => by rw [ea k (by omega)]; exact n1.2.2.2 k hk⟩
    · rw [if_neg d] at n1 ⊢
      exact ⟨n1.1, n1.2.1, n1.2.2.1, fun k hk => by rw [ea k (by omega)]; exact n1.2.2.2 k hk⟩
  · rw [if_neg c] at n1 ⊢
    rw [e0, e2, e3]
    exact n1
theorem NW_DRM {σ : Nat → Int} {B N : am_M} {i : Nat} (hwl : wl σ) (hw : wr σ i) (h6 : ∀ k : Nat, k < 6 → sg B k = σ k) (h : ∀ k : Nat, k < 42 → ro (sg B) i k = ro σ i k) (hd : DRM B N i (fa (sg B) i 0)) (h10 : 0 ≤ ro σ i 10 ∧ ro σ i 10 ≤ 1000) (h7 : 0 ≤ ro σ i 7 ∧ ro σ i 7 ≤ 1000) : NW σ (sg N) i := by
  obtain ⟨⟨e0, e2, e3, e4, e7, e10⟩, ea⟩ := rw_nat h
  have w2 := hw.1
  obtain ⟨d1, d10, d4, d8, d7, d5, d6, d9, d11, dx⟩ := hd
  have g10 : am_g B 175 (88 + 42 * i + 10) = pI (ro σ i 10) := by rw [← e10]; exact (m_ro (w := 10)).symm
  have g4 : am_g B 175 (88 + 42 * i + 4) = pI (ro (sg B) i 4) := (m_ro (w := 4)).symm
  have g7 : am_g B 175 (88 + 42 * i + 7) = pI (ro σ i 7) := by rw [← e7]; exact (m_ro (w := 7)).symm
  refine ⟨?_, ?_, ?_, ?_⟩
  · have hfa : fa (sg B) i 0 = if 0 < ro (sg B) i 2 then ac (sg B) i 0 else 0 := rfl
    rw [hfa] at dx
    rw [e2, e3, e0] at dx
    by_cases c : 0 < ro σ i 2
    · rw [if_pos c, if_pos c] at dx
      rw [if_pos c]
      unfold JX at dx ⊢
      have e0a : ac (sg B) i 0 = ac σ i 0 := ea 0 (by omega)
      rw [e0, e2, e3, e0a, mvs_congr h6 hwl] at dx
      by_cases d : ro σ i 3 + 1 = tk (ac σ i 0)
      · rw [if_pos d] at dx ⊢
        refine ⟨dx.1, dx.2.1, dx.2.2.1, fun k hk => ?_⟩
        rw [dx.2.2.2 k hk]
        exact ea (k + 1) (by omega)
      · rw [if_neg d] at dx ⊢
        refine ⟨dx.1, dx.2.1, dx.2.2.1, fun k hk => ?_⟩
        rw [dx.2.2.2 k hk]
        exact ea k (by omega)
    · rw [if_neg c] at dx ⊢
      exact dx
  · exact m_ro2 (M := B) (w := 10) (by rw [d10, g10, pi_add]) (by omega) (by omega)
  · rw [← e4]
    exact m_ro3 (w := 4) d4
  · by_cases c : fa (sg B) i 0 = 0
    · right
      exact m_ro2 (M := B) (w := 7) (by rw [d7, if_pos c, g7, pi_add]) (by omega) (by omega)
    · left
      rw [← e7]
      exact m_ro3 (w := 7) (by rw [d7, if_neg c])
/-- where q robots have acted on both sides -/
def PH (σ τ : Nat → Int) (A : am_M) (q : Nat) : Prop := (∀ k : Nat, (k < 88 ∨ 298 ≤ k) → τ k = σ k) ∧ (∀ i : Nat, i < 5 → q ≤ i → ∀ k : Nat, k < 42 → ro τ i k = ro σ i k) ∧ (∀ i : Nat, (i : Int) < σ 6 → i < q → NW σ τ i) ∧ (FLw σ 1 A ∧ (iv A 1 2 = σ 6 ∧ iv A 1 3 = σ 7 ∧ iv A 1 4 = σ 0) ∧ (∀ c : Nat, c < 40 → iv A 7 c = σ (48 + c)) ∧ (∀ i : Nat, (i : Int) < σ 6 → PR σ i (17 + 5 * i) (σ 0) A ∧ iv A (16 + 5 * i) 3 = ro σ i 4 ∧ iv A (16 + 5 * i) 4 = σ 0 - ro σ i 10) ∧ ∀ j : Nat, (j : Int) < σ 7 → TB σ 1 j A) ∧ ∀ i : Nat, (i : Int) < σ 6 → iv A (16 + 5 * i) 2 = ro τ i 1 ∧ ∀ k : Nat, k < 5 → iv A (16 + 5 * i + 4) k = ro τ i (5 + k)
theorem PH_zero {σ : Nat → Int} {A : am_M} (hW : WD σ 1 A) : PH σ σ A 0 := by
  obtain ⟨h1, h2, h3, h4, h5⟩ := hW
  refine ⟨fun _ _ => rfl, fun _ _ _ _ _ => rfl, fun i _ q => absurd q (by omega), ⟨h1, h2, h3, fun i hi => ?_, h5⟩, fun i hi => ?_⟩
  · obtain ⟨b1, b2, b3, b4, b5⟩ := h4 i hi
    rw [show 1 + 16 + 5 * i = 17 + 5 * i by omega] at b1
    rw [show 1 + 15 + 5 * i = 16 + 5 * i by omega] at b3 b4
    exact ⟨b1, b3, b4⟩
  · obtain ⟨b1, b2, b3, b4, b5⟩ := h4 i hi
    rw [show 1 + 15 + 5 * i = 16 + 5 * i by omega] at b2
    refine ⟨b2, fun k hk => ?_⟩
    have := b5 k hk
    rw [show 1 + 19 + 5 * i = 16 + 5 * i + 4 by omega] at this
    exact this
theorem iv_of {M N : am_M} {a b k j : Nat} (h : am_g N a k = am_g M b j) : iv N a k = iv M b j := congrArg Int32.toInt h
theorem gv_of {M N : am_M} {a b k j : Nat} (h : iv N a k = iv M b j) : am_g N a k = am_g M b j := by rw [pi_g, pi_g, h]
theorem PH_step {σ : Nat → Int} {A B : am_M} {q : Nat} (hO : OK σ) (hP : PH σ (sg B) A q) (hq : (q : Int) < σ 6) : ∃ A' B', g_X8_act 1 (16 + 5 * q) A = some ((), A') ∧ g_X10_does (pI q) B = some ((), B') ∧ fr KC A A' ∧ fr [175] B B' ∧ PH σ (sg B') A' (q + 1) := by
  obtain ⟨hC, hwl, h6, h7, hkd, hRF, hTF, hNC⟩ := hO
  obtain ⟨p1, p2, p3, ⟨c1, c2, c3, c4, c5⟩, p5⟩ := hP
  have hq5 : q < 5 := by omega
  have hR := hRF q hq
  have l6 : ∀ k : Nat, k < 6 → sg B k = σ k := fun k hk => p1 k (by omega)
  have hold := p2 q hq5 (Nat.le_refl _)
  have hS : SR σ (sg B) q := fun k hk _ => hold k hk
  have hwlB := wl_congr l6 hwl
  have hwB := wr_SR l6 hwl hS hR.1
  obtain ⟨⟨e0, e2, e3, e4, e7, e10⟩, ea⟩ := rw_nat hold
  have hfe : fa (sg B) q 0 = fa σ q 0 := by
    show (if 0 < ro (sg B) q 2 then ac (sg B) q 0 else 0) = (if 0 < ro σ q 2 then ac σ q 0 else 0)
    rw [e2]
    have : ac (sg B) q 0 = ac σ q 0 := ea 0 (by omega)
    rw [this]
  obtain ⟨A', g1, f1, m1⟩ := s_cact (A := A) hq5 hR.1 hC (c4 q hq).1 c2.2.2 (fun c hc => c1.2.2.1 c hc)
  obtain ⟨B', g2, f2, m2⟩ := s_does (M := B) hq5 hwlB hwB
  have hNW := NW_DRM hwl hR.1 l6 hold m2 (by have := hR.2.2.1; omega) (by have := hR.2.2.1; omega)
  rw [hfe] at m2
  obtain ⟨d1, d10, d4, d8, d7, d5, d6, d9, d11, dx⟩ := m2
  obtain ⟨n1, n2, n3, n4, n5, n6, n7⟩ := m1
  have hlow : ∀ j : Nat, (j < 88 + 42 * q ∨ 130 + 42 * q ≤ j) → sg B' j = sg B j := fun j hj => m_sg (d1 j hj)
  have hrow : ∀ i : Nat, i ≠ q → ∀ k : Nat, k < 42 → ro (sg B') i k = ro (sg B) i k := fun i hi k hk => m_ro3 (d1 _ (by omega))
  have hX : ∀ a, 1 ≤ a → a < 53 → a ≠ 16 + 5 * q → a ≠ 20 + 5 * q → a ∉ [16 + 5 * q, 20 + 5 * q] := fun a _ _ h1 h2 => by simp; omega
  have hb : am_g A (16 + 5 * q) 2 = am_g B 175 (88 + 42 * q + 1) := by
    rw [pi_g, (p5 q hq).1]
    exact m_ro (w := 1)
  have hst : ∀ k : Nat, k < 5 → am_g A (16 + 5 * q + 4) k = am_g B 175 (88 + 42 * q + (5 + k)) := fun k hk => by
    rw [pi_g, (p5 q hq).2 k hk]
    exact m_ro (w := 5 + k)
  have hkind : sg B (8 + ro (sg B) q 0).toNat = σ (8 + ro σ q 0).toNat := by
    have hA : 0 ≤ ro σ q 0 ∧ ro σ q 0 < 40 := hR.1.2.2.1 0 (by have := hR.1.1; omega)
    rw [e0]
    exact p1 _ (by omega)
  refine ⟨A', B', g1, g2, fr_mono f1 (fun a ha => by
    rw [mem_KC]
    simp at ha
    omega), f2, fun k hk => ?_, fun i hi hqi k hk => ?_, fun i hi hqi => ?_, ⟨FLw_fr c1 f1 (fun a h1 h2 => hX a (by omega) (by omega) (by omega) (by omega)), ?_, fun c hc => ?_, fun i hi => ⟨?_, ?_, ?_⟩, fun j hj => TB_fr (c5 j hj) f1 (hX _ (by omega) (by omega) (by omega) (by omega))⟩, fun i hi => ?_⟩
  · rw [hlow k (by omega)]
    exact p1 k hk
  · rw [hrow i (by omega) k hk]
    exact p2 i hi (by omega) k hk
  · by_cases e : i = q
    · rw [e]
      exact hNW
    · exact NW_congr (hRF i hi).1.1.2 (hrow i e) (p3 i hi (by omega))
  · rw [fr_i f1 (hX 1 (by omega) (by omega) (by omega) (by omega)), fr_i f1 (hX 1 (by omega) (by omega) (by omega) (by omega)), fr_i f1 (hX 1 (by omega) (by omega) (by omega) (by omega))]
    exact c2
  · rw [fr_i f1 (hX 7 (by omega) (by omega) (by omega) (by omega))]
    exact c3 c hc
  · exact PR_fr (c4 i hi).1 f1 (hX _ (by omega) (by omega) (by omega) (by omega)) (hX _ (by omega) (by omega) (by omega) (by omega)) (hX _ (by omega) (by omega) (by omega) (by omega))
  · by_cases e : i = q
    · rw [e, iv_of (n1 3 (by omega))]
      exact (c4 q hq).2.1
    · rw [fr_i f1 (hX _ (by omega) (by omega) (by omega) (by omega))]
      exact (c4 i hi).2.1
  · by_cases e : i = q
    · rw [e, iv_of (n1 4 (by omega))]
      exact (c4 q hq).2.2
    · rw [fr_i f1 (hX _ (by omega) (by omega) (by omega) (by omega))]
      exact (c4 i hi).2.2
  · by_cases e : i = q
    · subst e
      rw [hkind] at d9
      rw [e3, hkind] at d11
      rw [e3] at d6
      rw [← hb] at d9 d11
      have hr5 : ∀ w : Nat, ∀ k : Nat, am_g A' (16 + 5 * i + 4) k = am_g B' 175 (88 + 42 * i + w) → iv A' (16 + 5 * i + 4) k = ro (sg B') i w := fun w k h => by
        rw [ro_nat]
        exact iv_of h
      refine ⟨?_, fun k hk => ?_⟩
      · have : am_g A' (16 + 5 * i) 2 = am_g B' 175 (88 + 42 * i + 1) := by rw [n2, d11]
        rw [iv_of this]
        exact (ro_nat (sg B') i 1).symm
      · have hk5 : k = 0 ∨ k = 1 ∨ k = 2 ∨ k = 3 ∨ k = 4 := by omega
        have q0 := hst 0 (by omega)
        have q1 := hst 1 (by omega)
        have q2 := hst 2 (by omega)
        have q3 := hst 3 (by omega)
        have q4 := hst 4 (by omega)
        rcases hk5 with rfl | rfl | rfl | rfl | rfl
        · exact hr5 5 0 (by rw [n3, d5, q0])
        · exact hr5 6 1 (by rw [n4, d6, q1])
        · exact hr5 7 2 (by rw [n5, d7, q2])
        · exact hr5 8 3 (by rw [n6, d8, q3])
        · exact hr5 9 4 (by rw [n7, d9, q4])
    · rw [fr_i f1 (hX _ (by omega) (by omega) (by omega) (by omega))]
      refine ⟨?_, fun k hk => ?_⟩
      · rw [(p5 i hi).1]
        exact (hrow i e 1 (by omega)).symm
      · rw [fr_i f1 (hX _ (by omega) (by omega) (by omega) (by omega)), (p5 i hi).2 k hk]
        exact (hrow i e (5 + k) (by omega)).symm
end LOK
