/-! the class adopts a plan: the world behind it -/
section QM
def folS (σ : Nat → Int) (r : Nat) (α : Nat → Int) (n : Nat) (s : Int) : Nat → Int := fun k => if k = 92 + 42 * r then s else folF σ r α n k
theorem folS_self {σ : Nat → Int} {r n : Nat} {α : Nat → Int} (hr : r < 5) : folS σ r α n (-1) = folF σ r α n := by
  funext k
  unfold folS
  by_cases h : k = 92 + 42 * r
  · rw [if_pos h]
    have := folF_four (σ := σ) (n := n) (α := α) hr
    have h2 := ro_nat (folF σ r α n) r 4
    rw [show ((4 : Nat) : Int) = 4 from rfl, this] at h2
    rw [h, show 92 + 42 * r = 88 + 42 * r + 4 by omega]
    exact h2
  · rw [if_neg h]
theorem folS_low {σ : Nat → Int} {r n : Nat} {α : Nat → Int} {s : Int} {k : Nat} (hk : k < 88) : folS σ r α n s k = σ k := by
  unfold folS
  rw [if_neg (by omega)]
  exact folF_low hk
theorem folS_ro {σ : Nat → Int} {r n : Nat} {α : Nat → Int} {s : Int} {o k : Nat} (hk : k < 42) (h : o ≠ r ∨ k ≠ 4) : ro (folS σ r α n s) o k = ro (folF σ r α n) o k := by
  rw [ro_nat, ro_nat]
  unfold folS
  rw [if_neg (by omega)]
theorem folS_four {σ : Nat → Int} {r n : Nat} {α : Nat → Int} {s : Int} : ro (folS σ r α n s) r 4 = s := by
  have := ro_nat (folS σ r α n s) r 4
  rw [show ((4 : Nat) : Int) = 4 from rfl] at this
  rw [this]
  unfold folS
  rw [if_pos (by omega)]
theorem folS_it {σ : Nat → Int} {r n : Nat} {α : Nat → Int} {s : Int} (hr : r < 5) (j k : Nat) : it (folS σ r α n s) j k = it (folF σ r α n) j k := by
  rw [it_nat, it_nat]
  unfold folS
  rw [if_neg (by omega)]
theorem folS_NR {σ : Nat → Int} {r n : Nat} {α : Nat → Int} {s : Int} (hr : r < 5) (hn : n ≤ 30) (h3 : ro σ r 3 = 0) : NR σ (folS σ r α n s) r α n := by
  obtain ⟨h0, h2, h3, h4⟩ := folF_NR (σ := σ) (α := α) (n := n) hr h3
  have e0 := folS_ro (σ := σ) (α := α) (n := n) (s := s) (r := r) (o := r) (k := 0) (by omega) (by omega)
  have e2 := folS_ro (σ := σ) (α := α) (n := n) (s := s) (r := r) (o := r) (k := 2) (by omega) (by omega)
  have e3 := folS_ro (σ := σ) (α := α) (n := n) (s := s) (r := r) (o := r) (k := 3) (by omega) (by omega)
  refine ⟨e0.trans h0, e2.trans h2, e3.trans h3, fun k hk => ?_⟩
  rw [← h4 k hk]
  unfold ac
  have := folS_ro (σ := σ) (α := α) (n := n) (s := s) (r := r) (o := r) (k := 11 + k) (by omega) (by omega)
  rw [show ((11 + k : Nat) : Int) = 11 + (k : Int) by omega] at this
  exact this
theorem folS_other {σ : Nat → Int} {r n : Nat} {α : Nat → Int} {s : Int} {o : Nat} (hn : n ≤ 30) (hr : r < 5) (ho : o < 5) (h : o ≠ r) {k : Nat} (hk : k < 42) : ro (folS σ r α n s) o k = ro σ o k := (folS_ro hk (Or.inl h)).trans (folF_other hn hr ho h hk)
theorem FLw_low {σ τ : Nat → Int} {w : Nat} {M : am_M} (hk : ∀ k : Nat, k < 88 → τ k = σ k) (hwl : wl σ) (h : FLw σ w M) : FLw τ w M := by
  obtain ⟨h1, h2, h3, h4⟩ := h
  have hw := hwl.1
  refine ⟨by rw [hk 1 (by omega)]; exact h1, fun k hk2 => ?_, fun c hc => by rw [hk _ (by omega)]; exact h3 c hc, fun c a hc ha => by rw [mvs_congr (fun k h => hk k (by omega)) hwl]; exact h4 c a hc ha⟩
  rw [hk 1 (by omega)] at hk2
  rw [hk _ (by omega)]
  exact h2 k hk2
theorem RB_SR {σ τ : Nat → Int} {w o : Nat} {M : am_M} (hk : ∀ k : Nat, k < 6 → τ k = σ k) (hwl : wl σ) (hSR : ∀ k : Nat, k < 42 → ro τ o k = ro σ o k) (h2 : ro σ o 2 ≤ 30) (h : RB σ w o M) : RB τ w o M := by
  obtain ⟨b1, b2, b3, b4, b5⟩ := h
  have e1 := hSR 1 (by omega)
  have e4 := hSR 4 (by omega)
  have e10 := hSR 10 (by omega)
  rw [show ((1 : Nat) : Int) = 1 from rfl] at e1
  rw [show ((4 : Nat) : Int) = 4 from rfl] at e4
  rw [show ((10 : Nat) : Int) = 10 from rfl] at e10
  refine ⟨?_, by rw [e1]; exact b2, by rw [e4]; exact b3, by rw [e10, hk 0 (by omega)]; exact b4, fun k hk5 => ?_⟩
  · rw [hk 0 (by omega)]
    exact PR_SR hk hwl (fun k h _ => hSR k h) h2 b1
  · have := hSR (5 + k) (by omega)
    rw [show ((5 + k : Nat) : Int) = 5 + (k : Int) by omega] at this
    rw [this]
    exact b5 k hk5
theorem RW_copy {σ : Nat → Int} {p q n : Nat} {c : Int} {α : Nat → Int} {M N : am_M} (h : RW σ q c α n M) (hT : lt α n ≤ 30) (e3 : iv N p 3 = iv M q 3) (e4 : iv N p 4 = iv M q 4) (ea : ∀ k, k < 30 → iv N (p + 1) k = iv M (q + 1) k) (ep : ∀ k, k < 31 → iv N (p + 2) k = iv M (q + 2) k) : RW σ p c α n N := by
  obtain ⟨w1, w2, w3, w4⟩ := h
  refine ⟨by rw [e3]; exact w1, by rw [e4]; exact w2, fun k j hk hj => ?_, by rw [ep _ (by omega)]; exact w4⟩
  have hm := lt_mono α (k := k + 1) (n := n) (by omega)
  rw [lt] at hm
  rw [ea _ (by omega), ep _ (by omega)]
  exact w3 k j hk hj
theorem TB_iff {τ : Nat → Int} {w j : Nat} {N : am_M} (g : Nat → Int) (hi : ∀ k : Nat, k < 9 → it τ j k = g k) : TB τ w j N ↔ (iv N (w + 40 + j) 0 = g 0 ∧ iv N (w + 40 + j) 1 = g 1 ∧ iv N (w + 40 + j) 2 = g 2 ∧ iv N (w + 40 + j) 3 = g 3) ∧ iv N (w + 40 + j) 4 = g 8 ∧ iv N (w + 40 + j) 5 = g 4 ∧ iv N (w + 40 + j) 6 = (if g 4 = 3 then g 5 else 0) ∧ iv N (w + 40 + j) 7 = g 6 ∧ iv N (w + 40 + j) 8 = g 7 := by
  have e0 : it τ j 0 = g 0 := hi 0 (by omega)
  have e1 : it τ j 1 = g 1 := hi 1 (by omega)
  have e2 : it τ j 2 = g 2 := hi 2 (by omega)
  have e3 : it τ j 3 = g 3 := hi 3 (by omega)
  have e4 : it τ j 4 = g 4 := hi 4 (by omega)
  have e5 : it τ j 5 = g 5 := hi 5 (by omega)
  have e6 : it τ j 6 = g 6 := hi 6 (by omega)
  have e7 : it τ j 7 = g 7 := hi 7 (by omega)
  have e8 : it τ j 8 = g 8 := hi 8 (by omega)
  unfold TB
  rw [e0, e1, e2, e3, e4, e5, e6, e7, e8]
theorem s_adopt {σ : Nat → Int} {r n : Nat} {α : Nat → Int} {M : am_M} (hW : WD σ 1 M) (hO : OK σ) (hr : (r : Int) < σ 6) (h3 : ro σ r 3 = 0) (hn : n ≤ 30) (hT : lt α n ≤ 30) (hRW : RW σ 158 (ro σ r 0) α n M) (hS : iv M 158 2 = σ 0) {s : Int} (hs : -1 ≤ s ∧ s < 12) : ∃ N, g_X3_adopt (pI r) (pI s) M = some ((), N) ∧ fr [16 + 5 * r, 17 + 5 * r, 18 + 5 * r, 19 + 5 * r, 41 + (ro σ r 4).toNat] M N ∧ WD (folS σ r α n s) 1 N := by
  obtain ⟨hC, hwl, h6, h7, hkd, hRF, hTF, hNC⟩ := hO
  have hr5 : r < 5 := by omega
  have h4r := (hRF r hr).2.2.2.1
  obtain ⟨W1, W2, W3, W4, W5⟩ := hW
  obtain ⟨b1, b2, b3, b4, b5⟩ := W4 r hr
  rw [show 1 + 15 + 5 * r = 16 + 5 * r by omega] at b2 b3 b4
  rw [show 1 + 16 + 5 * r = 17 + 5 * r by omega] at b1
  rw [show 1 + 19 + 5 * r = 20 + 5 * r by omega] at b5
  obtain ⟨N1, g1, f1, p1, p2, p3⟩ := s_reopenTaskOf (p := 16 + 5 * r) (s := ro σ r 4) (M := M) b3 (by omega) (by omega)
  obtain ⟨N2, g2, f2, q2, q3, q4, q5, q6⟩ := s_pcopy (p := 17 + 5 * r) (q := 158) (M := N1) (by omega)
  obtain ⟨t, et⟩ : ∃ t : Nat, t = (ro σ r 4).toNat := ⟨_, rfl⟩
  rw [← et] at f1 p3 ⊢
  have f12 : fr [16 + 5 * r, 17 + 5 * r, 18 + 5 * r, 19 + 5 * r, 41 + t] M N2 := fr_trans (fr_mono f1 (by simp)) (fr_mono f2 (by simp; omega))
  have fN : fr [16 + 5 * r, 17 + 5 * r, 18 + 5 * r, 19 + 5 * r, 41 + t] M (am_s N2 (16 + 5 * r) 3 (pI s)) := fr_trans f12 (fr_s (by simp))
  have hn1 : ∀ a, a ≠ 16 + 5 * r → a ≠ 17 + 5 * r → a ≠ 18 + 5 * r → a ≠ 19 + 5 * r → a ≠ 41 + t → a ∉ [16 + 5 * r, 17 + 5 * r, 18 + 5 * r, 19 + 5 * r, 41 + t] := fun a c1 c2 c3 c4 c5 h => by
    simp only [List.mem_cons, List.not_mem_nil, or_false] at h
    omega
  have hlow : ∀ k : Nat, k < 88 → folS σ r α n s k = σ k := fun k hk => folS_low hk
  have h158 : ∀ k, iv N1 158 k = iv M 158 k := fun k => fr_i f1 (by simp; omega) k
  have h159 : ∀ k, iv N1 159 k = iv M 159 k := fun k => fr_i f1 (by simp; omega) k
  have h160 : ∀ k, iv N1 160 k = iv M 160 k := fun k => fr_i f1 (by simp; omega) k
  refine ⟨am_s N2 (16 + 5 * r) 3 (pI s), ?_, fN, FLw_low hlow hwl (FLw_fr W1 fN (fun a c1 c2 => hn1 a (by omega) (by omega) (by omega) (by omega) (by omega))), ?_, fun c hc => ?_, fun i hi => ?_, fun j hj => ?_⟩
  · unfold g_X3_adopt
    rw [s_robotOf M hr5, am_b_some, show 1 + 15 + 5 * r = 16 + 5 * r by omega, g1, am_b_some, show 16 + 5 * r + 1 = 17 + 5 * r by omega, g2, am_b_some]
  · rw [hlow 6 (by omega), hlow 7 (by omega), hlow 0 (by omega), fr_i fN (hn1 1 (by omega) (by omega) (by omega) (by omega) (by omega)), fr_i fN (hn1 1 (by omega) (by omega) (by omega) (by omega) (by omega)), fr_i fN (hn1 1 (by omega) (by omega) (by omega) (by omega) (by omega))]
    exact W2
  · rw [hlow _ (by omega), fr_i fN (hn1 (1 + 6) (by omega) (by omega) (by omega) (by omega) (by omega))]
    exact W3 c hc
  · rw [hlow 6 (by omega)] at hi
    by_cases h : i = r
    · subst h
      refine ⟨?_, ?_, ?_, ?_, fun k hk => ?_⟩
      · rw [hlow 0 (by omega), show 1 + 16 + 5 * i = 17 + 5 * i by omega]
        refine PR_new (fun k hk => hlow k (by omega)) hwl (folS_NR hr5 hn h3) hT hC.1 ?_ ?_
        · rw [iv_s (by omega) (by omega), if_neg (by omega), q2, h158]; exact hS
        · refine RW_copy (q := 158) (M := M) hRW hT ?_ ?_ (fun k hk => ?_) (fun k hk => ?_)
          · rw [iv_s (by omega) (by omega), if_neg (by omega), q3, h158]
          · rw [iv_s (by omega) (by omega), if_neg (by omega), q4, h158]
          · rw [iv_s (by omega) (by omega), if_neg (by omega), q5 k hk, h159]
          · rw [iv_s (by omega) (by omega), if_neg (by omega), q6 k hk, h160]
      · have e1 := (folS_ro (σ := σ) (α := α) (n := n) (s := s) (r := i) (o := i) (k := 1) (by omega) (by omega)).trans (folF_own hr5 (by omega) (by omega) (by omega))
        rw [show ((1 : Nat) : Int) = 1 from rfl] at e1
        rw [e1, iv_s (by omega) (by omega), if_neg (by omega), show 1 + 15 + 5 * i = 16 + 5 * i by omega, fr_i f2 (by simp; omega), p1 2 (by omega)]
        exact b2
      · rw [folS_four, iv_s (by omega) (by omega), if_pos ⟨by omega, rfl⟩]
      · have e1 := (folS_ro (σ := σ) (α := α) (n := n) (s := s) (r := i) (o := i) (k := 10) (by omega) (by omega)).trans (folF_own hr5 (by omega) (by omega) (by omega))
        rw [show ((10 : Nat) : Int) = 10 from rfl] at e1
        rw [e1, hlow 0 (by omega), iv_s (by omega) (by omega), if_neg (by omega), show 1 + 15 + 5 * i = 16 + 5 * i by omega, fr_i f2 (by simp; omega), p1 4 (by omega)]
        exact b4
      · have e1 := (folS_ro (σ := σ) (α := α) (n := n) (s := s) (r := i) (o := i) (k := 5 + k) (by omega) (by omega)).trans (folF_own hr5 (by omega) (by omega) (by omega))
        rw [show ((5 + k : Nat) : Int) = 5 + (k : Int) by omega] at e1
        rw [e1, show 1 + 19 + 5 * i = 20 + 5 * i by omega, fr_i fN (hn1 _ (by omega) (by omega) (by omega) (by omega) (by omega))]
        exact b5 k hk
    · have hb := RB_fr (W4 i hi) fN (fun a c1 c2 => hn1 a (by omega) (by omega) (by omega) (by omega) (by omega))
      exact RB_SR (fun k hk => hlow k (by omega)) hwl (fun k hk => folS_other hn hr5 (by omega) h hk) (hRF i hi).1.1.2 hb
  · rw [hlow 7 (by omega)] at hj
    have hi : ∀ k : Nat, k < 9 → it (folS σ r α n s) j k = if ro σ r 4 = j ∧ k = 4 then 0 else if ro σ r 4 = j ∧ k = 6 then -1 else it σ j k := fun k hk => (folS_it hr5 j k).trans (folF_it hn hr5 h4r.1 hk)
    have hT5 := W5 j hj
    by_cases h : ro σ r 4 = j
    · have etj : t = j := by omega
      subst etj
      have hv : ∀ k, iv (am_s N2 (16 + 5 * r) 3 (pI s)) (41 + t) k = if k = 5 ∨ k = 6 then 0 else if k = 7 then -1 else iv M (41 + t) k := fun k => by
        rw [iv_s (by omega) (by omega), if_neg (by omega), fr_i f2 (by simp; omega), p3]
        by_cases c1 : k = 5 ∨ k = 6
        · rw [if_pos ⟨by omega, c1⟩, if_pos c1]
        · rw [if_neg (fun q => c1 q.2), if_neg c1]
          by_cases c2 : k = 7
          · rw [if_pos ⟨by omega, c2⟩, if_pos c2]
          · rw [if_neg (fun q => c2 q.2), if_neg c2]
      have hM := (TB_iff (w := 1) (N := M) (fun k => it σ t k) (fun k _ => rfl)).mp hT5
      refine (TB_iff (w := 1) (fun k => if k = 4 then 0 else if k = 6 then -1 else it σ t k) (fun k hk => ?_)).mpr ?_
      · rw [hi k hk]
        by_cases c4 : k = 4
        · rw [if_pos ⟨h, c4⟩, if_pos c4]
        · rw [if_neg (fun q => c4 q.2), if_neg c4]
          by_cases c6 : k = 6
          · rw [if_pos ⟨h, c6⟩, if_pos c6]
          · rw [if_neg (fun q => c6 q.2), if_neg c6]
      · rw [show 1 + 40 + t = 41 + t by omega] at hM ⊢
        obtain ⟨⟨m0, m1, m2, m3⟩, m4, m5, m6, m7, m8⟩ := hM
        simp only [hv]
        exact ⟨⟨m0, m1, m2, m3⟩, m4, rfl, rfl, rfl, m8⟩
    · have hsame : ∀ k, iv (am_s N2 (16 + 5 * r) 3 (pI s)) (1 + 40 + j) k = iv M (1 + 40 + j) k := fun k => by
        by_cases c : j = t
        · subst c
          rw [show 1 + 40 + j = 41 + j by omega, iv_s (by omega) (by omega), if_neg (by omega), fr_i f2 (by simp; omega), p3, if_neg (by omega), if_neg (by omega)]
        · exact fr_i fN (hn1 _ (by omega) (by omega) (by omega) (by omega) (by omega)) k
      have hM : TB σ 1 j (am_s N2 (16 + 5 * r) 3 (pI s)) := by
        unfold TB at hT5 ⊢
        simp only [hsame]
        exact hT5
      have hM2 := (TB_iff (w := 1) (fun k => it σ j k) (fun k _ => rfl)).mp hM
      exact (TB_iff (w := 1) (fun k => it σ j k) (fun k hk => by rw [hi k hk, if_neg (fun q => h q.1), if_neg (fun q => h q.1)])).mpr hM2
end QM
