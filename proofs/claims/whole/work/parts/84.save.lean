/-! a world is copied -/
section RS
def RLw (w : Nat) : List Nat := (List.range 200).filter (fun a => decide (w ≤ a ∧ a < w + 52))
theorem mem_RLw {w a : Nat} (hw : w ≤ 148) : a ∈ RLw w ↔ w ≤ a ∧ a < w + 52 := by
  unfold RLw
  rw [List.mem_filter, List.mem_range, decide_eq_true_eq]
  omega
theorem PR_copy {σ : Nat → Int} {r : Int} {p q : Nat} {C : Int} {M N : am_M} (h : PR σ r q C M) (e2 : iv N p 2 = iv M q 2) (e3 : iv N p 3 = iv M q 3) (ea : ∀ k, k < 30 → iv N (p + 1) k = iv M (q + 1) k) (ep : ∀ k, k < 31 → iv N (p + 2) k = iv M (q + 2) k) : PR σ r p C N := by
  obtain ⟨b, n, q1, q2, q3, q4, q5, q6, q7, q8⟩ := h
  refine ⟨b, n, q1, by rw [e3]; exact q2, by rw [e3]; exact q3, by rw [e2]; exact q4, by rw [e2]; exact q5, fun k j hk hj => ?_, ?_, fun i hi hp => ?_⟩
  · have hm := lt_mono (al σ r) (k := k + 1) (n := n) hk
    have he : lt (al σ r) (k + 1) = lt (al σ r) k + (tk (al σ r k)).toNat := rfl
    have hj2 : (j : Int) < tk (al σ r k) := hj
    rw [ea _ (by omega), ep _ (by omega)]
    exact q6 k j hk hj
  · rw [ep _ (by omega)]
    exact q7
  · rw [ep _ (by omega)] at hp
    rw [ea _ (by omega)]
    exact q8 i hi hp
theorem iv_aa {M : am_M} {a k : Nat} {x : Int32} : iv (am_s M a k x) a k = x.toInt := by
  unfold iv am_s
  dsimp only
  rw [if_pos ⟨rfl, rfl⟩]
theorem s_tcopy {p q : Nat} {M : am_M} (h : p ≠ q) : ∃ N, g_X7_copyFrom p q M = some ((), N) ∧ fr [p] M N ∧ ∀ k, k < 9 → iv N p k = iv M q k := by
  have hq : ∀ (X : am_M) (k : Nat) (v : Int32) (j : Nat), am_g (am_s X p k v) q j = am_g X q j := fun X k v j => by rw [pi_g, pi_g, iv_c (fun z => h z.symm)]
  refine ⟨am_s (am_s (am_s (am_s (am_s (am_s (am_s (am_s (am_s M p 0 (am_g M q 0)) p 1 (am_g M q 1)) p 2 (am_g M q 2)) p 3 (am_g M q 3)) p 4 (am_g M q 4)) p 8 (am_g M q 8)) p 5 (am_g M q 5)) p 6 (am_g M q 6)) p 7 (am_g M q 7), ?_, fr_trans (fr_s (by simp)) (fr_trans (fr_s (by simp)) (fr_trans (fr_s (by simp)) (fr_trans (fr_s (by simp)) (fr_trans (fr_s (by simp)) (fr_trans (fr_s (by simp)) (fr_trans (fr_s (by simp)) (fr_trans (fr_s (by simp)) (fr_s (by simp))))))))), fun k hk => ?_⟩
  · unfold g_X7_copyFrom g_X7_become
    simp only [hq, am_b_some]
  · rcases (by omega : k = 0 ∨ k = 1 ∨ k = 2 ∨ k = 3 ∨ k = 4 ∨ k = 5 ∨ k = 6 ∨ k = 7 ∨ k = 8) with rfl | rfl | rfl | rfl | rfl | rfl | rfl | rfl | rfl
    · rw [iv_b (by decide), iv_b (by decide), iv_b (by decide), iv_b (by decide), iv_b (by decide), iv_b (by decide), iv_b (by decide), iv_b (by decide), iv_aa]; rfl
    · rw [iv_b (by decide), iv_b (by decide), iv_b (by decide), iv_b (by decide), iv_b (by decide), iv_b (by decide), iv_b (by decide), iv_aa]; rfl
    · rw [iv_b (by decide), iv_b (by decide), iv_b (by decide), iv_b (by decide), iv_b (by decide), iv_b (by decide), iv_aa]; rfl
    · rw [iv_b (by decide), iv_b (by decide), iv_b (by decide), iv_b (by decide), iv_b (by decide), iv_aa]; rfl
    · rw [iv_b (by decide), iv_b (by decide), iv_b (by decide), iv_b (by decide), iv_aa]; rfl
    · rw [iv_b (by decide), iv_b (by decide), iv_aa]; rfl
    · rw [iv_b (by decide), iv_aa]; rfl
    · rw [iv_aa]; rfl
    · rw [iv_b (by decide), iv_b (by decide), iv_b (by decide), iv_aa]; rfl
theorem s_rcopy {p q : Nat} {M : am_M} (h : p + 5 ≤ q ∨ q + 5 ≤ p) : ∃ N, g_X4_copyFrom p q M = some ((), N) ∧ fr [p, p + 1, p + 2, p + 3, p + 4] M N ∧ iv N p 2 = iv M q 2 ∧ iv N p 3 = iv M q 3 ∧ iv N p 4 = iv M q 4 ∧ iv N (p + 1) 2 = iv M (q + 1) 2 ∧ iv N (p + 1) 3 = iv M (q + 1) 3 ∧ (∀ k, k < 30 → iv N (p + 2) k = iv M (q + 2) k) ∧ (∀ k, k < 31 → iv N (p + 3) k = iv M (q + 3) k) ∧ ∀ k, k < 5 → iv N (p + 4) k = iv M (q + 4) k := by
  obtain ⟨N1, g1, f1, a2, a3, a4, a5, a6⟩ := s_pcopy (p := p + 1) (q := q + 1) (M := M) (by omega)
  obtain ⟨N2, g2, f2, p2⟩ := s_copyRow (q + 4) (p + 4) 5 N1 (by omega) (by omega)
  have hq : ∀ (X : am_M) (k : Nat) (v : Int32) (j : Nat), am_g (am_s X p k v) q j = am_g X q j := fun X k v j => by rw [pi_g, pi_g, iv_c (by omega)]
  have hq2 : ∀ j, iv N2 q j = iv M q j := fun j => by rw [fr_i f2 (by simp; omega), fr_i f1 (by simp; omega)]
  refine ⟨am_s (am_s (am_s N2 p 2 (am_g N2 q 2)) p 3 (am_g N2 q 3)) p 4 (am_g N2 q 4), ?_, fr_trans (fr_mono f1 (by simp)) (fr_trans (fr_mono f2 (by simp)) (fr_trans (fr_s (by simp)) (fr_trans (fr_s (by simp)) (fr_s (by simp))))), ?_, ?_, ?_, ?_, ?_, fun k hk => ?_, fun k hk => ?_, fun k hk => ?_⟩
  · unfold g_X4_copyFrom
    rw [g1, am_b_some, g2, am_b_some]
    simp only [hq]
  · rw [iv_b (by decide), iv_b (by decide), iv_aa, ← hq2]; rfl
  · rw [iv_b (by decide), iv_aa, ← hq2]; rfl
  · rw [iv_aa, ← hq2]; rfl
  · rw [iv_c (by omega), iv_c (by omega), iv_c (by omega), fr_i f2 (by simp), a2]
  · rw [iv_c (by omega), iv_c (by omega), iv_c (by omega), fr_i f2 (by simp), a3]
  · rw [iv_c (by omega), iv_c (by omega), iv_c (by omega), fr_i f2 (by simp)]
    exact a5 k hk
  · rw [iv_c (by omega), iv_c (by omega), iv_c (by omega), fr_i f2 (by simp)]
    exact a6 k hk
  · rw [iv_c (by omega), iv_c (by omega), iv_c (by omega), p2, if_pos hk, fr_i f1 (by simp; omega)]
theorem s_wcopy {σ : Nat → Int} {w v : Nat} {M : am_M} (hwv : w + 52 ≤ v ∨ v + 52 ≤ w) (hw : w ≤ 105 ∧ v ≤ 105) (hO : OK σ) (hW : WD σ v M) : ∃ N, g_X8_copyFrom w v M = some ((), N) ∧ fr (RLw w) M N ∧ WD σ w N := by
  have h6 := hO.2.2.1
  have h7 := hO.2.2.2.1
  obtain ⟨⟨F1, F2, F3, F4⟩, W2, W3, W4, W5⟩ := hW
  have hl := hO.2.1.1
  obtain ⟨N1, g1, f1, p1⟩ := s_copyRow (v + 2) (w + 2) 40 M (by omega) (by omega)
  obtain ⟨N2, g2, f2, p2⟩ := s_copyRow (v + 3) (w + 3) 280 N1 (by omega) (by omega)
  obtain ⟨N3, g3, f3, p3⟩ := s_copyRow (v + 4) (w + 4) 4 N2 (by omega) (by omega)
  obtain ⟨N4, eN4⟩ : ∃ N4, N4 = am_s N3 (w + 1) 3 (am_g N3 (v + 1) 3) := ⟨_, rfl⟩
  obtain ⟨N5, g5, f5, p5⟩ := s_copyRow (v + 6) (w + 6) 40 N4 (by omega) (by omega)
  have hvin : ∀ a, v ≤ a → a < v + 52 → a ∉ RLw w := fun a h1 h2 h => by have := (mem_RLw (by omega)).mp h; omega
  have hin : ∀ a, w ≤ a → a < w + 52 → a ∈ RLw w := fun a h1 h2 => (mem_RLw (by omega)).mpr ⟨h1, h2⟩
  have fm : ∀ {X : List Nat} {A B : am_M}, fr X A B → (∀ a ∈ X, w ≤ a ∧ a < w + 52) → fr (RLw w) A B := fun hf hX => fr_mono hf (fun a ha => hin a (hX a ha).1 (hX a ha).2)
  have f4 : fr (RLw w) M N4 := fr_trans (fm f1 (fun a ha => by simp at ha; omega)) (fr_trans (fm f2 (fun a ha => by simp at ha; omega)) (fr_trans (fm f3 (fun a ha => by simp at ha; omega)) (by rw [eN4]; exact fm (X := [w + 1]) (fr_s (by simp)) (fun a ha => by simp at ha; omega))))
  have f05 : fr (RLw w) M N5 := fr_trans f4 (fm f5 (fun a ha => by simp at ha; omega))
  have hq : ∀ (X : am_M) (k : Nat) (x : Int32) (j : Nat), am_g (am_s X w k x) v j = am_g X v j := fun X k x j => by rw [pi_g, pi_g, iv_c (by omega)]
  obtain ⟨N6, eN6⟩ : ∃ N6, N6 = am_s (am_s (am_s N5 w 2 (am_g N5 v 2)) w 3 (am_g N5 v 3)) w 4 (am_g N5 v 4) := ⟨_, rfl⟩
  have f56 : fr [w] N5 N6 := by rw [eN6]; exact fr_trans (fr_s (by simp)) (fr_trans (fr_s (by simp)) (fr_s (by simp)))
  have f06 : fr (RLw w) M N6 := fr_trans f05 (fm f56 (fun a ha => by simp at ha; omega))
  have n2 : iv N6 w 2 = σ 6 := by rw [eN6, iv_b (by decide), iv_b (by decide), iv_aa, ← W2.1, ← fr_i f05 (hvin v (by omega) (by omega))]; rfl
  have n3 : iv N6 w 3 = σ 7 := by rw [eN6, iv_b (by decide), iv_aa, ← W2.2.1, ← fr_i f05 (hvin v (by omega) (by omega))]; rfl
  have n4 : iv N6 w 4 = σ 0 := by rw [eN6, iv_aa, ← W2.2.2, ← fr_i f05 (hvin v (by omega) (by omega))]; rfl
  -- the floor and visits in N6
  have k2 : ∀ c, c < 40 → iv N6 (w + 2) c = σ (8 + c) := fun c hc => by
    rw [fr_i f56 (by simp), fr_i f5 (by simp), eN4, iv_c (by omega), fr_i f3 (by simp), fr_i f2 (by simp), p1, if_pos hc]
    exact F3 c hc
  have k3 : ∀ c a : Nat, c < 40 → a < 7 → iv N6 (w + 3) (7 * c + a) = mvs σ c a := fun c a hc ha => by
    rw [fr_i f56 (by simp), fr_i f5 (by simp), eN4, iv_c (by omega), fr_i f3 (by simp), p2, if_pos (by omega), fr_i f1 (by simp; omega)]
    exact F4 c a hc ha
  have k4 : ∀ k : Nat, (k : Int) < 2 * σ 1 → iv N6 (w + 4) k = σ (2 + k) := fun k hk => by
    rw [fr_i f56 (by simp), fr_i f5 (by simp), eN4, iv_c (by omega), p3, if_pos (by omega), fr_i f2 (by simp; omega), fr_i f1 (by simp; omega)]
    exact F2 k hk
  have k1 : iv N6 (w + 1) 3 = σ 1 := by
    rw [fr_i f56 (by simp), fr_i f5 (by simp), eN4, iv_aa]
    show iv N3 (v + 1) 3 = _
    rw [fr_i f3 (by simp; omega), fr_i f2 (by simp; omega), fr_i f1 (by simp; omega)]
    exact F1
  have k6 : ∀ c, c < 40 → iv N6 (w + 6) c = σ (48 + c) := fun c hc => by
    rw [fr_i f56 (by simp), p5, if_pos hc, fr_i f4 (hvin _ (by omega) (by omega))]
    exact W3 c hc
  -- robots
  obtain ⟨⟨u7, N7⟩, g7, f7, r7⟩ := lo_for (fun m (s : Int32 × am_M) => g_X8_copyFrom_L48 w v m s.1 s.2) (fun q s => s.1 = pI (q : Nat) ∧ (∀ a, a < w + 15 ∨ w + 40 ≤ a → ∀ k, iv s.2 a k = iv N6 a k) ∧ fr (RLw w) N6 s.2 ∧ ∀ i : Nat, i < q → RB σ w i s.2) (fun s => (∀ a, a < w + 15 ∨ w + 40 ≤ a → ∀ k, iv s.2 a k = iv N6 a k) ∧ fr (RLw w) N6 s.2 ∧ ∀ i : Nat, (i : Int) < σ 6 → RB σ w i s.2) 0 (σ 6).toNat (pI 0, N6) ⟨rfl, fun a _ k => rfl, fr_refl _ _, fun i hi => by omega⟩ (by omega) (by unfold am_fu; omega) (by
    rintro m q ⟨b, P⟩ hq ⟨e, hk, hf, hR⟩
    dsimp only at e hk hf hR
    subst e
    left
    have hM : ∀ a, v ≤ a → a < v + 52 → ∀ k, iv P a k = iv M a k := fun a h1 h2 k => by rw [fr_i hf (hvin a h1 h2), fr_i f06 (hvin a h1 h2)]
    obtain ⟨O, g8, f8, b2, b3, b4, c2, c3, ca, cp, cs⟩ := s_rcopy (p := w + 15 + 5 * q) (q := v + 15 + 5 * q) (M := P) (by omega)
    obtain ⟨R1, R2, R3, R4, R5⟩ := W4 q (by omega)
    refine ⟨(pI (q + 1 : Nat), O), ?_, rfl, fun a ha k => ?_, fr_trans hf (fm f8 (fun a ha => by simp at ha; omega)), fun i hi => ?_⟩
    · dsimp only
      rw [g_X8_copyFrom_L48, if_neg (show ¬ (am_g P w 2 ≤ pI (q : Nat)) by rw [pi_g, hk w (by omega), n2, pi_le (by omega) (by omega) (by omega) (by omega)]; omega), s_robotOf P (by omega), am_b_some, s_robotOf P (by omega), am_b_some, g8, am_b_some, show pI (q : Nat) + (1 : Int32) = pI (q + 1 : Nat) from by rw [show (1 : Int32) = pI 1 from rfl, pi_add]; rfl]
    · rw [fr_i f8 (by simp; omega)]
      exact hk a ha k
    · by_cases h : i = q
      · subst h
        refine ⟨?_, ?_, ?_, ?_, fun k hk5 => ?_⟩
        · refine PR_copy (q := v + 16 + 5 * i) (M := M) R1 ?_ ?_ (fun k hk => ?_) (fun k hk => ?_)
          · rw [show w + 16 + 5 * i = w + 15 + 5 * i + 1 by omega, c2, show v + 16 + 5 * i = v + 15 + 5 * i + 1 by omega, hM _ (by omega) (by omega)]
          · rw [show w + 16 + 5 * i = w + 15 + 5 * i + 1 by omega, c3, show v + 16 + 5 * i = v + 15 + 5 * i + 1 by omega, hM _ (by omega) (by omega)]
          · rw [show w + 16 + 5 * i + 1 = w + 15 + 5 * i + 2 by omega, ca k hk, show v + 16 + 5 * i + 1 = v + 15 + 5 * i + 2 by omega, hM _ (by omega) (by omega)]
          · rw [show w + 16 + 5 * i + 2 = w + 15 + 5 * i + 3 by omega, cp k hk, show v + 16 + 5 * i + 2 = v + 15 + 5 * i + 3 by omega, hM _ (by omega) (by omega)]
        · rw [b2, hM _ (by omega) (by omega)]; exact R2
        · rw [b3, hM _ (by omega) (by omega)]; exact R3
        · rw [b4, hM _ (by omega) (by omega)]; exact R4
        · rw [show w + 19 + 5 * i = w + 15 + 5 * i + 4 by omega, cs k hk5, show v + 15 + 5 * i + 4 = v + 19 + 5 * i by omega, hM _ (by omega) (by omega)]; exact R5 k hk5
      · exact RB_fr (hR i (by omega)) f8 (fun a c1 c2 => by simp; omega)) (by
    rintro m ⟨b, P⟩ ⟨e, hk, hf, hR⟩
    dsimp only at e hk hf hR
    subst e
    refine ⟨((), P), ?_, hk, hf, fun i hi => hR i (by omega)⟩
    dsimp only
    rw [g_X8_copyFrom_L48, if_pos (show am_g P w 2 ≤ pI ((σ 6).toNat : Nat) by rw [pi_g, hk w (by omega), n2, pi_le (by omega) (by omega) (by omega) (by omega)]; omega)])
  dsimp only at g7 f7 r7
  have f07 : fr (RLw w) M N7 := fr_trans f06 r7.1
  -- tasks
  obtain ⟨⟨u8, N8⟩, g9, f9, r9, t9⟩ := lo_for (fun m (s : Int32 × am_M) => g_X8_copyFrom_L77 w v m s.1 s.2) (fun q s => s.1 = pI (q : Nat) ∧ (∀ a, a < w + 40 → ∀ k, iv s.2 a k = iv N7 a k) ∧ fr (RLw w) N7 s.2 ∧ ∀ i : Nat, i < q → TB σ w i s.2) (fun s => (∀ a, a < w + 40 → ∀ k, iv s.2 a k = iv N7 a k) ∧ fr (RLw w) N7 s.2 ∧ ∀ i : Nat, (i : Int) < σ 7 → TB σ w i s.2) 0 (σ 7).toNat (pI 0, N7) ⟨rfl, fun a _ k => rfl, fr_refl _ _, fun i hi => by omega⟩ (by omega) (by unfold am_fu; omega) (by
    rintro m q ⟨b, P⟩ hq ⟨e, hk, hf, hR⟩
    dsimp only at e hk hf hR
    subst e
    left
    have hM : ∀ a, v ≤ a → a < v + 52 → ∀ k, iv P a k = iv M a k := fun a h1 h2 k => by rw [fr_i hf (hvin a h1 h2), fr_i f07 (hvin a h1 h2)]
    obtain ⟨O, g8, f8, c8⟩ := s_tcopy (p := w + 40 + q) (q := v + 40 + q) (M := P) (by omega)
    refine ⟨(pI (q + 1 : Nat), O), ?_, rfl, fun a ha k => ?_, fr_trans hf (fm f8 (fun a ha => by simp at ha; omega)), fun i hi => ?_⟩
    · dsimp only
      rw [g_X8_copyFrom_L77, if_neg (show ¬ (am_g P w 3 ≤ pI (q : Nat)) by rw [pi_g, hk w (by omega), f7 w (by omega), n3, pi_le (by omega) (by omega) (by omega) (by omega)]; omega), s_taskOf P (by omega), am_b_some, s_taskOf P (by omega), am_b_some, g8, am_b_some, show pI (q : Nat) + (1 : Int32) = pI (q + 1 : Nat) from by rw [show (1 : Int32) = pI 1 from rfl, pi_add]; rfl]
    · rw [fr_i f8 (by simp; omega)]
      exact hk a ha k
    · by_cases h : i = q
      · subst h
        have hT := (TB_iff (w := v) (N := M) (fun k => it σ i k) (fun k _ => rfl)).mp (W5 i (by omega))
        refine (TB_iff (w := w) (fun k => it σ i k) (fun k _ => rfl)).mpr ?_
        rw [c8 0 (by omega), c8 1 (by omega), c8 2 (by omega), c8 3 (by omega), c8 4 (by omega), c8 5 (by omega), c8 6 (by omega), c8 7 (by omega), c8 8 (by omega), hM _ (by omega) (by omega), hM _ (by omega) (by omega), hM _ (by omega) (by omega), hM _ (by omega) (by omega), hM _ (by omega) (by omega), hM _ (by omega) (by omega), hM _ (by omega) (by omega), hM _ (by omega) (by omega), hM _ (by omega) (by omega)]
        exact hT
      · exact TB_fr (hR i (by omega)) f8 (by simp; omega)) (by
    rintro m ⟨b, P⟩ ⟨e, hk, hf, hR⟩
    dsimp only at e hk hf hR
    subst e
    refine ⟨((), P), ?_, hk, hf, fun i hi => hR i (by omega)⟩
    dsimp only
    rw [g_X8_copyFrom_L77, if_pos (show am_g P w 3 ≤ pI ((σ 7).toNat : Nat) by rw [pi_g, hk w (by omega), f7 w (by omega), n3, pi_le (by omega) (by omega) (by omega) (by omega)]; omega)])
  dsimp only at g9 f9 r9 t9
  have hlow : ∀ a, a < w + 15 → ∀ k, iv N8 a k = iv N6 a k := fun a ha k => by rw [f9 a (by omega), f7 a (by omega)]
  refine ⟨N8, ?_, fr_trans f07 r9, ⟨by rw [hlow _ (by omega)]; exact k1, fun k hk => by rw [hlow _ (by omega)]; exact k4 k hk, fun c hc => by rw [hlow _ (by omega)]; exact k2 c hc, fun c a hc ha => by rw [hlow _ (by omega)]; exact k3 c a hc ha⟩, by rw [hlow _ (by omega), hlow _ (by omega), hlow _ (by omega)]; exact ⟨n2, n3, n4⟩, fun c hc => by rw [hlow _ (by omega)]; exact k6 c hc, fun i hi => ?_, t9⟩
  · unfold g_X8_copyFrom g_X1_copyFrom
    rw [show v + 1 + 1 = v + 2 by omega, show v + 1 + 2 = v + 3 by omega, show v + 1 + 3 = v + 4 by omega, show w + 1 + 1 = w + 2 by omega, show w + 1 + 2 = w + 3 by omega, show w + 1 + 3 = w + 4 by omega, g1, am_b_some, g2, am_b_some, g3, am_b_some, ← eN4, am_b_some, g5, am_b_some]
    simp only [hq]
    rw [← eN6]
    refine (congrArg (fun z => am_b z _) g7).trans ?_
    rw [am_b_some]
    exact (congrArg (fun z => am_b z _) g9).trans rfl
  · obtain ⟨R1, R2, R3, R4, R5⟩ := r7.2 i hi
    refine ⟨PR_copy (q := w + 16 + 5 * i) (M := N7) R1 (f9 _ (by omega) _) (f9 _ (by omega) _) (fun k _ => f9 _ (by omega) _) (fun k _ => f9 _ (by omega) _), by rw [f9 _ (by omega)]; exact R2, by rw [f9 _ (by omega)]; exact R3, by rw [f9 _ (by omega)]; exact R4, fun k hk => by rw [f9 _ (by omega)]; exact R5 k hk⟩
end RS
