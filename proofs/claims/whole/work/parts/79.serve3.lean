/-! how a task would be served, by the model -/
section RN
theorem s_zeros {x y z : Int32} {e1 h n1 : Nat} {P : am_M} (hn : n1 + (h - e1) ≤ 60) (he : e1 ≤ 1000 ∧ h ≤ 1000) (h15 : iv P 174 15 = n1) : ∃ Q, g_X10_reason_L96 x y z (pI (h : Nat)) am_fu (pI (e1 : Nat)) P = some ((), Q) ∧ fr [174, 184] P Q ∧ (∀ k, k ≠ 15 → iv Q 174 k = iv P 174 k) ∧ iv Q 174 15 = (n1 + (h - e1) : Nat) ∧ ∀ k, iv Q 184 k = if n1 ≤ k ∧ k < n1 + (h - e1) then 0 else iv P 184 k := by
  obtain ⟨⟨u, Q⟩, g1, f1, k1, t1, p1⟩ := lo_for (fun m (s : Int32 × am_M) => g_X10_reason_L96 x y z (pI (h : Nat)) m s.1 s.2) (fun q s => s.1 = pI ((e1 + q : Nat) : Int) ∧ fr [174, 184] P s.2 ∧ (∀ k, k ≠ 15 → iv s.2 174 k = iv P 174 k) ∧ iv s.2 174 15 = (n1 + q : Nat) ∧ ∀ k, iv s.2 184 k = if n1 ≤ k ∧ k < n1 + q then 0 else iv P 184 k) (fun s => fr [174, 184] P s.2 ∧ (∀ k, k ≠ 15 → iv s.2 174 k = iv P 174 k) ∧ iv s.2 174 15 = (n1 + (h - e1) : Nat) ∧ ∀ k, iv s.2 184 k = if n1 ≤ k ∧ k < n1 + (h - e1) then 0 else iv P 184 k) 0 (h - e1) (pI (e1 : Nat), P) ⟨rfl, fr_refl _ _, fun k _ => rfl, h15, fun k => by rw [if_neg (by omega)]⟩ (by omega) (by unfold am_fu; omega) (by
    rintro m q ⟨b, Q⟩ hq ⟨e, hf, hk, ht, hp⟩
    dsimp only at e hf hk ht hp
    subst e
    left
    have c15 : am_g Q 174 15 = pI ((n1 + q : Nat) : Int) := by rw [pi_g, ht]
    refine ⟨(pI ((e1 + (q + 1) : Nat) : Int), am_s (am_s Q 184 (n1 + q) (pI 0)) 174 15 (pI ((n1 + (q + 1) : Nat) : Int))), ?_, rfl, fr_trans hf (fr_trans (N := am_s Q 184 (n1 + q) (pI 0)) (fr_s (by simp)) (fr_s (by simp))), fun k h1 => by rw [iv_b h1, iv_c (by decide), hk k h1], by rw [iv_a (by omega) (by omega)], fun k => ?_⟩
    · dsimp only
      have c16 : am_g (am_s Q 184 (n1 + q) (0 : Int32)) 174 15 + (1 : Int32) = pI ((n1 + (q + 1) : Nat) : Int) := by
        rw [pi_g, iv_c (by decide), ht, show (1 : Int32) = pI 1 from rfl, pi_add, show ((n1 + q : Nat) : Int) + 1 = ((n1 + (q + 1) : Nat) : Int) by omega]
      rw [g_X10_reason_L96, if_neg (show ¬ (pI (h : Nat) ≤ pI ((e1 + q : Nat) : Int)) by rw [pi_le (by omega) (by omega) (by omega) (by omega)]; omega), c15, pi_ci (by omega) (by omega) (by omega), pi_cn (by omega) (by omega), Int.toNat_natCast, c16, show pI ((e1 + q : Nat) : Int) + (1 : Int32) = pI ((e1 + (q + 1) : Nat) : Int) from by rw [show (1 : Int32) = pI 1 from rfl, pi_add, show ((e1 + q : Nat) : Int) + 1 = ((e1 + (q + 1) : Nat) : Int) by omega]]
      rfl
    · dsimp only
      rw [iv_c (by decide), iv_s (by omega) (by omega)]
      by_cases h1 : k = n1 + q
      · rw [if_pos ⟨rfl, h1⟩, if_pos (by omega)]
      · rw [if_neg (fun w => h1 w.2), hp]
        by_cases h2 : n1 ≤ k ∧ k < n1 + q
        · rw [if_pos h2, if_pos (by omega)]
        · rw [if_neg h2, if_neg (by omega)]) (by
    rintro m ⟨b, Q⟩ ⟨e, hf, hk, ht, hp⟩
    dsimp only at e hf hk ht hp
    subst e
    refine ⟨((), Q), ?_, hf, hk, ht, hp⟩
    dsimp only
    rw [g_X10_reason_L96, if_pos (show pI (h : Nat) ≤ pI ((e1 + (h - e1) : Nat) : Int) by rw [pi_le (by omega) (by omega) (by omega) (by omega)]; omega)])
  exact ⟨Q, g1, f1, k1, t1, p1⟩
theorem s_reason {σ : Nat → Int} {j r : Nat} {P : am_M} (hs : sg P = σ) (hO : OK σ) (h11 : iv P 174 11 = -1) (hr : (r : Int) < σ 6) (hj : (j : Int) < σ 7) : ∃ (w : Int) (α : Nat → Int) (n : Nat) (N : am_M), g_X10_reason (pI j) (pI r) P = some (pI w, N) ∧ fr [174, 180, 181, 182, 183, 184] P N ∧ (∀ k, k ≠ 15 → k ≠ 16 → k ≠ 17 → iv N 174 k = iv P 174 k) ∧ (0 ≤ w ∧ w ≤ 6) ∧ sv σ j r w α n ∧ (w = 0 → MRt α n N) := by
  have h6 := hO.2.2.1
  have h7 := hO.2.2.2.1
  have hC := hO.1
  have hwl := hO.2.1
  have hRF := hO.2.2.2.2.2.1 r hr
  have hT := hO.2.2.2.2.2.2.1 j hj
  have hcell := ro_cell hRF.1
  have hT0 : 0 ≤ it σ j 0 ∧ it σ j 0 < 40 := hT.1
  have hT1 : 0 ≤ it σ j 1 ∧ it σ j 1 < 40 := hT.2.1
  have hT4 := hT.2.2.2.1
  have hT5 := hT.2.2.2.2.1
  have hr5 : r < 5 := by omega
  by_cases hl : 0 < ro σ r 3
  · refine ⟨1, fun _ => 0, 0, P, ?_, fr_refl _ _, fun k _ _ _ => rfl, by omega, Or.inl ⟨rfl, hl⟩, fun q => by omega⟩
    unfold g_X10_reason
    rw [mlift_t hs hr5 hl, am_b_some, if_neg ci1]
    rfl
  · have h3 : ro σ r 3 = 0 := by have := hRF.1.2.2.2.1; omega
    obtain ⟨N1, g1, f1, p1⟩ := s_allForeseen P (by rw [hs]; omega) (by rw [hs]; omega) (by rw [hs]; exact fun o ho => (hO.2.2.2.2.2.1 o ho).1)
    rw [hs] at p1
    obtain ⟨N2, eN2⟩ : ∃ N2, N2 = am_s (am_s (am_s N1 174 15 (pI 0)) 174 16 (pI 0)) 174 17 (pI 0) := ⟨_, rfl⟩
    have f2 : fr [174] N1 N2 := by rw [eN2]; exact fr_trans (fr_s (by simp)) (fr_trans (fr_s (by simp)) (fr_s (by simp)))
    have k2 : ∀ k, k ≠ 15 → k ≠ 16 → k ≠ 17 → iv N2 174 k = iv P 174 k := fun k h1 h2 h3 => by rw [eN2, iv_b h3, iv_b h2, iv_b h1, fr_i f1 (by decide)]
    have b15 : iv N2 174 15 = ((0 : Nat) : Int) := by rw [eN2, iv_b (by decide), iv_b (by decide), iv_a (by omega) (by omega)]; rfl
    have b17 : iv N2 174 17 = 0 := by rw [eN2, iv_a (by omega) (by omega)]
    have hs2 : sg N2 = σ := (sg_fr f2 (by decide)).trans ((sg_fr f1 (by decide)).trans hs)
    have hMS2 : MS σ (-1) N2 := ⟨hs2, by rw [k2 11 (by decide) (by decide) (by decide)]; exact h11, h6, fun o t ho ht => by rw [fr_i f2 (by decide), fr_i f2 (by decide)]; exact p1 o t ho ht⟩
    have f12 : fr [174, 180, 181, 182, 183, 184] P N2 := fr_trans (fr_mono f1 (by simp)) (fr_mono f2 (by simp))
    obtain ⟨N3, f3, k3, l3, hx3⟩ := s_routes (r := (r : Int)) (c := ro σ r 0) (g := it σ j 0) (fin := 0) (f := 0) (m0 := 0) (q := 0) hMS2 hwl (by omega) hcell hT0 (by omega) (by omega) b15 (by omega) b17 (by omega)
    have f123 : fr [174, 180, 181, 182, 183, 184] P N3 := fr_trans f12 (fr_mono f3 (by simp))
    have hs3 : sg N3 = σ := (sg_fr f3 (by decide)).trans hs2
    have kk3 : ∀ k, k ≠ 15 → k ≠ 16 → k ≠ 17 → iv N3 174 k = iv P 174 k := fun k h1 h2 h3 => by rw [k3 k h1 h2 h3, k2 k h1 h2 h3]
    have hstart : g_X10_reason (pI j) (pI r) P = am_b (g_X10_routes (pI r) (pI (ro σ r 0)) (pI ((0 : Nat) : Int)) (pI (it σ j 0)) (pI 0) N2) (fun v16 M15 => (if v16 = (0 : Int32) then (some ((2 : Int32), M15)) else (am_b (g_X10_item (pI j) (2 : Int32) M15) (fun v19 M18 => (am_ci (0 : Int32) 406 (if (30 : Int32) < (if (am_g M15 174 16) < (v19 - (am_g M18 175 (0 : Int32).toNatClampNeg)) then (v19 - (am_g M18 175 (0 : Int32).toNatClampNeg)) else (am_g M15 174 16)) then (some ((3 : Int32), M18)) else (am_b (g_X10_canWait (pI r) (pI (it σ j 0)) (am_g M15 174 16) (if (am_g M15 174 16) < (v19 - (am_g M18 175 (0 : Int32).toNatClampNeg)) then (v19 - (am_g M18 175 (0 : Int32).toNatClampNeg)) else (am_g M15 174 16)) M18) (fun v23 M22 => (if v23 = (0 : Int32) then (some ((3 : Int32), M22)) else (am_b (g_X10_reason_L96 (pI j) (pI r) (pI (it σ j 0)) (if (am_g M15 174 16) < (v19 - (am_g M18 175 (0 : Int32).toNatClampNeg)) then (v19 - (am_g M18 175 (0 : Int32).toNatClampNeg)) else (am_g M15 174 16)) am_fu (am_g M15 174 16) M22) (fun x26 M27 => (am_b (g_X10_item (pI j) (1 : Int32) M27) (fun v31 M30 => (am_b (g_X10_routes (pI r) (pI (it σ j 0)) (if (am_g M15 174 16) < (v19 - (am_g M18 175 (0 : Int32).toNatClampNeg)) then (v19 - (am_g M18 175 (0 : Int32).toNatClampNeg)) else (am_g M15 174 16)) v31 (1 : Int32) M30) (fun v34 M33 => (if v34 = (0 : Int32) then (some ((4 : Int32), M33)) else (am_ci (0 : Int32) 406 (am_b (g_X10_item (pI j) (3 : Int32) M33) (fun v38 M37 => (if ((am_g M33 175 (0 : Int32).toNatClampNeg) + (am_g M33 174 16)) ≤ v38 then (am_b (g_X10_of (pI r) (1 : Int32) M37) (fun v41 M40 => (if (am_g M37 174 17) ≤ v41 then (some ((0 : Int32), M40)) else (some ((6 : Int32), M40))))) else (some ((5 : Int32), M37)))))))))))))))))))))) := by
      unfold g_X10_reason
      have gb : g_X10_begins N1 = some ((), N2) := by rw [eN2]; rfl
      have gi : g_X10_item (pI j) (0 : Int32) N2 = some (pI (it σ j 0), N2) := s_item2 hs2 (j := j) (w := 0) (by omega) (by omega)
      have go : g_X10_of (pI r) (0 : Int32) N2 = some (pI (ro σ r 0), N2) := mof hs2 (r := r) (w := 0) (by omega) (by omega)
      rw [mlift_f hs hr5 hl, am_b_some, if_pos ci0, g1, am_b_some, gb, am_b_some, gi, am_b_some, go, am_b_some]
      rfl
    rw [hstart]
    rcases hx3 with ⟨e1, n1, C, g3, hr1, q15, q16, q17, q184⟩ | ⟨g3, hno⟩
    · rw [g3, am_b_some, if_neg ci1]
      have q15 : iv N3 174 15 = (n1 : Int) := by rw [q15]; omega
      have hrtg1 : rtg σ r (-1) 0 (ro σ r 0) (it σ j 0) 0 (fun k => wa σ r (-1) e1 C 0 (ro σ r 0) k) n1 := ⟨e1, C, hr1, fun k _ => rfl⟩
      obtain ⟨α1, eα1⟩ : ∃ α1 : Nat → Int, α1 = fun k => ((wa σ r (-1) e1 C 0 (ro σ r 0) k : Nat) : Int) := ⟨_, rfl⟩
      rw [← eα1] at hrtg1
      have hq184 : ∀ k, k < n1 → iv N3 184 k = α1 k := fun k hk => by
        have := q184 k hk
        rw [Nat.zero_add] at this
        rw [this, eα1]
      obtain ⟨a1, a2, a3, a4, a5, e1', C', hr1', a6, a7⟩ := rtg_facts hwl hcell hrtg1
      rw [Nat.zero_add] at a6
      have hee : e1 = e1' := by
        obtain ⟨⟨x1, x2, x3, x4⟩, _⟩ := hr1
        obtain ⟨⟨y1, y2, y3, y4⟩, _⟩ := hr1'
        by_cases z1 : e1 < e1'
        · exact absurd x3 (y4 e1 x1 z1)
        · by_cases z2 : e1' < e1
          · exact absurd y3 (x4 e1' y1 z2)
          · omega
      subst hee
      have hCC : C = C' := by rw [hr1.2.1, hr1'.2.1]
      subst hCC
      have hlt1 : lt α1 n1 = e1 := by rw [a6]
      have he1 : e1 ≤ 30 := hr1.1.2.1
      have hn1 := lt_ge α1 n1
      rw [hlt1] at hn1
      have hfre1 : fre σ r (-1) (it σ j 0) e1 := by
        have := rtg_fre hO hr h3 hrtg1
        rw [hlt1] at this
        exact this
      obtain ⟨rl, erl⟩ : ∃ rl, rl = it σ j 2 - σ 0 := ⟨_, rfl⟩
      obtain ⟨h, eh⟩ : ∃ h, h = hh σ j e1 := ⟨_, rfl⟩
      have ehm : h = max e1 rl.toNat := by rw [eh, erl]; rfl
      have gi2 : g_X10_item (pI j) (2 : Int32) N3 = some (pI (it σ j 2), N3) := s_item2 hs3 (j := j) (w := 2) (by omega) (by omega)
      have d16 : am_g N3 174 16 = pI (e1 : Nat) := by rw [pi_g, q16]
      have d0 : am_g N3 175 (0 : Int32).toNatClampNeg = pI (σ 0) := by show am_g N3 175 0 = _; rw [pi_g, show iv N3 175 0 = σ 0 from congrFun hs3 0]
      have dmax : (if pI (e1 : Nat) < pI rl then pI rl else pI (e1 : Nat)) = pI (h : Nat) := by
        by_cases q : (e1 : Int) < rl
        · rw [if_pos (show pI (e1 : Nat) < pI rl by rw [pi_lt (by omega) (by omega) (by omega) (by omega)]; exact q), show ((h : Nat) : Int) = rl by omega]
        · rw [if_neg (show ¬ (pI (e1 : Nat) < pI rl) by rw [pi_lt (by omega) (by omega) (by omega) (by omega)]; exact q), show h = e1 by omega]
      rw [gi2, am_b_some, aci _ _ _ (by decide), d16, d0, pi_sub, ← erl, dmax]
      have hh1000 : h ≤ 1000 := by omega
      by_cases q30 : 30 < h
      · rw [if_pos (show (30 : Int32) < pI (h : Nat) by show pI 30 < _; rw [pi_lt (by omega) (by omega) (by omega) (by omega)]; omega)]
        refine ⟨3, α1, 0, N3, rfl, f123, kk3, by omega, Or.inr ⟨h3, Or.inr ⟨n1, hrtg1, Or.inl ⟨rfl, fun hw => ?_⟩⟩⟩, fun q => by omega⟩
        have := hw.1
        rw [hlt1, ← eh] at this
        omega
      · rw [if_neg (show ¬ ((30 : Int32) < pI (h : Nat)) by show ¬ (pI 30 < _); rw [pi_lt (by omega) (by omega) (by omega) (by omega)]; omega)]
        have hMS3 := MS_fr2 hMS2 f3 (by decide) (by decide) (by decide) (k3 11 (by omega) (by omega) (by omega))
        have gw := s_canWait (r := (r : Int)) (c := it σ j 0) (f := e1) (t := h) hMS3 (by omega) hT0 (by omega) (by omega)
        have hiff : (∀ k : Nat, e1 ≤ k → k ≤ h → fre σ r (-1) (it σ j 0) k) ↔ wok σ j r e1 := by
          unfold wok
          rw [← eh]
          constructor
          · intro q; exact ⟨by omega, fun t t1 t2 => q t (by omega) t2⟩
          · rintro ⟨_, q⟩ t t1 t2
            by_cases z : t = e1
            · rw [z]; exact hfre1
            · exact q t (by omega) t2
        rw [b01_iff hiff] at gw
        rw [gw, am_b_some]
        by_cases hwk : wok σ j r e1
        · rw [b01_t hwk, if_neg ci1]
          obtain ⟨N4, g4, f4, k4, t4, p4⟩ := s_zeros (x := pI (j : Nat)) (y := pI (r : Nat)) (z := pI (it σ j 0)) (e1 := e1) (h := h) (n1 := n1) (P := N3) (by omega) (by omega) q15
          obtain ⟨m, em⟩ : ∃ m, m = n1 + (h - e1) := ⟨_, rfl⟩
          rw [← em] at t4 p4
          have hs4 : sg N4 = σ := (sg_fr f4 (by decide)).trans hs3
          have f1234 : fr [174, 180, 181, 182, 183, 184] P N4 := fr_trans f123 (fr_mono f4 (by simp))
          have hMS4 := MS_fr2 hMS3 f4 (by decide) (by decide) (by decide) (k4 11 (by omega))
          have gi1 : g_X10_item (pI j) (1 : Int32) N4 = some (pI (it σ j 1), N4) := s_item2 hs4 (j := j) (w := 1) (by omega) (by omega)
          obtain ⟨N5, f5, k5, l5, hx5⟩ := s_routes (r := (r : Int)) (c := it σ j 0) (g := it σ j 1) (fin := 1) (f := h) (m0 := m) (q := C 0 (ro σ r 0)) hMS4 hwl (by omega) hT0 hT1 (by omega) (by omega) t4 (by omega) (by rw [k4 17 (by omega), q17]; omega) (by have := hr1.2.2.1; have := hr1.2.2.2.1; omega)
          have f15 : fr [174, 180, 181, 182, 183, 184] P N5 := fr_trans f1234 (fr_mono f5 (by simp))
          have hs5 : sg N5 = σ := (sg_fr f5 (by decide)).trans hs4
          have kk5 : ∀ k, k ≠ 15 → k ≠ 16 → k ≠ 17 → iv N5 174 k = iv P 174 k := fun k h1 h2 h3 => by rw [k5 k h1 h2 h3, k4 k h1, kk3 k h1 h2 h3]
          rw [g4, am_b_some, gi1, am_b_some]
          rcases hx5 with ⟨e2, n2, C2, g6, hr2, s15, s16, s17, s184⟩ | ⟨g6, hno⟩
          · obtain ⟨β, eβ⟩ : ∃ β : Nat → Int, β = fun k => if k < m then zl α1 n1 k else ((wa σ r (-1) e2 C2 h (it σ j 0) (k - m) : Nat) : Int) := ⟨_, rfl⟩
            have hβ1 : ∀ k, k < n1 → α1 k = β k := fun k hk => by
              rw [eβ]; dsimp only; rw [if_pos (by omega)]; exact zl_low k hk
            have hβ0 : ∀ k, n1 ≤ k → k < m → β k = 0 := fun k hk1 hk2 => by
              rw [eβ]; dsimp only; rw [if_pos hk2]; exact zl_zero (z := m) k hk1 (by omega)
            have hβ2 : ∀ k, β (m + k) = wa σ r (-1) e2 C2 h (it σ j 0) k := fun k => by
              rw [eβ]; dsimp only; rw [if_neg (by omega), show m + k - m = k by omega]
            have hr2' : rtg σ r (-1) h (it σ j 0) (it σ j 1) 1 (fun k => β (m + k)) n2 := ⟨e2, C2, hr2, fun k _ => hβ2 k⟩
            have hrtgβ := rtg_congr hrtg1 hβ1
            have hltβ : lt β n1 = e1 := by rw [← lt_congr hβ1, hlt1]
            have hltm : lt β m = h := by rw [em, lt_zeros (by rw [← em]; exact hβ0), hltβ]; omega
            obtain ⟨b1, b2, b3, b4, b5, e2', C2', hr2'', b6, b7⟩ := rtg_facts hwl hT0 hr2'
            have hee2 : e2 = e2' := by
              obtain ⟨⟨x1, x2, x3, x4⟩, _⟩ := hr2
              obtain ⟨⟨y1, y2, y3, y4⟩, _⟩ := hr2''
              by_cases z1 : e2 < e2'
              · exact absurd x3 (y4 e2 x1 z1)
              · by_cases z2 : e2' < e2
                · exact absurd y3 (x4 e2' y1 z2)
                · omega
            subst hee2
            have hCC2 : C2 = C2' := by rw [hr2.2.1, hr2''.2.1]
            subst hCC2
            have hlt4 : lt β (m + n2) = e2 := by rw [lt_shift, hltm, b6]
            have hlco4 : lco β (m + n2) = C 0 (ro σ r 0) + C2 h (it σ j 0) := by
              rw [lco_shift, b7, em, lco_zeros (by rw [← em]; exact hβ0), ← lco_congr hβ1, a7]
            have he2 := hr2.1.2.1
            have hsv : ∀ w : Int, w = (if it σ j 3 < σ 0 + lt β (m + n2) then 5 else if ro σ r 1 < lco β (m + n2) then 6 else 0) → sv σ j r w β (m + n2) := fun w hw => by
              refine Or.inr ⟨h3, Or.inr ⟨n1, hrtgβ, Or.inr ?_⟩⟩
              rw [hltβ, ← eh]
              rw [← em]
              exact ⟨hwk, hβ0, Or.inr ⟨n2, hr2', rfl, hw⟩⟩
            have hg6 : g_X10_routes (pI r) (pI (it σ j 0)) (pI (h : Nat)) (pI (it σ j 1)) (1 : Int32) N4 = some (pI 1, N5) := g6
            have gi3 : g_X10_item (pI j) (3 : Int32) N5 = some (pI (it σ j 3), N5) := s_item2 hs5 (j := j) (w := 3) (by omega) (by omega)
            have go1 : g_X10_of (pI r) (1 : Int32) N5 = some (pI (ro σ r 1), N5) := mof hs5 (r := r) (w := 1) (by omega) (by omega)
            have d5 : am_g N5 175 (0 : Int32).toNatClampNeg + am_g N5 174 16 = pI (σ 0 + e2) := by
              show am_g N5 175 0 + _ = _
              rw [pi_g, pi_g, show iv N5 175 0 = σ 0 from congrFun hs5 0, s16, pi_add]
            have d17 : am_g N5 174 17 = pI (lco β (m + n2)) := by rw [pi_g, s17, hlco4]
            have hbr : -2147483648 ≤ ro σ r 1 ∧ ro σ r 1 < 2147483648 := by
              have := sg_rng N5 (88 + 42 * r + 1)
              rw [hs5, ← ro_nat σ r 1] at this
              exact this
            have hco := lco_rng β (m + n2)
            have hmn := lt_ge β (m + n2)
            rw [hlt4] at hmn
            rw [hg6, am_b_some, if_neg ci1, aci _ _ _ (by decide), gi3, am_b_some, d5]
            by_cases q5 : it σ j 3 < σ 0 + e2
            · rw [if_neg (show ¬ (pI (σ 0 + e2) ≤ pI (it σ j 3)) by rw [pi_le (by omega) (by omega) (by omega) (by omega)]; omega)]
              exact ⟨5, β, m + n2, N5, rfl, f15, kk5, by omega, hsv 5 (by rw [hlt4, if_pos q5]), fun q => by omega⟩
            · rw [if_pos (show pI (σ 0 + e2) ≤ pI (it σ j 3) by rw [pi_le (by omega) (by omega) (by omega) (by omega)]; omega), go1, am_b_some, d17]
              by_cases q6 : ro σ r 1 < lco β (m + n2)
              · rw [if_neg (show ¬ (pI (lco β (m + n2)) ≤ pI (ro σ r 1)) by rw [pi_le (by omega) (by omega) (by omega) (by omega)]; omega)]
                exact ⟨6, β, m + n2, N5, rfl, f15, kk5, by omega, hsv 6 (by rw [hlt4, if_neg q5, if_pos q6]), fun q => by omega⟩
              · rw [if_pos (show pI (lco β (m + n2)) ≤ pI (ro σ r 1) by rw [pi_le (by omega) (by omega) (by omega) (by omega)]; omega)]
                refine ⟨0, β, m + n2, N5, rfl, f15, kk5, by omega, hsv 0 (by rw [hlt4, if_neg q5, if_neg q6]), fun _ => ⟨by rw [s15]; omega, by rw [s16, hlt4], by rw [s17, hlco4], fun k hk => ?_⟩⟩
                by_cases z1 : k < n1
                · rw [l5 k (by omega), p4, if_neg (by omega), hq184 k z1, hβ1 k z1]
                · by_cases z2 : k < m
                  · rw [l5 k z2, p4, if_pos (by omega), hβ0 k (by omega) z2]
                  · have := s184 (k - m) (by omega)
                    rw [show m + (k - m) = k by omega] at this
                    rw [this, ← hβ2, show m + (k - m) = k by omega]
          · have hg6 : g_X10_routes (pI r) (pI (it σ j 0)) (pI (h : Nat)) (pI (it σ j 1)) (1 : Int32) N4 = some (pI 0, N5) := g6
            rw [hg6, am_b_some, if_pos ci0]
            refine ⟨4, zl α1 n1, 0, N5, rfl, f15, kk5, by omega, Or.inr ⟨h3, Or.inr ⟨n1, rtg_congr hrtg1 zl_low, Or.inr ?_⟩⟩, fun q => by omega⟩
            rw [← lt_congr zl_low, hlt1, ← eh]
            exact ⟨hwk, fun k k1 k2 => zl_zero k k1 k2, Or.inl ⟨rfl, hno⟩⟩
        · rw [b01_f hwk, if_pos ci0]
          exact ⟨3, α1, 0, N3, rfl, f123, kk3, by omega, Or.inr ⟨h3, Or.inr ⟨n1, hrtg1, Or.inl ⟨rfl, by rw [hlt1]; exact hwk⟩⟩⟩, fun q => by omega⟩
    · rw [g3, am_b_some, if_pos ci0]
      exact ⟨2, fun _ => 0, 0, N3, rfl, f123, kk3, by omega, Or.inr ⟨h3, Or.inl ⟨rfl, fun e he => hno e (by omega) he⟩⟩, fun q => by omega⟩
end RN
