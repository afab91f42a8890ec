/-! the case makeWay -/
section SI
theorem L49_no {a1 a2 a3 : Int32} (M : am_M) : g_X3_moveAside_L49 a1 a2 a3 (0 : Int32) am_fu (0 : Int32) M = some (146, M) := by
  rw [show am_fu = 99999 + 1 from rfl, g_X3_moveAside_L49, if_pos rfl]
theorem L85_no {a1 a2 a3 : Int32} (M : am_M) : g_X10_makeWay_L85 a1 a2 a3 (0 : Int32) am_fu (0 : Int32) M = some (117, M) := by
  rw [show am_fu = 99999 + 1 from rfl, g_X10_makeWay_L85, if_neg (by decide), if_pos rfl]
theorem MK_out {r : Nat} {n6 g : Int} (hr : (r : Int) < n6) (hn6 : n6 ≤ 5) (hg : 0 ≤ g ∧ g < 40) : ∀ (d o f m : Nat) (A B : am_M), (o : Int) + d = n6 → d < f → d < m → MKs r n6 A B → (∃ x y A' B', g_X3_moveAside_L2 (pI r) (pI g) f (pI (o : Nat)) A = some ((152, x), A') ∧ g_X10_makeWay_L51 (pI r) (pI g) m (pI (o : Nat)) B = some ((123, y), B') ∧ MKf A A' B B' ∧ MKs r n6 A' B') ∨ ∃ (v : Nat) (A' A'' B' : am_M), v < 5 ∧ g_X3_moveAside_L2 (pI r) (pI g) f (pI (o : Nat)) A = some ((109, pI v), A') ∧ g_X3_adopt (pI r) (-1 : Int32) A' = some ((), A'') ∧ g_X10_makeWay_L51 (pI r) (pI g) m (pI (o : Nat)) B = some ((109, pI v), B') ∧ MKf A A'' B B' ∧ WD (sg B') 1 A'' ∧ OK (sg B')
  | 0, o, f, m, A, B, ho, hf0, hm, hM => by
    obtain ⟨f, rfl⟩ : ∃ g, f = g + 1 := ⟨f - 1, by omega⟩
    obtain ⟨m, rfl⟩ : ∃ g, m = g + 1 := ⟨m - 1, by omega⟩
    have c1 : am_g A 1 2 = pI n6 := by rw [pi_g, hM.1.2.1.1, hM.2.2.2.1]
    have c2 : am_g B 175 (6 : Int32).toNatClampNeg = pI n6 := by show am_g B 175 6 = _; rw [pi_g, show iv B 175 6 = n6 from hM.2.2.2.1]
    have c3 : pI n6 ≤ pI (o : Nat) := by rw [pi_le (by omega) (by omega) (by omega) (by omega)]; omega
    refine Or.inl ⟨pI o, pI o, A, B, ?_, ?_, MKf_refl A B, hM⟩
    · rw [g_X3_moveAside_L2, c1, if_pos c3]
    · rw [g_X10_makeWay_L51, aci _ _ _ (by decide), c2, if_pos c3]
  | d + 1, o, f, m, A, B, ho, hf0, hm, hM => by
    obtain ⟨f, rfl⟩ : ∃ g, f = g + 1 := ⟨f - 1, by omega⟩
    obtain ⟨m, rfl⟩ : ∃ g, m = g + 1 := ⟨m - 1, by omega⟩
    have hM0 := hM
    obtain ⟨hW, hO, h11, e6, h3⟩ := hM
    have h6 := hO.2.2.1
    have h7 := hO.2.2.2.1
    have c1 : am_g A 1 2 = pI n6 := by rw [pi_g, hW.2.1.1, e6]
    have c2 : am_g B 175 (6 : Int32).toNatClampNeg = pI n6 := by show am_g B 175 6 = _; rw [pi_g, show iv B 175 6 = n6 from e6]
    have c3 : ¬ (pI n6 ≤ pI (o : Nat)) := by rw [pi_le (by omega) (by omega) (by omega) (by omega)]; omega
    have nx : pI (o : Nat) + (1 : Int32) = pI (o + 1 : Nat) := by rw [show (1 : Int32) = pI 1 from rfl, pi_add]; rfl
    have go : ∀ A1 B1, (∀ z, g_X3_moveAside_L2 (pI r) (pI g) f (pI (o + 1 : Nat)) A1 = z → g_X3_moveAside_L2 (pI r) (pI g) (f + 1) (pI (o : Nat)) A = z) → (∀ z, g_X10_makeWay_L51 (pI r) (pI g) m (pI (o + 1 : Nat)) B1 = z → g_X10_makeWay_L51 (pI r) (pI g) (m + 1) (pI (o : Nat)) B = z) → MKf A A1 B B1 → MKs r n6 A1 B1 → (∃ x y A' B', g_X3_moveAside_L2 (pI r) (pI g) (f + 1) (pI (o : Nat)) A = some ((152, x), A') ∧ g_X10_makeWay_L51 (pI r) (pI g) (m + 1) (pI (o : Nat)) B = some ((123, y), B') ∧ MKf A A' B B' ∧ MKs r n6 A' B') ∨ ∃ (v : Nat) (A' A'' B' : am_M), v < 5 ∧ g_X3_moveAside_L2 (pI r) (pI g) (f + 1) (pI (o : Nat)) A = some ((109, pI v), A') ∧ g_X3_adopt (pI r) (-1 : Int32) A' = some ((), A'') ∧ g_X10_makeWay_L51 (pI r) (pI g) (m + 1) (pI (o : Nat)) B = some ((109, pI v), B') ∧ MKf A A'' B B' ∧ WD (sg B') 1 A'' ∧ OK (sg B') := fun A1 B1 z1 z2 hf hM1 => by
      rcases MK_out hr hn6 hg d (o + 1) f m A1 B1 (by omega) (by omega) (by omega) hM1 with ⟨x, y, A', B', p1, p2, p3, p4⟩ | ⟨v, A', A'', B', p0, p1, p2, p3, p4, p5, p6⟩
      · exact Or.inl ⟨x, y, A', B', z1 _ p1, z2 _ p2, MKf_trans hf p3, p4⟩
      · exact Or.inr ⟨v, A', A'', B', p0, z1 _ p1, p2, z2 _ p3, MKf_trans hf p4, p5, p6⟩
    by_cases hro : o = r
    · refine go A B (fun z hz => ?_) (fun z hz => ?_) (MKf_refl A B) hM0
      · rw [g_X3_moveAside_L2, c1, if_neg c3, if_pos (by rw [hro]), L49_no, am_b_some, if_neg (by decide), nx]
        exact hz
      · rw [g_X10_makeWay_L51, aci _ _ _ (by decide), c2, if_neg c3, if_pos (by rw [hro]), L85_no, am_b_some, if_neg (by decide), nx]
        exact hz
    · have cr : ¬ (pI (o : Nat) = pI (r : Nat)) := by rw [pi_eq (by omega) (by omega) (by omega) (by omega)]; omega
      have ho' : (o : Int) < sg B 6 := by omega
      have hr' : (r : Int) < sg B 6 := by omega
      have gi := s_isIdle hW hO ho'
      have gm := s_misIdle (r := o) (P := B) rfl (hO.2.2.2.2.2.1 o ho').1 (by omega)
      by_cases hid : ro (sg B) o 2 = 0
      · rw [if_pos hid] at gi gm
        obtain ⟨O, f1, h⟩ := s_hasFinalWithout (wo := (o : Int)) (g := g) hW hO hr' (by omega) h3 hg
        have hWO : WD (sg B) 1 O := WD_fr hW h6.2 h7.2 f1 (by intro z z1 z2 z3; simp at z3; omega)
        have fO : fr KD A O := fr_mono f1 (fun a ha => mem_KD.mpr (by simp at ha; omega))
        have hfO : MKf A O B B := ⟨fO, fr_refl _ _, fun _ _ _ _ => rfl⟩
        rcases h with ⟨g1, hx⟩ | ⟨g1, hx⟩
        · rcases MK_in1 (o := o) hr (by omega) (fun q => hro q.symm) hg 40 0 am_fu am_fu O B (by omega) (by unfold am_fu; omega) (by unfold am_fu; omega) ⟨hWO, hO, h11, e6, h3⟩ hid with ⟨A', B', p1, p2, p3, p4⟩ | ⟨A', A'', B', p1, p2, p3, p4, p5, p6⟩
          · have p1' : g_X3_moveAside_L49 (pI r) (pI g) (pI (o : Nat)) (1 : Int32) am_fu (0 : Int32) O = some (146, A') := p1
            have p2' : g_X10_makeWay_L85 (pI r) (pI g) (pI (o : Nat)) (1 : Int32) am_fu (0 : Int32) B = some (117, B') := p2
            refine go A' B' (fun z hz => ?_) (fun z hz => ?_) (MKf_trans hfO p3) p4
            · rw [g_X3_moveAside_L2, c1, if_neg c3, if_neg cr, gi, am_b_some, if_neg ci1, g1, am_b_some, if_neg ci1, p1', am_b_some, if_neg (by decide), nx]
              exact hz
            · rw [g_X10_makeWay_L51, aci _ _ _ (by decide), c2, if_neg c3, if_neg cr, gm, am_b_some, if_neg ci1, p2', am_b_some, if_neg (by decide), nx]
              exact hz
          · have p1' : g_X3_moveAside_L49 (pI r) (pI g) (pI (o : Nat)) (1 : Int32) am_fu (0 : Int32) O = some (109, A') := p1
            have p3' : g_X10_makeWay_L85 (pI r) (pI g) (pI (o : Nat)) (1 : Int32) am_fu (0 : Int32) B = some (109, B') := p3
            refine Or.inr ⟨o, A', A'', B', by omega, ?_, p2, ?_, MKf_trans hfO p4, p5, p6⟩
            · rw [g_X3_moveAside_L2, c1, if_neg c3, if_neg cr, gi, am_b_some, if_neg ci1, g1, am_b_some, if_neg ci1, p1', am_b_some, if_pos (by decide)]
            · rw [g_X10_makeWay_L51, aci _ _ _ (by decide), c2, if_neg c3, if_neg cr, gm, am_b_some, if_neg ci1, p3', am_b_some, if_pos (by decide)]
        · obtain ⟨B', p2, p3, p4⟩ := MK_in0 (o := o) hr (by omega) (fun q => hro q.symm) hg 40 0 am_fu O B (by omega) (by unfold am_fu; omega) ⟨hWO, hO, h11, e6, h3⟩ hid (fun ⟨e, he, hk⟩ => hx e he hk)
          have p2' : g_X10_makeWay_L85 (pI r) (pI g) (pI (o : Nat)) (1 : Int32) am_fu (0 : Int32) B = some (117, B') := p2
          refine go O B' (fun z hz => ?_) (fun z hz => ?_) (MKf_trans hfO p3) p4
          · rw [g_X3_moveAside_L2, c1, if_neg c3, if_neg cr, gi, am_b_some, if_neg ci1, g1, am_b_some, if_pos ci0, L49_no, am_b_some, if_neg (by decide), nx]
            exact hz
          · rw [g_X10_makeWay_L51, aci _ _ _ (by decide), c2, if_neg c3, if_neg cr, gm, am_b_some, if_neg ci1, p2', am_b_some, if_neg (by decide), nx]
            exact hz
      · rw [if_neg hid] at gi gm
        refine go A B (fun z hz => ?_) (fun z hz => ?_) (MKf_refl A B) hM0
        · rw [g_X3_moveAside_L2, c1, if_neg c3, if_neg cr, gi, am_b_some, if_pos ci0, L49_no, am_b_some, if_neg (by decide), nx]
          exact hz
        · rw [g_X10_makeWay_L51, aci _ _ _ (by decide), c2, if_neg c3, if_neg cr, gm, am_b_some, if_pos ci0, L85_no, am_b_some, if_neg (by decide), nx]
          exact hz
theorem cs_makeWay {M : am_M} (hI : INV M) (a b : Int32) : CS (g_L_makeWay a b M) (g_X10_makeWay a b) := by
  obtain ⟨x, rfl, hx1, hx2⟩ := pi_cast a
  obtain ⟨y, rfl, hy1, hy2⟩ := pi_cast b
  have hO := hI.1
  have hW := hI.2.1
  have h6 := hO.2.2.1
  have h7 := hO.2.2.2.1
  have h11 := hI.2.2.1
  have g0 := s_demandRobot (x := x) (M := M) hx1 hx2
  rw [hW.2.1.1] at g0
  have g1 := s_demandCell (x := y) (M := M) hy1 hy2
  by_cases c : 0 ≤ x ∧ x < sg M 6
  rotate_left
  · rw [if_neg c] at g0
    refine CS_no1 (k := 1) (v := 0) hI ?_ ?_ (by omega)
    · unfold g_L_makeWay g_X9_makeWay
      rw [g0, am_bx_inr]
      rfl
    · unfold g_X10_makeWay
      rw [mrob_f (σ := sg M) sg_t hO hx1 hx2 c, am_b_some, if_pos ci0]
      rfl
  rw [if_pos c] at g0
  by_cases d : 0 ≤ y ∧ y < 40
  rotate_left
  · rw [if_neg d] at g1
    refine CS_no1 (k := 1) (v := 0) hI ?_ ?_ (by omega)
    · unfold g_L_makeWay g_X9_makeWay
      rw [g0, am_bx_inl, g1, am_bx_inr]
      rfl
    · unfold g_X10_makeWay
      rw [show am_s M 174 0 (0 : Int32) = am_s M 174 0 (pI 0) from rfl, mrob_t (σ := sg M) sg_t hO c, am_b_some, if_neg ci1, mcell_f hy1 hy2 d, am_b_some, if_pos ci0]
      rfl
  rw [if_pos d] at g1
  obtain ⟨r, rfl⟩ : ∃ r : Nat, x = r := ⟨x.toNat, by omega⟩
  have gl := s_demandOutsideLift hW hO c.2
  by_cases hl : 0 < ro (sg M) r 3
  · rw [if_pos hl] at gl
    refine CS_no1 (k := 2) (v := 0) hI ?_ ?_ (by omega)
    · unfold g_L_makeWay g_X9_makeWay
      rw [g0, am_bx_inl, g1, am_bx_inl, gl, am_bx_inr]
      rfl
    · unfold g_X10_makeWay
      rw [show am_s M 174 0 (0 : Int32) = am_s M 174 0 (pI 0) from rfl, mrob_t (σ := sg M) sg_t hO c, am_b_some, if_neg ci1, mcell_t d, am_b_some, if_neg ci1, mlift_t (σ := sg M) sg_t (by omega) hl, am_b_some, if_neg ci1]
      rfl
  rw [if_neg hl] at gl
  have h3 : ro (sg M) r 3 = 0 := by have := (hO.2.2.2.2.2.1 r c.2).1.2.2.2.1; omega
  obtain ⟨O, fO, eO, hp⟩ := s_isPlannable (g := y) hW hO c.2 h3 d
  have hWO : WD (sg M) 1 O := WD_fr hW h6.2 h7.2 fO (by intro z z1 z2 z3; simp at z3; omega)
  have hIO : INV O := INV_fr hI fO (fun a ha => by simp at ha; omega)
  have sO : sg O = sg M := sg_fr fO (by simp)
  have fOD : fr KD M O := fr_mono fO (fun a ha => mem_KD.mpr (by simp at ha; omega))
  -- the model, up to the loop
  have mstart : ∀ P : am_M, sg P = sg M → iv P 174 11 = -1 → ∃ N, fr [174, 180, 181, 182, 183, 184] P N ∧ (∀ k, k ≠ 0 → k ≠ 15 → k ≠ 16 → k ≠ 17 → iv N 174 k = iv P 174 k) ∧ iv N 174 0 = 0 ∧ ((g_X10_makeWay (pI r) (pI y) P = some (0, am_s N 174 0 (pI 2)) ∧ ∃ e, pl (sg M) r y e) ∨ (g_X10_makeWay (pI r) (pI y) P = am_b (g_X10_makeWay_L51 (pI r) (pI y) am_fu (0 : Int32) N) (fun x44 M45 => (if x44.1 = 109 then (some (x44.2, M45)) else (am_b (g_X10_fails (3 : Int32) M45) (fun v50 M49 => (some (v50, M49)))))) ∧ ∀ e, ¬ pl (sg M) r y e)) := by
    intro P hs hp11
    have hs0 : sg (am_s P 174 0 (pI 0)) = sg M := sg_t.trans hs
    obtain ⟨N, f2, k2, h⟩ := s_canPlan (g := y) (r := r) hs0 hO (by rw [iv_b (by decide)]; exact hp11) c.2 h3 d
    refine ⟨N, fr_trans (N := am_s P 174 0 (pI 0)) (fr_s (by decide)) f2, fun k a0 a1 a2 a3 => by rw [k2 k a1 a2 a3, iv_b a0], by rw [k2 0 (by omega) (by omega) (by omega), iv_a (by omega) (by omega)], ?_⟩
    rcases h with ⟨α, n, g2, q1, q2, q3⟩ | ⟨g2, q1⟩
    · refine Or.inl ⟨?_, lt α n, α, n, q1, rfl, q2⟩
      unfold g_X10_makeWay
      rw [show am_s P 174 0 (0 : Int32) = am_s P 174 0 (pI 0) from rfl, mrob_t (σ := sg M) hs0 hO c, am_b_some, if_neg ci1, mcell_t d, am_b_some, if_neg ci1, mlift_f (σ := sg M) hs0 (by omega) hl, am_b_some, if_pos ci0, g2, am_b_some, if_neg ci1]
      rfl
    · refine Or.inr ⟨?_, q1⟩
      unfold g_X10_makeWay
      rw [show am_s P 174 0 (0 : Int32) = am_s P 174 0 (pI 0) from rfl, mrob_t (σ := sg M) hs0 hO c, am_b_some, if_neg ci1, mcell_t d, am_b_some, if_neg ci1, mlift_f (σ := sg M) hs0 (by omega) hl, am_b_some, if_pos ci0, g2, am_b_some, if_pos ci0]
  rcases hp with ⟨α, n, g2, q1, q2, q3⟩ | ⟨g2, q1⟩
  · obtain ⟨N, f3, k3, t3, h | h⟩ := mstart O sO (by rw [fr_i fO (by simp)]; exact h11)
    · refine CS_no (M := M) (k := 2) (P := O) (v := 0) (Q := am_s N 174 0 (pI 2)) ?_ h.1 (thr_s (M := N) (v := 2) (by omega) (by omega)) (by decide) ?_
      · unfold g_L_makeWay g_X9_makeWay
        rw [g0, am_bx_inl, g1, am_bx_inl, gl, am_bx_inl, g2, am_b_some, if_neg ci1]
        rfl
      · exact INV_thrown (INV_scr hIO f3 (by decide) (fun k hk => k3 k (by omega) (by omega) (by omega) (by omega))) _
    · exact absurd ⟨α, n, q1, rfl, q2⟩ (h.2 (lt α n))
  · have hcls : g_X9_makeWay (pI r) (pI y) M = am_b (g_X3_moveAside (pI r) (pI y) O) (fun v15 M14 => (if (0 : Int32) ≤ v15 then (some ((.inl v15 : Int32 ⊕ Nat), M14)) else (some ((.inr 4 : Int32 ⊕ Nat), M14)))) := by
      unfold g_X9_makeWay
      rw [g0, am_bx_inl, g1, am_bx_inl, gl, am_bx_inl, g2, am_b_some, if_pos ci0]
    have run := fun (B : am_M) (hB : sg B = sg M) (hB11 : iv B 174 11 = -1) => MK_out (r := r) (n6 := sg M 6) (g := y) c.2 h6.2 d (sg M 6).toNat 0 am_fu am_fu O B (by omega) (by unfold am_fu; omega) (by unfold am_fu; omega) ⟨by rw [hB]; exact hWO, by rw [hB]; exact hO, hB11, by rw [hB], by rw [hB]; exact h3⟩
    have h175 : 175 ∉ KD := fun q => by have := mem_KD.mp q; omega
    have h174 : 174 ∉ KD := fun q => by have := mem_KD.mp q; omega
    have fin : ∀ A P N B : am_M, fr KD O A → fr [186] A P → fr [174, 180, 181, 182, 183, 184] P N → (∀ k, k ≠ 0 → k ≠ 15 → k ≠ 16 → k ≠ 17 → iv N 174 k = iv P 174 k) → fr KM N B → (∀ k, k ≠ 15 → k ≠ 16 → k ≠ 17 → iv B 174 k = iv N 174 k) → WD (sg B) 1 A → OK (sg B) → INV B := by
      intro A P N B f1 f2 f3 k3 f4 k4 W O'
      have fAB : fr [174, 175, 180, 181, 182, 183, 184, 186] A B := fr_trans (fr_mono f2 (by decide)) (fr_trans (fr_mono f3 (by decide)) (fr_mono f4 (by decide)))
      have fMA : fr KD M A := fr_trans fOD f1
      have hk : ∀ k, k ≠ 0 → k ≠ 15 → k ≠ 16 → k ≠ 17 → iv B 174 k = iv M 174 k := fun k a0 a1 a2 a3 => by
        rw [k4 k a1 a2 a3, k3 k a0 a1 a2 a3, fr_i f2 (by decide), fr_i fMA h174]
      exact INV_set hI O' (WD_fr W O'.2.2.1.2 O'.2.2.2.1.2 fAB (fun a h1 h2 => by simp; omega)) (fr_trans (fr_mono fMA (fun a ha => mem_KX.mpr (by have := mem_KD.mp ha; omega))) (fr_mono fAB (fun a ha => mem_KX.mpr (by simp at ha; omega)))) (hk 4 (by omega) (by omega) (by omega) (by omega)) (hk 7 (by omega) (by omega) (by omega) (by omega)) (hk 8 (by omega) (by omega) (by omega) (by omega)) (hk 11 (by omega) (by omega) (by omega) (by omega))
    have hO11 : iv O 174 11 = -1 := by rw [fr_i fO (by simp)]; exact h11
    rcases run O sO hO11 with ⟨x1, y1, A, B0, p1, _, ⟨p3, _, _⟩, _⟩ | ⟨v, A, A2, B0, p0, p1, p2, _, ⟨p4, _, _⟩, _, _⟩
    · have p1' : g_X3_moveAside_L2 (pI r) (pI y) am_fu (0 : Int32) O = some ((152, x1), A) := p1
      have fMA : fr KD M A := fr_trans fOD p3
      have sA : sg A = sg M := sg_fr fMA h175
      obtain ⟨N, f3, k3, t3, h | h⟩ := mstart A sA (by rw [fr_i fMA h174]; exact h11)
      · obtain ⟨e, he⟩ := h.2
        exact absurd he (q1 e)
      have sN : sg N = sg M := (sg_fr f3 (by decide)).trans sA
      have n11 : iv N 174 11 = -1 := by rw [k3 11 (by omega) (by omega) (by omega) (by omega), fr_i fMA h174]; exact h11
      rcases run N sN n11 with ⟨x2, y2, A', B', r1, r2, ⟨r3, r4, r5⟩, r6⟩ | ⟨v, A', A2, B', r0, r1, _⟩
      · have eA : A = A' := by
          rw [p1] at r1
          exact congrArg Prod.snd (Option.some.inj r1)
        subst eA
        have r2' : g_X10_makeWay_L51 (pI r) (pI y) am_fu (0 : Int32) N = some ((123, y2), B') := r2
        refine CS_no (M := M) (k := 3) (P := A) (v := 0) (Q := am_s B' 174 0 (pI 3)) ?_ ?_ (thr_s (M := B') (v := 3) (by omega) (by omega)) (by decide) (INV_thrown (fin A A N B' p3 (fr_refl _ _) f3 k3 r4 r5 r6.1 r6.2.1) _)
        · unfold g_L_makeWay
          rw [hcls]
          unfold g_X3_moveAside
          rw [p1', am_b_some, if_neg (show ¬ ((152 : Nat) = 109) by decide), am_b_some, if_neg (by decide)]
          rfl
        · rw [h.1, r2', am_b_some, if_neg (show ¬ ((123 : Nat) = 109) by decide)]
          rfl
      · rw [p1] at r1
        have : (152 : Nat) = 109 := congrArg (fun z => z.1.1) (Option.some.inj r1)
        exact absurd this (by decide)
    · have p1' : g_X3_moveAside_L2 (pI r) (pI y) am_fu (0 : Int32) O = some ((109, pI v), A) := p1
      obtain ⟨P, eP⟩ : ∃ P, P = am_ls A2 186 0 (pI v).toInt64 := ⟨_, rfl⟩
      have fP : fr [186] A2 P := by rw [eP]; exact fr_ls (by simp)
      have fMA : fr KD M A2 := fr_trans fOD p4
      have sP : sg P = sg M := (sg_fr fP (by decide)).trans (sg_fr fMA h175)
      obtain ⟨N, f3, k3, t3, h | h⟩ := mstart P sP (by rw [fr_i fP (by decide), fr_i fMA h174]; exact h11)
      · obtain ⟨e, he⟩ := h.2
        exact absurd he (q1 e)
      have sN : sg N = sg M := (sg_fr f3 (by decide)).trans sP
      have n11 : iv N 174 11 = -1 := by rw [k3 11 (by omega) (by omega) (by omega) (by omega), fr_i fP (by decide), fr_i fMA h174]; exact h11
      rcases run N sN n11 with ⟨x2, y2, A', B', r1, _⟩ | ⟨w, A', A2', B', r0, r1, r2, r3, ⟨r4, r5, r6⟩, r7, r8⟩
      · rw [p1] at r1
        have : (109 : Nat) = 152 := congrArg (fun z => z.1.1) (Option.some.inj r1)
        exact absurd this (by decide)
      · rw [p1] at r1
        have eA : A = A' := congrArg Prod.snd (Option.some.inj r1)
        have ev : pI (v : Int) = pI (w : Int) := congrArg (fun z => z.1.2) (Option.some.inj r1)
        subst eA
        rw [p2] at r2
        have eA2 : A2 = A2' := congrArg Prod.snd (Option.some.inj r2)
        subst eA2
        have r3' : g_X10_makeWay_L51 (pI r) (pI y) am_fu (0 : Int32) N = some ((109, pI w), B') := r3
        refine CS_yes (O := A2) (v := pI v) (Q := B') ?_ ?_ ?_ ?_ (fin A2 P N B' p4 fP f3 k3 r5 r6 r7 r8)
        · unfold g_L_makeWay
          rw [hcls]
          unfold g_X3_moveAside
          rw [p1', am_b_some, if_pos (show (109 : Nat) = 109 from rfl), p2, am_b_some, am_b_some, if_pos (show (0 : Int32) ≤ pI (v : Int) by rw [show (0 : Int32) = pI 0 from rfl, pi_le (by omega) (by omega) (by omega) (by omega)]; omega)]
          rfl
        · rw [← eP, h.1, r3', am_b_some, if_pos (show (109 : Nat) = 109 from rfl), ev]
        · rw [r6 0 (by omega) (by omega) (by omega)]
          exact t3
        · rw [← eP, fr_l r5 (by decide), fr_l f3 (by decide)]
end SI
