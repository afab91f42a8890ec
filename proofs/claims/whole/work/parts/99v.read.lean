/-! the case read -/
section SR2
theorem cs_read {M : am_M} (hI : INV M) : CS (g_L_read M) g_X10_read := by
  have hO := hI.1
  have hW := hI.2.1
  have h6 := hO.2.2.1
  have h7 := hO.2.2.2.1
  have h11 := hI.2.2.1
  obtain ⟨t1, t2, t3⟩ := hI.2.2.2.2.2.1
  obtain ⟨L, eL⟩ : ∃ L : Nat, iv M 174 7 = L := ⟨(iv M 174 7).toNat, by omega⟩
  rw [eL] at t1 t2 t3
  obtain ⟨ch, ec⟩ : ∃ ch : Nat → Int, ch = fun i => if i < L then iv M 179 i else -1 := ⟨_, rfl⟩
  have ch1 : ∀ i, i < L → ch i = iv M 179 i := fun i hi => by rw [ec]; exact if_pos hi
  have ch2 : ∀ i, L ≤ i → ch i = -1 := fun i hi => by rw [ec]; exact if_neg (by omega)
  have ch3 : ∀ i, i < L → 32 ≤ ch i ∧ ch i ≤ 126 := fun i hi => by
    rw [ch1 i hi]
    exact (t3 i (by omega)).2
  have hTC : TC ch L M := ⟨by omega, t1, fun i hi => by rw [ch1 i hi]; exact (t3 i (by omega)).1, ch2, ch3⟩
  have hTM : ∀ P, iv P 174 7 = L → (∀ i, iv P 179 i = iv M 179 i) → TM0 ch L P := fun P a1 a2 => ⟨by omega, a1, fun j hj => by rw [a2, ch1 j hj], ch2, ch3⟩
  obtain ⟨n, A1, fA1, hp⟩ := s_parse hTC
  have sA1 : sg A1 = sg M := sg_fr fA1 (by decide)
  have fKR : ∀ {X : List Nat} {A B : am_M}, fr X A B → (∀ a ∈ X, a < 190 ∧ ¬ (53 ≤ a ∧ a < 105) ∧ a ≠ 167 ∧ a ≠ 168 ∧ a ≠ 173 ∧ a ≠ 176 ∧ a ≠ 178 ∧ a ≠ 179) → fr KR A B := fun hf h => fr_mono hf (fun a ha => in_KR (h a ha).1 (h a ha).2)
  rcases hp with ⟨hS, g1, e1, hEA⟩ | ⟨hS, g1⟩
  rotate_left
  · -- no text
    have hpr := pp_rng ch2 n hS.1
    have her := en_rng ch2 (pp ch n)
    obtain ⟨e, ee⟩ : ∃ e, e = (enE ch (pp ch n)).2.2 := ⟨_, rfl⟩
    rw [← ee] at g1 her
    have he : e ≤ 47 := by omega
    obtain ⟨A2, eA2⟩ : ∃ A2, A2 = am_s (am_s A1 169 0 (pI 0)) 0 7 (pI e) := ⟨_, rfl⟩
    have f12 : fr [0, 169] A1 A2 := by rw [eA2]; exact fr_trans (N := am_s A1 169 0 (pI 0)) (fr_s (by simp)) (fr_s (by simp))
    have fM2 : fr [0, 169, 170, 171, 172] M A2 := fr_trans (fr_mono fA1 (by simp)) (fr_mono f12 (by simp))
    obtain ⟨B, eB⟩ : ∃ B, B = am_s A2 174 0 (pI 0) := ⟨_, rfl⟩
    have f2B : fr [174] A2 B := by rw [eB]; exact fr_s (by simp)
    have kB : ∀ i, i ≠ 0 → iv B 174 i = iv M 174 i := fun i hi => by rw [eB, iv_b hi]; exact fr_i fM2 (by decide) i
    obtain ⟨n', B1, k1, h2⟩ := s_isText (hTM B (by rw [kB 7 (by decide)]; exact eL) (fun i => by rw [fr_i f2B (by decide), fr_i fM2 (by decide)]))
    rcases h2 with ⟨hS', _⟩ | ⟨hS', g2, T2⟩
    · exact absurd (SP_uniq hS hS').2 (by decide)
    obtain ⟨rfl, _⟩ := SP_uniq hS hS'
    rw [← ee] at T2
    obtain ⟨Q, eQ⟩ : ∃ Q, Q = am_s (am_s (am_s B1 174 8 (pI e)) 174 7 (pI 0)) 174 0 (pI 1) := ⟨_, rfl⟩
    have fBQ : fr [174] B Q := by rw [eQ]; exact fr_trans k1.1 (fr_trans (N := am_s B1 174 8 (pI e)) (fr_s (by simp)) (fr_trans (N := am_s (am_s B1 174 8 (pI e)) 174 7 (pI 0)) (fr_s (by simp)) (fr_s (by simp))))
    have fMQ : fr [0, 169, 170, 171, 172, 174] M Q := fr_trans (fr_mono fM2 (by simp)) (fr_trans (fr_mono f2B (by simp)) (fr_mono fBQ (by simp)))
    have sQ : sg Q = sg M := sg_fr fMQ (by decide)
    have f2Q : fr [174] A2 Q := fr_trans f2B fBQ
    have kQ : ∀ i, i ≠ 0 → i ≠ 7 → i ≠ 8 → i ≠ 19 → i ≠ 20 → iv Q 174 i = iv M 174 i := fun i a0 a7 a8 a19 a20 => by
      rw [eQ, iv_b a0, iv_b a7, iv_b a8, k1.2 i a19 a20, kB i a0]
    have hINV : INV Q := by
      refine INV_read hI (by rw [sQ]; exact hO) (by rw [sQ]; exact WD_fr hW h6.2 h7.2 fMQ (by intro z z1 z2 z3; simp at z3; omega)) (fKR fMQ (by intro a ha; simp at ha; omega)) ?_ ?_ ?_ ?_ ?_ (kQ 4 (by omega) (by omega) (by omega) (by omega) (by omega)) (kQ 11 (by omega) (by omega) (by omega) (by omega) (by omega))
      · rw [fr_i f2Q (by decide), eA2, iv_s (by omega) (by omega), if_neg (by omega), iv_s (by omega) (by omega), if_neg (by omega)]
        exact fr_i fA1 (by decide) 6
      · rw [fr_i f2Q (by decide), eA2, iv_s (by omega) (by omega), if_neg (by omega), iv_s (by omega) (by omega), if_pos ⟨rfl, rfl⟩]
      · rw [eQ, iv_b (by decide), iv_a (by omega) (by omega)]
      · rw [fr_i f2Q (by decide), eA2, iv_s (by omega) (by omega), if_pos ⟨rfl, rfl⟩, eQ, iv_b (by decide), iv_b (by decide), iv_a (by omega) (by omega)]
      · rw [eQ, iv_b (by decide), iv_b (by decide), iv_a (by omega) (by omega)]
        omega
    refine CS_no (M := M) (k := 1) (P := A2) (v := 0) (Q := Q) ?_ ?_ (by rw [eQ, iv_a (by omega) (by omega)]) (by decide) hINV
    · unfold g_L_read g_X9_read
      rw [g1, am_b_some, if_neg (show ¬ (pI (e : Nat) < (0 : Int32)) by rw [show (0 : Int32) = pI 0 from rfl, pi_lt (by omega) (by omega) (by omega) (by omega)]; omega), show am_s (am_s A1 169 0 (0 : Int32)) 0 7 (pI (e : Nat)) = A2 from eA2.symm]
      rfl
    · unfold g_X10_read
      rw [show am_s A2 174 0 (0 : Int32) = B from eB.symm, g2, am_b_some, if_pos ci0, show am_g B1 174 19 = pI (e : Nat) by rw [pi_g, T2.2.1], eQ]
      rfl
  -- a text
  have hpr := pp_rng ch2 n hS.1
  have n105 : ∀ a, ¬ (105 ≤ a ∧ a < 157) → a ∉ RLw 105 := fun a h1 h2 => h1 ((mem_RLw (by omega)).mp h2)
  have n1 : ∀ a, ¬ (1 ≤ a ∧ a < 53) → a ∉ RLw 1 := fun a h1 h2 => h1 ((mem_RLw (by omega)).mp h2)
  have nKC : ∀ a, ¬ (1 ≤ a ∧ a < 53) → a ∉ KC := fun a h1 h2 => h1 (mem_KC.mp h2)
  obtain ⟨A2, eA2⟩ : ∃ A2, A2 = am_s A1 169 0 (pI 0) := ⟨_, rfl⟩
  have f12 : fr [169] A1 A2 := by rw [eA2]; exact fr_s (by simp)
  have fM2 : fr [169, 170, 171, 172] M A2 := fr_trans fA1 (fr_mono f12 (by simp))
  have hW2 : WD (sg M) 1 A2 := WD_fr hW h6.2 h7.2 fM2 (by intro z z1 z2 z3; simp at z3; omega)
  obtain ⟨A3, g2, f23, hW105⟩ := s_wcopy (w := 105) (v := 1) (M := A2) (by omega) (by omega) hO hW2
  have hW3 : WD (sg M) 1 A3 := WD_fr hW2 h6.2 h7.2 f23 (fun a b1 b2 => n105 a (by omega))
  have hEA3 : EA ch n A3 := fun j hj => by
    rw [fr_i f23 (n105 170 (by omega)), fr_i f23 (n105 171 (by omega)), fr_i f23 (n105 172 (by omega)), fr_i f12 (by decide), fr_i f12 (by decide), fr_i f12 (by decide)]
    exact hEA j hj
  have hA3 : iv A3 169 1 = n := by
    rw [fr_i f23 (n105 169 (by omega)), eA2, iv_b (by decide)]
    exact e1
  have hn14 : n ≤ 14 := by omega
  have run := fun (B : am_M) (hB : sg B = sg M) (hT : TMs ch L 0 1 B) => RE_loop (L := L) ch2 (by omega) hS n 0 am_fu am_fu A3 B (by omega) (by unfold am_fu; omega) (by unfold am_fu; omega) (by rw [hB]; exact hW3) (by rw [hB]; exact hO) hT hEA3 hA3
  have mstart : ∀ P, iv P 174 7 = L → (∀ i, iv P 179 i = iv M 179 i) → sg P = sg M → ∃ B5, g_X10_read P = am_b (g_X10_read_L67 am_fu (0 : Int32) (1 : Int32) B5) (fun x15 M16 => (g_X10_read_J94 x15.1 x15.2 M16)) ∧ TMs ch L 0 1 B5 ∧ sg B5 = sg M ∧ fr [174, 177] P B5 ∧ (∀ i, i ≠ 0 → i ≠ 19 → i ≠ 20 → iv B5 174 i = iv P 174 i) ∧ ∀ k, k < 406 → iv B5 177 k = sg M k := by
    intro P hP7 hP179 hsP
    obtain ⟨B, eB⟩ : ∃ B, B = am_s P 174 0 (pI 0) := ⟨_, rfl⟩
    have fB : fr [174] P B := by rw [eB]; exact fr_s (by simp)
    obtain ⟨n', B1, k1, h2⟩ := s_isText (hTM B (by rw [eB, iv_b (by decide)]; exact hP7) (fun i => by rw [fr_i fB (by decide)]; exact hP179 i))
    rcases h2 with ⟨hS', g3, T3⟩ | ⟨hS', _⟩
    rotate_left
    · exact absurd (SP_uniq hS hS').2 (by decide)
    obtain ⟨rfl, _⟩ := SP_uniq hS hS'
    obtain ⟨B2, g4, f4, p4⟩ := s_mframe B1
    have T4 : TMs ch L (pp ch n) 1 B2 := ⟨⟨T3.1.1, by rw [fr_i f4 (by decide)]; exact T3.1.2.1, fun j hj => by rw [fr_i f4 (by decide)]; exact T3.1.2.2.1 j hj, T3.1.2.2.2⟩, by rw [fr_i f4 (by decide)]; exact T3.2.1, by rw [fr_i f4 (by decide)]; exact T3.2.2⟩
    have fPB1 : fr [174] P B1 := fr_trans fB k1.1
    refine ⟨am_s B2 174 19 (pI (0 : Nat)), ?_, TM_19 T4 (by omega), ?_, ?_, fun i a0 a1 a2 => ?_, fun k hk => ?_⟩
    · unfold g_X10_read
      rw [show am_s P 174 0 (0 : Int32) = B from eB.symm, g3, am_b_some, if_neg ci1, g4, am_b_some]
      rfl
    · rw [sg_s (by decide), sg_fr f4 (by decide), sg_fr fPB1 (by decide)]
      exact hsP
    · exact fr_trans (fr_mono fPB1 (by simp)) (fr_trans (fr_mono f4 (by simp)) (fr_s (by simp)))
    · rw [iv_b a1, fr_i f4 (by decide), k1.2 i a1 a2, eB, iv_b a0]
    · rw [iv_c (by decide), p4 k hk, fr_i fPB1 (by decide)]
      exact congrFun hsP k
  have hB0 : TMs ch L 0 1 (am_s (am_s M 174 19 (pI (0 : Nat))) 174 20 (pI (1 : Nat))) := TM0_set (hTM M eL (fun _ => rfl)) (by omega) (by omega)
  have sB0 : sg (am_s (am_s M 174 19 (pI (0 : Nat))) 174 20 (pI (1 : Nat))) = sg M := (sg_s (by decide)).trans (sg_s (by decide))
  obtain ⟨u, r, z, A4, B4, c1, c2, fA4, _, hres⟩ := run _ sB0 hB0
  have c1' : g_X9_doEntries_L13 am_fu (0 : Int32) A3 = some (u, A4) := c1
  have f34 : fr KC A3 A4 := fA4
  have det : ∀ {u' : Nat} {A' : am_M}, g_X9_doEntries_L13 am_fu (pI (0 : Nat)) A3 = some (u', A') → u = u' ∧ A4 = A' := fun h => by
    rw [c1] at h
    exact ⟨congrArg Prod.fst (Option.some.inj h), congrArg Prod.snd (Option.some.inj h)⟩
  have hread : g_X9_read M = am_b (g_X9_doEntries A2) (fun v6 M5 => (if v6 = (0 : Int32) then (some ((.inr 3 : Int32 ⊕ Nat), M5)) else (some ((.inl (am_g M5 169 1) : Int32 ⊕ Nat), M5)))) := by
    unfold g_X9_read
    rw [g1, am_b_some, if_pos (by decide), show am_s A1 169 0 (0 : Int32) = A2 from eA2.symm]
  have h00 : ∀ k, iv A4 0 k = iv M 0 k := fun k => by
    rw [fr_i f34 (nKC 0 (by omega)), fr_i f23 (n105 0 (by omega)), fr_i fM2 (by decide)]
  have hA4i : ∀ a, ¬ (1 ≤ a ∧ a < 53) → ¬ (105 ≤ a ∧ a < 157) → a ≠ 169 → a ≠ 170 → a ≠ 171 → a ≠ 172 → ∀ k, iv A4 a k = iv M a k := fun a b1 b2 b3 b4 b5 b6 k => by
    rw [fr_i f34 (nKC a b1), fr_i f23 (n105 a b2), fr_i fM2 (by simp; omega)]
  have h169 : iv A4 169 0 = 0 := by
    rw [fr_i f34 (nKC 169 (by omega)), fr_i f23 (n105 169 (by omega)), eA2, iv_a (by omega) (by omega)]
  have fM4 : fr KR M A4 := fr_trans (fKR fM2 (by intro a ha; simp at ha; omega)) (fr_trans (fKR f23 (by intro a ha; have := (mem_RLw (by omega)).mp ha; omega)) (fKR f34 (by intro a ha; have := mem_KC.mp ha; omega)))
  rcases hres with ⟨rfl, rfl, rfl, _, _⟩ | ⟨rfl, rfl⟩
  · -- all entries are done
    obtain ⟨P, eP⟩ : ∃ P, P = am_ls A4 186 0 (pI (n : Nat)).toInt64 := ⟨_, rfl⟩
    have fP : fr [186] A4 P := by rw [eP]; exact fr_ls (by simp)
    have sP : sg P = sg M := (sg_fr fP (by decide)).trans (funext fun k => hA4i 175 (by omega) (by omega) (by omega) (by omega) (by omega) (by omega) k)
    obtain ⟨B5, m1, m2, m3, m4, m5, m6⟩ := mstart P (by rw [fr_i fP (by decide), hA4i 174 (by omega) (by omega) (by omega) (by omega) (by omega) (by omega)]; exact eL) (fun i => by rw [fr_i fP (by decide)]; exact hA4i 179 (by omega) (by omega) (by omega) (by omega) (by omega) (by omega) i) sP
    obtain ⟨u', r', z', A', B', d1, d2, _, ⟨fB', kB'⟩, hres'⟩ := run B5 m3 m2
    obtain ⟨eu, eA⟩ := det d1
    subst eA
    rcases hres' with ⟨_, rfl, rfl, W', O'⟩ | ⟨q, _⟩
    rotate_left
    · omega
    have d2' : g_X10_read_L67 am_fu (0 : Int32) (1 : Int32) B5 = some ((pI (n : Nat), pI 1), B') := d2
    obtain ⟨Q, eQ⟩ : ∃ Q, Q = am_s (am_s B' 174 7 (pI 0)) 174 0 (pI 0) := ⟨_, rfl⟩
    have fB'Q : fr [174] B' Q := by rw [eQ]; exact fr_trans (N := am_s B' 174 7 (pI 0)) (fr_s (by simp)) (fr_s (by simp))
    have sQ : sg Q = sg B' := sg_fr fB'Q (by decide)
    have f4Q : fr [174, 175, 177, 180, 181, 186] A4 Q := fr_trans (fr_mono fP (by simp)) (fr_trans (fr_mono m4 (by simp)) (fr_trans (fr_mono fB' (by simp)) (fr_mono fB'Q (by simp))))
    have kQ : ∀ i, i ≠ 0 → i ≠ 7 → i ≠ 19 → i ≠ 20 → iv Q 174 i = iv M 174 i := fun i a0 a7 a19 a20 => by
      rw [eQ, iv_b a0, iv_b a7, kB' i a0 a19 a20, m5 i a0 a19 a20, fr_i fP (by decide), hA4i 174 (by omega) (by omega) (by omega) (by omega) (by omega) (by omega)]
    have hie := hI.2.2.2.2.2.2
    unfold IEr at hie
    have hINV : INV Q := by
      refine INV_read hI (by rw [sQ]; exact O') (by rw [sQ]; exact WD_fr W' O'.2.2.1.2 O'.2.2.2.1.2 f4Q (by intro z z1 z2 z3; simp at z3; omega)) (fr_trans fM4 (fKR f4Q (by intro a ha; simp at ha; omega))) ?_ ?_ ?_ ?_ ?_ (kQ 4 (by omega) (by omega) (by omega) (by omega)) (kQ 11 (by omega) (by omega) (by omega) (by omega))
      · rw [fr_i f4Q (by decide)]; exact h00 6
      · rw [fr_i f4Q (by decide)]; exact h169
      · rw [eQ, iv_b (by decide), iv_a (by omega) (by omega)]
      · rw [fr_i f4Q (by decide), h00 7, kQ 8 (by omega) (by omega) (by omega) (by omega)]
        exact hie.1
      · rw [kQ 8 (by omega) (by omega) (by omega) (by omega)]
        exact hie.2
    refine CS_yes (O := A4) (v := pI (n : Nat)) (Q := Q) ?_ ?_ (by rw [eQ, iv_a (by omega) (by omega)]) ?_ hINV
    · unfold g_L_read
      rw [hread]
      unfold g_X9_doEntries
      rw [g2, am_b_some, c1', am_b_some, if_neg (by decide), am_b_some, if_neg (by decide), show am_g A4 169 1 = pI (n : Nat) by rw [pi_g, fr_i f34 (nKC 169 (by omega)), hA3]]
      rfl
    · rw [← eP, m1, d2', am_b_some]
      unfold g_X10_read_J94
      rw [if_neg ci1, eQ]
      rfl
    · rw [← eP, fr_l fB'Q (by decide), fr_l fB' (by decide), fr_l m4 (by decide)]
  · -- one can't be done
    have hW105' : WD (sg M) 105 A4 := WD_fr hW105 h6.2 h7.2 f34 (fun a b1 b2 => nKC a (by omega))
    obtain ⟨A5, g5, f45, hW5⟩ := s_wcopy (w := 1) (v := 105) (M := A4) (by omega) (by omega) hO hW105'
    have hA5i : ∀ a, ¬ (1 ≤ a ∧ a < 53) → ∀ k, iv A5 a k = iv A4 a k := fun a b1 k => fr_i f45 (n1 a b1) k
    have sA5 : sg A5 = sg M := funext fun k => (hA5i 175 (by omega) k).trans (hA4i 175 (by omega) (by omega) (by omega) (by omega) (by omega) (by omega) k)
    obtain ⟨B5, m1, m2, m3, m4, m5, m6⟩ := mstart A5 (by rw [hA5i 174 (by omega), hA4i 174 (by omega) (by omega) (by omega) (by omega) (by omega) (by omega)]; exact eL) (fun i => by rw [hA5i 179 (by omega)]; exact hA4i 179 (by omega) (by omega) (by omega) (by omega) (by omega) (by omega) i) sA5
    obtain ⟨u', r', z', A', B', d1, d2, _, ⟨fB', kB'⟩, hres'⟩ := run B5 m3 m2
    obtain ⟨eu, eA⟩ := det d1
    rcases hres' with ⟨q, _⟩ | ⟨_, rfl⟩
    · omega
    have d2' : g_X10_read_L67 am_fu (0 : Int32) (1 : Int32) B5 = some ((pI r', pI 0), B') := d2
    obtain ⟨C, eC⟩ : ∃ C, C = am_s (am_s B' 174 7 (pI 0)) 174 0 (pI 0) := ⟨_, rfl⟩
    have fB'C : fr [174] B' C := by rw [eC]; exact fr_trans (N := am_s B' 174 7 (pI 0)) (fr_s (by simp)) (fr_s (by simp))
    obtain ⟨C2, g6, f6, p6⟩ := s_mback C
    obtain ⟨Q, eQ⟩ : ∃ Q, Q = am_s C2 174 0 (pI 2) := ⟨_, rfl⟩
    have fC2Q : fr [174] C2 Q := by rw [eQ]; exact fr_s (by simp)
    have f5Q : fr [174, 175, 177, 180, 181] A5 Q := fr_trans (fr_mono m4 (by simp)) (fr_trans (fr_mono fB' (by simp)) (fr_trans (fr_mono fB'C (by simp)) (fr_trans (fr_mono f6 (by simp)) (fr_mono fC2Q (by simp)))))
    have sQ : ∀ k, k < 406 → sg Q k = sg M k := fun k hk => by
      show iv Q 175 k = _
      rw [fr_i fC2Q (by decide), p6 k hk, fr_i fB'C (by decide), fr_i fB' (by decide), m6 k hk]
    have kQ : ∀ i, i ≠ 0 → i ≠ 7 → i ≠ 19 → i ≠ 20 → iv Q 174 i = iv M 174 i := fun i a0 a7 a19 a20 => by
      rw [eQ, iv_b a0, fr_i f6 (by decide), eC, iv_b a0, iv_b a7, kB' i a0 a19 a20, m5 i a0 a19 a20, hA5i 174 (by omega), hA4i 174 (by omega) (by omega) (by omega) (by omega) (by omega) (by omega)]
    have hie := hI.2.2.2.2.2.2
    unfold IEr at hie
    have hINV : INV Q := by
      refine INV_read hI (OK_agree sQ hO) (WD_agree sQ hO (WD_fr hW5 h6.2 h7.2 f5Q (by intro z z1 z2 z3; simp at z3; omega))) (fr_trans fM4 (fr_trans (fKR f45 (by intro a ha; have := (mem_RLw (by omega)).mp ha; omega)) (fKR f5Q (by intro a ha; simp at ha; omega)))) ?_ ?_ ?_ ?_ ?_ (kQ 4 (by omega) (by omega) (by omega) (by omega)) (kQ 11 (by omega) (by omega) (by omega) (by omega))
      · rw [fr_i f5Q (by decide), hA5i 0 (by omega)]; exact h00 6
      · rw [fr_i f5Q (by decide), hA5i 169 (by omega)]; exact h169
      · rw [eQ, iv_b (by decide), fr_i f6 (by decide), eC, iv_b (by decide), iv_a (by omega) (by omega)]
      · rw [fr_i f5Q (by decide), hA5i 0 (by omega), h00 7, kQ 8 (by omega) (by omega) (by omega) (by omega)]
        exact hie.1
      · rw [kQ 8 (by omega) (by omega) (by omega) (by omega)]
        exact hie.2
    refine CS_no (M := M) (k := 2) (P := A5) (v := 0) (Q := Q) ?_ ?_ (by rw [eQ, iv_a (by omega) (by omega)]) (by decide) hINV
    · unfold g_L_read
      rw [hread]
      unfold g_X9_doEntries
      rw [g2, am_b_some, c1', am_b_some, if_pos rfl, g5, am_b_some, am_b_some, if_pos rfl]
      rfl
    · rw [m1, d2', am_b_some]
      unfold g_X10_read_J94
      rw [if_pos ci0, show am_s (am_s B' 174 7 (0 : Int32)) 174 0 (0 : Int32) = C from eC.symm, g6, am_b_some, eQ]
      rfl
end SR2
