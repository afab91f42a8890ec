/-! the row and the world with one robot more -/
section RG
theorem ro_new {σ : Nat → Int} {c b : Int} {M N : am_M} (hO : OK σ) (hW : WD σ 1 M) (h : fRo σ c b = 0) (hf : fr [1, 16 + 5 * (σ 6).toNat, 17 + 5 * (σ 6).toNat, 19 + 5 * (σ 6).toNat, 20 + 5 * (σ 6).toNat] M N) (n1 : ∀ k, k ≠ 2 → iv N 1 k = iv M 1 k) (n2 : iv N 1 2 = σ 6 + 1) (b2 : iv N (16 + 5 * (σ 6).toNat) 2 = b) (b3 : iv N (16 + 5 * (σ 6).toNat) 3 = -1) (b4 : iv N (16 + 5 * (σ 6).toNat) 4 = σ 0) (p2 : iv N (17 + 5 * (σ 6).toNat) 2 = σ 0) (p3 : iv N (17 + 5 * (σ 6).toNat) 3 = 0) (pp : iv N (19 + 5 * (σ 6).toNat) 0 = c) (ps : ∀ k, k < 5 → iv N (20 + 5 * (σ 6).toNat) k = 0) : OK (roF σ (σ 6).toNat c b) ∧ WD (roF σ (σ 6).toNat c b) 1 N := by
  obtain ⟨hcell, ⟨hb, hwall⟩, hno⟩ := fRo_ok h
  have hO' := hO
  obtain ⟨hC, hwl, h6, h7, hkd, hRF, hTF, hNC⟩ := hO
  obtain ⟨r, er⟩ : ∃ r : Nat, σ 6 = r := ⟨(σ 6).toNat, by omega⟩
  rw [er, Int.toNat_natCast] at hf b2 b3 b4 p2 p3 pp ps
  rw [show (σ 6).toNat = r by omega]
  have hr5 : r < 5 := by
    by_cases q : r < 5
    · exact q
    · exact absurd (Or.inl (by omega)) hno
  have hmet : ¬ met σ c (-1) := fun q => hno (Or.inr q)
  have hlow : ∀ i : Nat, i < 88 → i ≠ 6 → roF σ r c b i = σ i := fun i h1 h2 => by unfold roF; rw [if_neg h2, if_neg (by omega), if_neg (by omega), if_neg (by omega), if_neg (by omega)]
  have hhi : ∀ i : Nat, 298 ≤ i → roF σ r c b i = σ i := fun i h1 => by unfold roF; rw [if_neg (by omega), if_neg (by omega), if_neg (by omega), if_neg (by omega), if_neg (by omega)]
  have e6 : roF σ r c b 6 = (r : Int) + 1 := by unfold roF; rw [if_pos rfl]
  have e7 := hlow 7 (by omega) (by omega)
  have e0 := hlow 0 (by omega) (by omega)
  have hk6 : ∀ i : Nat, i < 6 → roF σ r c b i = σ i := fun i hi => hlow i (by omega) (by omega)
  have hro : ∀ o k' : Nat, o < r → k' < 42 → ro (roF σ r c b) o k' = ro σ o k' := fun o k' ho hk' => by
    rw [ro_nat, ro_nat]
    unfold roF
    rw [if_neg (by omega), if_neg (by omega), if_neg (by omega), if_neg (by omega), if_neg (by omega)]
  have hnew : ∀ k' : Nat, k' < 42 → ro (roF σ r c b) r k' = if k' = 4 then -1 else if k' = 1 then b else if k' = 0 then c else 0 := fun k' hk' => by
    rw [ro_nat]
    unfold roF
    rw [if_neg (by omega)]
    by_cases q4 : k' = 4
    · rw [if_pos (by omega), if_pos q4]
    · rw [if_neg (by omega), if_neg q4]
      by_cases q1 : k' = 1
      · rw [if_pos (by omega), if_pos q1]
      · rw [if_neg (by omega), if_neg q1]
        by_cases q0 : k' = 0
        · rw [if_pos (by omega), if_pos q0]
        · rw [if_neg (by omega), if_neg q0, if_pos (by omega)]
  have m0 : ro (roF σ r c b) r 0 = c := hnew 0 (by omega)
  have m1 : ro (roF σ r c b) r 1 = b := hnew 1 (by omega)
  have m2 : ro (roF σ r c b) r 2 = 0 := hnew 2 (by omega)
  have m3 : ro (roF σ r c b) r 3 = 0 := hnew 3 (by omega)
  have m4 : ro (roF σ r c b) r 4 = -1 := hnew 4 (by omega)
  have m10 : ro (roF σ r c b) r 10 = 0 := hnew 10 (by omega)
  have m77 : ro (roF σ r c b) r 7 = 0 := hnew 7 (by omega)
  have hit : ∀ j k' : Nat, it (roF σ r c b) j k' = it σ j k' := fun j k' => by rw [it_nat, it_nat, hhi _ (by omega)]
  have hSR : ∀ o : Nat, o < r → SR σ (roF σ r c b) o := fun o ho k' hk' _ => hro o k' ho hk'
  have hfp : ∀ o : Nat, o < r → ∀ t, fp (roF σ r c b) o t = fp σ o t := fun o ho t => fp_SR hk6 hwl (hSR o ho) (hRF o (by omega)).1 t
  have hfs : ∀ t, fs (roF σ r c b) r t = (c, t, 0) := by
    intro t
    induction t with
    | zero => rw [fs, m0, m3]
    | succ t ih =>
      have hfw : fw (roF σ r c b) r t = 0 := by unfold fw; rw [m2, if_neg (by omega)]
      rw [fs, ih]
      dsimp only
      rw [hfw, tk_zero, if_pos (by omega), mvs_zero]
  have hfpr : ∀ t, fp (roF σ r c b) r t = c := fun t => by
    unfold fp
    rw [hfs t]
    dsimp only
    rw [if_neg (by omega)]
  have hwr : wr (roF σ r c b) r := by
    refine ⟨by rw [m2]; omega, fun k hk => by rw [m2] at hk; omega, fun k hk => ?_, by rw [m3]; omega, by rw [m3]; omega, ?_⟩
    · rw [m2] at hk
      have : k = 0 := by omega
      subst this
      rw [ck, m0]
      exact hcell
    · rw [m2, m3]
      show (0 : Int) - 0 ≤ 30
      omega
  have hn1 : ∀ a, a ≠ 1 → a ≠ 16 + 5 * r → a ≠ 17 + 5 * r → a ≠ 19 + 5 * r → a ≠ 20 + 5 * r → a ∉ [1, 16 + 5 * r, 17 + 5 * r, 19 + 5 * r, 20 + 5 * r] := fun a c1 c2 c3 c4 c5 h => by
    simp only [List.mem_cons, List.not_mem_nil, or_false] at h
    omega
  constructor
  · refine ⟨by rw [e0]; exact hC, wl_congr hk6 hwl, by rw [e6]; omega, by rw [e7]; exact h7, fun d hd => by rw [hlow _ (by omega) (by omega)]; exact hkd d hd, fun o ho => ?_, fun j hj => ?_, fun x o hx ho hne t ht => ?_⟩
    · rw [e6] at ho
      by_cases q : o = r
      · subst q
        refine ⟨hwr, fun t ht => ?_, by rw [m10, m77, e0]; omega, by rw [m4, e7]; omega, fun q => by rw [m4] at q; omega⟩
        rw [hfpr, hlow _ (by omega) (by omega), show (8 + c).toNat = 8 + c.toNat by omega]
        exact hwall
      · obtain ⟨q1, q2, q3, q4, q5⟩ := hRF o (by omega)
        have r2 : ro (roF σ r c b) o 2 = ro σ o 2 := hro o 2 (by omega) (by omega)
        have r4 : ro (roF σ r c b) o 4 = ro σ o 4 := hro o 4 (by omega) (by omega)
        have r10 : ro (roF σ r c b) o 10 = ro σ o 10 := hro o 10 (by omega) (by omega)
        have r77 : ro (roF σ r c b) o 7 = ro σ o 7 := hro o 7 (by omega) (by omega)
        refine ⟨wr_SR hk6 hwl (hSR o (by omega)) q1, fun t ht => ?_, by rw [r10, r77, e0]; exact q3, by rw [r4, e7]; exact q4, fun h4 => ?_⟩
        · have hrg := fp_rng q1 t
          rw [hfp o (by omega)] at ht ⊢
          rw [hlow _ (by omega) (by omega)]
          exact q2 t ht
        · rw [r4] at h4 ⊢
          obtain ⟨a1, a2, a3⟩ := q5 h4
          obtain ⟨t, et⟩ : ∃ t : Nat, ro σ o 4 = t := ⟨(ro σ o 4).toNat, by omega⟩
          rw [et] at a2 a3 ⊢
          have i4 : it (roF σ r c b) t 4 = it σ t 4 := hit t 4
          have i6 : it (roF σ r c b) t 6 = it σ t 6 := hit t 6
          rw [r2, i4, i6]
          exact ⟨a1, a2, a3⟩
    · rw [e7] at hj
      have i0 : it (roF σ r c b) j 0 = it σ j 0 := hit j 0
      have i1 : it (roF σ r c b) j 1 = it σ j 1 := hit j 1
      have i2 : it (roF σ r c b) j 2 = it σ j 2 := hit j 2
      have i3 : it (roF σ r c b) j 3 = it σ j 3 := hit j 3
      have i4 : it (roF σ r c b) j 4 = it σ j 4 := hit j 4
      have i6 : it (roF σ r c b) j 6 = it σ j 6 := hit j 6
      unfold TF
      rw [i0, i1, i2, i3, i4, i6]
      exact hTF j hj
    · rw [e6] at hx ho
      by_cases q : x = r
      · subst q
        rw [hfpr, hfp o (by omega)]
        exact met_late hO' hmet (by omega) t
      · by_cases q2 : o = r
        · subst q2
          rw [hfpr, hfp x (by omega)]
          exact fun e => met_late hO' hmet (r := x) (by omega) t e.symm
        · rw [hfp x (by omega)] at ht ⊢
          rw [hfp o (by omega)]
          exact hNC x o (by omega) (by omega) hne t ht
  · obtain ⟨F, W2, W3, W4, W5⟩ := hW
    obtain ⟨F1, F2, F3, F4⟩ := FLw_fr F hf (fun a b1 b2 => hn1 a (by omega) (by omega) (by omega) (by omega) (by omega))
    have hwl1 := hwl.1
    refine ⟨⟨by rw [hlow 1 (by omega) (by omega)]; exact F1, fun k hk => ?_, fun d hd => by rw [hlow _ (by omega) (by omega)]; exact F3 d hd, fun d a hd ha => by rw [mvs_congr hk6 hwl]; exact F4 d a hd ha⟩, ?_, fun d hd => ?_, fun i hi => ?_, fun j hj => ?_⟩
    · rw [hlow 1 (by omega) (by omega)] at hk
      rw [hlow _ (by omega) (by omega)]
      exact F2 k hk
    · rw [e6, e7, e0, n2, n1 3 (by omega), n1 4 (by omega)]
      exact ⟨by omega, W2.2⟩
    · rw [hlow _ (by omega) (by omega), fr_i hf (hn1 _ (by omega) (by omega) (by omega) (by omega) (by omega))]
      exact W3 d hd
    · rw [e6] at hi
      by_cases q : i = r
      · subst q
        refine ⟨?_, ?_, ?_, ?_, fun k hk => ?_⟩
        · rw [e0, show 1 + 16 + 5 * i = 17 + 5 * i by omega]
          refine ⟨0, 0, m2, by rw [p3]; rfl, by rw [p3]; omega, by rw [p2]; exact hC.1, by rw [p2, if_neg (by omega)]; omega, fun k j hk hj => by omega, ?_, fun k hk => by omega⟩
          rw [show 17 + 5 * i + 2 = 19 + 5 * i by omega, ck, m0]
          exact pp
        · rw [m1, show 1 + 15 + 5 * i = 16 + 5 * i by omega]; exact b2
        · rw [m4, show 1 + 15 + 5 * i = 16 + 5 * i by omega]; exact b3
        · rw [m10, e0, show 1 + 15 + 5 * i = 16 + 5 * i by omega, b4]; omega
        · have := hnew (5 + k) (by omega)
          rw [show ((5 + k : Nat) : Int) = 5 + (k : Int) by omega, if_neg (by omega), if_neg (by omega), if_neg (by omega)] at this
          rw [this, show 1 + 19 + 5 * i = 20 + 5 * i by omega]
          exact ps k hk
      · exact RB_SR hk6 hwl (fun k' hk' => hro i k' (by omega) hk') (hRF i (by omega)).1.1.2 (RB_fr (W4 i (by omega)) hf (fun a c1 c2 => hn1 a (by omega) (by omega) (by omega) (by omega) (by omega)))
    · rw [e7] at hj
      exact (TB_iff (w := 1) (fun k' => it σ j k') (fun k' _ => hit j k')).mpr ((TB_iff (w := 1) (fun k' => it σ j k') (fun k' _ => rfl)).mp (TB_fr (W5 j hj) hf (hn1 _ (by omega) (by omega) (by omega) (by omega) (by omega))))
theorem cs_addRobot {M : am_M} (hI : INV M) (a b : Int32) : CS (g_L_addRobot a b M) (g_X10_addRobot a b) := by
  obtain ⟨x, rfl, hx1, hx2⟩ := pi_cast a
  obtain ⟨y, rfl, hy1, hy2⟩ := pi_cast b
  have hO := hI.1
  have h6 := hO.2.2.1
  obtain ⟨N, g1, hN0, hN1⟩ := s_makeRobot hI.2.1 hO hx1 hx2 hy1 hy2
  have h9 : g_X9_addRobot (pI x) (pI y) M = am_bx (g_X9_raise (pI (fRo (sg M) x y)) N) (fun _ M5 => (some ((.inl ((am_g M5 1 2) - (1 : Int32)) : Int32 ⊕ Nat), M5))) := by
    unfold g_X9_addRobot
    rw [g1, am_b_some]
  by_cases hf : fRo (sg M) x y = 0
  · obtain ⟨hcell, ⟨hb, hwall⟩, hno⟩ := fRo_ok hf
    have h65 : sg M 6 < 5 := by
      by_cases q : sg M 6 < 5
      · exact q
      · exact absurd (Or.inl (by omega)) hno
    obtain ⟨fMN, q1, q2, q3, q4, q5, q6, q7, q8, q9⟩ := hN1 hf
    obtain ⟨n1, n2⟩ := ro_new hO hI.2.1 hf fMN q1 q2 q3 q4 q5 q6 q7 q8 q9
    have fMN' : fr KX M N := fr_mono fMN (fun z hz => mem_KX.mpr (by simp at hz; omega))
    rw [hf] at h9
    have e3 : am_g N 1 2 - (1 : Int32) = pI (sg M 6) := by
      rw [pi_g, q2, show (1 : Int32) = pI 1 from rfl, pi_sub, show sg M 6 + 1 - 1 = sg M 6 by omega]
    obtain ⟨v, Q, g2, f2, k2, t0, v1, v2, v3⟩ := s_maddRobot (P := am_ls N 186 0 (pI (sg M 6)).toInt64) (σ := sg M) (show sg N = sg M from sg_fr fMN (by simp; omega)) hO hx1 hx2 hy1 hy2
    obtain ⟨e1, e2⟩ := v2 hf
    have fNQ : fr [174, 175, 180, 181, 186] N Q := fr_trans (N := am_ls N 186 0 (pI (sg M 6)).toInt64) (fr_ls (by simp)) (fr_mono f2 (by simp))
    have hk : ∀ i, i ≠ 0 → iv Q 174 i = iv M 174 i := fun i hi => by
      rw [k2 i hi]
      show iv N 174 i = _
      exact fr_i fMN (by simp; omega) i
    have hIQ : INV Q := INV_set hI (by rw [e2]; exact n1) (by
      rw [e2]
      exact WD_fr n2 n1.2.2.1.2 n1.2.2.2.1.2 fNQ (by intro z z1 z2 z3; simp at z3; omega)) (fr_trans fMN' (fr_mono fNQ (by decide))) (hk 4 (by omega)) (hk 7 (by omega)) (hk 8 (by omega)) (hk 11 (by omega))
    refine CS_yes (O := N) (v := pI (sg M 6)) (Q := Q) ?_ ?_ (by rw [t0, hf]) (fr_l f2 (by decide) 0) hIQ
    · unfold g_L_addRobot
      rw [h9, show g_X9_raise (pI 0) N = some ((.inl () : Unit ⊕ Nat), N) from rfl, am_bx_inl, e3]
      rfl
    · rw [g2, e1]
  · have hNM := hN0 hf
    subst hNM
    obtain ⟨v, Q, g2, f2, k2, t0, v1, v2, v3⟩ := s_maddRobot (P := N) (σ := sg N) rfl hO hx1 hx2 hy1 hy2
    have hIQ : INV Q := INV_set hI (by rw [v3 hf]; exact hO) (by
      rw [v3 hf]
      exact WD_fr hI.2.1 hO.2.2.1.2 hO.2.2.2.1.2 f2 (by intro z z1 z2 z3; simp at z3; omega)) (fr_mono f2 (by decide)) (k2 4 (by omega)) (k2 7 (by omega)) (k2 8 (by omega)) (k2 11 (by omega))
    rcases fRo_rng (sg N) x y with q | q | q | q
    · exact absurd q hf
    · refine CS_no (M := N) (k := 1) (P := N) (Q := Q) (v := pI v) ?_ g2 (by rw [t0, q]) (by decide) hIQ
      unfold g_L_addRobot
      rw [h9, q]
      rfl
    · refine CS_no (M := N) (k := 2) (P := N) (Q := Q) (v := pI v) ?_ g2 (by rw [t0, q]) (by decide) hIQ
      unfold g_L_addRobot
      rw [h9, q]
      rfl
    · refine CS_no (M := N) (k := 3) (P := N) (Q := Q) (v := pI v) ?_ g2 (by rw [t0, q]) (by decide) hIQ
      unfold g_L_addRobot
      rw [h9, q]
      rfl
end RG
