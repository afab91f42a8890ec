/-! what of a robot's row says where it goes -/
section EVS
def S3 (σ τ : Nat → Int) (r : Nat) : Prop := ro τ r 0 = ro σ r 0 ∧ ro τ r 2 = ro σ r 2 ∧ ro τ r 3 = ro σ r 3 ∧ ∀ k : Nat, k < 30 → ac τ r k = ac σ r k
theorem ck_S3 {σ τ : Nat → Int} {r : Nat} (hm : ∀ c a, mvs τ c a = mvs σ c a) (h : S3 σ τ r) : ∀ k : Nat, k ≤ 30 → ck τ r k = ck σ r k
  | 0, _ => h.1
  | k + 1, hk => by rw [ck, ck, ck_S3 hm h k (by omega), hm, h.2.2.2 k (by omega)]
theorem lt_S3 {σ τ : Nat → Int} {r : Nat} (h : S3 σ τ r) : ∀ k : Nat, k ≤ 30 → lt (al τ r) k = lt (al σ r) k
  | 0, _ => rfl
  | k + 1, hk => by
    have : al τ r k = al σ r k := h.2.2.2 k (by omega)
    rw [lt, lt, lt_S3 h k (by omega), this]
theorem wr_S3 {σ τ : Nat → Int} {r : Nat} (hm : ∀ c a, mvs τ c a = mvs σ c a) (h : S3 σ τ r) (hw : wr σ r) : wr τ r := by
  obtain ⟨w1, w2, w3, w4, w5, w6⟩ := hw
  obtain ⟨e0, e2, e3, ea⟩ := h
  have e0a : ac τ r 0 = ac σ r 0 := ea 0 (by omega)
  refine ⟨by rw [e2]; exact w1, fun k hk => ?_, fun k hk => ?_, by rw [e3]; exact w4, by rw [e2, e3, e0a]; exact w5, ?_⟩
  · rw [e2] at hk
    rw [ea k (by omega)]
    exact w2 k hk
  · rw [e2] at hk
    rw [ck_S3 hm ⟨e0, e2, e3, ea⟩ k (by omega)]
    exact w3 k hk
  · rw [pk_tl] at w6 ⊢
    rw [e2, e3, lt_S3 ⟨e0, e2, e3, ea⟩ _ (by omega)]
    exact w6
theorem fw_S3 {σ τ : Nat → Int} {r : Nat} (h : S3 σ τ r) (hw : wr σ r) (k : Nat) : fw τ r k = fw σ r k := by
  have w1 := hw.1
  unfold fw
  rw [h.2.1]
  by_cases c : (k : Int) < ro σ r 2
  · rw [if_pos c, if_pos c, h.2.2.2 k (by omega)]
  · rw [if_neg c, if_neg c]
theorem fs_S3 {σ τ : Nat → Int} {r : Nat} (hm : ∀ c a, mvs τ c a = mvs σ c a) (h : S3 σ τ r) (hw : wr σ r) : ∀ t : Nat, fs τ r t = fs σ r t
  | 0 => by
    show (ro τ r 0, 0, ro τ r 3) = (ro σ r 0, 0, ro σ r 3)
    rw [h.1, h.2.2.1]
  | t + 1 => by
    rw [fs, fs, fs_S3 hm h hw t, fw_S3 h hw, hm]
theorem fa_S3 {σ τ : Nat → Int} {r : Nat} (hm : ∀ c a, mvs τ c a = mvs σ c a) (h : S3 σ τ r) (hw : wr σ r) (t : Nat) : fa τ r t = fa σ r t := by
  unfold fa
  rw [fs_S3 hm h hw, fw_S3 h hw]
theorem fp_S3 {σ τ : Nat → Int} {r : Nat} (hm : ∀ c a, mvs τ c a = mvs σ c a) (h : S3 σ τ r) (hw : wr σ r) (t : Nat) : fp τ r t = fp σ r t := by
  unfold fp
  rw [fs_S3 hm h hw, fa_S3 hm h hw]
theorem PR_S3 {σ τ : Nat → Int} {r p : Nat} {C : Int} {M : am_M} (hm : ∀ c a, mvs τ c a = mvs σ c a) (h : S3 σ τ r) (hw : wr σ r) (hp : PR σ r p C M) : PR τ r p C M := by
  have w1 := hw.1
  obtain ⟨b, n, q1, q2, q3, q4, q5, q6, q7, q8⟩ := hp
  refine ⟨b, n, by rw [h.2.1]; exact q1, by rw [lt_S3 h n (by omega)]; exact q2, q3, q4, by rw [h.2.2.1]; exact q5, fun k j hk hj => ?_, by rw [lt_S3 h n (by omega), ck_S3 hm h n (by omega)]; exact q7, q8⟩
  rw [h.2.2.2 k (by omega)] at hj ⊢
  rw [lt_S3 h k (by omega), ck_S3 hm h k (by omega)]
  exact q6 k j hk hj
/-- a fit row stays fit when tasks end -/
theorem OKW_ev {σ τ : Nat → Int} {p p' : Nat} (hO : OKW σ p) (hlow : ∀ k : Nat, k < 48 → τ k = σ k) (hS : ∀ r : Nat, (r : Int) < σ 6 → S3 σ τ r ∧ ro τ r 7 = ro σ r 7 ∧ ro τ r 10 = ro σ r 10 ∧ (ro τ r 4 = ro σ r 4 ∨ ro τ r 4 = -1)) (hT : ∀ j : Nat, (j : Int) < σ 7 → TF τ j) (hV : ∀ r : Nat, (r : Int) < σ 6 → 0 ≤ ro τ r 4 → (r < p' → 0 < ro σ r 2) ∧ it τ (ro τ r 4) 4 = 1 ∧ it τ (ro τ r 4) 6 = r) : OKW τ p' := by
  obtain ⟨hC, hwl, h6, h7, hkd, hRF, hTF, hNC⟩ := hO
  have e0 := hlow 0 (by omega)
  have e6 := hlow 6 (by omega)
  have e7 := hlow 7 (by omega)
  have hm : ∀ c a, mvs τ c a = mvs σ c a := fun c a => mvs_congr (fun k hk => hlow k (by omega)) hwl c a
  refine ⟨by rw [e0]; exact hC, wl_congr (fun k hk => hlow k (by omega)) hwl, by rw [e6]; exact h6, by rw [e7]; exact h7, fun c hc => by rw [hlow _ (by omega)]; exact hkd c hc, fun r hr => ?_, fun j hj => ?_, fun r o hr ho hne t ht => ?_⟩
  · rw [e6] at hr
    obtain ⟨r1, r2, r3, r4, r5⟩ := hRF r hr
    obtain ⟨s1, s2, s3, s4⟩ := hS r hr
    refine ⟨wr_S3 hm s1 r1, fun t ht => ?_, by rw [s2, s3, e0]; exact r3, by rw [e7]; omega, fun h => ?_⟩
    · have hp := fp_rng r1 t
      rw [fp_S3 hm s1 r1] at ht ⊢
      rw [hlow _ (by omega)]
      exact r2 t ht
    · rw [s1.2.1]
      exact hV r hr h
  · rw [e7] at hj
    exact hT j hj
  · rw [e6] at hr ho
    rw [fp_S3 hm (hS r hr).1 (hRF r hr).1] at ht ⊢
    rw [fp_S3 hm (hS o ho).1 (hRF o ho).1]
    exact hNC r o hr ho hne t ht
/-- a cell is visited -/
theorem VIS {A B : am_M} {p c : Nat} (hc : c < 40) (hW : WD (sg B) 1 A) (hO : OKW (sg B) p) : WD (sg (am_s B 175 (48 + c) (am_g B 175 (48 + c) + 1))) 1 (am_s A 7 c (am_g A 7 c + 1)) ∧ OKW (sg (am_s B 175 (48 + c) (am_g B 175 (48 + c) + 1))) p := by
  have hO' := hO
  obtain ⟨hC, hwl, h6, h7, hkd, hRF, hTF, hNC⟩ := hO'
  obtain ⟨τ, eτ⟩ : ∃ τ, τ = sg (am_s B 175 (48 + c) (am_g B 175 (48 + c) + 1)) := ⟨_, rfl⟩
  rw [← eτ]
  have hs : ∀ k : Nat, k ≠ 48 + c → τ k = sg B k := fun k hk => by
    rw [eτ]
    exact m_sg (gx_ne hk)
  have hro : ∀ i k : Nat, ro τ i k = ro (sg B) i k := fun i k => by
    rw [ro_nat, ro_nat]
    exact hs _ (by omega)
  have hit : ∀ j k : Nat, it τ j k = it (sg B) j k := fun j k => by
    rw [it_nat, it_nat]
    exact hs _ (by omega)
  have hS : ∀ r : Nat, S3 (sg B) τ r := fun r => ⟨hro r 0, hro r 2, hro r 3, fun k _ => by rw [ac_nat, ac_nat]; exact hs _ (by omega)⟩
  have hm : ∀ c a, mvs τ c a = mvs (sg B) c a := fun d a => mvs_congr (fun k hk => hs k (by omega)) hwl d a
  have e0 := hs 0 (by omega)
  have e1 := hs 1 (by omega)
  have e6 := hs 6 (by omega)
  have e7 := hs 7 (by omega)
  have fA : fr [7] A (am_s A 7 c (am_g A 7 c + 1)) := fr_s (by decide)
  have hn : ∀ a : Nat, a ≠ 7 → a ∉ [7] := fun a ha => by simp; exact ha
  constructor
  · obtain ⟨W1, W2, W3, W4, W5⟩ := hW
    have F1 := FLw_fr W1 fA (fun a h1 h2 => hn a (by omega))
    have hl1 := hwl.1
    refine ⟨⟨by rw [e1]; exact F1.1, fun k hk => ?_, fun d hd => by rw [hs _ (by omega)]; exact F1.2.2.1 d hd, fun d a hd ha => by rw [hm]; exact F1.2.2.2 d a hd ha⟩, ?_, fun d hd => ?_, fun i hi => ?_, fun j hj => ?_⟩
    · rw [e1] at hk
      rw [hs _ (by omega)]
      exact F1.2.1 k hk
    · rw [fr_i fA (hn 1 (by omega)), fr_i fA (hn 1 (by omega)), fr_i fA (hn 1 (by omega)), e0, e6, e7]
      exact W2
    · by_cases e : d = c
      · rw [e, eτ]
        refine iv_of ?_
        show am_g (am_s A 7 c (am_g A 7 c + 1)) 7 c = am_g (am_s B 175 (48 + c) (am_g B 175 (48 + c) + 1)) 175 (48 + c)
        rw [hx_eq, gx_eq, gv_of (M := B) (N := A) (a := 7) (b := 175) (k := c) (j := 48 + c) (W3 c hc)]
      · rw [hs _ (by omega), ← W3 d hd]
        exact iv_of (hx_ne (by omega))
    · rw [e6] at hi
      obtain ⟨b1, b2, b3, b4, b5⟩ := RB_fr (W4 i hi) fA (fun a h1 h2 => hn a (by omega))
      have x1 : ro τ i 1 = ro (sg B) i 1 := hro i 1
      have x4 : ro τ i 4 = ro (sg B) i 4 := hro i 4
      have x10 : ro τ i 10 = ro (sg B) i 10 := hro i 10
      exact ⟨by rw [e0]; exact PR_S3 hm (hS i) (hRF i hi).1 b1, by rw [x1]; exact b2, by rw [x4]; exact b3, by rw [e0, x10]; exact b4, fun k hk => (b5 k hk).trans (hro i (5 + k)).symm⟩
    · rw [e7] at hj
      exact TB_fr ((TB_iff (fun k => it (sg B) j k) (fun k hk => hit j k)).mpr ((TB_iff (fun k => it (sg B) j k) (fun k _ => rfl)).mp (W5 j hj))) fA (hn _ (by omega))
  · refine OKW_ev hO (fun k hk => hs k (by omega)) (fun r hr => ⟨hS r, hro r 7, hro r 10, Or.inl (hro r 4)⟩) (fun j hj => ?_) (fun r hr h => ?_)
    · have i0 : it τ j 0 = it (sg B) j 0 := hit j 0
      have i1 : it τ j 1 = it (sg B) j 1 := hit j 1
      have i2 : it τ j 2 = it (sg B) j 2 := hit j 2
      have i3 : it τ j 3 = it (sg B) j 3 := hit j 3
      have i4 : it τ j 4 = it (sg B) j 4 := hit j 4
      have i6 : it τ j 6 = it (sg B) j 6 := hit j 6
      unfold TF
      rw [i0, i1, i2, i3, i4, i6]
      exact hTF j hj
    · have x4 : ro τ r 4 = ro (sg B) r 4 := hro r 4
      rw [x4] at h ⊢
      have r5 := (hRF r hr).2.2.2.2 h
      obtain ⟨t, et⟩ : ∃ t : Nat, ro (sg B) r 4 = t := ⟨(ro (sg B) r 4).toNat, by omega⟩
      rw [et] at r5 ⊢
      have i4 : it τ t 4 = it (sg B) t 4 := hit t 4
      have i6 : it τ t 6 = it (sg B) t 6 := hit t 6
      rw [i4, i6]
      exact r5
end EVS
