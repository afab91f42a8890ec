/-! the row and the world with one lift more -/
section RE
/-- moves that stay -/
def mext (σ τ : Nat → Int) : Prop := ∀ c a : Int, mvs σ c a ≠ -1 → mvs τ c a = mvs σ c a
theorem ck_ext {σ τ : Nat → Int} (hm : mext σ τ) {o : Nat} (h : SR σ τ o) (hw : wr σ o) {k : Nat} (hk : (k : Int) ≤ ro σ o 2) : ck τ o k = ck σ o k := by
  have h2 := hw.1
  induction k with
  | zero => exact ro_SR h 0 (by omega) (by omega) (j := 0) rfl
  | succ k ih =>
    have h3 := hw.2.2.1 (k + 1) hk
    rw [ck] at h3
    rw [ck, ck, ih (by omega), ac_SR h (by omega), hm _ _ (by omega)]
theorem wr_ext {σ τ : Nat → Int} (hm : mext σ τ) {o : Nat} (h : SR σ τ o) (hw : wr σ o) : wr τ o := by
  have hw' := hw
  obtain ⟨h1, h2, h3, h4, h5, h7⟩ := hw
  have e2 : ro τ o 2 = ro σ o 2 := ro_SR h 2 (by omega) (by omega) rfl
  have e3 : ro τ o 3 = ro σ o 3 := ro_SR h 3 (by omega) (by omega) rfl
  have ea0 : ac τ o 0 = ac σ o 0 := ac_SR h (k := 0) (by omega)
  refine ⟨by rw [e2]; exact h1, fun k hk => ?_, fun k hk => ?_, by rw [e3]; exact h4, by rw [e2, e3, ea0]; exact h5, ?_⟩
  · rw [e2] at hk
    rw [ac_SR h (by omega)]
    exact h2 k hk
  · rw [e2] at hk
    rw [ck_ext hm h hw' hk]
    exact h3 k hk
  · rw [e2, e3, pk_SR h (by omega)]
    exact h7
theorem fw_SR {σ τ : Nat → Int} {o : Nat} (h : SR σ τ o) (hw : wr σ o) (k : Nat) : fw τ o k = fw σ o k := by
  unfold fw
  have e2 : ro τ o 2 = ro σ o 2 := ro_SR h 2 (by omega) (by omega) rfl
  have := hw.1
  rw [e2]
  by_cases h1 : (k : Int) < ro σ o 2
  · rw [if_pos h1, if_pos h1, ac_SR h (by omega)]
  · rw [if_neg h1, if_neg h1]
theorem fs_ext {σ τ : Nat → Int} (hm : mext σ τ) {o : Nat} (h : SR σ τ o) (hw : wr σ o) (t : Nat) : fs τ o t = fs σ o t := by
  induction t with
  | zero =>
    rw [fs, fs, ro_SR h 0 (by omega) (by omega) (j := 0) rfl, ro_SR h 3 (by omega) (by omega) (j := 3) rfl]
  | succ t ih =>
    have hc := fs_cell hw (t + 1)
    rw [fs, fs, ih, fw_SR h hw]
    rw [fs] at hc
    by_cases h1 : (fs σ o t).2.2 + 1 = tk (fw σ o (fs σ o t).2.1)
    · rw [if_pos h1] at hc ⊢
      rw [if_pos h1, hm _ _ (by dsimp only at hc; omega)]
    · rw [if_neg h1, if_neg h1]
theorem fp_ext {σ τ : Nat → Int} (hm : mext σ τ) {o : Nat} (h : SR σ τ o) (hw : wr σ o) (t : Nat) : fp τ o t = fp σ o t := by
  unfold fp fa
  rw [fs_ext hm h hw, fw_SR h hw]
theorem PR_ext {σ τ : Nat → Int} (hm : mext σ τ) {o : Nat} {p : Nat} {C : Int} {M : am_M} (h : SR σ τ o) (hw : wr σ o) (hP : PR σ o p C M) : PR τ o p C M := by
  obtain ⟨b, n, q1, q2, q3, q4, q5, q6, q7, q8⟩ := hP
  have hL := hw.1
  have e2 : ro τ o 2 = ro σ o 2 := ro_SR h 2 (by omega) (by omega) (j := 2) rfl
  have e3 : ro τ o 3 = ro σ o 3 := ro_SR h 3 (by omega) (by omega) (j := 3) rfl
  have hal : ∀ k, k < 31 → al τ o k = al σ o k := fun k hk => ac_SR h hk
  have hlt : ∀ k, k ≤ n → lt (al τ o) k = lt (al σ o) k := fun k hk => lt_congr (fun i hi => hal i (by omega))
  refine ⟨b, n, by rw [e2]; exact q1, by rw [hlt n (Nat.le_refl _)]; exact q2, q3, q4, by rw [e3]; exact q5, fun k j hk hj => ?_, ?_, q8⟩
  · have ea := hal k (by omega)
    unfold al at ea
    rw [ea] at hj ⊢
    rw [hlt k (by omega), ck_ext hm h hw (by omega)]
    exact q6 k j hk hj
  · rw [hlt n (Nat.le_refl _), ck_ext hm h hw (by omega)]
    exact q7
theorem RB_ext {σ τ : Nat → Int} {w o : Nat} {M : am_M} (hm : mext σ τ) (h0 : τ 0 = σ 0) (hSR : ∀ k : Nat, k < 42 → ro τ o k = ro σ o k) (hw : wr σ o) (h : RB σ w o M) : RB τ w o M := by
  obtain ⟨b1, b2, b3, b4, b5⟩ := h
  have e1 : ro τ o 1 = ro σ o 1 := hSR 1 (by omega)
  have e4 : ro τ o 4 = ro σ o 4 := hSR 4 (by omega)
  have e10 : ro τ o 10 = ro σ o 10 := hSR 10 (by omega)
  refine ⟨?_, by rw [e1]; exact b2, by rw [e4]; exact b3, by rw [e10, h0]; exact b4, fun k hk5 => ?_⟩
  · rw [h0]
    exact PR_ext hm (fun k h _ => hSR k h) hw b1
  · have := hSR (5 + k) (by omega)
    rw [show ((5 + k : Nat) : Int) = 5 + (k : Int) by omega] at this
    rw [this]
    exact b5 k hk5
theorem li_rd {σ : Nat → Int} {l : Nat} {a b : Int} (h1 : σ 1 = l) (hl : l < 2) {c j : Int} (hj : 0 ≤ j) : rd (liF σ l a b) c j = if j = l then (if a = c then b else if b = c then a else -1) else rd σ c j := by
  unfold rd
  have e1 : liF σ l a b 1 = (l : Int) + 1 := by unfold liF; rw [if_pos rfl]
  rw [e1, h1]
  by_cases c1 : j = l
  · subst c1
    rw [if_pos (by omega), if_pos rfl]
    have ea : liF σ l a b (2 + 2 * (l : Int)).toNat = a := by unfold liF; rw [if_neg (by omega), if_neg (by omega), if_pos (by omega)]
    have eb : liF σ l a b (3 + 2 * (l : Int)).toNat = b := by unfold liF; rw [if_neg (by omega), if_pos (by omega)]
    rw [ea, eb]
  · rw [if_neg c1]
    by_cases c2 : j < l
    · have ea : liF σ l a b (2 + 2 * j).toNat = σ (2 + 2 * j).toNat := by unfold liF; rw [if_neg (by omega), if_neg (by omega), if_neg (by omega)]
      have eb : liF σ l a b (3 + 2 * j).toNat = σ (3 + 2 * j).toNat := by unfold liF; rw [if_neg (by omega), if_neg (by omega), if_neg (by omega)]
      rw [if_pos (by omega), if_pos c2, ea, eb]
    · rw [if_neg (by omega), if_neg c2]
theorem li_mvs {σ : Nat → Int} {l : Nat} {a b : Int} (h1 : σ 1 = l) (hl : l < 2) (c x : Int) : mvs (liF σ l a b) c x = if x = 5 + l then (if a = c then b else if b = c then a else -1) else mvs σ c x := by
  unfold mvs
  by_cases c0 : x = 0
  · rw [if_pos c0, if_pos c0, if_neg (by omega)]
  · rw [if_neg c0, if_neg c0]
    by_cases c5 : x < 5
    · rw [if_pos c5, if_pos c5, if_neg (by omega)]
    · rw [if_neg c5, if_neg c5, li_rd h1 hl (by omega)]
      by_cases c6 : x = 5 + l
      · rw [if_pos (by omega), if_pos c6]
      · rw [if_neg (by omega), if_neg c6]
theorem li_ext {σ : Nat → Int} {l : Nat} {a b : Int} (h1 : σ 1 = l) (hl : l < 2) : mext σ (liF σ l a b) := fun c x hx => by
  rw [li_mvs h1 hl]
  by_cases c6 : x = 5 + l
  · exfalso
    apply hx
    unfold mvs rd
    rw [if_neg (by omega), if_neg (by omega), if_neg (by omega)]
  · rw [if_neg c6]
theorem li_new {σ : Nat → Int} {a b : Int} {M : am_M} (hO : OK σ) (hW : WD σ 1 M) (h : fLi σ a b = 0) : OK (liF σ (σ 1).toNat a b) ∧ WD (liF σ (σ 1).toNat a b) 1 (liM M (σ 1).toNat a b) := by
  obtain ⟨hcell, hno, hl2⟩ := fLi_ok h
  obtain ⟨hC, hwl, h6, h7, hkd, hRF, hTF, hNC⟩ := hO
  have hl0 := hwl.1
  obtain ⟨l, el⟩ : ∃ l : Nat, σ 1 = l := ⟨(σ 1).toNat, by omega⟩
  have hl : l < 2 := by omega
  rw [show (σ 1).toNat = l by omega]
  have hm := li_ext (a := a) (b := b) el hl
  have hhi : ∀ i : Nat, 6 ≤ i → liF σ l a b i = σ i := fun i hi => by unfold liF; rw [if_neg (by omega), if_neg (by omega), if_neg (by omega)]
  have e0 : liF σ l a b 0 = σ 0 := by unfold liF; rw [if_neg (by omega), if_neg (by omega), if_neg (by omega)]
  have e1 : liF σ l a b 1 = (l : Int) + 1 := by unfold liF; rw [if_pos rfl]
  have e6 := hhi 6 (by omega)
  have e7 := hhi 7 (by omega)
  have hro : ∀ o k' : Nat, ro (liF σ l a b) o k' = ro σ o k' := fun o k' => by rw [ro_nat, ro_nat, hhi _ (by omega)]
  have hit : ∀ j k' : Nat, it (liF σ l a b) j k' = it σ j k' := fun j k' => by rw [it_nat, it_nat, hhi _ (by omega)]
  have hSR : ∀ o : Nat, SR σ (liF σ l a b) o := fun o k' _ _ => hro o k'
  have hfp : ∀ o : Nat, (o : Int) < σ 6 → ∀ t, fp (liF σ l a b) o t = fp σ o t := fun o ho t => fp_ext hm (hSR o) (hRF o ho).1 t
  have hends : ∀ k : Nat, (k : Int) < 2 * ((l : Int) + 1) → liF σ l a b (2 + k) = if k = 2 * l + 1 then b else if k = 2 * l then a else σ (2 + k) := fun k hk => by
    unfold liF
    rw [if_neg (by omega)]
    by_cases q1 : k = 2 * l + 1
    · rw [if_pos (by omega), if_pos q1]
    · rw [if_neg (by omega), if_neg q1]
      by_cases q2 : k = 2 * l
      · rw [if_pos (by omega), if_pos q2]
      · rw [if_neg (by omega), if_neg q2]
  have hwl' : wl (liF σ l a b) := by
    refine ⟨by rw [e1]; omega, fun k hk => ?_⟩
    rw [e1] at hk
    rw [hends k hk]
    split
    · omega
    · split
      · omega
      · exact hwl.2 k (by omega)
  have hfr : fr [2, 4, 5] M (liM M l a b) := fr_trans (fr_s (by simp)) (fr_trans (fr_s (by simp)) (fr_trans (fr_s (by simp)) (fr_trans (fr_s (by simp)) (fr_s (by simp)))))
  constructor
  · refine ⟨by rw [e0]; exact hC, hwl', by rw [e6]; exact h6, by rw [e7]; exact h7, fun d hd => by rw [hhi _ (by omega)]; exact hkd d hd, fun r hr => ?_, fun j hj => ?_, fun r o hr ho hne t ht => ?_⟩
    · rw [e6] at hr
      obtain ⟨q1, q2, q3, q4, q5⟩ := hRF r hr
      have r2 : ro (liF σ l a b) r 2 = ro σ r 2 := hro r 2
      have r4 : ro (liF σ l a b) r 4 = ro σ r 4 := hro r 4
      have r10 : ro (liF σ l a b) r 10 = ro σ r 10 := hro r 10
      have r77 : ro (liF σ l a b) r 7 = ro σ r 7 := hro r 7
      refine ⟨wr_ext hm (hSR r) q1, fun t ht => ?_, by rw [r10, r77, e0]; exact q3, by rw [r4, e7]; exact q4, fun h4 => ?_⟩
      · have hrg := fp_rng q1 t
        rw [hfp r hr] at ht ⊢
        rw [hhi _ (by omega)]
        exact q2 t ht
      · rw [r4] at h4 ⊢
        obtain ⟨a1, a2, a3⟩ := q5 h4
        obtain ⟨t, et⟩ : ∃ t : Nat, ro σ r 4 = t := ⟨(ro σ r 4).toNat, by omega⟩
        rw [et] at a2 a3 ⊢
        have i4 : it (liF σ l a b) t 4 = it σ t 4 := hit t 4
        have i6 : it (liF σ l a b) t 6 = it σ t 6 := hit t 6
        rw [r2, i4, i6]
        exact ⟨a1, a2, a3⟩
    · rw [e7] at hj
      have i0 : it (liF σ l a b) j 0 = it σ j 0 := hit j 0
      have i1 : it (liF σ l a b) j 1 = it σ j 1 := hit j 1
      have i2 : it (liF σ l a b) j 2 = it σ j 2 := hit j 2
      have i3 : it (liF σ l a b) j 3 = it σ j 3 := hit j 3
      have i4 : it (liF σ l a b) j 4 = it σ j 4 := hit j 4
      have i6 : it (liF σ l a b) j 6 = it σ j 6 := hit j 6
      unfold TF
      rw [i0, i1, i2, i3, i4, i6]
      exact hTF j hj
    · rw [e6] at hr ho
      rw [hfp r hr] at ht ⊢
      rw [hfp o ho]
      exact hNC r o hr ho hne t ht
  · obtain ⟨⟨F1, F2, F3, F4⟩, W2, W3, W4, W5⟩ := hW
    have hab : a ≠ b := fun q => hno (Or.inl q)
    refine ⟨⟨?_, fun k hk => ?_, fun d hd => ?_, fun d x hd hx => ?_⟩, ?_, fun d hd => ?_, fun i hi => ?_, fun j hj => ?_⟩
    · rw [e1]
      unfold liM
      rw [iv_a (by omega) (by omega)]
    · rw [e1] at hk
      rw [hends k hk]
      unfold liM
      rw [show (1 + 4 : Nat) = 5 from rfl, iv_c (by decide), iv_c (by decide), iv_c (by decide)]
      by_cases q1 : k = 2 * l + 1
      · rw [if_pos q1, q1, iv_a (by omega) (by omega)]
      · rw [if_neg q1, iv_b q1]
        by_cases q2 : k = 2 * l
        · rw [if_pos q2, q2, iv_a (by omega) (by omega)]
        · rw [if_neg q2, iv_b q2]
          exact F2 k (by omega)
    · rw [hhi _ (by omega), fr_i hfr (by decide)]
      exact F3 d hd
    · rw [li_mvs el hl]
      unfold liM
      rw [show (1 + 3 : Nat) = 4 from rfl, iv_c (by decide)]
      have hold : iv M 4 (7 * d + x) = mvs σ d x := F4 d x hd hx
      by_cases qx : (x : Int) = 5 + l
      · rw [if_pos qx]
        by_cases q1 : (d : Int) = b
        · rw [show 7 * d + x = 7 * b.toNat + 5 + l by omega, iv_a (by omega) (by omega), if_neg (by omega), if_pos q1.symm]
        · rw [iv_b (by omega)]
          by_cases q2 : (d : Int) = a
          · rw [show 7 * d + x = 7 * a.toNat + 5 + l by omega, iv_a (by omega) (by omega), if_pos q2.symm]
          · rw [iv_b (by omega), iv_c (by decide), iv_c (by decide), hold, if_neg (fun q => q2 q.symm), if_neg (fun q => q1 q.symm)]
            unfold mvs rd
            rw [if_neg (by omega), if_neg (by omega), if_neg (by omega)]
      · rw [if_neg qx, iv_b (by omega), iv_b (by omega), iv_c (by decide), iv_c (by decide)]
        exact hold
    · rw [e6, e7, e0, fr_i hfr (by decide), fr_i hfr (by decide), fr_i hfr (by decide)]
      exact W2
    · rw [hhi _ (by omega), fr_i hfr (by decide)]
      exact W3 d hd
    · rw [e6] at hi
      exact RB_ext hm e0 (fun k' _ => hro i k') (hRF i hi).1 (RB_fr (W4 i hi) hfr (fun a b1 b2 => by simp; omega))
    · rw [e7] at hj
      exact (TB_iff (w := 1) (fun k' => it σ j k') (fun k' _ => hit j k')).mpr ((TB_iff (w := 1) (fun k' => it σ j k') (fun k' _ => rfl)).mp (TB_fr (W5 j hj) hfr (by simp; omega)))
theorem cs_addLift {M : am_M} (hI : INV M) (a b : Int32) : CS (g_L_addLift a b M) (g_X10_addLift a b) := by
  obtain ⟨x, rfl, hx1, hx2⟩ := pi_cast a
  obtain ⟨y, rfl, hy1, hy2⟩ := pi_cast b
  have hO := hI.1
  have hl := hO.2.1.1
  have g1 := s_makeLift hI.2.1 hO hx1 hx2 hy1 hy2
  have h9 : g_X9_addLift (pI x) (pI y) M = am_bx (g_X9_raise (pI (fLi (sg M) x y)) (if fLi (sg M) x y = 0 then liM M (sg M 1).toNat x y else M)) (fun _ M5 => (some ((.inl ((am_g M5 (1 + 1) 3) - (1 : Int32)) : Int32 ⊕ Nat), M5))) := by
    unfold g_X9_addLift
    rw [g1, am_b_some]
  by_cases hf : fLi (sg M) x y = 0
  · obtain ⟨hcell, hno, hl2⟩ := fLi_ok hf
    obtain ⟨n1, n2⟩ := li_new hO hI.2.1 hf
    rw [hf, if_pos rfl] at h9
    obtain ⟨N, eN⟩ : ∃ N, N = liM M (sg M 1).toNat x y := ⟨_, rfl⟩
    rw [← eN] at h9 n2
    have fMN : fr [2, 4, 5] M N := by
      rw [eN]
      exact fr_trans (fr_s (by simp)) (fr_trans (fr_s (by simp)) (fr_trans (fr_s (by simp)) (fr_trans (fr_s (by simp)) (fr_s (by simp)))))
    have e3 : am_g N (1 + 1) 3 - (1 : Int32) = pI (sg M 1) := by
      rw [show (1 + 1 : Nat) = 2 from rfl, pi_g, eN]
      unfold liM
      rw [iv_a (by omega) (by omega), show (1 : Int32) = pI 1 from rfl, pi_sub, show ((sg M 1).toNat : Int) + 1 - 1 = sg M 1 by omega]
    obtain ⟨v, Q, g2, f2, k2, t0, v1, v2, v3⟩ := s_maddLift (P := am_ls N 186 0 (pI (sg M 1)).toInt64) (σ := sg M) (show sg N = sg M from sg_fr fMN (by decide)) hO hx1 hx2 hy1 hy2
    obtain ⟨e1, e2⟩ := v2 hf
    have fNQ : fr [174, 175, 186] N Q := fr_trans (N := am_ls N 186 0 (pI (sg M 1)).toInt64) (fr_ls (by simp)) (fr_mono f2 (by simp))
    have hk : ∀ i, i ≠ 0 → iv Q 174 i = iv M 174 i := fun i hi => by
      rw [k2 i hi]
      show iv N 174 i = _
      exact fr_i fMN (by decide) i
    have hIQ : INV Q := INV_set hI (by rw [e2]; exact n1) (by
      rw [e2]
      exact WD_fr n2 n1.2.2.1.2 n1.2.2.2.1.2 fNQ (by intro z z1 z2 z3; simp at z3; omega)) (fr_trans (fr_mono fMN (by decide)) (fr_mono fNQ (by decide))) (hk 4 (by omega)) (hk 7 (by omega)) (hk 8 (by omega)) (hk 11 (by omega))
    refine CS_yes (O := N) (v := pI (sg M 1)) (Q := Q) ?_ ?_ (by rw [t0, hf]) (fr_l f2 (by decide) 0) hIQ
    · unfold g_L_addLift
      rw [h9, show g_X9_raise (pI 0) N = some ((.inl () : Unit ⊕ Nat), N) from rfl, am_bx_inl, e3]
      rfl
    · rw [g2, e1]
  · rw [if_neg hf] at h9
    obtain ⟨v, Q, g2, f2, k2, t0, v1, v2, v3⟩ := s_maddLift (P := M) (σ := sg M) rfl hO hx1 hx2 hy1 hy2
    have hIQ : INV Q := INV_set hI (by rw [v3 hf]; exact hO) (by
      rw [v3 hf]
      exact WD_fr hI.2.1 hO.2.2.1.2 hO.2.2.2.1.2 f2 (by intro z z1 z2 z3; simp at z3; omega)) (fr_mono f2 (by decide)) (k2 4 (by omega)) (k2 7 (by omega)) (k2 8 (by omega)) (k2 11 (by omega))
    rcases fLi_rng (sg M) x y with q | q | q | q
    · exact absurd q hf
    · refine CS_no (M := M) (k := 1) (P := M) (Q := Q) (v := pI v) ?_ g2 (by rw [t0, q]) (by decide) hIQ
      unfold g_L_addLift
      rw [h9, q]
      rfl
    · refine CS_no (M := M) (k := 2) (P := M) (Q := Q) (v := pI v) ?_ g2 (by rw [t0, q]) (by decide) hIQ
      unfold g_L_addLift
      rw [h9, q]
      rfl
    · refine CS_no (M := M) (k := 3) (P := M) (Q := Q) (v := pI v) ?_ g2 (by rw [t0, q]) (by decide) hIQ
      unfold g_L_addLift
      rw [h9, q]
      rfl
end RE
