/-! the case serve -/
section RO
theorem WD_tasks2 {σ τ : Nat → Int} {w : Nat} {M N : am_M} (hwl : wl σ) (h65 : σ 6 ≤ 5) (h30 : ∀ r : Nat, (r : Int) < σ 6 → ro σ r 2 ≤ 30) (hW : WD σ w M) (hlow : ∀ k : Nat, k < 298 → k ≠ 7 → τ k = σ k) {X : List Nat} (hf : fr X M N) (hX : ∀ a, w ≤ a → a < w + 40 → a ≠ w → a ∉ X) (h2 : iv N w 2 = iv M w 2) (h3 : iv N w 3 = τ 7) (h4 : iv N w 4 = iv M w 4) (hT : ∀ j : Nat, (j : Int) < τ 7 → TB τ w j N) : WD τ w N := by
  obtain ⟨W1, W2, W3, W4, W5⟩ := hW
  have e0 := hlow 0 (by omega) (by omega)
  have e6 := hlow 6 (by omega) (by omega)
  have hk6 : ∀ k : Nat, k < 6 → τ k = σ k := fun k hk => hlow k (by omega) (by omega)
  refine ⟨?_, ?_, fun c hc => ?_, fun i hi => ?_, hT⟩
  · obtain ⟨f1, f2, f3, f4⟩ := FLw_fr W1 hf (fun a b1 b2 => hX a (by omega) (by omega) (by omega))
    have hw := hwl.1
    refine ⟨by rw [hlow 1 (by omega) (by omega)]; exact f1, fun k hk => ?_, fun c hc => by rw [hlow _ (by omega) (by omega)]; exact f3 c hc, fun c a hc ha => by rw [mvs_congr hk6 hwl]; exact f4 c a hc ha⟩
    rw [hlow 1 (by omega) (by omega)] at hk
    rw [hlow _ (by omega) (by omega)]
    exact f2 k hk
  · rw [h2, h4, e6, e0]
    exact ⟨W2.1, h3, W2.2.2⟩
  · rw [hlow _ (by omega) (by omega), fr_i hf (hX _ (by omega) (by omega) (by omega))]
    exact W3 c hc
  · rw [e6] at hi
    exact RB_SR hk6 hwl (fun k hk => by rw [ro_nat, ro_nat, hlow _ (by omega) (by omega)]) (h30 i hi) (RB_fr (W4 i hi) hf (fun a b1 b2 => hX a (by omega) (by omega) (by omega)))
/-- a row where a robot serves a task -/
def asF (τ : Nat → Int) (j r : Nat) : Nat → Int := fun k => if k = 304 + 9 * j then (r : Int) else if k = 303 + 9 * j then 0 else if k = 302 + 9 * j then 1 else if k = 92 + 42 * r then (j : Int) else τ k
theorem asF_low {τ : Nat → Int} {j r k : Nat} (h : k < 298) (h2 : k ≠ 92 + 42 * r) : asF τ j r k = τ k := by
  unfold asF
  rw [if_neg (by omega), if_neg (by omega), if_neg (by omega), if_neg h2]
theorem asF_ro {τ : Nat → Int} {j r o k : Nat} (ho : o < 5) (hr : r < 5) (hk : k < 42) : ro (asF τ j r) o k = if o = r ∧ k = 4 then (j : Int) else ro τ o k := by
  rw [ro_nat, ro_nat]
  unfold asF
  rw [if_neg (by omega), if_neg (by omega), if_neg (by omega)]
  by_cases h : o = r ∧ k = 4
  · rw [if_pos h, if_pos (by omega)]
  · rw [if_neg h, if_neg (by omega)]
theorem asF_it {τ : Nat → Int} {j r i k : Nat} (hr : r < 5) (hk : k < 9) : it (asF τ j r) i k = if i = j ∧ k = 6 then (r : Int) else if i = j ∧ k = 5 then 0 else if i = j ∧ k = 4 then 1 else it τ i k := by
  rw [it_nat, it_nat]
  unfold asF
  by_cases h6 : i = j ∧ k = 6
  · rw [if_pos h6, if_pos (by omega)]
  · rw [if_neg h6, if_neg (by omega)]
    by_cases h5 : i = j ∧ k = 5
    · rw [if_pos h5, if_pos (by omega)]
    · rw [if_neg h5, if_neg (by omega)]
      by_cases h4 : i = j ∧ k = 4
      · rw [if_pos h4, if_pos (by omega)]
      · rw [if_neg h4, if_neg (by omega), if_neg (by omega)]
theorem OK_assign {τ : Nat → Int} {j r : Nat} (hO : OK τ) (hr : (r : Int) < τ 6) (hj : (j : Int) < τ 7) (h4 : ro τ r 4 = -1) (h2 : 0 < ro τ r 2) (hs : it τ j 4 = 0 ∨ it τ j 4 = 3) : OK (asF τ j r) := by
  obtain ⟨hC, hwl, h6, h7, hkd, hRF, hTF, hNC⟩ := hO
  have hr5 : r < 5 := by omega
  have e : ∀ k : Nat, k < 88 → asF τ j r k = τ k := fun k hk => asF_low (by omega) (by omega)
  have e0 := e 0 (by omega)
  have e6 := e 6 (by omega)
  have e7 := e 7 (by omega)
  have hk6 : ∀ k : Nat, k < 6 → asF τ j r k = τ k := fun k hk => e k (by omega)
  have hro : ∀ o k : Nat, o < 5 → k < 42 → (o ≠ r ∨ k ≠ 4) → ro (asF τ j r) o k = ro τ o k := fun o k ho hk h => by rw [asF_ro ho hr5 hk, if_neg (by omega)]
  have hr4 : ro (asF τ j r) r 4 = j := (asF_ro (k := 4) hr5 hr5 (by omega)).trans (if_pos ⟨rfl, rfl⟩)
  have hplain : ∀ o : Nat, (o : Int) < τ 6 → wr (asF τ j r) o ∧ ∀ t, fp (asF τ j r) o t = fp τ o t := fun o ho => by
    by_cases h : o = r
    · subst h
      have hc0 : ro (asF τ j o) o 0 = ro τ o 0 := hro o 0 hr5 (by omega) (by omega)
      have hc2 : ro (asF τ j o) o 2 = ro τ o 2 := hro o 2 hr5 (by omega) (by omega)
      have hc3 : ro (asF τ j o) o 3 = ro τ o 3 := hro o 3 hr5 (by omega) (by omega)
      have hac : ∀ k : Nat, k < 31 → ac (asF τ j o) o k = ac τ o k := fun k hk => by
        have := hro o (11 + k) hr5 (by omega) (by omega)
        rw [show ((11 + k : Nat) : Int) = 11 + (k : Int) by omega] at this
        exact this
      have hck : ∀ k : Nat, k ≤ 31 → ck (asF τ j o) o k = ck τ o k := fun k => by
        induction k with
        | zero => intro _; exact hc0
        | succ k ih => intro hk; rw [ck, ck, ih (by omega), hac k (by omega), mvs_congr hk6 hwl]
      have hpk : ∀ k : Nat, k ≤ 31 → pk (asF τ j o) o k = pk τ o k := fun k => by
        induction k with
        | zero => intro _; rfl
        | succ k ih => intro hk; rw [pk, pk, ih (by omega), hac k (by omega)]
      obtain ⟨w1, w2, w3, w4, w5, w6⟩ := (hRF o ho).1
      have hwr : wr (asF τ j o) o := by
        have ha0 : ac (asF τ j o) o 0 = ac τ o 0 := hac 0 (by omega)
        refine ⟨by rw [hc2]; exact w1, fun k hk => ?_, fun k hk => ?_, by rw [hc3]; exact w4, by rw [hc2, hc3, ha0]; exact w5, ?_⟩
        · rw [hc2] at hk
          rw [hac k (by omega)]
          exact w2 k hk
        · rw [hc2] at hk
          rw [hck k (by omega)]
          exact w3 k hk
        · rw [hc2, hc3, hpk _ (by omega)]
          exact w6
      have hfw : ∀ k, fw (asF τ j o) o k = fw τ o k := fun k => by
        unfold fw
        rw [hc2]
        by_cases q : (k : Int) < ro τ o 2
        · rw [if_pos q, if_pos q, hac k (by omega)]
        · rw [if_neg q, if_neg q]
      have hfs : ∀ t, fs (asF τ j o) o t = fs τ o t := fun t => by
        induction t with
        | zero => rw [fs, fs, hc0, hc3]
        | succ t ih => rw [fs, fs, ih, hfw, mvs_congr hk6 hwl]
      refine ⟨hwr, fun t => ?_⟩
      unfold fp fa
      rw [hfs, hfw]
    · have hSR : SR τ (asF τ j r) o := fun k hk _ => hro o k (by omega) hk (Or.inl h)
      exact ⟨wr_SR hk6 hwl hSR (hRF o ho).1, fun t => fp_SR hk6 hwl hSR (hRF o ho).1 t⟩
  refine ⟨by rw [e0]; exact hC, wl_congr hk6 hwl, by rw [e6]; exact h6, by rw [e7]; exact h7, fun c hc => by rw [e _ (by omega)]; exact hkd c hc, fun o ho => ?_, fun i hi => ?_, fun a b ha hb hne t ht => ?_⟩
  · rw [e6] at ho
    obtain ⟨q1, q2, q3, q4, q5⟩ := hRF o ho
    obtain ⟨p1, p2⟩ := hplain o ho
    have r10 : ro (asF τ j r) o 10 = ro τ o 10 := hro o 10 (by omega) (by omega) (by omega)
    have r77 : ro (asF τ j r) o 7 = ro τ o 7 := hro o 7 (by omega) (by omega) (by omega)
    have r2 : ro (asF τ j r) o 2 = ro τ o 2 := hro o 2 (by omega) (by omega) (by omega)
    refine ⟨p1, fun t ht => ?_, by rw [r10, r77, e0]; exact q3, ?_, fun h40 => ?_⟩
    · have hrg := fp_rng q1 t
      rw [p2] at ht ⊢
      rw [e _ (by omega)]
      exact q2 t ht
    · rw [e7]
      by_cases h : o = r
      · subst h; rw [hr4]; omega
      · have : ro (asF τ j r) o 4 = ro τ o 4 := hro o 4 (by omega) (by omega) (Or.inl h)
        rw [this]; exact q4
    · by_cases h : o = r
      · subst h
        rw [hr4, r2]
        have i4 : it (asF τ j o) j 4 = 1 := (asF_it (k := 4) hr5 (by omega)).trans (by rw [if_neg (by omega), if_neg (by omega), if_pos ⟨rfl, rfl⟩])
        have i6 : it (asF τ j o) j 6 = o := (asF_it (k := 6) hr5 (by omega)).trans (if_pos ⟨rfl, rfl⟩)
        exact ⟨h2, i4, i6⟩
      · have r4 : ro (asF τ j r) o 4 = ro τ o 4 := hro o 4 (by omega) (by omega) (Or.inl h)
        rw [r4] at h40 ⊢
        obtain ⟨a1, a2, a3⟩ := q5 h40
        obtain ⟨t, et⟩ : ∃ t : Nat, ro τ o 4 = t := ⟨(ro τ o 4).toNat, by omega⟩
        rw [et] at a2 a3 ⊢
        have htj : t ≠ j := fun z => by subst z; omega
        have i4 : it (asF τ j r) t 4 = it τ t 4 := (asF_it (k := 4) hr5 (by omega)).trans (by rw [if_neg (by omega), if_neg (by omega), if_neg (by omega)]; rfl)
        have i6 : it (asF τ j r) t 6 = it τ t 6 := (asF_it (k := 6) hr5 (by omega)).trans (by rw [if_neg (by omega), if_neg (by omega), if_neg (by omega)]; rfl)
        rw [r2, i4, i6]
        exact ⟨a1, a2, a3⟩
  · rw [e7] at hi
    obtain ⟨t1, t2, t3, t4, t5, t6, t7⟩ := hTF i hi
    have i0 : it (asF τ j r) i 0 = it τ i 0 := (asF_it (k := 0) hr5 (by omega)).trans (by rw [if_neg (by omega), if_neg (by omega), if_neg (by omega)]; rfl)
    have i1 : it (asF τ j r) i 1 = it τ i 1 := (asF_it (k := 1) hr5 (by omega)).trans (by rw [if_neg (by omega), if_neg (by omega), if_neg (by omega)]; rfl)
    have i2 : it (asF τ j r) i 2 = it τ i 2 := (asF_it (k := 2) hr5 (by omega)).trans (by rw [if_neg (by omega), if_neg (by omega), if_neg (by omega)]; rfl)
    have i3 : it (asF τ j r) i 3 = it τ i 3 := (asF_it (k := 3) hr5 (by omega)).trans (by rw [if_neg (by omega), if_neg (by omega), if_neg (by omega)]; rfl)
    by_cases h : i = j
    · have i4 : it (asF τ j r) i 4 = 1 := (asF_it (k := 4) hr5 (by omega)).trans (by rw [if_neg (by omega), if_neg (by omega), if_pos ⟨h, rfl⟩])
      unfold TF
      rw [i0, i1, i2, i3, i4]
      exact ⟨t1, t2, t3, t4, t5, by omega, fun q => by omega⟩
    · have i4 : it (asF τ j r) i 4 = it τ i 4 := (asF_it (k := 4) hr5 (by omega)).trans (by rw [if_neg (by omega), if_neg (by omega), if_neg (by omega)]; rfl)
      have i6 : it (asF τ j r) i 6 = it τ i 6 := (asF_it (k := 6) hr5 (by omega)).trans (by rw [if_neg (by omega), if_neg (by omega), if_neg (by omega)]; rfl)
      unfold TF
      rw [i0, i1, i2, i3, i4, i6]
      exact ⟨t1, t2, t3, t4, t5, t6, t7⟩
  · rw [e6] at ha hb
    rw [(hplain a ha).2] at ht ⊢
    rw [(hplain b hb).2]
    exact hNC a b ha hb hne t ht
/-- a row where a task is refused -/
def rfF (σ : Nat → Int) (j : Nat) (w : Int) : Nat → Int := fun k => if k = 303 + 9 * j then w else if k = 302 + 9 * j then 3 else σ k
theorem rfF_it {σ : Nat → Int} {j i k : Nat} {w : Int} (hk : k < 9) : it (rfF σ j w) i k = if i = j ∧ k = 5 then w else if i = j ∧ k = 4 then 3 else it σ i k := by
  rw [it_nat, it_nat]
  unfold rfF
  by_cases h5 : i = j ∧ k = 5
  · rw [if_pos h5, if_pos (by omega)]
  · rw [if_neg h5, if_neg (by omega)]
    by_cases h4 : i = j ∧ k = 4
    · rw [if_pos h4, if_pos (by omega)]
    · rw [if_neg h4, if_neg (by omega)]
theorem rf_new {σ : Nat → Int} {j : Nat} {w : Int} {M N : am_M} (hO : OK σ) (hW : WD σ 1 M) (hj : (j : Int) < σ 7) (hs : it σ j 4 = 0 ∨ it σ j 4 = 3) (hf : fr [41 + j] M N) (hk : ∀ k, k ≠ 5 → k ≠ 6 → k ≠ 7 → iv N (41 + j) k = iv M (41 + j) k) (t5 : iv N (41 + j) 5 = 3) (t6 : iv N (41 + j) 6 = w) (t7 : iv N (41 + j) 7 = -1) : OK (rfF σ j w) ∧ WD (rfF σ j w) 1 N := by
  have hlow : ∀ k : Nat, k < 298 → k ≠ 7 → rfF σ j w k = σ k := fun k h _ => by unfold rfF; rw [if_neg (by omega), if_neg (by omega)]
  have e7 : rfF σ j w 7 = σ 7 := by unfold rfF; rw [if_neg (by omega), if_neg (by omega)]
  have h7 := hO.2.2.2.1
  have hRF := hO.2.2.2.2.2.1
  have hTF := hO.2.2.2.2.2.2.1
  have hother : ∀ i k : Nat, k < 9 → i ≠ j → it (rfF σ j w) i k = it σ i k := fun i k hk h => by rw [rfF_it hk, if_neg (by omega), if_neg (by omega)]
  have hTj := hTF j hj
  refine ⟨OK_tasks hO hlow (by rw [e7]; omega) (fun i hi => ?_) (fun o ho h40 => ?_), WD_tasks hO hW hlow hf (fun a b1 b2 b3 h => by simp at h; omega) (fr_i hf (by simp; omega) 2) (by rw [e7, fr_i hf (by simp; omega)]; exact hW.2.1.2.1) (fr_i hf (by simp; omega) 4) (fun i hi => ?_)⟩
  · rw [e7] at hi
    have i0 : it (rfF σ j w) i 0 = it σ i 0 := (rfF_it (k := 0) (by omega)).trans (by rw [if_neg (by omega), if_neg (by omega)]; rfl)
    have i1 : it (rfF σ j w) i 1 = it σ i 1 := (rfF_it (k := 1) (by omega)).trans (by rw [if_neg (by omega), if_neg (by omega)]; rfl)
    have i2 : it (rfF σ j w) i 2 = it σ i 2 := (rfF_it (k := 2) (by omega)).trans (by rw [if_neg (by omega), if_neg (by omega)]; rfl)
    have i3 : it (rfF σ j w) i 3 = it σ i 3 := (rfF_it (k := 3) (by omega)).trans (by rw [if_neg (by omega), if_neg (by omega)]; rfl)
    have i6 : it (rfF σ j w) i 6 = it σ i 6 := (rfF_it (k := 6) (by omega)).trans (by rw [if_neg (by omega), if_neg (by omega)]; rfl)
    obtain ⟨t1, t2, t3, t4, t5, t6, t7⟩ := hTF i hi
    by_cases h : i = j
    · have i4 : it (rfF σ j w) i 4 = 3 := (rfF_it (k := 4) (by omega)).trans (by rw [if_neg (by omega), if_pos ⟨h, rfl⟩])
      unfold TF
      rw [i0, i1, i2, i3, i4, i6]
      exact ⟨t1, t2, t3, t4, t5, by omega, fun _ => t7 (by rw [h]; exact hs)⟩
    · have i4 : it (rfF σ j w) i 4 = it σ i 4 := hother i 4 (by omega) h
      unfold TF
      rw [i0, i1, i2, i3, i4, i6]
      exact ⟨t1, t2, t3, t4, t5, t6, t7⟩
  · obtain ⟨q1, q2, q3⟩ := (hRF o ho).2.2.2.2 h40
    obtain ⟨t, et⟩ : ∃ t : Nat, ro σ o 4 = t := ⟨(ro σ o 4).toNat, by omega⟩
    rw [et] at q2 q3 ⊢
    have htj : t ≠ j := fun z => by subst z; omega
    have u4 : it (rfF σ j w) t 4 = it σ t 4 := hother t 4 (by omega) htj
    have u6 : it (rfF σ j w) t 6 = it σ t 6 := hother t 6 (by omega) htj
    rw [u4, u6]
    exact ⟨q2, q3⟩
  · rw [e7] at hi
    by_cases h : i = j
    · subst h
      have hM := (TB_iff (w := 1) (N := M) (fun k => it σ i k) (fun k _ => rfl)).mp (hW.2.2.2.2 i hi)
      refine (TB_iff (w := 1) (fun k => if k = 5 then w else if k = 4 then 3 else it σ i k) (fun k hk => ?_)).mpr ?_
      · rw [rfF_it hk]
        by_cases c5 : k = 5
        · rw [if_pos ⟨rfl, c5⟩, if_pos c5]
        · rw [if_neg (fun z => c5 z.2), if_neg c5]
          by_cases c4 : k = 4
          · rw [if_pos ⟨rfl, c4⟩, if_pos c4]
          · rw [if_neg (fun z => c4 z.2), if_neg c4]
      · rw [show 1 + 40 + i = 41 + i by omega] at hM ⊢
        obtain ⟨⟨m0, m1, m2, m3⟩, m4, m5, m6, m7, m8⟩ := hM
        rw [hk 0 (by omega) (by omega) (by omega), hk 1 (by omega) (by omega) (by omega), hk 2 (by omega) (by omega) (by omega), hk 3 (by omega) (by omega) (by omega), hk 4 (by omega) (by omega) (by omega), hk 8 (by omega) (by omega) (by omega)]
        refine ⟨⟨m0, m1, m2, m3⟩, m4, t5, t6, ?_, m8⟩
        rw [t7]
        exact (hTj.2.2.2.2.2.2 hs).symm
    · exact (TB_iff (w := 1) (fun k => it σ i k) (fun k hk => hother i k hk h)).mpr ((TB_iff (w := 1) (fun k => it σ i k) (fun k _ => rfl)).mp (TB_fr (hW.2.2.2.2 i hi) hf (by simp; omega)))
theorem s_become {p : Nat} {a b c : Int} {M : am_M} (ha : -100 ≤ a ∧ a < 100) (hb : -100 ≤ b ∧ b < 100) (hc : -100 ≤ c ∧ c < 100) : ∃ N, g_X7_become p (pI a) (pI b) (pI c) M = some ((), N) ∧ fr [p] M N ∧ (∀ k, k ≠ 5 → k ≠ 6 → k ≠ 7 → iv N p k = iv M p k) ∧ iv N p 5 = a ∧ iv N p 6 = b ∧ iv N p 7 = c := by
  refine ⟨am_s (am_s (am_s M p 5 (pI a)) p 6 (pI b)) p 7 (pI c), rfl, fr_trans (fr_s (by simp)) (fr_trans (fr_s (by simp)) (fr_s (by simp))), fun k h1 h2 h3 => by rw [iv_b h3, iv_b h2, iv_b h1], ?_, ?_, ?_⟩
  · rw [iv_b (by decide), iv_b (by decide), iv_a (by omega) (by omega)]
  · rw [iv_b (by decide), iv_a (by omega) (by omega)]
  · rw [iv_a (by omega) (by omega)]
end RO
