/-! the case addTask -/
section QX
theorem OK_tasks {σ τ : Nat → Int} (hO : OK σ) (hlow : ∀ k : Nat, k < 298 → k ≠ 7 → τ k = σ k) (h7 : σ 7 ≤ τ 7 ∧ τ 7 ≤ 12) (hT : ∀ j : Nat, (j : Int) < τ 7 → TF τ j) (hS : ∀ r : Nat, (r : Int) < σ 6 → 0 ≤ ro σ r 4 → it τ (ro σ r 4) 4 = 1 ∧ it τ (ro σ r 4) 6 = r) : OK τ := by
  obtain ⟨hC, hwl, h6, h7', hkd, hRF, hTF, hNC⟩ := hO
  have e0 := hlow 0 (by omega) (by omega)
  have e6 := hlow 6 (by omega) (by omega)
  have hk6 : ∀ k : Nat, k < 6 → τ k = σ k := fun k hk => hlow k (by omega) (by omega)
  have hro : ∀ o : Nat, o < 5 → ∀ k : Nat, k < 42 → ro τ o k = ro σ o k := fun o ho k hk => by
    rw [ro_nat, ro_nat, hlow _ (by omega) (by omega)]
  have hSR : ∀ o : Nat, o < 5 → SR σ τ o := fun o ho k hk _ => hro o ho k hk
  refine ⟨by rw [e0]; exact hC, wl_congr hk6 hwl, by rw [e6]; exact h6, by omega, fun c hc => by rw [hlow _ (by omega) (by omega)]; exact hkd c hc, fun r hr => ?_, hT, fun r o hr ho hne t ht => ?_⟩
  · rw [e6] at hr
    obtain ⟨q1, q2, q3, q4, q5⟩ := hRF r hr
    have r2 : ro τ r 2 = ro σ r 2 := hro r (by omega) 2 (by omega)
    have r4 : ro τ r 4 = ro σ r 4 := hro r (by omega) 4 (by omega)
    have r10 : ro τ r 10 = ro σ r 10 := hro r (by omega) 10 (by omega)
    have r77 : ro τ r 7 = ro σ r 7 := hro r (by omega) 7 (by omega)
    refine ⟨wr_SR hk6 hwl (hSR r (by omega)) q1, fun t ht => ?_, by rw [r10, r77, e0]; exact q3, by rw [r4]; omega, fun h4 => ?_⟩
    · have hrg := fp_rng q1 t
      rw [fp_SR hk6 hwl (hSR r (by omega)) q1] at ht ⊢
      rw [hlow _ (by omega) (by omega)]
      exact q2 t ht
    · rw [r4] at h4 ⊢
      rw [r2]
      exact ⟨(q5 h4).1, hS r hr h4⟩
  · rw [e6] at hr ho
    rw [fp_SR hk6 hwl (hSR r (by omega)) (hRF r hr).1] at ht ⊢
    rw [fp_SR hk6 hwl (hSR o (by omega)) (hRF o ho).1]
    exact hNC r o hr ho hne t ht
/-- the world against a row with other tasks -/
theorem WD_tasks {σ τ : Nat → Int} {w : Nat} {M N : am_M} (hO : OK σ) (hW : WD σ w M) (hlow : ∀ k : Nat, k < 298 → k ≠ 7 → τ k = σ k) {X : List Nat} (hf : fr X M N) (hX : ∀ a, w ≤ a → a < w + 40 → a ≠ w → a ∉ X) (h2 : iv N w 2 = iv M w 2) (h3 : iv N w 3 = τ 7) (h4 : iv N w 4 = iv M w 4) (hT : ∀ j : Nat, (j : Int) < τ 7 → TB τ w j N) : WD τ w N := by
  obtain ⟨hC, hwl, h6, h7', hkd, hRF, hTF, hNC⟩ := hO
  obtain ⟨W1, W2, W3, W4, W5⟩ := hW
  have e0 := hlow 0 (by omega) (by omega)
  have e6 := hlow 6 (by omega) (by omega)
  have hk6 : ∀ k : Nat, k < 6 → τ k = σ k := fun k hk => hlow k (by omega) (by omega)
  refine ⟨?_, ?_, fun c hc => ?_, fun i hi => ?_, hT⟩
  · obtain ⟨f1, f2, f3, f4⟩ := FLw_fr W1 hf (fun a b1 b2 => hX a (by omega) (by omega) (by omega))
    have hw := hwl.1
    refine ⟨by rw [hlow 1 (by omega) (by omega)]; exact f1, fun k hk => ?_, fun c hc => by rw [hlow _ (by omega) (by omega)]; exact f3 c hc, fun c a hc ha => by rw [mvs_congr hk6 hwl]; exact f4 c a hc ha⟩
    rw [hlow 1 (by omega) (by omega)] at hk
    rw [hlow _ (by omega) (by omega)]
    exact f2 k hk
  · rw [h2, h4, e6, e0]
    exact ⟨W2.1, h3, W2.2.2⟩
  · rw [hlow _ (by omega) (by omega), fr_i hf (hX _ (by omega) (by omega) (by omega))]
    exact W3 c hc
  · rw [e6] at hi
    exact RB_SR hk6 hwl (fun k hk => by rw [ro_nat, ro_nat, hlow _ (by omega) (by omega)]) (hRF i hi).1.1.2 (RB_fr (W4 i hi) hf (fun a b1 b2 => hX a (by omega) (by omega) (by omega)))
def tkF (σ : Nat → Int) (j : Nat) (f t rl d : Int) : Nat → Int := fun k => if k = 7 then (j : Int) + 1 else if k = 306 + 9 * j then σ 0 else if k = 305 + 9 * j then -1 else if k = 304 + 9 * j then -1 else if k = 303 + 9 * j then 0 else if k = 302 + 9 * j then 0 else if k = 301 + 9 * j then d else if k = 300 + 9 * j then rl else if k = 299 + 9 * j then t else if k = 298 + 9 * j then f else σ k
theorem tkF_low {σ : Nat → Int} {j : Nat} {f t rl d : Int} {k : Nat} (hk : k < 298) (h7 : k ≠ 7) : tkF σ j f t rl d k = σ k := by
  unfold tkF
  rw [if_neg h7, if_neg (by omega), if_neg (by omega), if_neg (by omega), if_neg (by omega), if_neg (by omega), if_neg (by omega), if_neg (by omega), if_neg (by omega), if_neg (by omega)]
theorem tkF_other {σ : Nat → Int} {j : Nat} {f t rl d : Int} {i k : Nat} (hk : k < 9) (h : i ≠ j) : it (tkF σ j f t rl d) i k = it σ i k := by
  rw [it_nat, it_nat]
  unfold tkF
  rw [if_neg (by omega), if_neg (by omega), if_neg (by omega), if_neg (by omega), if_neg (by omega), if_neg (by omega), if_neg (by omega), if_neg (by omega), if_neg (by omega), if_neg (by omega)]
def tkV (C f t rl d : Int) : Nat → Int := fun k => if k = 0 then f else if k = 1 then t else if k = 2 then rl else if k = 3 then d else if k = 4 then 0 else if k = 5 then 0 else if k = 6 then -1 else if k = 7 then -1 else C
theorem tkF_own {σ : Nat → Int} {j : Nat} {f t rl d : Int} {k : Nat} (hk : k < 9) : it (tkF σ j f t rl d) j k = tkV (σ 0) f t rl d k := by
  rw [it_nat]
  unfold tkF tkV
  rw [if_neg (by omega)]
  rcases (by omega : k = 0 ∨ k = 1 ∨ k = 2 ∨ k = 3 ∨ k = 4 ∨ k = 5 ∨ k = 6 ∨ k = 7 ∨ k = 8) with rfl | rfl | rfl | rfl | rfl | rfl | rfl | rfl | rfl
  · rw [if_neg (by omega), if_neg (by omega), if_neg (by omega), if_neg (by omega), if_neg (by omega), if_neg (by omega), if_neg (by omega), if_neg (by omega), if_pos (by omega), if_pos rfl]
  · rw [if_neg (by omega), if_neg (by omega), if_neg (by omega), if_neg (by omega), if_neg (by omega), if_neg (by omega), if_neg (by omega), if_pos (by omega)]
    rfl
  · rw [if_neg (by omega), if_neg (by omega), if_neg (by omega), if_neg (by omega), if_neg (by omega), if_neg (by omega), if_pos (by omega)]
    rfl
  · rw [if_neg (by omega), if_neg (by omega), if_neg (by omega), if_neg (by omega), if_neg (by omega), if_pos (by omega)]
    rfl
  · rw [if_neg (by omega), if_neg (by omega), if_neg (by omega), if_neg (by omega), if_pos (by omega)]
    rfl
  · rw [if_neg (by omega), if_neg (by omega), if_neg (by omega), if_pos (by omega)]
    rfl
  · rw [if_neg (by omega), if_neg (by omega), if_pos (by omega)]
    rfl
  · rw [if_neg (by omega), if_pos (by omega)]
    rfl
  · rw [if_pos (by omega)]
    rfl
theorem iv_a {M : am_M} {a k : Nat} {v : Int} (h1 : -2147483648 ≤ v) (h2 : v < 2147483648) : iv (am_s M a k (pI v)) a k = v := by rw [iv_s h1 h2, if_pos ⟨rfl, rfl⟩]
theorem iv_b {M : am_M} {a k b j : Nat} {x : Int32} (h : j ≠ k) : iv (am_s M a k x) b j = iv M b j := by
  unfold iv am_s
  dsimp only
  rw [if_neg (fun q => h q.2)]
theorem iv_c {M : am_M} {a k b j : Nat} {x : Int32} (h : b ≠ a) : iv (am_s M a k x) b j = iv M b j := by
  unfold iv am_s
  dsimp only
  rw [if_neg (fun q => h q.1)]
theorem aci {α : Type} (i : Int32) (n : Nat) (k : Option α) (h : 0 ≤ i.toInt ∧ i.toInt < (n : Int)) : am_ci i n k = k := by
  unfold am_ci
  rw [if_pos h]
theorem mset {P : am_M} {j k : Nat} {v : Int32} (hj : j < 12) (hk : k < 9) : g_X10_set (pI j) (pI k) v P = some ((), am_s P 175 (298 + 9 * j + k) v) := by
  rw [s_tset v P (by omega) (by omega), show (298 + 9 * (j : Int) + (k : Int)).toNat = 298 + 9 * j + k by omega]
theorem s_begin7 (p : Nat) (x y r d c : Int32) (M : am_M) : g_X7_begin p x y r d c M = some ((), am_s (am_s (am_s (am_s (am_s (am_s (am_s (am_s (am_s M p 0 x) p 1 y) p 2 r) p 3 d) p 4 c) p 8 (pI (-1))) p 5 (pI 0)) p 6 (pI 0)) p 7 (pI (-1))) := rfl
theorem begin7_v {p : Nat} {x y r d c : Int} {M : am_M} (hx : -2147483648 ≤ x ∧ x < 2147483648) (hy : -2147483648 ≤ y ∧ y < 2147483648) (hr : -2147483648 ≤ r ∧ r < 2147483648) (hd : -2147483648 ≤ d ∧ d < 2147483648) (hc : -2147483648 ≤ c ∧ c < 2147483648) : ∃ N, g_X7_begin p (pI x) (pI y) (pI r) (pI d) (pI c) M = some ((), N) ∧ fr [p] M N ∧ iv N p 0 = x ∧ iv N p 1 = y ∧ iv N p 2 = r ∧ iv N p 3 = d ∧ iv N p 4 = c ∧ iv N p 5 = 0 ∧ iv N p 6 = 0 ∧ iv N p 7 = -1 ∧ iv N p 8 = -1 := by
  refine ⟨_, s_begin7 p _ _ _ _ _ M, fr_trans (fr_s (by simp)) (fr_trans (fr_s (by simp)) (fr_trans (fr_s (by simp)) (fr_trans (fr_s (by simp)) (fr_trans (fr_s (by simp)) (fr_trans (fr_s (by simp)) (fr_trans (fr_s (by simp)) (fr_trans (fr_s (by simp)) (fr_s (by simp))))))))), ?_, ?_, ?_, ?_, ?_, ?_, ?_, ?_, ?_⟩
  · rw [iv_b (by decide), iv_b (by decide), iv_b (by decide), iv_b (by decide), iv_b (by decide), iv_b (by decide), iv_b (by decide), iv_b (by decide), iv_a hx.1 hx.2]
  · rw [iv_b (by decide), iv_b (by decide), iv_b (by decide), iv_b (by decide), iv_b (by decide), iv_b (by decide), iv_b (by decide), iv_a hy.1 hy.2]
  · rw [iv_b (by decide), iv_b (by decide), iv_b (by decide), iv_b (by decide), iv_b (by decide), iv_b (by decide), iv_a hr.1 hr.2]
  · rw [iv_b (by decide), iv_b (by decide), iv_b (by decide), iv_b (by decide), iv_b (by decide), iv_a hd.1 hd.2]
  · rw [iv_b (by decide), iv_b (by decide), iv_b (by decide), iv_b (by decide), iv_a hc.1 hc.2]
  · rw [iv_b (by decide), iv_b (by decide), iv_a (by omega) (by omega)]
  · rw [iv_b (by decide), iv_a (by omega) (by omega)]
  · rw [iv_a (by omega) (by omega)]
  · rw [iv_b (by decide), iv_b (by decide), iv_b (by decide), iv_a (by omega) (by omega)]
theorem s_mtask {σ : Nat → Int} {P : am_M} {j : Nat} {x y r d : Int} (hs : sg P = σ) (hj : j < 12) (h0 : -2147483648 ≤ σ 0 ∧ σ 0 < 2147483648) (hx : -2147483648 ≤ x ∧ x < 2147483648) (hy : -2147483648 ≤ y ∧ y < 2147483648) (hr : -2147483648 ≤ r ∧ r < 2147483648) (hd : -2147483648 ≤ d ∧ d < 2147483648) : ∃ Q, sg Q = tkF σ j x y r d ∧ fr [175] P Q ∧ Q = am_s (am_s (am_s (am_s (am_s (am_s (am_s (am_s (am_s (am_s P 175 (298 + 9 * j + 0) (pI x)) 175 (298 + 9 * j + 1) (pI y)) 175 (298 + 9 * j + 2) (pI r)) 175 (298 + 9 * j + 3) (pI d)) 175 (298 + 9 * j + 4) (pI 0)) 175 (298 + 9 * j + 5) (pI 0)) 175 (298 + 9 * j + 6) (pI (-1))) 175 (298 + 9 * j + 7) (pI (-1))) 175 (298 + 9 * j + 8) (pI (σ 0))) 175 7 (pI ((j : Int) + 1)) := by
  refine ⟨_, ?_, ?_, rfl⟩
  · rw [sg_up (by omega) (by omega), sg_up h0.1 h0.2, sg_up (by omega) (by omega), sg_up (by omega) (by omega), sg_up (by omega) (by omega), sg_up (by omega) (by omega), sg_up hd.1 hd.2, sg_up hr.1 hr.2, sg_up hy.1 hy.2, sg_up hx.1 hx.2, hs]
    funext k
    unfold tkF
    rw [show 298 + 9 * j + 8 = 306 + 9 * j by omega, show 298 + 9 * j + 7 = 305 + 9 * j by omega, show 298 + 9 * j + 6 = 304 + 9 * j by omega, show 298 + 9 * j + 5 = 303 + 9 * j by omega, show 298 + 9 * j + 4 = 302 + 9 * j by omega, show 298 + 9 * j + 3 = 301 + 9 * j by omega, show 298 + 9 * j + 2 = 300 + 9 * j by omega, show 298 + 9 * j + 1 = 299 + 9 * j by omega, Nat.add_zero]
  · exact fr_trans (fr_s (by simp)) (fr_trans (fr_s (by simp)) (fr_trans (fr_s (by simp)) (fr_trans (fr_s (by simp)) (fr_trans (fr_s (by simp)) (fr_trans (fr_s (by simp)) (fr_trans (fr_s (by simp)) (fr_trans (fr_s (by simp)) (fr_trans (fr_s (by simp)) (fr_s (by simp))))))))))
/-- the row and the world with one task more -/
theorem tk_new {σ : Nat → Int} {j : Nat} {x y r d : Int} {M N : am_M} (hO : OK σ) (hW : WD σ 1 M) (h7 : σ 7 = j) (hj : j < 12) (hx : 0 ≤ x ∧ x < 40) (hy : 0 ≤ y ∧ y < 40) (hb : x ≠ y ∧ 0 ≤ r ∧ d ≤ 1000 ∧ r ≤ d) (hf : fr [41 + j, 1] M N) (h2 : iv N 1 2 = iv M 1 2) (h3 : iv N 1 3 = (j : Int) + 1) (h4 : iv N 1 4 = iv M 1 4) (t0 : iv N (41 + j) 0 = x) (t1 : iv N (41 + j) 1 = y) (t2 : iv N (41 + j) 2 = r) (t3 : iv N (41 + j) 3 = d) (t4 : iv N (41 + j) 4 = σ 0) (t5 : iv N (41 + j) 5 = 0) (t6 : iv N (41 + j) 6 = 0) (t7 : iv N (41 + j) 7 = -1) (t8 : iv N (41 + j) 8 = -1) : OK (tkF σ j x y r d) ∧ WD (tkF σ j x y r d) 1 N := by
  have e7 : tkF σ j x y r d 7 = (j : Int) + 1 := by unfold tkF; rw [if_pos rfl]
  have hlow : ∀ k : Nat, k < 298 → k ≠ 7 → tkF σ j x y r d k = σ k := fun k h1 h2 => tkF_low h1 h2
  have hRF := hO.2.2.2.2.2.1
  have hTF := hO.2.2.2.2.2.2.1
  have i : ∀ k : Nat, k < 9 → it (tkF σ j x y r d) j k = tkV (σ 0) x y r d k := fun k hk => tkF_own hk
  have i0 : it (tkF σ j x y r d) j 0 = x := i 0 (by omega)
  have i1 : it (tkF σ j x y r d) j 1 = y := i 1 (by omega)
  have i2 : it (tkF σ j x y r d) j 2 = r := i 2 (by omega)
  have i3 : it (tkF σ j x y r d) j 3 = d := i 3 (by omega)
  have i4 : it (tkF σ j x y r d) j 4 = 0 := i 4 (by omega)
  have i6 : it (tkF σ j x y r d) j 6 = -1 := i 6 (by omega)
  refine ⟨OK_tasks hO hlow (by rw [e7, h7]; omega) (fun q hq => ?_) (fun o ho h40 => ?_), WD_tasks hO hW hlow hf (fun a b1 b2 b3 h => by simp at h; omega) h2 (by rw [e7]; exact h3) h4 (fun q hq => ?_)⟩
  · rw [e7] at hq
    by_cases h : q = j
    · subst h
      unfold TF
      rw [i0, i1, i2, i3, i4, i6]
      exact ⟨hx, hy, hb.1, by omega, by omega, by omega, fun _ => rfl⟩
    · have hold : ∀ k : Nat, k < 9 → it (tkF σ j x y r d) q k = it σ q k := fun k hk => tkF_other hk h
      have q0 : it (tkF σ j x y r d) q 0 = it σ q 0 := hold 0 (by omega)
      have q1 : it (tkF σ j x y r d) q 1 = it σ q 1 := hold 1 (by omega)
      have q2 : it (tkF σ j x y r d) q 2 = it σ q 2 := hold 2 (by omega)
      have q3 : it (tkF σ j x y r d) q 3 = it σ q 3 := hold 3 (by omega)
      have q4 : it (tkF σ j x y r d) q 4 = it σ q 4 := hold 4 (by omega)
      have q6 : it (tkF σ j x y r d) q 6 = it σ q 6 := hold 6 (by omega)
      unfold TF
      rw [q0, q1, q2, q3, q4, q6]
      exact hTF q (by omega)
  · obtain ⟨q1, q2, q3⟩ := (hRF o ho).2.2.2.2 h40
    have hlt := (hRF o ho).2.2.2.1.2
    obtain ⟨t, et⟩ : ∃ t : Nat, ro σ o 4 = t := ⟨(ro σ o 4).toNat, by omega⟩
    rw [et] at q2 q3 ⊢
    have u4 : it (tkF σ j x y r d) t 4 = it σ t 4 := tkF_other (k := 4) (by omega) (by omega)
    have u6 : it (tkF σ j x y r d) t 6 = it σ t 6 := tkF_other (k := 6) (by omega) (by omega)
    rw [u4, u6]
    exact ⟨q2, q3⟩
  · rw [e7] at hq
    by_cases h : q = j
    · subst h
      refine (TB_iff (w := 1) _ i).mpr ?_
      rw [show 1 + 40 + q = 41 + q by omega]
      unfold tkV
      exact ⟨⟨t0, t1, t2, t3⟩, t4, t5, t6, t7, t8⟩
    · have hq5 := hW.2.2.2.2 q (by omega)
      have hqN := TB_fr hq5 hf (by simp; omega)
      exact (TB_iff (w := 1) (fun k => it σ q k) (fun k hk => tkF_other hk h)).mpr ((TB_iff (w := 1) (fun k => it σ q k) (fun k _ => rfl)).mp hqN)
theorem cs_addTask {M : am_M} (hI : INV M) (a b e d : Int32) : CS (g_L_addTask a b e d M) (g_X10_addTask a b e d) := by
  obtain ⟨x, rfl, hx1, hx2⟩ := pi_cast a
  obtain ⟨y, rfl, hy1, hy2⟩ := pi_cast b
  obtain ⟨rl, rfl, hr1, hr2⟩ := pi_cast e
  obtain ⟨dl, rfl, hd1, hd2⟩ := pi_cast d
  have hO := hI.1
  have h7 := hO.2.2.2.1
  have e13 : iv M 1 3 = sg M 7 := hI.2.1.2.1.2.1
  have e14 : iv M 1 4 = sg M 0 := hI.2.1.2.1.2.2
  have hC := hO.1
  have g0 := s_demandCell (x := x) (M := M) hx1 hx2
  have g1 := s_demandCell (x := y) (M := M) hy1 hy2
  have ceq : (pI x = pI y) = (x = y) := pi_eq hx1 hx2 hy1 hy2
  have cl1 : (pI rl < (0 : Int32)) = (rl < 0) := pi_lt (b := 0) hr1 hr2 (by omega) (by omega)
  have cl2 : ((1000 : Int32) < pI dl) = (1000 < dl) := pi_lt (a := 1000) (by omega) (by omega) hd1 hd2
  have cl3 : (pI rl ≤ pI dl) = (rl ≤ dl) := pi_le hr1 hr2 hd1 hd2
  by_cases cx : 0 ≤ x ∧ x < 40
  · rw [if_pos cx] at g0
    by_cases cy : 0 ≤ y ∧ y < 40
    · rw [if_pos cy] at g1
      by_cases cb : x ≠ y ∧ 0 ≤ rl ∧ dl ≤ 1000 ∧ rl ≤ dl
      · have mi1 : ∀ P, g_X10_in (pI rl) (0 : Int32) (1000 : Int32) P = some (pI 1, P) := fun P => min_t (b := 0) (c := 1000) (by omega) (by omega) (by omega) (by omega)
        have mi2 : ∀ P, g_X10_in (pI dl) (0 : Int32) (1000 : Int32) P = some (pI 1, P) := fun P => min_t (b := 0) (c := 1000) (by omega) (by omega) (by omega) (by omega)
        have c3 : am_g M 1 3 = pI (sg M 7) := by rw [pi_g, e13]
        have c4 : am_g M 1 4 = pI (sg M 0) := by rw [pi_g, e14]
        have hst9 : g_X9_addTask (pI x) (pI y) (pI rl) (pI dl) M = (if (am_g M 1 3) < (12 : Int32) then (am_b (g_X8_taskOf 1 (am_g M 1 3) M) (fun v9 M8 => (am_b (g_X7_begin v9 (pI x) (pI y) (pI rl) (pI dl) (am_g M8 1 4) M8) (fun _ M11 => (some ((.inl ((am_g (am_s M11 1 3 ((am_g M11 1 3) + (1 : Int32))) 1 3) - (1 : Int32)) : Int32 ⊕ Nat), (am_s M11 1 3 ((am_g M11 1 3) + (1 : Int32))))))))) else (some ((.inr 3 : Int32 ⊕ Nat), M))) := by
          unfold g_X9_addTask
          rw [g0, am_bx_inl, g1, am_bx_inl]
          simp only [ceq, cl1, cl2, cl3]
          rw [if_neg cb.1, if_neg (by omega), if_neg (by omega), if_pos cb.2.2.2]
        by_cases cf : sg M 7 < 12
        · obtain ⟨j, ej⟩ : ∃ j : Nat, sg M 7 = j := ⟨(sg M 7).toNat, by omega⟩
          rw [ej] at c3
          obtain ⟨N1, g2, f1, t0, t1, t2, t3, t4, t5, t6, t7, t8⟩ := begin7_v (p := 41 + j) (x := x) (y := y) (r := rl) (d := dl) (c := sg M 0) (M := M) ⟨hx1, hx2⟩ ⟨hy1, hy2⟩ ⟨hr1, hr2⟩ ⟨hd1, hd2⟩ ⟨by omega, by omega⟩
          have c5 : am_g N1 1 3 + (1 : Int32) = pI ((j : Int) + 1) := by rw [pi_g, fr_i f1 (by simp; omega), e13, ej, show (1 : Int32) = pI 1 from rfl, pi_add]
          have c6 : am_g (am_s N1 1 3 (pI ((j : Int) + 1))) 1 3 - (1 : Int32) = pI (j : Nat) := by rw [pi_g, iv_a (by omega) (by omega), show (1 : Int32) = pI 1 from rfl, pi_sub, show (j : Int) + 1 - 1 = j by omega]
          have fN : fr [41 + j, 1] M (am_s N1 1 3 (pI ((j : Int) + 1))) := fr_trans (fr_mono f1 (by simp)) (fr_s (by simp))
          have hnew := tk_new (N := am_s N1 1 3 (pI ((j : Int) + 1))) hO hI.2.1 ej (by omega) cx cy cb fN (by rw [iv_b (by decide), fr_i f1 (by simp; omega)]) (iv_a (by omega) (by omega)) (by rw [iv_b (by decide), fr_i f1 (by simp; omega)]) (by rw [iv_c (by omega)]; exact t0) (by rw [iv_c (by omega)]; exact t1) (by rw [iv_c (by omega)]; exact t2) (by rw [iv_c (by omega)]; exact t3) (by rw [iv_c (by omega)]; exact t4) (by rw [iv_c (by omega)]; exact t5) (by rw [iv_c (by omega)]; exact t6) (by rw [iv_c (by omega)]; exact t7) (by rw [iv_c (by omega)]; exact t8)
          obtain ⟨N, eN⟩ : ∃ N, N = am_s N1 1 3 (pI ((j : Int) + 1)) := ⟨_, rfl⟩
          rw [← eN] at fN hnew c6
          obtain ⟨P, eP⟩ : ∃ P, P = am_s (am_ls N 186 0 (pI (j : Nat)).toInt64) 174 0 (pI 0) := ⟨_, rfl⟩
          have hsN : sg N = sg M := sg_fr fN (by simp; omega)
          have hsP : sg P = sg M := by rw [eP]; exact sg_t.trans (show sg (am_ls N 186 0 (pI (j : Nat)).toInt64) = sg M from hsN)
          obtain ⟨Q, eQ, fQ, hQ⟩ := s_mtask (P := P) (j := j) hsP (by omega) ⟨by omega, by omega⟩ ⟨hx1, hx2⟩ ⟨hy1, hy2⟩ ⟨hr1, hr2⟩ ⟨hd1, hd2⟩
          have fNQ : fr [174, 175, 186] N Q := fr_trans (M := N) (N := P) (by rw [eP]; exact fr_trans (N := am_ls N 186 0 (pI (j : Nat)).toInt64) (fr_ls (by simp)) (fr_s (by simp))) (fr_mono fQ (by simp))
          have fMQ : fr KX M Q := fr_trans (fr_mono fN (fun z hz => mem_KX.mpr (by simp at hz; omega))) (fr_mono fNQ (by decide))
          have hk : ∀ k, k ≠ 0 → iv Q 174 k = iv M 174 k := fun k hk => by
            rw [fr_i fQ (by simp), eP, iv_b hk]
            exact fr_i fN (by simp; omega) k
          have hIQ : INV Q := INV_set hI (by rw [eQ]; exact hnew.1) (by
            rw [eQ]
            exact WD_fr hnew.2 (by rw [tkF_low (by omega) (by omega)]; exact hO.2.2.1.2) (by show tkF (sg M) j x y rl dl 7 ≤ 12; unfold tkF; rw [if_pos rfl]; omega) fNQ (by intro z z1 z2 z3; simp at z3; omega)) fMQ (hk 4 (by omega)) (hk 7 (by omega)) (hk 8 (by omega)) (hk 11 (by omega))
          refine CS_yes (O := N) (v := pI (j : Nat)) (Q := Q) ?_ ?_ ?_ ?_ hIQ
          · unfold g_L_addTask
            rw [hst9, c3, if_pos (show pI (j : Nat) < (12 : Int32) by show pI _ < pI 12; rw [pi_lt (by omega) (by omega) (by omega) (by omega)]; omega), s_taskOf M (by omega), am_b_some, show 1 + 40 + j = 41 + j by omega, c4, g2, am_b_some, c5, ← eN, c6]
            rfl
          · unfold g_X10_addTask
            have d7 : am_g P 175 (7 : Int32).toNatClampNeg = pI (j : Nat) := by
              show am_g P 175 7 = _
              rw [pi_g, show iv P 175 7 = sg M 7 from congrFun hsP 7, ej]
            rw [show am_s (am_ls N 186 0 (pI (j : Nat)).toInt64) 174 0 (0 : Int32) = P from eP.symm, mcell_t cx, am_b_some, if_neg ci1, mcell_t cy, am_b_some, if_neg ci1, if_neg (show ¬ (pI x = pI y) by rw [ceq]; exact cb.1), mi1, am_b_some, if_neg ci1, mi2, am_b_some, if_neg ci1, if_pos (show pI rl ≤ pI dl by rw [cl3]; exact cb.2.2.2), aci _ _ _ (by decide), d7, if_neg (show ¬ (pI (j : Nat) = (12 : Int32)) from fun q => by have := (pi_eq (a := j) (b := 12) (by omega) (by omega) (by omega) (by omega)).mp q; omega), aci _ _ _ (by decide)]
            refine (congrArg (fun z => am_b z _) (mset (k := 0) (show j < 12 by omega) (by omega))).trans ?_
            rw [am_b_some]
            refine (congrArg (fun z => am_b z _) (mset (k := 1) (show j < 12 by omega) (by omega))).trans ?_
            rw [am_b_some]
            refine (congrArg (fun z => am_b z _) (mset (k := 2) (show j < 12 by omega) (by omega))).trans ?_
            rw [am_b_some]
            refine (congrArg (fun z => am_b z _) (mset (k := 3) (show j < 12 by omega) (by omega))).trans ?_
            rw [am_b_some]
            refine (congrArg (fun z => am_b z _) (mset (k := 4) (show j < 12 by omega) (by omega))).trans ?_
            rw [am_b_some]
            refine (congrArg (fun z => am_b z _) (mset (k := 5) (show j < 12 by omega) (by omega))).trans ?_
            rw [am_b_some]
            refine (congrArg (fun z => am_b z _) (mset (k := 6) (show j < 12 by omega) (by omega))).trans ?_
            rw [am_b_some]
            refine (congrArg (fun z => am_b z _) (mset (k := 7) (show j < 12 by omega) (by omega))).trans ?_
            rw [am_b_some]
            rw [aci _ _ _ (by decide)]
            rw [show ∀ X : am_M, am_g X 175 (0 : Int32).toNatClampNeg = pI (iv X 175 0) from fun X => pi_g X 175 0]
            rw [iv_b (by omega), iv_b (by omega), iv_b (by omega), iv_b (by omega), iv_b (by omega), iv_b (by omega), iv_b (by omega), iv_b (by omega), show iv P 175 0 = sg M 0 from congrFun hsP 0]
            refine (congrArg (fun z => am_b z _) (mset (k := 8) (show j < 12 by omega) (by omega))).trans ?_
            rw [am_b_some]
            rw [aci _ _ _ (by decide), aci _ _ _ (by decide)]
            rw [show ∀ X : am_M, am_g X 175 (7 : Int32).toNatClampNeg = pI (iv X 175 7) from fun X => pi_g X 175 7]
            rw [iv_b (by omega), iv_b (by omega), iv_b (by omega), iv_b (by omega), iv_b (by omega), iv_b (by omega), iv_b (by omega), iv_b (by omega), iv_b (by omega), show iv P 175 7 = (j : Int) from (congrFun hsP 7).trans ej, hQ, show pI (j : Nat) + (1 : Int32) = pI ((j : Int) + 1) from by rw [show (1 : Int32) = pI 1 from rfl, pi_add]]
            rfl
          · rw [fr_i fQ (by simp), eP, iv_a (by omega) (by omega)]
          · rw [fr_l fQ (by simp), eP]; rfl
        · refine CS_no1 (k := 3) (v := 0) hI ?_ ?_ (by omega)
          · unfold g_L_addTask
            rw [hst9, c3, if_neg (show ¬ (pI (sg M 7) < (12 : Int32)) by show ¬ (pI _ < pI 12); rw [pi_lt (by omega) (by omega) (by omega) (by omega)]; omega)]
            rfl
          · unfold g_X10_addTask
            have d7 : am_g (am_s M 174 0 (pI 0)) 175 (7 : Int32).toNatClampNeg = (12 : Int32) := by
              show am_g (am_s M 174 0 (pI 0)) 175 7 = _
              rw [pi_g, show iv (am_s M 174 0 (pI 0)) 175 7 = sg M 7 from congrFun sg_t 7, show sg M 7 = 12 by omega]
              rfl
            rw [show am_s M 174 0 (0 : Int32) = am_s M 174 0 (pI 0) from rfl, mcell_t cx, am_b_some, if_neg ci1, mcell_t cy, am_b_some, if_neg ci1, if_neg (show ¬ (pI x = pI y) by rw [ceq]; exact cb.1), mi1, am_b_some, if_neg ci1, mi2, am_b_some, if_neg ci1, if_pos (show pI rl ≤ pI dl by rw [cl3]; exact cb.2.2.2), aci _ _ _ (by decide), d7, if_pos rfl]
            rfl
      · refine CS_no1 (k := 2) (v := 0) hI ?_ ?_ (by omega)
        · unfold g_L_addTask g_X9_addTask
          rw [g0, am_bx_inl, g1, am_bx_inl]
          simp only [ceq, cl1, cl2, cl3]
          by_cases q1 : x = y
          · rw [if_pos q1]; rfl
          · by_cases q2 : rl < 0
            · rw [if_neg q1, if_pos q2]; rfl
            · by_cases q3 : 1000 < dl
              · rw [if_neg q1, if_neg q2, if_pos q3]; rfl
              · rw [if_neg q1, if_neg q2, if_neg q3, if_neg (by omega)]; rfl
        · unfold g_X10_addTask
          rw [show am_s M 174 0 (0 : Int32) = am_s M 174 0 (pI 0) from rfl, mcell_t cx, am_b_some, if_neg ci1, mcell_t cy, am_b_some, if_neg ci1]
          by_cases q1 : x = y
          · rw [if_pos (show pI x = pI y by rw [q1])]; rfl
          · rw [if_neg (show ¬ (pI x = pI y) by rw [ceq]; exact q1)]
            by_cases q2 : 0 ≤ rl ∧ rl ≤ 1000
            · have mi1 : g_X10_in (pI rl) (0 : Int32) (1000 : Int32) (am_s M 174 0 (pI 0)) = some (pI 1, am_s M 174 0 (pI 0)) := min_t (b := 0) (c := 1000) (by omega) (by omega) (by omega) (by omega)
              rw [mi1, am_b_some, if_neg ci1]
              by_cases q3 : 0 ≤ dl ∧ dl ≤ 1000
              · have mi2 : g_X10_in (pI dl) (0 : Int32) (1000 : Int32) (am_s M 174 0 (pI 0)) = some (pI 1, am_s M 174 0 (pI 0)) := min_t (b := 0) (c := 1000) (by omega) (by omega) (by omega) (by omega)
                rw [mi2, am_b_some, if_neg ci1, if_neg (show ¬ (pI rl ≤ pI dl) by rw [cl3]; omega)]
                rfl
              · have mi2 : g_X10_in (pI dl) (0 : Int32) (1000 : Int32) (am_s M 174 0 (pI 0)) = some (pI 0, am_s M 174 0 (pI 0)) := min_f (b := 0) (c := 1000) (by omega) (by omega) (by omega) (by omega) (by omega) (by omega) q3
                rw [mi2, am_b_some, if_pos ci0]
                rfl
            · have mi1 : g_X10_in (pI rl) (0 : Int32) (1000 : Int32) (am_s M 174 0 (pI 0)) = some (pI 0, am_s M 174 0 (pI 0)) := min_f (b := 0) (c := 1000) (by omega) (by omega) (by omega) (by omega) (by omega) (by omega) q2
              rw [mi1, am_b_some, if_pos ci0]
              rfl
    · rw [if_neg cy] at g1
      refine CS_no1 (k := 1) (v := 0) hI ?_ ?_ (by omega)
      · unfold g_L_addTask g_X9_addTask
        rw [g0, am_bx_inl, g1, am_bx_inr]
        rfl
      · unfold g_X10_addTask
        rw [show am_s M 174 0 (0 : Int32) = am_s M 174 0 (pI 0) from rfl, mcell_t cx, am_b_some, if_neg ci1, mcell_f hy1 hy2 cy, am_b_some, if_pos ci0]
        rfl
  · rw [if_neg cx] at g0
    refine CS_no1 (k := 1) (v := 0) hI ?_ ?_ (by omega)
    · unfold g_L_addTask g_X9_addTask
      rw [g0, am_bx_inr]
      rfl
    · unfold g_X10_addTask
      rw [show am_s M 174 0 (0 : Int32) = am_s M 174 0 (pI 0) from rfl, mcell_f hx1 hx2 cx, am_b_some, if_pos ci0]
      rfl
end QX
