/-! the loop of assignAll on both sides -/
section ASL
theorem AS_loop : ∀ (d k f m : Nat) (n ρ : Int) (x : Int32) (A B : am_M) (S : List Nat), k + d = 12 → WD (sg B) 1 A → OK (sg B) → iv B 174 11 = -1 → (-1 ≤ ρ ∧ ρ ≤ 100000) → LM x (fun c => (c : Int) < sg B 7 ∧ it (sg B) c 4 = 0 ∧ ρ < rk (sg B) c) → (∀ c : Nat, (c : Int) < sg B 7 ∧ it (sg B) c 4 = 0 ∧ ρ < rk (sg B) c → c ∈ S) → S.length ≤ d → d < f → d < m → ∃ (u : Nat) (e : Int) (A' B' : am_M), g_X3_assignOpenTasks_L6 f (pI n) (pI ρ) (pI k) A = some ((u, pI e), A') ∧ g_X10_assignAll_L47 m x (pI n) B = some (pI e, B') ∧ fr KD A A' ∧ fr [174, 175, 180, 181, 182, 183, 184] B B' ∧ (∀ k, k ≠ 15 → k ≠ 16 → k ≠ 17 → iv B' 174 k = iv B 174 k) ∧ WD (sg B') 1 A' ∧ OK (sg B')
  | 0, k, f, m, n, ρ, x, A, B, S, hk, hW, hO, h11, hρ, hx, hS, hl, h1, h2 => by
    have h7 := hO.2.2.2.1
    obtain ⟨f, rfl⟩ : ∃ g, f = g + 1 := ⟨f - 1, by omega⟩
    obtain ⟨m, rfl⟩ : ∃ g, m = g + 1 := ⟨m - 1, by omega⟩
    have hS0 : S = [] := List.length_eq_zero_iff.mp (by omega)
    have hx0 : x = 0 := (LM_zero hx (fun c h => by omega)).mpr (fun c h => by
      have := hS c h
      rw [hS0] at this
      cases this)
    refine ⟨73, n, A, B, ?_, ?_, fr_refl _ _, fr_refl _ _, fun _ _ _ _ => rfl, hW, hO⟩
    · rw [g_X3_assignOpenTasks_L6, if_pos (show (12 : Int32) ≤ pI k by
        show pI 12 ≤ _
        rw [pi_le (by omega) (by omega) (by omega) (by omega)]
        omega)]
    · rw [g_X10_assignAll_L47, if_pos hx0]
  | d + 1, k, f, m, n, ρ, x, A, B, S, hk, hW, hO, h11, hρ, hx, hS, hl, h1, h2 => by
    have h6 := hO.2.2.1
    have h7 := hO.2.2.2.1
    obtain ⟨f, rfl⟩ : ∃ g, f = g + 1 := ⟨f - 1, by omega⟩
    obtain ⟨m, rfl⟩ : ∃ g, m = g + 1 := ⟨m - 1, by omega⟩
    have hc12 : ¬ (12 : Int32) ≤ pI k := by
      show ¬ pI 12 ≤ _
      rw [pi_le (by omega) (by omega) (by omega) (by omega)]
      omega
    have one : (1 : Int32) = pI 1 := rfl
    obtain ⟨b, g1, hb⟩ := s_next (ρ := ρ) hW hO (by omega)
    by_cases hx0 : x = 0
    · have hno := (LM_zero hx (fun c h => by omega)).mp hx0
      have hb1 : b = -1 := by
        rcases hb with ⟨e, _⟩ | ⟨j0, rfl, a1, a2, a3⟩
        · exact e
        · exact absurd ⟨by omega, a2⟩ (hno j0)
      refine ⟨27, n, A, B, ?_, ?_, fr_refl _ _, fr_refl _ _, fun _ _ _ _ => rfl, hW, hO⟩
      · rw [g_X3_assignOpenTasks_L6, if_neg hc12, g1, am_b_some, if_neg (show ¬ (0 : Int32) ≤ pI b by rw [hb1]; decide)]
      · rw [g_X10_assignAll_L47, if_pos hx0]
    · obtain ⟨b', g2, hb'⟩ := s_mnext (σ := sg B) (P := B) (a2 := pI n) rfl hO hx
      obtain ⟨j, rfl, j1, ⟨j2, j3⟩, j4⟩ : ∃ j : Nat, b = j ∧ j < (sg B 7).toNat ∧ (it (sg B) j 4 = 0 ∧ ρ < rk (sg B) j) ∧ ∀ c : Nat, c < (sg B 7).toNat → it (sg B) c 4 = 0 ∧ ρ < rk (sg B) c → rk (sg B) j ≤ rk (sg B) c := by
        rcases hb with ⟨e, hn⟩ | ⟨j0, e, a1, a2, a3⟩
        · exact absurd ((LM_zero hx (fun c h => by omega)).mpr (fun c h => hn c (by omega) h.2)) hx0
        · exact ⟨j0, e, a1, a2, a3⟩
      have hbb : b' = j := by
        rcases hb' with ⟨rfl, hn⟩ | ⟨i, rfl, b1, b2, b3⟩
        · exact absurd ⟨by omega, j2, j3⟩ (hn j j1)
        · have c1 := j4 i b1 b2.2
          have c2 := b3 j j1 ⟨by omega, j2, j3⟩
          rw [rk_inj (σ := sg B) (i := i) (j := j) (by omega) (by omega) (by omega)]
      rw [hbb] at g2
      have hj : (j : Int) < sg B 7 := by omega
      have hFj := hO.2.2.2.2.2.2.1 j hj
      have hdj := hFj.2.2.2.2.1
      have hrj : -1 ≤ rk (sg B) j ∧ rk (sg B) j ≤ 100000 := by unfold rk; omega
      have gr := s_rankOf (j := j) hW hj h7.2
      obtain ⟨c, t, A1, g3, f3, hc, hc1⟩ := s_bestFor (j := j) (id := 1) hW hO hj (Or.inr rfl)
      obtain ⟨c', t', B1, g4, f4, k4, hc', hc1'⟩ := s_bestOf (σ := sg B) (P := B) (j := j) (id := 1) rfl hO h11 hj (Or.inr rfl)
      have hcc : c' = c := AM_uniq hc' hc
      rw [hcc] at g4
      have hsB1 : sg B1 = sg B := sg_fr f4 (by decide)
      have hWA1 : WD (sg B) 1 A1 := WD_fr hW h6.2 h7.2 f3 (fun a a1 a2 => by simp; omega)
      have fA1 : fr KD A A1 := fr_mono f3 (fun a ha => mem_KD.mpr (by simp at ha; omega))
      have fB1 : fr [174, 175, 180, 181, 182, 183, 184] B B1 := fr_mono f4 (by simp)
      have hk1 : pI (k : Int) + (1 : Int32) = pI ((k + 1 : Nat) : Int) := pi_add k 1
      have hdrop := LM_drop (k := j) (by omega) hx
      have hcl : g_X3_assignOpenTasks_L6 (f + 1) (pI n) (pI ρ) (pI k) A = if c < 0 then g_X3_assignOpenTasks_L6 f (pI n) (pI (rk (sg B) j)) (pI ((k + 1 : Nat) : Int)) A1 else am_b (g_X3_letServe (pI j) (pI c) A1) (fun v12 M11 => (if v12 = (0 : Int32) then (g_X3_assignOpenTasks_L6 f (pI n + (1 : Int32)) (pI (rk (sg B) j)) (pI ((k + 1 : Nat) : Int)) M11) else (g_X3_assignOpenTasks_L6 f (pI n) (pI (rk (sg B) j)) (pI ((k + 1 : Nat) : Int)) M11))) := by
        rw [g_X3_assignOpenTasks_L6, if_neg hc12, g1, am_b_some, if_pos (show (0 : Int32) ≤ pI (j : Int) by
          show pI 0 ≤ _
          rw [pi_le (by omega) (by omega) (by omega) (by omega)]
          omega), gr, am_b_some]
        have g3' : g_X3_bestFor (pI j) (1 : Int32) A = some (pI c, A1) := g3
        rw [g3', am_b_some, hk1]
        have hc5 : c < 1000 := by
          rcases hc with ⟨e, _⟩ | ⟨c0, e, a1, _⟩ <;> omega
        by_cases e : c < 0
        · rw [if_pos e, if_pos (show pI c < (0 : Int32) by
            show _ < pI 0
            rw [pi_lt (by omega) (by omega) (by omega) (by omega)]
            exact e)]
        · rw [if_neg e, if_neg (show ¬ pI c < (0 : Int32) by
            show ¬ _ < pI 0
            rw [pi_lt (by omega) (by omega) (by omega) (by omega)]
            exact e)]
      have g4' : g_X10_bestOf (pI j) (1 : Int32) B = some (pI c, B1) := g4
      have hle : (S.erase j).length ≤ d := by
        have := List.length_erase_of_mem (hS j ⟨hj, j2, j3⟩)
        omega
      rcases hc with ⟨e, _⟩ | ⟨r, e, r1, r2, _⟩
      · rw [if_pos (by omega)] at hcl
        subst e
        have hp : ∀ i : Nat, ((i : Int) < sg B1 7 ∧ it (sg B1) i 4 = 0 ∧ rk (sg B) j < rk (sg B1) i) ↔ (((i : Int) < sg B 7 ∧ it (sg B) i 4 = 0 ∧ ρ < rk (sg B) i) ∧ i ≠ j) := fun i => by
          rw [hsB1]
          constructor
          · intro h
            exact ⟨⟨h.1, h.2.1, by omega⟩, fun q => by rw [q] at h; omega⟩
          · intro h
            have a1 := j4 i (by omega) h.1.2
            refine ⟨h.1.1, h.1.2.1, ?_⟩
            by_cases q : rk (sg B) j = rk (sg B) i
            · exact absurd (rk_inj (by omega) (by omega) q).symm h.2
            · omega
        obtain ⟨u, e', A', B', q1, q2, q3, q4, q5, q6, q7⟩ := AS_loop d (k + 1) f m n (rk (sg B) j) (x &&& (((1 : Int32) <<< (pI j &&& 31)) ^^^ (-1 : Int32))) A1 B1 (S.erase j) (by omega) (by rw [hsB1]; exact hWA1) (by rw [hsB1]; exact hO) (by rw [k4 11 (by omega) (by omega) (by omega)]; exact h11) hrj (fun i hi => (hdrop i hi).trans (hp i).symm) (fun i h => (List.mem_erase_of_ne ((hp i).mp h).2).mpr (hS i ((hp i).mp h).1)) hle (by omega) (by omega)
        refine ⟨u, e', A', B', hcl.trans q1, ?_, fr_trans fA1 q3, fr_trans fB1 q4, fun i a1 a2 a3 => by rw [q5 i a1 a2 a3, k4 i a1 a2 a3], q6, q7⟩
        rw [g_X10_assignAll_L47, if_neg hx0, g2, am_b_some, g4', am_b_some, if_pos (show pI (-1) = (-1 : Int32) from rfl)]
        exact q2
      · rw [if_neg (by omega)] at hcl
        subst e
        obtain ⟨s1, α, nn, s2, _⟩ := r2
        have hr6 : (r : Int) < sg B 6 := by omega
        obtain ⟨A2, B2, B3, p1, p2, p3, p4, p5, p6, p7, p8, ⟨p9, p10⟩, p11⟩ := AS_serve (A := A1) (B := B1) (j := j) (r := r) (by rw [hsB1]; exact hWA1) (by rw [hsB1]; exact hO) (by rw [k4 11 (by omega) (by omega) (by omega)]; exact h11) (by rw [hsB1]; exact hj) (by rw [hsB1]; exact hr6) (by rw [hsB1]; exact j2) (by rw [hsB1]; exact s1 (by omega)) ⟨α, nn, by rw [hsB1]; exact s2⟩
        rw [hsB1] at p9 p10 p11
        have hrk : ∀ i : Nat, rk (sg B3) i = rk (sg B) i := fun i => by
          unfold rk
          rw [(p11 i).1]
        have hp : ∀ i : Nat, ((i : Int) < sg B3 7 ∧ it (sg B3) i 4 = 0 ∧ rk (sg B) j < rk (sg B3) i) ↔ (((i : Int) < sg B 7 ∧ it (sg B) i 4 = 0 ∧ ρ < rk (sg B) i) ∧ i ≠ j) := fun i => by
          rw [p10, hrk, (p11 i).2]
          constructor
          · intro h
            have hne : i ≠ j := fun q => by rw [q] at h; omega
            rw [if_neg hne] at h
            exact ⟨⟨h.1, h.2.1, by omega⟩, hne⟩
          · intro h
            have a1 := j4 i (by omega) h.1.2
            rw [if_neg h.2]
            refine ⟨h.1.1, h.1.2.1, ?_⟩
            by_cases q : rk (sg B) j = rk (sg B) i
            · exact absurd (rk_inj (by omega) (by omega) q).symm h.2
            · omega
        obtain ⟨u, e', A', B', q1, q2, q3, q4, q5, q6, q7⟩ := AS_loop d (k + 1) f m (n + 1) (rk (sg B) j) (x &&& (((1 : Int32) <<< (pI j &&& 31)) ^^^ (-1 : Int32))) A2 B3 (S.erase j) (by omega) p7 p8 (by rw [p6 11 (by omega) (by omega) (by omega), k4 11 (by omega) (by omega) (by omega)]; exact h11) hrj (fun i hi => (hdrop i hi).trans (hp i).symm) (fun i h => (List.mem_erase_of_ne ((hp i).mp h).2).mpr (hS i ((hp i).mp h).1)) hle (by omega) (by omega)
        refine ⟨u, e', A', B', ?_, ?_, fr_trans fA1 (fr_trans p4 q3), fr_trans fB1 (fr_trans p5 q4), fun i a1 a2 a3 => by rw [q5 i a1 a2 a3, p6 i a1 a2 a3, k4 i a1 a2 a3], q6, q7⟩
        · rw [hcl, p1, am_b_some, if_pos (show pI 0 = (0 : Int32) from rfl), one, pi_add]
          exact q1
        · rw [g_X10_assignAll_L47, if_neg hx0, g2, am_b_some, g4', am_b_some, if_neg (show ¬ (pI (r : Int) = (-1 : Int32)) from fun h => by
            have := (pi_eq (a := r) (b := -1) (by omega) (by omega) (by omega) (by omega)).mp (show pI (r : Int) = pI (-1) from h)
            omega), p2, am_b_some, p3, am_b_some, one, pi_add]
          exact q2
theorem cs_assignAll {M : am_M} (hI : INV M) : ∃ (v : Int32) (P Q : am_M), g_X9_assignAll M = some (v, P) ∧ g_X10_assignAll P = some (v, Q) ∧ am_g Q 174 0 = 0 ∧ INV Q := by
  have hO := hI.1
  have h7 := hO.2.2.2.1
  have h11 := hI.2.2.1
  have hrk : ∀ c : Nat, (c : Int) < sg M 7 → -1 < rk (sg M) c := fun c hc => by
    have := (hO.2.2.2.2.2.2.1 c hc).2.2.2.2.1
    unfold rk
    omega
  have run : ∀ B : am_M, sg B = sg M → iv B 174 11 = -1 → ∃ (x : Int32) (u : Nat) (e : Int) (A' B' : am_M), g_X10_assignAll_L9 am_fu (0 : Int32) (0 : Int32) B = some (x, B) ∧ g_X3_assignOpenTasks_L6 am_fu (0 : Int32) (-1 : Int32) (0 : Int32) M = some ((u, pI e), A') ∧ g_X10_assignAll_L47 am_fu x (0 : Int32) B = some (pI e, B') ∧ fr KD M A' ∧ fr [174, 175, 180, 181, 182, 183, 184] B B' ∧ (∀ k, k ≠ 15 → k ≠ 16 → k ≠ 17 → iv B' 174 k = iv B 174 k) ∧ WD (sg B') 1 A' ∧ OK (sg B') := by
    intro B hB hB11
    obtain ⟨x, g1, hx⟩ := s_left (σ := sg M) hB hO
    have hx2 : LM x (fun c => (c : Int) < sg B 7 ∧ it (sg B) c 4 = 0 ∧ -1 < rk (sg B) c) := by
      rw [hB]
      exact fun c hc => (hx c hc).trans ⟨fun h => ⟨h.1, h.2, hrk c h.1⟩, fun h => ⟨h.1, h.2.1⟩⟩
    obtain ⟨u, e, A', B', q1, q2, q3, q4, q5, q6, q7⟩ := AS_loop 12 0 am_fu am_fu 0 (-1) x M B (List.range 12) (by omega) (by rw [hB]; exact hI.2.1) (by rw [hB]; exact hO) hB11 (by omega) hx2 (fun c h => List.mem_range.mpr (by rw [hB] at h; omega)) (by rw [List.length_range]; exact Nat.le_refl _) (by unfold am_fu; omega) (by unfold am_fu; omega)
    exact ⟨x, u, e, A', B', g1, q1, q2, q3, q4, q5, q6, q7⟩
  obtain ⟨x, u, e, A, B, _, g2, _, f1, _, _, _, _⟩ := run M rfl h11
  have h175 : 175 ∉ KD := fun q => by have := mem_KD.mp q; omega
  have h174 : 174 ∉ KD := fun q => by have := mem_KD.mp q; omega
  obtain ⟨P0, eP0⟩ : ∃ P0, P0 = am_s A 174 0 (pI 0) := ⟨_, rfl⟩
  have sP : sg P0 = sg M := by
    rw [eP0]
    exact sg_t.trans (sg_fr f1 h175)
  have kP : ∀ k : Nat, k ≠ 0 → iv P0 174 k = iv M 174 k := fun k hk => by
    rw [eP0, iv_b hk]
    exact fr_i f1 h174 k
  obtain ⟨x', u', e', A', Q, g5, g6, g7, f3, f4, k4, W, O⟩ := run P0 sP (by rw [kP 11 (by omega)]; exact h11)
  rw [g2] at g6
  have g8 := Option.some.inj g6
  have ee : pI e = pI e' := congrArg (fun z => z.1.2) g8
  have eA : A = A' := congrArg Prod.snd g8
  rw [← eA] at W
  have fQ : fr [174, 175, 180, 181, 182, 183, 184] A Q := fr_trans (N := P0) (by rw [eP0]; exact fr_s (by simp)) f4
  have hQ : INV Q := INV_set hI O (WD_fr W O.2.2.1.2 O.2.2.2.1.2 fQ (fun a h1 h2 => by simp; omega)) (fr_trans (fr_mono f1 (fun a ha => mem_KX.mpr (by have := mem_KD.mp ha; omega))) (fr_mono fQ (fun a ha => mem_KX.mpr (by simp at ha; omega)))) (by rw [k4 4 (by omega) (by omega) (by omega), kP 4 (by omega)]) (by rw [k4 7 (by omega) (by omega) (by omega), kP 7 (by omega)]) (by rw [k4 8 (by omega) (by omega) (by omega), kP 8 (by omega)]) (by rw [k4 11 (by omega) (by omega) (by omega), kP 11 (by omega)])
  refine ⟨pI e, A, Q, ?_, ?_, ?_, hQ⟩
  · unfold g_X9_assignAll g_X3_assignOpenTasks
    rw [g2, am_b_some]
    dsimp only
    split
    · rfl
    · rfl
  · unfold g_X10_assignAll
    rw [show am_s A 174 0 (0 : Int32) = P0 from eP0.symm, g5, am_b_some, g7, am_b_some, ee]
  · rw [pi_g, k4 0 (by omega) (by omega) (by omega), eP0, thr_s (by omega) (by omega)]
    rfl
end ASL
