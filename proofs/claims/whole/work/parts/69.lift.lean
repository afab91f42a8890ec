/-! addLift -/
section RD
noncomputable def fLi (σ : Nat → Int) (a b : Int) : Int := cif ((0 ≤ a ∧ a < 40) ∧ (0 ≤ b ∧ b < 40)) (cif (a = b ∨ σ (8 + a.toNat) = 1 ∨ σ (8 + b.toNat) = 1 ∨ endp σ a ∨ endp σ b) 2 (cif (2 ≤ σ 1) 3 0)) 1
theorem fLi_rng (σ : Nat → Int) (a b : Int) : fLi σ a b = 0 ∨ fLi σ a b = 1 ∨ fLi σ a b = 2 ∨ fLi σ a b = 3 := by
  unfold fLi
  by_cases h1 : (0 ≤ a ∧ a < 40) ∧ (0 ≤ b ∧ b < 40)
  · rw [cif_t h1]
    by_cases h2 : a = b ∨ σ (8 + a.toNat) = 1 ∨ σ (8 + b.toNat) = 1 ∨ endp σ a ∨ endp σ b
    · rw [cif_t h2]; omega
    · rw [cif_f h2]
      by_cases h3 : 2 ≤ σ 1
      · rw [cif_t h3]; omega
      · rw [cif_f h3]; omega
  · rw [cif_f h1]; omega
theorem fLi_ok {σ : Nat → Int} {a b : Int} (h : fLi σ a b = 0) : ((0 ≤ a ∧ a < 40) ∧ (0 ≤ b ∧ b < 40)) ∧ ¬ (a = b ∨ σ (8 + a.toNat) = 1 ∨ σ (8 + b.toNat) = 1 ∨ endp σ a ∨ endp σ b) ∧ σ 1 < 2 := by
  unfold fLi at h
  by_cases h1 : (0 ≤ a ∧ a < 40) ∧ (0 ≤ b ∧ b < 40)
  · rw [cif_t h1] at h
    by_cases h2 : a = b ∨ σ (8 + a.toNat) = 1 ∨ σ (8 + b.toNat) = 1 ∨ endp σ a ∨ endp σ b
    · rw [cif_t h2] at h; omega
    · rw [cif_f h2] at h
      by_cases h3 : 2 ≤ σ 1
      · rw [cif_t h3] at h; omega
      · exact ⟨h1, h2, by omega⟩
  · rw [cif_f h1] at h; omega
def liM (M : am_M) (l : Nat) (a b : Int) : am_M := am_s (am_s (am_s (am_s (am_s M 5 (2 * l) (pI a)) 5 (2 * l + 1) (pI b)) 4 (7 * a.toNat + 5 + l) (pI b)) 4 (7 * b.toNat + 5 + l) (pI a)) 2 3 (pI ((l : Int) + 1))
theorem s_wall2 {σ : Nat → Int} {c : Int} {M : am_M} (hW : WD σ 1 M) (hc : 0 ≤ c ∧ c < 40) : g_X1_isWall 2 (pI c) M = some (pI (if σ (8 + c.toNat) = 1 then 1 else 0), M) := by
  rw [s_isWall 2 M hc.1 hc.2, show (2 + 1 : Nat) = 3 from rfl, show iv M 3 c.toNat = σ (8 + c.toNat) from hW.1.2.2.1 c.toNat (by omega)]
theorem s_makeLift {σ : Nat → Int} {a b : Int} {M : am_M} (hW : WD σ 1 M) (hO : OK σ) (ha1 : -2147483648 ≤ a) (ha2 : a < 2147483648) (hb1 : -2147483648 ≤ b) (hb2 : b < 2147483648) : g_X8_makeLift 1 (pI a) (pI b) M = some (pI (fLi σ a b), if fLi σ a b = 0 then liM M (σ 1).toNat a b else M) := by
  have hwl := hO.2.1
  have hl := hwl.1
  unfold g_X8_makeLift
  rw [s_isCell M ha1 ha2, am_b_some]
  by_cases h1 : 0 ≤ a ∧ a < 40
  · rw [if_pos h1, if_neg ci1, s_isCell M hb1 hb2, am_b_some]
    by_cases h2 : 0 ≤ b ∧ b < 40
    · rw [if_pos h2, if_neg ci1]
      have hcell : (0 ≤ a ∧ a < 40) ∧ (0 ≤ b ∧ b < 40) := ⟨h1, h2⟩
      have two : (a = b ∨ σ (8 + a.toNat) = 1 ∨ σ (8 + b.toNat) = 1 ∨ endp σ a ∨ endp σ b) → some ((2 : Int32), M) = some (pI (fLi σ a b), if fLi σ a b = 0 then liM M (σ 1).toNat a b else M) := fun q => by
        have : fLi σ a b = 2 := by unfold fLi; rw [cif_t hcell, cif_t q]
        rw [this, if_neg (by omega)]
        rfl
      by_cases h3 : a = b
      · rw [if_pos (show pI a = pI b by rw [h3])]
        exact two (Or.inl h3)
      · rw [if_neg (show ¬ (pI a = pI b) by rw [pi_eq ha1 ha2 hb1 hb2]; exact h3), show (1 + 1 : Nat) = 2 from rfl, s_wall2 hW h1, am_b_some]
        by_cases h4 : σ (8 + a.toNat) = 1
        · rw [if_pos h4, if_neg ci1]
          exact two (Or.inr (Or.inl h4))
        · rw [if_neg h4, if_pos ci0, s_wall2 hW h2, am_b_some]
          by_cases h5 : σ (8 + b.toNat) = 1
          · rw [if_pos h5, if_neg ci1]
            exact two (Or.inr (Or.inr (Or.inl h5)))
          · rw [if_neg h5, if_pos ci0, s_isLiftEnd hW hwl h1, am_b_some]
            by_cases h6 : endp σ a
            · rw [b01_t h6, if_neg ci1]
              exact two (Or.inr (Or.inr (Or.inr (Or.inl h6))))
            · rw [b01_f h6, if_pos ci0, s_isLiftEnd hW hwl h2, am_b_some]
              by_cases h7 : endp σ b
              · rw [b01_t h7, if_neg ci1]
                exact two (Or.inr (Or.inr (Or.inr (Or.inr h7))))
              · have hno : ¬ (a = b ∨ σ (8 + a.toNat) = 1 ∨ σ (8 + b.toNat) = 1 ∨ endp σ a ∨ endp σ b) := fun q => q.elim h3 (fun q => q.elim h4 (fun q => q.elim h5 (fun q => q.elim h6 h7)))
                have e3 : am_g M 2 3 = pI (σ 1) := by rw [pi_g, show iv M 2 3 = σ 1 from hW.1.1]
                rw [b01_f h7, if_pos ci0, e3]
                by_cases h8 : σ 1 < 2
                · have : fLi σ a b = 0 := by unfold fLi; rw [cif_t hcell, cif_f hno, cif_f (by omega)]
                  rw [if_pos (show pI (σ 1) < (2 : Int32) by show pI _ < pI 2; rw [pi_lt (by omega) (by omega) (by omega) (by omega)]; exact h8), this, if_pos rfl]
                  obtain ⟨l, el⟩ : ∃ l : Nat, σ 1 = l := ⟨(σ 1).toNat, by omega⟩
                  rw [el, Int.toNat_natCast]
                  have hadd : g_X1_addLiftBetween 2 (pI a) (pI b) M = some ((), liM M l a b) := by
                    unfold g_X1_addLiftBetween
                    have c2 : (2 : Int32) * am_g M 2 3 = pI (2 * (l : Int)) := by rw [e3, el, show (2 : Int32) = pI 2 from rfl, pi_mul]
                    have n1 : ∀ X k (v : Int32), am_g (am_s X 5 k v) 2 3 = am_g X 2 3 := fun X k v => by rw [pi_g, pi_g, iv_c (by decide)]
                    have n2 : ∀ X k (v : Int32), am_g (am_s X 4 k v) 2 3 = am_g X 2 3 := fun X k v => by rw [pi_g, pi_g, iv_c (by decide)]
                    have c3 : pI a * (7 : Int32) + (5 : Int32) + pI (l : Nat) = pI (a * 7 + 5 + l) := by rw [show (7 : Int32) = pI 7 from rfl, show (5 : Int32) = pI 5 from rfl, pi_mul, pi_add, pi_add]
                    have c4 : pI b * (7 : Int32) + (5 : Int32) + pI (l : Nat) = pI (b * 7 + 5 + l) := by rw [show (7 : Int32) = pI 7 from rfl, show (5 : Int32) = pI 5 from rfl, pi_mul, pi_add, pi_add]
                    have c5 : pI (2 * (l : Int)) + (1 : Int32) = pI (2 * (l : Int) + 1) := by rw [show (1 : Int32) = pI 1 from rfl, pi_add]
                    have c6 : pI (l : Nat) + (1 : Int32) = pI ((l : Int) + 1) := by rw [show (1 : Int32) = pI 1 from rfl, pi_add]
                    rw [c2, s_put _ _ _ _ (by omega) (by omega) (by omega), am_b_some, n1, c2, c5, s_put _ _ _ _ (by omega) (by omega) (by omega), am_b_some, n1, n1, e3, el, c3, s_put _ _ _ _ (by omega) (by omega) (by omega), am_b_some, n2, n1, n1, e3, el, c4, s_put _ _ _ _ (by omega) (by omega) (by omega), am_b_some, n2, n2, n1, n1, e3, el, c6, show (2 * (l : Int)).toNat = 2 * l by omega, show (2 * (l : Int) + 1).toNat = 2 * l + 1 by omega, show (a * 7 + 5 + (l : Int)).toNat = 7 * a.toNat + 5 + l by omega, show (b * 7 + 5 + (l : Int)).toNat = 7 * b.toNat + 5 + l by omega]
                    rfl
                  rw [hadd, am_b_some]
                  rfl
                · have : fLi σ a b = 3 := by unfold fLi; rw [cif_t hcell, cif_f hno, cif_t (by omega)]
                  rw [if_neg (show ¬ (pI (σ 1) < (2 : Int32)) by show ¬ (pI _ < pI 2); rw [pi_lt (by omega) (by omega) (by omega) (by omega)]; exact h8), this, if_neg (by omega)]
                  rfl
    · have : fLi σ a b = 1 := by unfold fLi; rw [cif_f (fun q => h2 q.2)]
      rw [if_neg h2, if_pos ci0, this, if_neg (by omega)]
      rfl
  · have : fLi σ a b = 1 := by unfold fLi; rw [cif_f (fun q => h1 q.1)]
    rw [if_neg h1, if_pos ci0, this, if_neg (by omega)]
    rfl
def liF (σ : Nat → Int) (l : Nat) (a b : Int) : Nat → Int := fun i => if i = 1 then (l : Int) + 1 else if i = 3 + 2 * l then b else if i = 2 + 2 * l then a else σ i
theorem mwall_t {σ : Nat → Int} {c : Int} {P : am_M} (hs : sg P = σ) (hc : 0 ≤ c ∧ c < 40) (h : σ (8 + c.toNat) = 1) : g_X10_isWall (pI c) P = some (pI 1, P) := by
  rw [s_misWall P hc.1 hc.2, hs, show (8 + c).toNat = 8 + c.toNat by omega, if_pos h]
theorem mwall_f {σ : Nat → Int} {c : Int} {P : am_M} (hs : sg P = σ) (hc : 0 ≤ c ∧ c < 40) (h : ¬ σ (8 + c.toNat) = 1) : g_X10_isWall (pI c) P = some (pI 0, P) := by
  rw [s_misWall P hc.1 hc.2, hs, show (8 + c).toNat = 8 + c.toNat by omega, if_neg h]
theorem s_maddLift {σ : Nat → Int} {a b : Int} {P : am_M} (hs : sg P = σ) (hO : OK σ) (ha1 : -2147483648 ≤ a) (ha2 : a < 2147483648) (hb1 : -2147483648 ≤ b) (hb2 : b < 2147483648) : ∃ (v : Int) (Q : am_M), g_X10_addLift (pI a) (pI b) P = some (pI v, Q) ∧ fr [174, 175] P Q ∧ (∀ i, i ≠ 0 → iv Q 174 i = iv P 174 i) ∧ iv Q 174 0 = fLi σ a b ∧ (0 ≤ v ∧ v ≤ 2) ∧ (fLi σ a b = 0 → v = σ 1 ∧ sg Q = liF σ (σ 1).toNat a b) ∧ (fLi σ a b ≠ 0 → sg Q = σ) := by
  have hwl := hO.2.1
  have hl := hwl.1
  have hs0 : sg (am_s P 174 0 (pI 0)) = σ := sg_t.trans hs
  have hno : ∀ (f : Int), 0 < f ∧ f < 10 → fLi σ a b = f → ∃ (v : Int) (Q : am_M), (some ((0 : Int32), am_s (am_s P 174 0 (pI 0)) 174 0 (pI f)) : Option (Int32 × am_M)) = some (pI v, Q) ∧ fr [174, 175] P Q ∧ (∀ i, i ≠ 0 → iv Q 174 i = iv P 174 i) ∧ iv Q 174 0 = fLi σ a b ∧ (0 ≤ v ∧ v ≤ 2) ∧ (fLi σ a b = 0 → v = σ 1 ∧ sg Q = liF σ (σ 1).toNat a b) ∧ (fLi σ a b ≠ 0 → sg Q = σ) := fun f hf he => by
    refine ⟨0, _, rfl, fr_trans (fr_s (by simp)) (fr_s (by simp)), fun i hi => by rw [iv_b hi, iv_b hi], by rw [iv_a (by omega) (by omega), he], by omega, fun q => by omega, fun _ => ?_⟩
    exact sg_t.trans hs0
  unfold g_X10_addLift
  rw [show am_s P 174 0 (0 : Int32) = am_s P 174 0 (pI 0) from rfl]
  by_cases h1 : 0 ≤ a ∧ a < 40
  · rw [mcell_t h1, am_b_some, if_neg ci1]
    by_cases h2 : 0 ≤ b ∧ b < 40
    · rw [mcell_t h2, am_b_some, if_neg ci1]
      have hcell : (0 ≤ a ∧ a < 40) ∧ (0 ≤ b ∧ b < 40) := ⟨h1, h2⟩
      have two : (a = b ∨ σ (8 + a.toNat) = 1 ∨ σ (8 + b.toNat) = 1 ∨ endp σ a ∨ endp σ b) → fLi σ a b = 2 := fun q => by unfold fLi; rw [cif_t hcell, cif_t q]
      by_cases h3 : a = b
      · rw [if_pos (show pI a = pI b by rw [h3])]
        exact hno 2 (by omega) (two (Or.inl h3))
      · rw [if_neg (show ¬ (pI a = pI b) by rw [pi_eq ha1 ha2 hb1 hb2]; exact h3)]
        by_cases h4 : σ (8 + a.toNat) = 1
        · rw [mwall_t hs0 h1 h4, am_b_some, if_neg ci1]
          exact hno 2 (by omega) (two (Or.inr (Or.inl h4)))
        · rw [mwall_f hs0 h1 h4, am_b_some, if_pos ci0]
          by_cases h5 : σ (8 + b.toNat) = 1
          · rw [mwall_t hs0 h2 h5, am_b_some, if_neg ci1]
            exact hno 2 (by omega) (two (Or.inr (Or.inr (Or.inl h5))))
          · rw [mwall_f hs0 h2 h5, am_b_some, if_pos ci0, s_isEnd hs0 hwl h1, am_b_some]
            by_cases h6 : endp σ a
            · rw [b01_t h6, if_neg ci1]
              exact hno 2 (by omega) (two (Or.inr (Or.inr (Or.inr (Or.inl h6)))))
            · rw [b01_f h6, if_pos ci0, s_isEnd hs0 hwl h2, am_b_some]
              by_cases h7 : endp σ b
              · rw [b01_t h7, if_neg ci1]
                exact hno 2 (by omega) (two (Or.inr (Or.inr (Or.inr (Or.inr h7)))))
              · have hno2 : ¬ (a = b ∨ σ (8 + a.toNat) = 1 ∨ σ (8 + b.toNat) = 1 ∨ endp σ a ∨ endp σ b) := fun q => q.elim h3 (fun q => q.elim h4 (fun q => q.elim h5 (fun q => q.elim h6 h7)))
                rw [b01_f h7, if_pos ci0, aci _ _ _ (by decide)]
                have e1 : am_g (am_s P 174 0 (pI 0)) 175 (1 : Int32).toNatClampNeg = pI (σ 1) := by show am_g _ 175 1 = _; rw [pi_g, show iv (am_s P 174 0 (pI 0)) 175 1 = σ 1 from congrFun hs0 1]
                rw [e1]
                by_cases h8 : σ 1 < 2
                · have hf : fLi σ a b = 0 := by unfold fLi; rw [cif_t hcell, cif_f hno2, cif_f (by omega)]
                  rw [if_neg (show ¬ (pI (σ 1) = (2 : Int32)) from fun q => by have := (pi_eq (b := 2) (by omega) (by omega) (by omega) (by omega)).mp q; omega)]
                  obtain ⟨l, el⟩ : ∃ l : Nat, σ 1 = l := ⟨(σ 1).toNat, by omega⟩
                  rw [el] at e1 ⊢
                  rw [Int.toNat_natCast]
                  obtain ⟨R, eR⟩ : ∃ R, R = am_s P 174 0 (pI 0) := ⟨_, rfl⟩
                  rw [← eR] at e1 hs0 ⊢
                  have c2 : (2 : Int32) + (2 : Int32) * pI (l : Nat) = pI (2 + 2 * (l : Int)) := by rw [show (2 : Int32) = pI 2 from rfl, pi_mul, pi_add]
                  have c3 : pI (2 + 2 * (l : Int)) + (1 : Int32) = pI (3 + 2 * (l : Int)) := by rw [show (1 : Int32) = pI 1 from rfl, pi_add, show 2 + 2 * (l : Int) + 1 = 3 + 2 * l by omega]
                  have n1 : ∀ X k (v : Int32), k ≠ 1 → am_g (am_s X 175 k v) 175 (1 : Int32).toNatClampNeg = am_g X 175 (1 : Int32).toNatClampNeg := fun X k v hk => by
                    show am_g _ 175 1 = am_g X 175 1
                    rw [pi_g, pi_g, iv_b (fun q => hk q.symm)]
                  have c7 : pI (l : Nat) + (1 : Int32) = pI ((l : Int) + 1) := by rw [show (1 : Int32) = pI 1 from rfl, pi_add]
                  have c8 : pI ((l : Int) + 1) - (1 : Int32) = pI (l : Nat) := by rw [show (1 : Int32) = pI 1 from rfl, pi_sub, show (l : Int) + 1 - 1 = l by omega]
                  have n2 : ∀ X, am_g (am_s X 175 (1 : Int32).toNatClampNeg (pI ((l : Int) + 1))) 175 (1 : Int32).toNatClampNeg = pI ((l : Int) + 1) := fun X => by
                    show am_g (am_s X 175 1 _) 175 1 = _
                    rw [pi_g, iv_a (by omega) (by omega)]
                  rw [aci _ _ _ (by decide), c2, pi_ci (by omega) (by omega) (by omega), aci _ _ _ (by decide), pi_cn (by omega) (by omega), show (2 + 2 * (l : Int)).toNat = 2 + 2 * l by omega, n1 R (2 + 2 * l) (pI a) (by omega), e1, c2, c3, pi_ci (by omega) (by omega) (by omega), pi_cn (by omega) (by omega), show (3 + 2 * (l : Int)).toNat = 3 + 2 * l by omega, n1 _ (3 + 2 * l) (pI b) (by omega), n1 _ (2 + 2 * l) (pI a) (by omega), e1, c7, n2, c8, aci _ _ _ (by decide), aci _ _ _ (by decide), aci _ _ _ (by decide)]
                  refine ⟨l, am_s (am_s (am_s R 175 (2 + 2 * l) (pI a)) 175 (3 + 2 * l) (pI b)) 175 1 (pI ((l : Int) + 1)), rfl, ?_, fun i hi => ?_, ?_, by omega, fun _ => ⟨rfl, ?_⟩, fun q => absurd hf q⟩
                  · rw [eR]
                    exact fr_trans (N := am_s P 174 0 (pI 0)) (fr_s (by simp)) (fr_trans (fr_s (by simp)) (fr_trans (fr_s (by simp)) (fr_s (by simp))))
                  · rw [iv_c (by decide), iv_c (by decide), iv_c (by decide), eR, iv_b hi]
                  · rw [iv_c (by decide), iv_c (by decide), iv_c (by decide), eR, iv_a (by omega) (by omega), hf]
                  · rw [sg_up (by omega) (by omega), sg_up (by omega) (by omega), sg_up (by omega) (by omega), hs0]
                    rfl
                · have hf : fLi σ a b = 3 := by unfold fLi; rw [cif_t hcell, cif_f hno2, cif_t (by omega)]
                  rw [if_pos (show pI (σ 1) = (2 : Int32) by rw [show σ 1 = 2 by omega]; rfl)]
                  exact hno 3 (by omega) hf
    · have : fLi σ a b = 1 := by unfold fLi; rw [cif_f (fun q => h2 q.2)]
      rw [mcell_f hb1 hb2 h2, am_b_some, if_pos ci0]
      exact hno 1 (by omega) this
  · have : fLi σ a b = 1 := by unfold fLi; rw [cif_f (fun q => h1 q.1)]
    rw [mcell_f ha1 ha2 h1, am_b_some, if_pos ci0]
    exact hno 1 (by omega) this
end RD
