/-! the model's next open task: a mask of bits -/
section MSK
def mb (x : Int32) (c : Nat) : Bool := x.toBitVec.getLsbD c
theorem mb_or (x y : Int32) (c : Nat) : mb (x ||| y) c = (mb x c || mb y c) := by
  unfold mb; rw [Int32.toBitVec_or, BitVec.getLsbD_or]
theorem mb_and (x y : Int32) (c : Nat) : mb (x &&& y) c = (mb x c && mb y c) := by
  unfold mb; rw [Int32.toBitVec_and, BitVec.getLsbD_and]
theorem mb_zero (c : Nat) : mb 0 c = false := by
  unfold mb; exact BitVec.getLsbD_zero
theorem mb_not (x : Int32) {c : Nat} (h : c < 32) : mb (x ^^^ (-1 : Int32)) c = !mb x c := by
  unfold mb
  rw [Int32.toBitVec_xor, BitVec.getLsbD_xor, show (-1 : Int32).toBitVec = BitVec.allOnes 32 by decide +kernel, BitVec.getLsbD_allOnes]
  simp [h]
theorem mb_far (x : Int32) {c : Nat} (h : 32 ≤ c) : mb x c = false := BitVec.getLsbD_of_ge _ _ h
theorem mb_ext {x y : Int32} (h : ∀ c, c < 32 → mb x c = mb y c) : x = y := by
  apply Int32.toBitVec_inj.mp
  apply BitVec.eq_of_getLsbD_eq
  intro i hi
  exact h i hi
theorem mb_one (c : Nat) (h : c < 32) : mb 1 c = decide (c = 0) := by
  have : ∀ c : Fin 32, mb 1 c.1 = decide (c.1 = 0) := by decide +kernel
  exact this ⟨c, h⟩
theorem mb_bit {k c : Nat} (hk : k < 12) (hc : c < 32) : mb ((1 : Int32) <<< (pI k &&& 31)) c = decide (c = k) := by
  have : ∀ k : Fin 12, ∀ c : Fin 32, mb ((1 : Int32) <<< (pI (k.1 : Int) &&& 31)) c.1 = decide (c.1 = k.1) := by decide +kernel
  exact this ⟨k, hk⟩ ⟨c, hc⟩
theorem mb_shr (x : Int32) {k : Nat} (hk : k < 12) : ((x >>> (pI k &&& 31)) &&& (1 : Int32) = (1 : Int32)) ↔ mb x k = true := by
  have e : mb (x >>> (pI k &&& 31)) 0 = mb x k := by
    unfold mb
    rw [Int32.toBitVec_shiftRight]
    have hs : ∀ k : Fin 12, ((pI (k.1 : Int) &&& 31).toBitVec.smod 32).toNat = k.1 := by decide +kernel
    have := hs ⟨k, hk⟩
    rw [BitVec.sshiftRight_eq', this, BitVec.getLsbD_sshiftRight]
    simp
    omega
  rw [← e]
  generalize x >>> (pI k &&& 31) = y
  constructor
  · intro h
    have h2 : mb (y &&& 1) 0 = mb 1 0 := by rw [h]
    rw [mb_and, mb_one 0 (by omega)] at h2
    simpa using h2
  · intro h
    apply mb_ext
    intro c hc
    rw [mb_and, mb_one c hc]
    by_cases c0 : c = 0
    · subst c0
      rw [h]
      rfl
    · simp [c0]
/-- the mask says which tasks are left -/
def LM (x : Int32) (p : Nat → Prop) : Prop := ∀ c : Nat, c < 32 → (mb x c = true ↔ p c)
theorem LM_zero {x : Int32} {p : Nat → Prop} (h : LM x p) (hp : ∀ c, p c → c < 32) : (x = 0) ↔ ∀ c, ¬ p c := by
  constructor
  · intro e c q
    have := (h c (hp c q)).mpr q
    rw [e, mb_zero] at this
    cases this
  · intro hn
    apply mb_ext
    intro c hc
    rw [mb_zero]
    cases hb : mb x c with
    | false => rfl
    | true => exact absurd ((h c hc).mp hb) (hn c)
theorem LM_drop {x : Int32} {p : Nat → Prop} {k : Nat} (hk : k < 12) (h : LM x p) : LM (x &&& (((1 : Int32) <<< (pI k &&& 31)) ^^^ (-1 : Int32))) (fun c => p c ∧ c ≠ k) := by
  intro c hc
  rw [mb_and, mb_not _ hc, mb_bit hk hc, Bool.and_eq_true, h c hc]
  simp
theorem s_left {σ : Nat → Int} {P : am_M} (hs : sg P = σ) (hO : OK σ) : ∃ x, g_X10_assignAll_L9 am_fu (0 : Int32) (0 : Int32) P = some (x, P) ∧ LM x (fun c => (c : Int) < σ 7 ∧ it σ c 4 = 0) := by
  have h7 := hO.2.2.2.1
  have e7 : am_g P 175 7 = pI (σ 7) := by rw [pi_g, ← hs]; rfl
  obtain ⟨⟨x, N⟩, g1, eN, hx⟩ := lo_for (fun m (s : Int32 × Int32 × am_M) => g_X10_assignAll_L9 m s.1 s.2.1 s.2.2) (fun q s => s.2.1 = pI (q : Nat) ∧ s.2.2 = P ∧ LM s.1 (fun c => c < q ∧ it σ c 4 = 0)) (fun s => s.2 = P ∧ LM s.1 (fun c => (c : Int) < σ 7 ∧ it σ c 4 = 0)) 0 (σ 7).toNat (0, pI 0, P) ⟨rfl, rfl, fun c hc => by
    dsimp only
    rw [mb_zero]
    exact ⟨fun h => (by cases h), fun h => by omega⟩⟩ (by omega) (by unfold am_fu; omega) (by
    rintro m q ⟨x, w, N⟩ hq ⟨e1, e2, hx⟩
    dsimp only at e1 e2 hx
    subst e1 e2
    left
    have hF := hO.2.2.2.2.2.2.1 q (by omega)
    have i4 : g_X10_item (pI q) (4 : Int32) N = some (pI (it σ q 4), N) := s_item2 hs (j := q) (w := 4) (by omega) (by omega)
    have hcond : ¬ am_g N 175 7 ≤ pI q := by
      rw [e7, pi_le (by omega) (by omega) (by omega) (by omega)]
      omega
    have hs4 := hF.2.2.2.2.2.1
    have hst : g_X10_assignAll_L9 (m + 1) x (pI q) N = if it σ q 4 = 0 then g_X10_assignAll_L9 m (x ||| ((1 : Int32) <<< (pI q &&& 31))) (pI (q + 1)) N else g_X10_assignAll_L9 m (x ||| (0 : Int32)) (pI (q + 1)) N := by
      rw [g_X10_assignAll_L9]
      show (if am_g N 175 7 ≤ pI q then _ else _) = _
      rw [if_neg hcond, i4, am_b_some]
      by_cases c : it σ q 4 = 0
      · rw [if_pos c, if_pos (show pI (it σ q 4) = (0 : Int32) by rw [c]; rfl)]
        rw [show pI q + (1 : Int32) = pI (q + 1) from pi_add q 1]
      · rw [if_neg c, if_neg (show ¬ (pI (it σ q 4) = (0 : Int32)) from fun h => c ((pi_eq (b := 0) (by omega) (by omega) (by omega) (by omega)).mp h))]
        rw [show pI q + (1 : Int32) = pI (q + 1) from pi_add q 1]
    by_cases c : it σ q 4 = 0
    · rw [if_pos c] at hst
      refine ⟨(x ||| ((1 : Int32) <<< (pI q &&& 31)), pI (q + 1 : Nat), N), hst, rfl, rfl, fun d hd => ?_⟩
      dsimp only
      rw [mb_or, mb_bit (by omega) hd, Bool.or_eq_true, hx d hd, decide_eq_true_eq]
      constructor
      · rintro (h | h)
        · exact ⟨by omega, h.2⟩
        · subst h
          exact ⟨by omega, c⟩
      · intro h
        by_cases e : d = q
        · exact Or.inr e
        · exact Or.inl ⟨by omega, h.2⟩
    · rw [if_neg c] at hst
      refine ⟨(x ||| (0 : Int32), pI (q + 1 : Nat), N), hst, rfl, rfl, fun d hd => ?_⟩
      dsimp only
      rw [mb_or, mb_zero, Bool.or_false, hx d hd]
      constructor
      · intro h
        exact ⟨by omega, h.2⟩
      · intro h
        refine ⟨?_, h.2⟩
        by_cases e : d = q
        · subst e
          exact absurd h.2 c
        · omega) (by
    rintro m ⟨x, w, N⟩ ⟨e1, e2, hx⟩
    dsimp only at e1 e2 hx
    subst e1 e2
    refine ⟨(x, N), ?_, rfl, fun c hc => (hx c hc).trans ⟨fun h => ⟨by omega, h.2⟩, fun h => ⟨by omega, h.2⟩⟩⟩
    dsimp only
    rw [g_X10_assignAll_L9]
    show (if am_g N 175 7 ≤ _ then _ else _) = _
    rw [if_pos (show am_g N 175 7 ≤ pI ((σ 7).toNat : Nat) by
      rw [e7, pi_le (by omega) (by omega) (by omega) (by omega)]
      omega)])
  dsimp only at g1 eN hx
  subst eN
  exact ⟨x, g1, hx⟩
end MSK
