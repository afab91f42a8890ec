/-! sets of cells that move -/
section PL
/-- no bit but those of the cells -/
def inb (x : Int64) : Prop := ∀ c, 40 ≤ c → pb x c = false
theorem shr_pb (x : Int64) (k : Nat) (hk : k = 1 ∨ k = 8) (c : Nat) (w : UInt64) (hw : w.toBitVec = BitVec.ofNat 64 k) : pb ((x.toUInt64 >>> w).toInt64) c = pb x (c + k) := by
  unfold pb
  show ((x.toUInt64 >>> w).toBitVec).getLsbD c = _
  rw [UInt64.toBitVec_shiftRight, hw]
  have h1 : (BitVec.ofNat 64 k % 64).toNat = k := by rcases hk with rfl | rfl <;> decide
  rw [BitVec.ushiftRight_eq', h1, BitVec.getLsbD_ushiftRight, Nat.add_comm]
  rfl
theorem shl_pb (x : Int64) (k : Nat) (hk : k = 1 ∨ k = 8) (c : Nat) (hc : c < 64) (w : Int64) (hw : w.toBitVec = BitVec.ofNat 64 k) : pb (x <<< w) c = (decide (k ≤ c) && pb x (c - k)) := by
  unfold pb
  rw [Int64.toBitVec_shiftLeft, hw]
  have h1 : ((BitVec.ofNat 64 k).smod 64).toNat = k := by rcases hk with rfl | rfl <;> decide
  rw [BitVec.shiftLeft_eq', h1, BitVec.getLsbD_shiftLeft]
  by_cases h2 : k ≤ c
  · simp [h2, hc, Nat.not_lt.mpr h2]
  · simp [h2, Nat.lt_of_not_le h2]
theorem mask_all : ∀ c : Fin 64, pb (1099511627775 : Int64) c.1 = decide (c.1 < 40) := by decide +kernel
theorem mask_right : ∀ c : Fin 64, pb (-551911719041 : Int64) c.1 = !(decide (c.1 < 40) && decide (c.1 % 8 = 7)) := by decide +kernel
theorem mask_left : ∀ c : Fin 64, pb (-4311810306 : Int64) c.1 = !(decide (c.1 < 40) && decide (c.1 % 8 = 0)) := by decide +kernel
/-- a set of cells, each moved: at c is what was at a cell whose neighbor is c -/
theorem s_cmoved {x : Int64} {a : Int} (M : am_M) (hx : inb x) (ha : 1 ≤ a ∧ a ≤ 4) : ∃ y, g_X9_moved x (pI a) M = some (y, M) ∧ inb y ∧ ∀ c : Nat, c < 40 → (pb y c = true ↔ ∃ d : Nat, d < 40 ∧ pb x d = true ∧ nb d a = c) := by
  have w8 : (((8 : Int32).toInt64.toUInt64 &&& Int64.toUInt64 63) : UInt64).toBitVec = BitVec.ofNat 64 8 := by decide +kernel
  have w1 : (((1 : Int32).toInt64.toUInt64 &&& Int64.toUInt64 63) : UInt64).toBitVec = BitVec.ofNat 64 1 := by decide +kernel
  have v8 : (((8 : Int32).toInt64 &&& 63) : Int64).toBitVec = BitVec.ofNat 64 8 := by decide +kernel
  have v1 : (((1 : Int32).toInt64 &&& 63) : Int64).toBitVec = BitVec.ofNat 64 1 := by decide +kernel
  have hcase : a = 1 ∨ a = 2 ∨ a = 3 ∨ a = 4 := by omega
  unfold g_X9_moved
  rcases hcase with rfl | rfl | rfl | rfl
  · refine ⟨_, if_pos rfl, fun c hc => ?_, fun c hc => ?_⟩
    · rw [shr_pb x 8 (Or.inr rfl) c _ w8]; exact hx _ (by omega)
    · rw [shr_pb x 8 (Or.inr rfl) c _ w8]
      constructor
      · intro h
        have : c + 8 < 40 := by
          by_cases h2 : c + 8 < 40
          · exact h2
          · rw [hx _ (by omega)] at h; cases h
        refine ⟨c + 8, this, h, ?_⟩
        unfold nb
        rw [if_pos rfl, if_neg (by omega)]; omega
      · rintro ⟨d, hd, h, h2⟩
        unfold nb at h2
        rw [if_pos rfl] at h2
        have : d = c + 8 := by split at h2 <;> omega
        rw [← this]; exact h
  · refine ⟨_, (if_neg (by decide +kernel)).trans (if_pos rfl), fun c hc => ?_, fun c hc => ?_⟩
    · by_cases h64 : c < 64
      · rw [shl_pb _ 1 (Or.inl rfl) c h64 _ v1, pb_and]
        by_cases h40 : c = 40
        · rw [mask_right ⟨c - 1, by omega⟩]
          simp [h40]
        · rw [hx (c - 1) (by omega)]; simp
      · exact pb_far _ (by omega)
    · rw [shl_pb _ 1 (Or.inl rfl) c (by omega) _ v1, pb_and, mask_right ⟨c - 1, by omega⟩]
      constructor
      · intro h
        simp only [Bool.and_eq_true, decide_eq_true_eq, Bool.not_eq_true', Bool.and_eq_false_iff, decide_eq_false_iff_not] at h
        refine ⟨c - 1, by omega, h.2.1, ?_⟩
        unfold nb
        rw [if_neg (by omega), if_pos rfl, if_neg (by omega)]; omega
      · rintro ⟨d, hd, h, h2⟩
        unfold nb at h2
        rw [if_neg (by omega), if_pos rfl] at h2
        have h3 : d = c - 1 ∧ 1 ≤ c ∧ d % 8 ≠ 7 := by split at h2 <;> omega
        simp only [Bool.and_eq_true, decide_eq_true_eq, Bool.not_eq_true', Bool.and_eq_false_iff, decide_eq_false_iff_not]
        refine ⟨h3.2.1, by rw [← h3.1]; exact h, Or.inr (by omega)⟩
  · refine ⟨_, (if_neg (by decide +kernel)).trans ((if_neg (by decide +kernel)).trans (if_pos rfl)), fun c hc => ?_, fun c hc => ?_⟩
    · by_cases h64 : c < 64
      · rw [pb_and, mask_all ⟨c, h64⟩]
        simp; omega
      · exact pb_far _ (by omega)
    · rw [pb_and, mask_all ⟨c, by omega⟩, shl_pb _ 8 (Or.inr rfl) c (by omega) _ v8]
      constructor
      · intro h
        simp only [Bool.and_eq_true, decide_eq_true_eq] at h
        refine ⟨c - 8, by omega, h.1.2, ?_⟩
        unfold nb
        rw [if_neg (by omega), if_neg (by omega), if_pos rfl, if_neg (by omega)]; omega
      · rintro ⟨d, hd, h, h2⟩
        unfold nb at h2
        rw [if_neg (by omega), if_neg (by omega), if_pos rfl] at h2
        have h3 : d = c - 8 ∧ 8 ≤ c := by split at h2 <;> omega
        simp only [Bool.and_eq_true, decide_eq_true_eq]
        exact ⟨⟨h3.2, by rw [← h3.1]; exact h⟩, hc⟩
  · refine ⟨_, (if_neg (by decide +kernel)).trans ((if_neg (by decide +kernel)).trans ((if_neg (by decide +kernel)).trans (if_pos rfl))), fun c hc => ?_, fun c hc => ?_⟩
    · rw [shr_pb _ 1 (Or.inl rfl) c _ w1, pb_and, hx (c + 1) (by omega)]; rfl
    · rw [shr_pb _ 1 (Or.inl rfl) c _ w1, pb_and, mask_left ⟨c + 1, by omega⟩]
      constructor
      · intro h
        simp only [Bool.and_eq_true, Bool.not_eq_true', Bool.and_eq_false_iff, decide_eq_false_iff_not] at h
        have : c + 1 < 40 := by
          by_cases h2 : c + 1 < 40
          · exact h2
          · rw [hx _ (by omega)] at h; exact absurd h.1 (by decide)
        refine ⟨c + 1, this, h.1, ?_⟩
        unfold nb
        rw [if_neg (by omega), if_neg (by omega), if_neg (by omega), if_pos rfl, if_neg (by omega)]; omega
      · rintro ⟨d, hd, h, h2⟩
        unfold nb at h2
        rw [if_neg (by omega), if_neg (by omega), if_neg (by omega), if_pos rfl] at h2
        have h3 : d = c + 1 ∧ d % 8 ≠ 0 := by split at h2 <;> omega
        simp only [Bool.and_eq_true, Bool.not_eq_true', Bool.and_eq_false_iff, decide_eq_false_iff_not]
        refine ⟨by rw [← h3.1]; exact h, Or.inr (by omega)⟩
end PL
