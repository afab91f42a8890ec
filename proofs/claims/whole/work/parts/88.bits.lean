/-! the bits of a float from 0 to 1; the case activityBits -/
section BIT
/-- the float with significand c and exponent field k -/
def nf (c k : Nat) : UInt32 := UInt32.ofNat (k * 8388608 + (c - 8388608))
theorem nf_nat {c k : Nat} (h1 : 8388608 ≤ c) (h2 : c < 16777216) (h3 : k ≤ 254) : (nf c k).toNat = k * 8388608 + (c - 8388608) := u32_of (by omega)
theorem dec_nf {c k : Nat} (h1 : 8388608 ≤ c) (h2 : c < 16777216) (h0 : 1 ≤ k) (h3 : k ≤ 254) : FP.Core.decode FP.Core.b32 (nf c k).toNat = .fin false c ((k : Int) - 150) := by
  obtain ⟨e1, e2, e3, e4, e5⟩ := q32
  rw [nf_nat h1 h2 h3]
  unfold FP.Core.decode FP.Core.fieldE FP.Core.fieldT FP.Core.fieldS
  simp only [e1, e2, e3]
  rw [show (k * 8388608 + (c - 8388608)) / 8388608 = k by omega, show (k * 8388608 + (c - 8388608)) % 8388608 = c - 8388608 by omega, show k % 256 = k by omega, show k / 256 = 0 by omega, if_neg (by omega), if_neg (by omega), show 8388608 + (c - 8388608) = c by omega, show (-149 : Int) + ((k : Int) - 1) = (k : Int) - 150 by omega]
  rfl
theorem nn_nf {c k : Nat} (h1 : 8388608 ≤ c) (h2 : c < 16777216) (h3 : k ≤ 254) : (nf c k) &&& 0x7fffffff ≤ 0x7f800000 := by
  rw [nn32, nf_nat h1 h2 h3]
  omega
theorem en_nf {c k : Nat} (h1 : 8388608 ≤ c) (h0 : 1 ≤ k) {q : Int} (hq : q = (k : Int) - 150) : UInt32.ofNat (FP.Core.encode FP.Core.b32 (.fin false c q)) = nf c k := by
  obtain ⟨e1, e2, e3, e4, e5⟩ := q32
  unfold FP.Core.encode FP.Core.assemble nf
  simp only [e1, e2, e3]
  rw [if_neg (by omega), show (q - -149).toNat + 1 = k by omega, show (false.toNat * 256 + k) = k by simp]
theorem log_eq {n k : Nat} (h1 : 2 ^ k ≤ n) (h2 : n < 2 ^ (k + 1)) : n.log2 = k := by
  have h0 : n ≠ 0 := by
    have := Nat.two_pow_pos k
    omega
  have a1 := (Nat.le_log2 h0).mpr h1
  have a2 := (Nat.log2_lt h0).mpr h2
  omega
theorem near_ex (c d : Nat) (hd : 0 < d) : FP.Core.nearest (c * d) d = c := by
  unfold FP.Core.nearest
  rw [Nat.mul_mod_left, if_pos (by omega), Nat.mul_div_cancel _ hd]
theorem near_rng (a d : Nat) : a / d ≤ FP.Core.nearest a d ∧ FP.Core.nearest a d ≤ a / d + 1 := by
  unfold FP.Core.nearest
  generalize a / d = q
  split
  · omega
  · split <;> omega
theorem settle_nf {N k : Nat} {Q : Int} (hQ : Q = (k : Int) - 150) (h0 : 1 ≤ k) (h3 : k ≤ 253) (h1 : 8388608 ≤ N) (h2 : N ≤ 16777216) : UInt32.ofNat (FP.Core.encode FP.Core.b32 (FP.Core.settle FP.Core.b32 false N Q)) = if N < 16777216 then nf N k else nf 8388608 (k + 1) := by
  obtain ⟨e1, e2, e3, e4, e5⟩ := q32
  unfold FP.Core.settle FP.Core.bound
  simp only [e1, e4, e5]
  by_cases c : N < 16777216
  · rw [if_pos (show N < 2 ^ 24 from c), if_pos c, if_pos (by omega)]
    exact en_nf h1 h0 hQ
  · rw [if_neg (show ¬ N < 2 ^ 24 from c), if_neg c, if_pos (by omega)]
    exact en_nf (by omega) (by omega) (by omega)
theorem mul_nf {c k j : Nat} {y : UInt32} (hy : FP.Core.decode FP.Core.b32 y.toNat = .fin false 8388608 ((j : Int) - 23)) (h1 : 8388608 ≤ c) (h2 : c < 16777216) (h0 : 1 ≤ k) (h3 : k + j ≤ 253) : FP.fmul (nf c k) y = nf c (k + j) := by
  obtain ⟨e1, e2, e3, e4, e5⟩ := q32
  show UInt32.ofNat (FP.Core.encode FP.Core.b32 (FP.Core.round FP.Core.b32 (FP.Core.exactProduct (FP.Core.decode FP.Core.b32 (nf c k).toNat) (FP.Core.decode FP.Core.b32 y.toNat)))) = _
  rw [dec_nf h1 h2 h0 (by omega), hy]
  show UInt32.ofNat (FP.Core.encode FP.Core.b32 (FP.Core.roundRatio FP.Core.b32 false (c * 8388608) 1 ((k : Int) - 150 + ((j : Int) - 23)))) = _
  have hl : FP.Core.leading (c * 8388608) 1 = 46 := by
    unfold FP.Core.leading
    rw [show (c * 8388608).log2 = 46 from log_eq (by omega) (by omega), show Nat.log2 1 = 0 from by decide]
    dsimp only
    rw [if_pos (show 1 * 2 ^ (((46 : Nat) : Int) - ((0 : Nat) : Int)).toNat ≤ c * 8388608 * 2 ^ (-(((46 : Nat) : Int) - ((0 : Nat) : Int))).toNat by
      rw [show (((46 : Nat) : Int) - ((0 : Nat) : Int)).toNat = 46 by decide, show (-(((46 : Nat) : Int) - ((0 : Nat) : Int))).toNat = 0 by decide]
      omega)]
    rfl
  unfold FP.Core.roundRatio
  rw [if_neg (by omega)]
  unfold FP.Core.roundAt FP.Core.quantum
  rw [hl, e3, e5]
  rw [show max (-149 : Int) (46 + ((k : Int) - 150 + ((j : Int) - 23)) - (((24 : Nat) : Int) - 1)) = ((k + j : Nat) : Int) - 150 by omega]
  unfold FP.Core.unitsNum FP.Core.unitsDen
  rw [show ((k : Int) - 150 + ((j : Int) - 23) - (((k + j : Nat) : Int) - 150)).toNat = 0 by omega, show ((((k + j : Nat) : Int) - 150) - ((k : Int) - 150 + ((j : Int) - 23))).toNat = 23 by omega]
  rw [show c * 8388608 * 2 ^ 0 = c * 8388608 by omega, show 1 * 2 ^ 23 = 8388608 by decide, near_ex _ _ (by decide), settle_nf rfl (by omega) h3 h1 (by omega), if_pos h2]
theorem lead_cd {c d : Nat} (h1 : 8388608 ≤ c) (h2 : c < 16777216) (h3 : 8388608 ≤ d) (h4 : d < 16777216) : FP.Core.leading c d = if d ≤ c then 0 else -1 := by
  unfold FP.Core.leading
  rw [show c.log2 = 23 from log_eq (by omega) (by omega), show d.log2 = 23 from log_eq (by omega) (by omega)]
  dsimp only
  rw [show (((23 : Nat) : Int) - ((23 : Nat) : Int)) = 0 by omega]
  by_cases h : d ≤ c
  · rw [if_pos h]
    exact if_pos (show d * 2 ^ 0 ≤ c * 2 ^ 0 by omega)
  · rw [if_neg h]
    exact if_neg (show ¬ d * 2 ^ 0 ≤ c * 2 ^ 0 by omega)
theorem quo {w t : Nat} (h1 : 1 ≤ w) (h2 : w ≤ t) (h3 : t ≤ 1000) : ∃ c k : Nat, 8388608 ≤ c ∧ c < 16777216 ∧ 100 ≤ k ∧ k ≤ 127 ∧ FP.fdiv (FP.i2f (pI w)) (FP.i2f (pI t)) = nf c k := by
  obtain ⟨e1, e2, e3, e4, e5⟩ := q32
  obtain ⟨n, c, f1, f2, f3, f4, f5, f6⟩ := i2f_small (a := w) (by omega) (by omega)
  obtain ⟨m, d, g1, g2, g3, g4, g5, g6⟩ := i2f_small (a := t) (by omega) (by omega)
  have hT : c ≤ t * 2 ^ n := by
    rw [f2]
    exact Nat.mul_le_mul_right _ h2
  have hmn : m ≤ n := by
    apply Decidable.byContradiction
    intro q
    have a1 : 2 ^ (n + 1) ≤ 2 ^ m := Nat.pow_le_pow_right (by omega) (by omega)
    have a2 : t * 2 ^ (n + 1) ≤ t * 2 ^ m := Nat.mul_le_mul_left _ a1
    rw [Nat.pow_succ, ← Nat.mul_assoc] at a2
    omega
  have hcd : m = n → c ≤ d := fun q => by rw [g2, q]; exact hT
  have hQ : FP.fdiv (FP.i2f (pI w)) (FP.i2f (pI t)) = UInt32.ofNat (FP.Core.encode FP.Core.b32 (FP.Core.roundRatio FP.Core.b32 false c d (-(n : Int) - -(m : Int)))) := by
    show UInt32.ofNat (FP.Core.encode FP.Core.b32 (FP.Core.quotient FP.Core.b32 (FP.Core.decode FP.Core.b32 (FP.i2f (pI w)).toNat) (FP.Core.decode FP.Core.b32 (FP.i2f (pI t)).toNat))) = _
    rw [f1, g1]
    show UInt32.ofNat (FP.Core.encode FP.Core.b32 (if d = 0 then _ else _)) = _
    rw [if_neg (by omega)]
    rfl
  rw [hQ]
  unfold FP.Core.roundRatio
  rw [if_neg (by omega)]
  unfold FP.Core.roundAt FP.Core.quantum
  rw [lead_cd f3 f4 g3 g4, e3, e5]
  unfold FP.Core.unitsNum FP.Core.unitsDen
  by_cases hd : d ≤ c
  · rw [if_pos hd]
    rw [show max (-149 : Int) (0 + (-(n : Int) - -(m : Int)) - (((24 : Nat) : Int) - 1)) = ((127 + m - n : Nat) : Int) - 150 by omega]
    rw [show (-(n : Int) - -(m : Int) - (((127 + m - n : Nat) : Int) - 150)).toNat = 23 by omega, show ((((127 + m - n : Nat) : Int) - 150) - (-(n : Int) - -(m : Int))).toNat = 0 by omega]
    rw [show c * 2 ^ 23 = 8388608 * c by omega, show d * 2 ^ 0 = d by omega]
    by_cases hmn2 : m = n
    · have : d = c := by have := hcd hmn2; omega
      subst this
      rw [near_ex _ _ (by omega), settle_nf rfl (by omega) (by omega) (by omega) (by omega), if_pos (by omega)]
      exact ⟨_, _, by omega, by omega, by omega, by omega, rfl⟩
    · have b1 : 8388608 ≤ 8388608 * c / d := (Nat.le_div_iff_mul_le (by omega)).mpr (by omega)
      have b2 : 8388608 * c / d < 16777216 := (Nat.div_lt_iff_lt_mul (by omega)).mpr (by omega)
      have b3 := near_rng (8388608 * c) d
      rw [settle_nf rfl (by omega) (by omega) (by omega) (by omega)]
      split
      · exact ⟨_, _, by omega, by assumption, by omega, by omega, rfl⟩
      · exact ⟨_, _, by omega, by omega, by omega, by omega, rfl⟩
  · rw [if_neg hd]
    rw [show max (-149 : Int) (-1 + (-(n : Int) - -(m : Int)) - (((24 : Nat) : Int) - 1)) = ((126 + m - n : Nat) : Int) - 150 by omega]
    rw [show (-(n : Int) - -(m : Int) - (((126 + m - n : Nat) : Int) - 150)).toNat = 24 by omega, show ((((126 + m - n : Nat) : Int) - 150) - (-(n : Int) - -(m : Int))).toNat = 0 by omega]
    rw [show c * 2 ^ 24 = 16777216 * c by omega, show d * 2 ^ 0 = d by omega]
    have b1 : 8388608 ≤ 16777216 * c / d := (Nat.le_div_iff_mul_le (by omega)).mpr (by omega)
    have b2 : 16777216 * c / d < 16777216 := (Nat.div_lt_iff_lt_mul (by omega)).mpr (by omega)
    have b3 := near_rng (16777216 * c) d
    rw [settle_nf rfl (by omega) (by omega) (by omega) (by omega)]
    split
    · exact ⟨_, _, by omega, by assumption, by omega, by omega, rfl⟩
    · exact ⟨_, _, by omega, by omega, by omega, by omega, rfl⟩
theorem quo0 {t : Nat} (h1 : 1 ≤ t) (h3 : t ≤ 1000) : FP.fdiv (FP.i2f (pI 0)) (FP.i2f (pI t)) = 0 := by
  obtain ⟨m, d, g1, g2, g3, g4, g5, g6⟩ := i2f_small (a := t) (by omega) (by omega)
  show UInt32.ofNat (FP.Core.encode FP.Core.b32 (FP.Core.quotient FP.Core.b32 (FP.Core.decode FP.Core.b32 (FP.i2f (pI 0)).toNat) (FP.Core.decode FP.Core.b32 (FP.i2f (pI t)).toNat))) = _
  rw [g1, show FP.Core.decode FP.Core.b32 (FP.i2f (pI 0)).toNat = .fin false 0 (-149) by decide +kernel]
  show UInt32.ofNat (FP.Core.encode FP.Core.b32 (if d = 0 then _ else _)) = _
  rw [if_neg (by omega)]
  unfold FP.Core.roundRatio
  rw [if_pos rfl]
  decide +kernel
theorem dec_one : FP.Core.decode FP.Core.b32 FP.fconst1.toNat = .fin false 8388608 (-23) := by decide +kernel
theorem dec_two : FP.Core.decode FP.Core.b32 FP.fconst2.toNat = .fin false 8388608 (((1 : Nat) : Int) - 23) := by decide +kernel
theorem dec_big : FP.Core.decode FP.Core.b32 (1258291200 : UInt32).toNat = .fin false 8388608 (((23 : Nat) : Int) - 23) := by decide +kernel
theorem dec_zero : FP.Core.decode FP.Core.b32 FP.fconst0.toNat = .fin false 0 (-149) := by decide +kernel
theorem cmp_lt {a b : Int} (h : a < b) : compare a b = .lt := by simp [compare, compareOfLessAndEq, h]
theorem cmp_ge {a b : Int} (h : b ≤ a) : compare a b = .eq ∨ compare a b = .gt := by
  by_cases c : a = b
  · left; simp [compare, compareOfLessAndEq, c]
  · right
    simp [compare, compareOfLessAndEq, c, show ¬ a < b by omega]
theorem cmp_gt {a b : Int} (h : b < a) : compare a b = .gt := by
  simp [compare, compareOfLessAndEq, show ¬ a < b by omega, show ¬ a = b by omega]
theorem under_one {c k : Nat} (h1 : 8388608 ≤ c) (h2 : c < 16777216) (h0 : 1 ≤ k) (h3 : k < 127) : Op.cmpValue (FP.fcmp (nf c k) FP.fconst1) .g = -1 := by
  have : FP.fcmp (nf c k) FP.fconst1 = some .lt := by
    show FP.Core.order (FP.Core.decode FP.Core.b32 (nf c k).toNat) (FP.Core.decode FP.Core.b32 FP.fconst1.toNat) = _
    rw [dec_nf h1 h2 h0 (by omega), dec_one]
    show some (compare ((c * 2 ^ _ : Nat) : Int) ((8388608 * 2 ^ _ : Nat) : Int)) = _
    rw [show min ((k : Int) - 150) (-23) = (k : Int) - 150 by omega, show ((k : Int) - 150 - ((k : Int) - 150)).toNat = 0 by omega, show ((-23 : Int) - ((k : Int) - 150)).toNat = 126 - k + 1 by omega]
    rw [cmp_lt]
    have := Nat.two_pow_pos (126 - k)
    rw [Nat.pow_succ]
    omega
  rw [this]
  rfl
theorem ge_one {c : Nat} (h1 : 8388608 ≤ c) (h2 : c < 16777216) : (0 : Int32) ≤ Op.cmpValue (FP.fcmp (nf c 127) FP.fconst1) .g := by
  have : FP.fcmp (nf c 127) FP.fconst1 = some .eq ∨ FP.fcmp (nf c 127) FP.fconst1 = some .gt := by
    show FP.Core.order (FP.Core.decode FP.Core.b32 (nf c 127).toNat) (FP.Core.decode FP.Core.b32 FP.fconst1.toNat) = _ ∨ FP.Core.order (FP.Core.decode FP.Core.b32 (nf c 127).toNat) (FP.Core.decode FP.Core.b32 FP.fconst1.toNat) = _
    rw [dec_nf h1 h2 (by omega) (by omega), dec_one]
    show some (compare ((c * 2 ^ 0 : Nat) : Int) ((8388608 * 2 ^ 0 : Nat) : Int)) = _ ∨ some (compare ((c * 2 ^ 0 : Nat) : Int) ((8388608 * 2 ^ 0 : Nat) : Int)) = _
    rcases cmp_ge (a := ((c * 2 ^ 0 : Nat) : Int)) (b := ((8388608 * 2 ^ 0 : Nat) : Int)) (by omega) with q | q
    · left; rw [q]
    · right; rw [q]
  rcases this with q | q <;> rw [q] <;> decide
theorem gt_zero {c k : Nat} (h1 : 8388608 ≤ c) (h2 : c < 16777216) (h0 : 1 ≤ k) (h3 : k ≤ 254) : (0 : Int32) < Op.cmpValue (FP.fcmp (nf c k) FP.fconst0) .l := by
  have : FP.fcmp (nf c k) FP.fconst0 = some .gt := by
    show FP.Core.order (FP.Core.decode FP.Core.b32 (nf c k).toNat) (FP.Core.decode FP.Core.b32 FP.fconst0.toNat) = _
    rw [dec_nf h1 h2 h0 h3, dec_zero]
    show some (compare ((c * 2 ^ _ : Nat) : Int) ((0 * 2 ^ _ : Nat) : Int)) = _
    rw [cmp_gt]
    have := Nat.two_pow_pos ((k : Int) - 150 - min ((k : Int) - 150) (-149)).toNat
    have := Nat.mul_le_mul_left c this
    omega
  rw [this]
  decide
theorem bits_loop {c : Nat} (h1 : 8388608 ≤ c) (h2 : c < 16777216) (M : am_M) : ∀ (d n k : Nat) (e : Int), k + d = 127 → 1 ≤ k → d < n → 1 ≤ e - d → e ≤ 127 → g_X9_bitsOf_L13 n (nf c k) (pI e) M = some ((nf c 127, pI (e - d)), M)
  | 0, n, k, e, hk, h0, hn, g1, g2 => by
    obtain ⟨m, rfl⟩ : ∃ m, n = m + 1 := ⟨n - 1, by omega⟩
    have : k = 127 := by omega
    subst this
    rw [g_X9_bitsOf_L13, if_pos (ge_one h1 h2), show e - ((0 : Nat) : Int) = e by omega]
  | d + 1, n, k, e, hk, h0, hn, g1, g2 => by
    obtain ⟨m, rfl⟩ : ∃ m, n = m + 1 := ⟨n - 1, by omega⟩
    have ih := bits_loop h1 h2 M d m (k + 1) (e - 1) (by omega) (by omega) (by omega) (by omega) (by omega)
    have hm := mul_nf (k := k) (j := 1) dec_two h1 h2 h0 (by omega)
    rw [g_X9_bitsOf_L13, if_neg (by rw [under_one h1 h2 h0 (by omega)]; decide), if_neg (show ¬ (pI e ≤ (1 : Int32)) by
      show ¬ (pI e ≤ pI 1)
      rw [pi_le (by omega) (by omega) (by omega) (by omega)]
      omega), hm, am_c_true (nn_nf h1 h2 (by omega)), show (-1 : Int32) = pI (-1) from rfl, pi_add, show e + -1 = e - 1 by omega, ih, show e - 1 - (d : Int) = e - ((d + 1 : Nat) : Int) by omega]
theorem f2i_nf {c : Nat} (h1 : 8388608 ≤ c) (h2 : c < 16777216) : FP.f2i (nf c 150) = pI c := by
  show FP.Core.toI (FP.Core.decode FP.Core.b32 (nf c 150).toNat) = _
  rw [dec_nf h1 h2 (by omega) (by omega)]
  show Int32.ofInt (max (-2147483648) (min (2147483648 - 1) ((c * 2 ^ 0 / 2 ^ 0 : Nat) : Int))) = Int32.ofInt c
  rw [show c * 2 ^ 0 / 2 ^ 0 = c by omega, show max (-2147483648 : Int) (min (2147483648 - 1) (c : Int)) = (c : Int) by omega]
theorem tb_pi {n : Nat} (h : n < 2147483648) : (pI n).toBitVec.toNat = n := by
  unfold pI
  rw [Int32.toBitVec_ofInt, BitVec.toNat_ofInt]
  omega
theorem sh_or {e c : Nat} (he : e < 128) (hc : c < 16777216) : ((pI e <<< ((23 : Int32) &&& 31)) ||| (pI c &&& (8388607 : Int32))) = pI ((e * 8388608 + c % 8388608 : Nat) : Int) := by
  apply Int32.toBitVec_inj.mp
  apply BitVec.eq_of_toNat_eq
  rw [tb_pi (by omega), Int32.toBitVec_or, Int32.toBitVec_and, Int32.toBitVec_shiftLeft, BitVec.toNat_or, BitVec.toNat_and, tb_pi (n := c) (by omega)]
  rw [show (((23 : Int32) &&& 31).toBitVec.smod 32) = 23#32 by decide +kernel]
  rw [BitVec.shiftLeft_eq', BitVec.toNat_shiftLeft, tb_pi (n := e) (by omega)]
  rw [show (8388607 : Int32).toBitVec.toNat = 2 ^ 23 - 1 by decide +kernel, Nat.and_two_pow_sub_one_eq_mod]
  rw [show (23#32).toNat = 23 by decide, show e <<< 23 % 2 ^ 32 = e <<< 23 by rw [Nat.shiftLeft_eq]; omega]
  rw [← Nat.shiftLeft_add_eq_or_of_lt (by omega), Nat.shiftLeft_eq]
theorem u_i32 {c k : Nat} (h1 : 8388608 ≤ c) (h2 : c < 16777216) (h3 : k < 128) : (nf c k).toInt32 = pI ((k * 8388608 + c % 8388608 : Nat) : Int) := by
  apply Int32.toBitVec_inj.mp
  apply BitVec.eq_of_toNat_eq
  rw [tb_pi (by omega)]
  show (nf c k).toNat = _
  rw [nf_nat h1 h2 (by omega)]
  omega
theorem s_bitsOf {w t : Nat} (M : am_M) (h2 : w ≤ t) (h1 : 1 ≤ t) (h3 : t ≤ 1000) : g_X9_bitsOf (FP.fdiv (FP.i2f (pI w)) (FP.i2f (pI t))) M = some ((FP.fdiv (FP.i2f (pI w)) (FP.i2f (pI t))).toInt32, M) := by
  by_cases hw : w = 0
  · subst hw
    rw [show pI ((0 : Nat) : Int) = pI 0 from rfl, quo0 h1 h3]
    unfold g_X9_bitsOf
    rw [if_neg (by decide +kernel)]
    rfl
  · obtain ⟨c, k, b1, b2, b3, b4, b5⟩ := quo (w := w) (t := t) (by omega) h2 h3
    rw [b5]
    have hl := bits_loop b1 b2 M (127 - k) am_fu k 127 (by omega) (by omega) (by unfold am_fu; omega) (by omega) (by omega)
    have hm := mul_nf (k := 127) (j := 23) dec_big b1 b2 (by omega) (by omega)
    unfold g_X9_bitsOf
    rw [if_pos (gt_zero b1 b2 (by omega) (by omega)), show (127 : Int32) = pI 127 from rfl, hl, am_b_some]
    dsimp only
    rw [hm, am_c_true (nn_nf b1 b2 (by omega)), f2i_nf b1 b2, show (127 : Int) - ((127 - k : Nat) : Int) = (k : Int) by omega, sh_or (by omega) b2, u_i32 b1 b2 (by omega)]
theorem s_ftib {x : UInt32} (hx : x &&& 0x7fffffff ≤ 0x7f800000) (P : am_M) : g_JF_floatToIntBits x P = some (x.toInt32, P) := by
  unfold g_JF_floatToIntBits g_JF_isNaN
  rw [if_pos (fcmp_self hx .l), am_b_some, if_pos rfl]
theorem cs_activityBits {M : am_M} (hI : INV M) (a : Int32) : CS (g_L_activityBits a M) (g_X10_activityBits a) := by
  obtain ⟨x, rfl, hx1, hx2⟩ := pi_cast a
  have hO := hI.1
  have h6 := hO.2.2.1
  have g0 := s_demandRobot (x := x) (M := M) hx1 hx2
  rw [hI.2.1.2.1.1] at g0
  have m0 := s_acRef (σ := sg M) (P := M) rfl hO hx1 hx2
  by_cases c : 0 ≤ x ∧ x < sg M 6
  · obtain ⟨r, rfl⟩ : ∃ r : Nat, x = r := ⟨x.toNat, by omega⟩
    rw [if_pos c] at g0 m0
    rw [Int.toNat_natCast] at m0
    have r0 : g_X8_robotOf 1 (pI r) M = some (1 + 15 + 5 * r, M) := s_robotOf M (by omega)
    rw [show 1 + 15 + 5 * r = 16 + 5 * r by omega] at r0
    have a0 := s_activityOf hI c.2
    by_cases d : ro (sg M) r 10 = 0
    · rw [if_pos d] at a0 m0
      refine CS_no (M := M) (P := M) (Q := am_s M 174 0 (pI 2)) (k := 2) (v := 0) ?_ ?_ (thr_s (by omega) (by omega)) (by decide) (INV_thrown hI _)
      · unfold g_L_activityBits g_X9_activityBits
        rw [g0, am_bx_inl, r0, am_b_some, a0, am_bx_inr]
        rfl
      · unfold g_X10_activityBits
        rw [m0, am_b_some, if_neg (by decide)]
    · rw [if_neg d] at a0
      have hv := acv_nn hO c.2 d
      have hR := (hO.2.2.2.2.2.1 r c.2).2.2.1
      have h0 := hO.1
      have hb : g_X9_bitsOf (acv (sg M) r) M = some ((acv (sg M) r).toInt32, M) := by
        obtain ⟨t, ht⟩ : ∃ t : Nat, ro (sg M) r 10 = t := ⟨(ro (sg M) r 10).toNat, by omega⟩
        obtain ⟨w, hw⟩ : ∃ w : Nat, ro (sg M) r 10 - ro (sg M) r 7 = w := ⟨(ro (sg M) r 10 - ro (sg M) r 7).toNat, by omega⟩
        unfold acv
        rw [hw, ht]
        exact s_bitsOf M (by omega) (by omega) (by omega)
      generalize hB : (acv (sg M) r).toInt32 = b at *
      have m1 := s_acRef (σ := sg M) (P := am_ls M 186 0 b.toInt64) rfl hO hx1 hx2
      rw [if_pos c, Int.toNat_natCast, if_neg d] at m1
      refine CS_yes (O := M) (v := b) (Q := am_s (am_ls M 186 0 b.toInt64) 174 0 (pI 0)) ?_ ?_ (thr_s (by omega) (by omega)) rfl (INV_thrown (INV_out hI _ _) _)
      · unfold g_L_activityBits g_X9_activityBits
        rw [g0, am_bx_inl, r0, am_b_some, a0, am_bx_inl, hb]
        rfl
      · unfold g_X10_activityBits
        rw [m1, am_b_some, if_pos (by decide), s_active (σ := sg M) (P := am_s (am_ls M 186 0 b.toInt64) 174 0 (pI 0)) rfl hO c.2 d, am_b_some, s_ftib hv, am_b_some, hB]
  · rw [if_neg c] at g0 m0
    refine CS_no (M := M) (P := M) (Q := am_s M 174 0 (pI 1)) (k := 1) (v := 0) ?_ ?_ (thr_s (by omega) (by omega)) (by decide) (INV_thrown hI _)
    · unfold g_L_activityBits g_X9_activityBits
      rw [g0, am_bx_inr]
      rfl
    · unfold g_X10_activityBits
      rw [m0, am_b_some, if_neg (by decide)]
end BIT
