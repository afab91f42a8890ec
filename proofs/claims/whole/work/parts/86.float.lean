/-! floats: what activity and averageDelay divide is a number, and its bits can be counted -/
section FLO
theorem q32 : FP.Core.Fmt.tails FP.Core.b32 = 8388608 ∧ FP.Core.Fmt.exps FP.Core.b32 = 256 ∧ FP.Core.Fmt.qmin FP.Core.b32 = -149 ∧ FP.Core.Fmt.qmax FP.Core.b32 = 104 ∧ FP.Core.Fmt.p FP.Core.b32 = 24 := by decide
theorem q64 : FP.Core.Fmt.tails FP.Core.b64 = 4503599627370496 ∧ FP.Core.Fmt.exps FP.Core.b64 = 2048 ∧ FP.Core.Fmt.qmin FP.Core.b64 = -1074 ∧ FP.Core.Fmt.qmax FP.Core.b64 = 971 ∧ FP.Core.Fmt.p FP.Core.b64 = 53 := by decide
/-- a datum that stands for a number or an infinity -/
def SH (f : FP.Core.Fmt) : FP.Core.Datum → Prop
  | .nan => False
  | .inf _ => True
  | .fin _ c q => c < 2 ^ f.p ∧ q ≤ f.qmax
theorem sh_settle {f : FP.Core.Fmt} (hf : f.tails < 2 ^ f.p) (s : Bool) (c : Nat) (q : Int) : SH f (FP.Core.settle f s c q) := by
  unfold FP.Core.settle FP.Core.bound
  by_cases h1 : c < 2 ^ f.p
  · rw [if_pos h1]
    by_cases h2 : q ≤ f.qmax
    · rw [if_pos h2]
      exact ⟨h1, h2⟩
    · rw [if_neg h2]
      trivial
  · rw [if_neg h1]
    by_cases h2 : q + 1 ≤ f.qmax
    · rw [if_pos h2]
      exact ⟨hf, h2⟩
    · rw [if_neg h2]
      trivial
theorem sh_ratio {f : FP.Core.Fmt} (hf : f.tails < 2 ^ f.p) (hg : f.qmin ≤ f.qmax) (s : Bool) (a b : Nat) (e : Int) : SH f (FP.Core.roundRatio f s a b e) := by
  unfold FP.Core.roundRatio
  by_cases h : a = 0
  · rw [if_pos h]
    exact ⟨Nat.two_pow_pos _, hg⟩
  · rw [if_neg h]
    exact sh_settle hf _ _ _
theorem sh_round {f : FP.Core.Fmt} (hf : f.tails < 2 ^ f.p) (hg : f.qmin ≤ f.qmax) {d : FP.Core.Datum} (h : d ≠ .nan) : SH f (FP.Core.round f d) := by
  cases d with
  | nan => exact absurd rfl h
  | inf s => trivial
  | fin s c q => exact sh_ratio hf hg _ _ _ _
theorem sh_quot {f : FP.Core.Fmt} (hf : f.tails < 2 ^ f.p) (hg : f.qmin ≤ f.qmax) {d : FP.Core.Datum} (h : d ≠ .nan) {t : Bool} {c : Nat} {r : Int} (hc : c ≠ 0) : SH f (FP.Core.quotient f d (.fin t c r)) := by
  cases d with
  | nan => exact absurd rfl h
  | inf s => trivial
  | fin s c q =>
    show SH f (if _ then _ else _)
    rw [if_neg hc]
    exact sh_ratio hf hg _ _ _ _
theorem g32 : FP.Core.Fmt.tails FP.Core.b32 < 2 ^ FP.Core.Fmt.p FP.Core.b32 ∧ FP.Core.Fmt.qmin FP.Core.b32 ≤ FP.Core.Fmt.qmax FP.Core.b32 := by decide
theorem g64 : FP.Core.Fmt.tails FP.Core.b64 < 2 ^ FP.Core.Fmt.p FP.Core.b64 ∧ FP.Core.Fmt.qmin FP.Core.b64 ≤ FP.Core.Fmt.qmax FP.Core.b64 := by decide
theorem en32 {d : FP.Core.Datum} (h : SH FP.Core.b32 d) : FP.Core.encode FP.Core.b32 d < 4294967296 ∧ FP.Core.encode FP.Core.b32 d % 2147483648 ≤ 2139095040 := by
  obtain ⟨e1, e2, e3, e4, e5⟩ := q32
  cases d with
  | nan => exact h.elim
  | inf s => cases s <;> decide
  | fin s c q =>
    obtain ⟨h1, h2⟩ := h
    rw [e5] at h1
    rw [e4] at h2
    unfold FP.Core.encode FP.Core.assemble
    simp only [e1, e2, e3]
    have hs : s.toNat ≤ 1 := by cases s <;> decide
    generalize hk : (q - -149).toNat = k
    have hk2 : k ≤ 253 := by omega
    by_cases c1 : c < 8388608
    · rw [if_pos c1]; omega
    · rw [if_neg c1]; omega
theorem en64 {d : FP.Core.Datum} (h : SH FP.Core.b64 d) : FP.Core.encode FP.Core.b64 d < 18446744073709551616 ∧ FP.Core.encode FP.Core.b64 d % 9223372036854775808 ≤ 9218868437227405312 := by
  obtain ⟨e1, e2, e3, e4, e5⟩ := q64
  cases d with
  | nan => exact h.elim
  | inf s => cases s <;> decide
  | fin s c q =>
    obtain ⟨h1, h2⟩ := h
    rw [e5] at h1
    rw [e4] at h2
    unfold FP.Core.encode FP.Core.assemble
    simp only [e1, e2, e3]
    have hs : s.toNat ≤ 1 := by cases s <;> decide
    generalize hk : (q - -1074).toNat = k
    have hk2 : k ≤ 2045 := by omega
    by_cases c1 : c < 4503599627370496
    · rw [if_pos c1]; omega
    · rw [if_neg c1]; omega
theorem de32 {n : Nat} (h : n % 2147483648 ≤ 2139095040) : FP.Core.decode FP.Core.b32 n ≠ .nan := by
  obtain ⟨e1, e2, e3, e4, e5⟩ := q32
  unfold FP.Core.decode FP.Core.fieldE FP.Core.fieldT
  simp only [e1, e2]
  intro q
  by_cases c1 : n / 8388608 % 256 = 256 - 1
  · rw [if_pos c1, if_pos (by omega)] at q
    cases q
  · rw [if_neg c1] at q
    by_cases c2 : n / 8388608 % 256 = 0
    · rw [if_pos c2] at q
      cases q
    · rw [if_neg c2] at q
      cases q
theorem de64 {n : Nat} (h : n % 9223372036854775808 ≤ 9218868437227405312) : FP.Core.decode FP.Core.b64 n ≠ .nan := by
  obtain ⟨e1, e2, e3, e4, e5⟩ := q64
  unfold FP.Core.decode FP.Core.fieldE FP.Core.fieldT
  simp only [e1, e2]
  intro q
  by_cases c1 : n / 4503599627370496 % 2048 = 2048 - 1
  · rw [if_pos c1, if_pos (by omega)] at q
    cases q
  · rw [if_neg c1] at q
    by_cases c2 : n / 4503599627370496 % 2048 = 0
    · rw [if_pos c2] at q
      cases q
    · rw [if_neg c2] at q
      cases q
theorem nn32 (x : UInt32) : (x &&& 0x7fffffff ≤ 0x7f800000) ↔ x.toNat % 2147483648 ≤ 2139095040 := by
  rw [UInt32.le_iff_toNat_le, UInt32.toNat_and]
  have e : (0x7fffffff : UInt32).toNat = 2 ^ 31 - 1 := by decide
  rw [e, Nat.and_two_pow_sub_one_eq_mod]
  exact Iff.rfl
theorem nn64 (x : UInt64) : (x &&& 0x7fffffffffffffff ≤ 0x7ff0000000000000) ↔ x.toNat % 9223372036854775808 ≤ 9218868437227405312 := by
  rw [UInt64.le_iff_toNat_le, UInt64.toNat_and]
  have e : (0x7fffffffffffffff : UInt64).toNat = 2 ^ 63 - 1 := by decide
  rw [e, Nat.and_two_pow_sub_one_eq_mod]
  exact Iff.rfl
theorem u32_of {n : Nat} (h : n < 4294967296) : (UInt32.ofNat n).toNat = n := by
  rw [UInt32.toNat_ofNat']
  exact Nat.mod_eq_of_lt h
theorem u64_of {n : Nat} (h : n < 18446744073709551616) : (UInt64.ofNat n).toNat = n := by
  rw [UInt64.toNat_ofNat']
  exact Nat.mod_eq_of_lt h
theorem dec_i2f (a : Int32) : FP.Core.decode FP.Core.b32 (FP.i2f a).toNat ≠ .nan := by
  have h := en32 (sh_round g32.1 g32.2 (d := FP.Core.ofInt a.toInt) (by unfold FP.Core.ofInt; intro q; cases q))
  show FP.Core.decode FP.Core.b32 (UInt32.ofNat (FP.Core.encode FP.Core.b32 _)).toNat ≠ .nan
  rw [u32_of h.1]
  exact de32 h.2
theorem dec_i2d (a : Int32) : FP.Core.decode FP.Core.b64 (FP.i2d a).toNat ≠ .nan := by
  have h := en64 (sh_round g64.1 g64.2 (d := FP.Core.ofInt a.toInt) (by unfold FP.Core.ofInt; intro q; cases q))
  show FP.Core.decode FP.Core.b64 (UInt64.ofNat (FP.Core.encode FP.Core.b64 _)).toNat ≠ .nan
  rw [u64_of h.1]
  exact de64 h.2
/-- small whole numbers as floats -/
def smF (a : Nat) : Bool := match FP.Core.decode FP.Core.b32 (FP.i2f (pI a)).toNat with
  | .fin false c q => decide (c = a * 2 ^ (-q).toNat ∧ 8388608 ≤ c ∧ c < 16777216 ∧ -23 ≤ q ∧ q ≤ -14)
  | _ => false
theorem smF_all : ∀ a : Fin 1001, a.val ≠ 0 → smF a.val = true := by decide +kernel
def smD (a : Nat) : Bool := match FP.Core.decode FP.Core.b64 (FP.i2d (pI a)).toNat with
  | .fin _ c _ => decide (c ≠ 0)
  | _ => false
theorem smD_all : ∀ a : Fin 16, a.val ≠ 0 → smD a.val = true := by decide +kernel
theorem i2f_small {a : Nat} (h0 : 0 < a) (h1 : a ≤ 1000) : ∃ n c : Nat, FP.Core.decode FP.Core.b32 (FP.i2f (pI a)).toNat = .fin false c (-(n : Int)) ∧ c = a * 2 ^ n ∧ 8388608 ≤ c ∧ c < 16777216 ∧ 14 ≤ n ∧ n ≤ 23 := by
  have h := smF_all ⟨a, by omega⟩ (by show a ≠ 0; omega)
  change smF a = true at h
  unfold smF at h
  split at h
  · next c q e =>
    have := of_decide_eq_true h
    obtain ⟨b1, b2, b3, b4, b5⟩ := this
    refine ⟨(-q).toNat, c, ?_, b1, b2, b3, by omega, by omega⟩
    rw [e, show -(((-q).toNat : Nat) : Int) = q by omega]
  · cases h
theorem i2d_small {a : Nat} (h0 : 0 < a) (h1 : a ≤ 15) : ∃ s c q, FP.Core.decode FP.Core.b64 (FP.i2d (pI a)).toNat = .fin s c q ∧ c ≠ 0 := by
  have h := smD_all ⟨a, by omega⟩ (by show a ≠ 0; omega)
  change smD a = true at h
  unfold smD at h
  split at h
  · next s c q e => exact ⟨s, c, q, e, of_decide_eq_true h⟩
  · cases h
theorem nn_fdiv (x : Int32) {a : Nat} (h0 : 0 < a) (h1 : a ≤ 1000) : (FP.fdiv (FP.i2f x) (FP.i2f (pI a))) &&& 0x7fffffff ≤ 0x7f800000 := by
  obtain ⟨n, c, e, b1, b2, b3, b4, b5⟩ := i2f_small h0 h1
  have h := en32 (sh_quot g32.1 g32.2 (dec_i2f x) (t := false) (c := c) (r := -(n : Int)) (by omega))
  rw [nn32]
  show (UInt32.ofNat (FP.Core.encode FP.Core.b32 (FP.Core.quotient FP.Core.b32 _ (FP.Core.decode FP.Core.b32 (FP.i2f (pI a)).toNat)))).toNat % _ ≤ _
  rw [e, u32_of h.1]
  exact h.2
theorem nn_ddiv (x : Int32) {a : Nat} (h0 : 0 < a) (h1 : a ≤ 15) : (FP.ddiv (FP.i2d x) (FP.i2d (pI a))) &&& 0x7fffffffffffffff ≤ 0x7ff0000000000000 := by
  obtain ⟨s, c, q, e, b1⟩ := i2d_small h0 h1
  have h := en64 (sh_quot g64.1 g64.2 (dec_i2d x) (t := s) (c := c) (r := q) b1)
  rw [nn64]
  show (UInt64.ofNat (FP.Core.encode FP.Core.b64 (FP.Core.quotient FP.Core.b64 _ (FP.Core.decode FP.Core.b64 (FP.i2d (pI a)).toNat)))).toNat % _ ≤ _
  rw [e, u64_of h.1]
  exact h.2
theorem nn_f2d {x : UInt32} (hx : x &&& 0x7fffffff ≤ 0x7f800000) : (FP.f2d x) &&& 0x7fffffffffffffff ≤ 0x7ff0000000000000 := by
  have hd := de32 ((nn32 x).mp hx)
  have h := en64 (sh_round g64.1 g64.2 hd)
  rw [nn64]
  unfold FP.f2d
  rw [if_neg (by
    show ¬ (decide (FP.Core.decode FP.Core.b32 x.toNat = .nan) = true)
    rw [decide_eq_true_eq]
    exact hd)]
  show (UInt64.ofNat (FP.Core.encode FP.Core.b64 (FP.Core.round FP.Core.b64 (FP.Core.decode FP.Core.b32 x.toNat)))).toNat % _ ≤ _
  rw [u64_of h.1]
  exact h.2
theorem ord_self {d : FP.Core.Datum} (h : d ≠ .nan) : FP.Core.order d d = some .eq := by
  cases d with
  | nan => exact absurd rfl h
  | inf s => cases s <;> decide
  | fin s c q =>
    show some (compare _ _) = _
    rw [show ∀ z : Int, compare z z = .eq from fun z => by simp [compare, compareOfLessAndEq]]
theorem fcmp_self {x : UInt32} (hx : x &&& 0x7fffffff ≤ 0x7f800000) (o : CmpOp) : Op.cmpValue (FP.fcmp x x) o = 0 := by
  have : FP.fcmp x x = some .eq := ord_self (de32 ((nn32 x).mp hx))
  rw [this]
  rfl
theorem dcmp_self {x : UInt64} (hx : x &&& 0x7fffffffffffffff ≤ 0x7ff0000000000000) (o : CmpOp) : Op.cmpValue (FP.dcmp x x) o = 0 := by
  have : FP.dcmp x x = some .eq := ord_self (de64 ((nn64 x).mp hx))
  rw [this]
  rfl
end FLO
