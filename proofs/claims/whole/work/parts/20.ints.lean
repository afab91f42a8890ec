/-! numbers: all ints as images of integers; sets of cells as bits; the loop rule; frames -/
section PZ
def pI (a : Int) : Int32 := Int32.ofInt a
theorem pi_lit (n : Nat) : (OfNat.ofNat n : Int32) = pI (OfNat.ofNat n : Int) := rfl
theorem pi_nat (n : Nat) : Int32.ofNat n = pI (n : Int) := rfl
theorem pi_add (a b : Int) : pI a + pI b = pI (a + b) := (Int32.ofInt_add a b).symm
theorem pi_sub (a b : Int) : pI a - pI b = pI (a - b) := (Int32.ofInt_sub a b).symm
theorem pi_mul (a b : Int) : pI a * pI b = pI (a * b) := (Int32.ofInt_mul a b).symm
theorem pi_neg (a : Int) : -(pI a) = pI (-a) := (Int32.ofInt_neg a).symm
theorem pi_to {a : Int} (h1 : -2147483648 ≤ a) (h2 : a < 2147483648) : (pI a).toInt = a := Int32.toInt_ofInt_of_le h1 h2
theorem pi_of (x : Int32) : pI x.toInt = x := Int32.ofInt_toInt x
theorem pi_le {a b : Int} (h1 : -2147483648 ≤ a) (h2 : a < 2147483648) (h3 : -2147483648 ≤ b) (h4 : b < 2147483648) : (pI a ≤ pI b) = (a ≤ b) := by
  rw [Int32.le_iff_toInt_le, pi_to h1 h2, pi_to h3 h4]
theorem pi_lt {a b : Int} (h1 : -2147483648 ≤ a) (h2 : a < 2147483648) (h3 : -2147483648 ≤ b) (h4 : b < 2147483648) : (pI a < pI b) = (a < b) := by
  rw [Int32.lt_iff_toInt_lt, pi_to h1 h2, pi_to h3 h4]
theorem pi_eq {a b : Int} (h1 : -2147483648 ≤ a) (h2 : a < 2147483648) (h3 : -2147483648 ≤ b) (h4 : b < 2147483648) : (pI a = pI b) = (a = b) := by
  rw [← Int32.toInt_inj, pi_to h1 h2, pi_to h3 h4]
theorem pi_cn {a : Int} (h1 : -2147483648 ≤ a) (h2 : a < 2147483648) : (pI a).toNatClampNeg = a.toNat := by
  show (pI a).toInt.toNat = a.toNat
  rw [pi_to h1 h2]
theorem pi_ci {α : Type} {a : Int} {n : Nat} {k : Option α} (h1 : 0 ≤ a) (h2 : a < n) (h3 : n < 2147483648) : am_ci (pI a) n k = k := by
  unfold am_ci
  rw [pi_to (by omega) (by omega), if_pos ⟨h1, h2⟩]
theorem pi_div {a b : Int} (h1 : 0 ≤ a) (h2 : a < 2147483648) (h3 : 0 < b) (h4 : b < 2147483648) : pI a / pI b = pI (a / b) := by
  show Int32.ofInt a / Int32.ofInt b = Int32.ofInt (a / b)
  have hm : Int32.minValue.toInt = -2147483648 := by decide
  have hM : Int32.maxValue.toInt = 2147483647 := by decide
  rw [← Int32.ofInt_tdiv (by rw [hm]; omega) (by rw [hM]; omega) (by rw [hm]; omega) (by rw [hM]; omega), Int.tdiv_eq_ediv_of_nonneg h1]
theorem pi_rng (x : Int32) : -2147483648 ≤ x.toInt ∧ x.toInt < 2147483648 := ⟨Int32.le_toInt x, Int32.toInt_lt x⟩
def iv (M : am_M) (a k : Nat) : Int := (M.1 a k).toInt
theorem iv_rng (M : am_M) (a k : Nat) : -2147483648 ≤ iv M a k ∧ iv M a k < 2147483648 := pi_rng _
theorem pi_g (M : am_M) (a k : Nat) : am_g M a k = pI (iv M a k) := (pi_of _).symm
theorem iv_s {M : am_M} {a k : Nat} {v : Int} (h1 : -2147483648 ≤ v) (h2 : v < 2147483648) (b j : Nat) : iv (am_s M a k (pI v)) b j = if b = a ∧ j = k then v else iv M b j := by
  unfold iv am_s
  dsimp only
  split
  · exact pi_to h1 h2
  · rfl
theorem iv_ls {M : am_M} {a k : Nat} {v : Int64} (b j : Nat) : iv (am_ls M a k v) b j = iv M b j := rfl
theorem lg_s {M : am_M} {a k : Nat} {v : Int32} (b j : Nat) : am_lg (am_s M a k v) b j = am_lg M b j := rfl
theorem lg_ls {M : am_M} {a k : Nat} {v : Int64} (b j : Nat) : am_lg (am_ls M a k v) b j = if b = a ∧ j = k then v else am_lg M b j := rfl
-- bits
def pb (x : Int64) (c : Nat) : Bool := x.toBitVec.getLsbD c
theorem pb_or (x y : Int64) (c : Nat) : pb (x ||| y) c = (pb x c || pb y c) := by
  unfold pb; rw [Int64.toBitVec_or, BitVec.getLsbD_or]
theorem pb_and (x y : Int64) (c : Nat) : pb (x &&& y) c = (pb x c && pb y c) := by
  unfold pb; rw [Int64.toBitVec_and, BitVec.getLsbD_and]
theorem pb_zero (c : Nat) : pb 0 c = false := by
  unfold pb; exact BitVec.getLsbD_zero
theorem pb_not (x : Int64) {c : Nat} (h : c < 64) : pb (x ^^^ (-1 : Int64)) c = !pb x c := by
  unfold pb
  rw [Int64.toBitVec_xor, BitVec.getLsbD_xor, show (-1 : Int64).toBitVec = BitVec.allOnes 64 by decide +kernel, BitVec.getLsbD_allOnes]
  simp [h]
theorem pb_far (x : Int64) {c : Nat} (h : 64 ≤ c) : pb x c = false := BitVec.getLsbD_of_ge _ _ h
theorem pb_ext {x y : Int64} (h : ∀ c, c < 64 → pb x c = pb y c) : x = y := by
  apply Int64.toBitVec_inj.mp
  apply BitVec.eq_of_getLsbD_eq
  intro i hi
  exact h i hi
def bm (a : Int) : Int64 := if 0 ≤ a ∧ a < 40 then (1 : Int64) <<< ((pI a).toInt64 &&& 63) else 0
theorem bm_all : ∀ a : Fin 40, ∀ c : Fin 64, pb ((1 : Int64) <<< ((pI (a.1 : Int)).toInt64 &&& 63)) c.1 = decide (c.1 = a.1) := by decide +kernel
theorem pb_bm (a : Int) (c : Nat) : pb (bm a) c = decide (0 ≤ a ∧ a < 40 ∧ (c : Int) = a) := by
  unfold bm
  split
  · rename_i h
    by_cases hc : c < 64
    · have h1 := bm_all ⟨a.toNat, by omega⟩ ⟨c, hc⟩
      have h2 : ((a.toNat : Nat) : Int) = a := by omega
      simp only [h2] at h1
      rw [h1]
      apply decide_eq_decide.mpr
      omega
    · rw [pb_far _ (by omega)]
      symm
      apply decide_eq_false
      omega
  · rename_i h
    rw [pb_zero]
    symm
    apply decide_eq_false
    omega
theorem cmp_zero (x : Int64) : (lg_cmp x 0 = pI 0) = (x = 0) := by
  unfold lg_cmp
  apply propext
  constructor
  · intro h
    split at h
    · exact absurd h (by decide +kernel)
    · split at h
      · assumption
      · exact absurd h (by decide +kernel)
  · intro h
    subst h
    decide +kernel
theorem and_bm_zero (x : Int64) {a : Int} (h1 : 0 ≤ a) (h2 : a < 40) : (x &&& bm a = 0) = (pb x a.toNat = false) := by
  apply propext
  constructor
  · intro h
    have h3 : pb (x &&& bm a) a.toNat = pb 0 a.toNat := by rw [h]
    rw [pb_and, pb_zero, pb_bm] at h3
    have : decide (0 ≤ a ∧ a < 40 ∧ (a.toNat : Int) = a) = true := by apply decide_eq_true; omega
    rw [this] at h3
    simpa using h3
  · intro h
    apply pb_ext
    intro c hc
    rw [pb_and, pb_zero, pb_bm]
    by_cases h3 : (c : Int) = a
    · have : c = a.toNat := by omega
      rw [this, h]; rfl
    · rw [decide_eq_false (by omega), Bool.and_false]
theorem and_bm_none (x : Int64) {a : Int} (h : ¬ (0 ≤ a ∧ a < 40)) : x &&& bm a = 0 := by
  apply pb_ext
  intro c hc
  rw [pb_and, pb_zero, pb_bm, decide_eq_false (by omega), Bool.and_false]
-- the loop rule
theorem lo_op {S R : Type} (L : Nat → S → Option R) (Inv : Nat → S → Prop) (Post : R → Prop) (hi : Nat)
    (step : ∀ n k s, k < hi → Inv k s → (∃ s', L (n + 1) s = L n s' ∧ Inv (k + 1) s') ∨ (∃ r, L (n + 1) s = some r ∧ Post r))
    (fin : ∀ n s, Inv hi s → ∃ r, L (n + 1) s = some r ∧ Post r) :
    ∀ (d n k : Nat) (s : S), hi - k = d → Inv k s → k ≤ hi → d < n → ∃ r, L n s = some r ∧ Post r := by
  intro d
  induction d with
  | zero =>
    intro n k s hd h hk hn
    have : k = hi := by omega
    subst this
    obtain ⟨n, rfl⟩ : ∃ m, n = m + 1 := ⟨n - 1, by omega⟩
    exact fin n s h
  | succ d ih =>
    intro n k s hd h hk hn
    obtain ⟨n, rfl⟩ : ∃ m, n = m + 1 := ⟨n - 1, by omega⟩
    rcases step n k s (by omega) h with ⟨s', h1, h2⟩ | h1
    · rw [h1]
      exact ih n (k + 1) s' (by omega) h2 (by omega) (by omega)
    · exact h1
theorem lo_for {S R : Type} (L : Nat → S → Option R) (Inv : Nat → S → Prop) (Post : R → Prop) (k hi : Nat) (s : S) (h0 : Inv k s) (hk : k ≤ hi) (hf : hi - k < am_fu)
    (step : ∀ n k s, k < hi → Inv k s → (∃ s', L (n + 1) s = L n s' ∧ Inv (k + 1) s') ∨ (∃ r, L (n + 1) s = some r ∧ Post r))
    (fin : ∀ n s, Inv hi s → ∃ r, L (n + 1) s = some r ∧ Post r) : ∃ r, L am_fu s = some r ∧ Post r :=
  lo_op L Inv Post hi step fin (hi - k) am_fu k s rfl h0 hk hf
-- frames: all but the cells of a list stand
def fr (X : List Nat) (M N : am_M) : Prop := ∀ a, a ∉ X → (∀ k, iv N a k = iv M a k) ∧ (∀ k, am_lg N a k = am_lg M a k)
theorem fr_refl (X : List Nat) (M : am_M) : fr X M M := fun _ _ => ⟨fun _ => rfl, fun _ => rfl⟩
theorem fr_trans {X : List Nat} {M N O : am_M} (h1 : fr X M N) (h2 : fr X N O) : fr X M O := fun a ha => ⟨fun k => ((h2 a ha).1 k).trans ((h1 a ha).1 k), fun k => ((h2 a ha).2 k).trans ((h1 a ha).2 k)⟩
theorem fr_mono {X Y : List Nat} {M N : am_M} (h : fr X M N) (hs : ∀ a ∈ X, a ∈ Y) : fr Y M N := fun a ha => h a (fun h2 => ha (hs a h2))
theorem fr_s {X : List Nat} {M : am_M} {a k : Nat} {v : Int32} (h : a ∈ X) : fr X M (am_s M a k v) := fun b hb => ⟨fun j => by
  unfold iv am_s
  dsimp only
  rw [if_neg (fun (e : b = a ∧ j = k) => hb (e.1 ▸ h))], fun _ => rfl⟩
theorem fr_ls {X : List Nat} {M : am_M} {a k : Nat} {v : Int64} (h : a ∈ X) : fr X M (am_ls M a k v) := fun b hb => ⟨fun _ => rfl, fun j => by
  rw [lg_ls, if_neg (fun (e : b = a ∧ j = k) => hb (e.1 ▸ h))]⟩
theorem fr_i {X : List Nat} {M N : am_M} (h : fr X M N) {a : Nat} (ha : a ∉ X) (k : Nat) : iv N a k = iv M a k := (h a ha).1 k
theorem fr_l {X : List Nat} {M N : am_M} (h : fr X M N) {a : Nat} (ha : a ∉ X) (k : Nat) : am_lg N a k = am_lg M a k := (h a ha).2 k
end PZ
