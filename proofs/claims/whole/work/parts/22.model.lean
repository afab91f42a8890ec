/-! the small functions of the model -/
section PX
def sg (M : am_M) (k : Nat) : Int := iv M 175 k
theorem sg_rng (M : am_M) (k : Nat) : -2147483648 ≤ sg M k ∧ sg M k < 2147483648 := iv_rng M 175 k
def ro (σ : Nat → Int) (r w : Int) : Int := σ (88 + 42 * r + w).toNat
def it (σ : Nat → Int) (t w : Int) : Int := σ (298 + 9 * t + w).toNat
def ac (σ : Nat → Int) (r k : Int) : Int := ro σ r (11 + k)
def tk (a : Int) : Int := if a < 5 then 1 else 3
def cst (a : Int) : Int := if a < 5 then (if a = 0 then 0 else 1) else 2
def rd (σ : Nat → Int) (c l : Int) : Int := if l < σ 1 then (if σ (2 + 2 * l).toNat = c then σ (3 + 2 * l).toNat else if σ (3 + 2 * l).toNat = c then σ (2 + 2 * l).toNat else -1) else -1
def mvs (σ : Nat → Int) (c a : Int) : Int := if a = 0 then c else if a < 5 then nb c a else rd σ c (a - 5)
theorem tk_pos (a : Int) : 1 ≤ tk a ∧ tk a ≤ 3 := by
  unfold tk
  split <;> omega
theorem cst_rng (a : Int) : 0 ≤ cst a ∧ cst a ≤ 2 := by
  unfold cst
  repeat' split
  all_goals omega
theorem s_of {r w : Int} (M : am_M) (h1 : 0 ≤ 88 + 42 * r + w) (h2 : 88 + 42 * r + w < 406) : g_X10_of (pI r) (pI w) M = some (pI (ro (sg M) r w), M) := by
  unfold g_X10_of
  simp (disch := (first | omega | exact (iv_rng _ _ _).1 | exact (iv_rng _ _ _).2)) only [pi_lit, pi_nat, pi_add, pi_sub, pi_mul, pi_neg, pi_le, pi_lt, pi_eq, pi_cn, pi_ci, pi_g, am_b_some, iv_s, iv_ls, lg_s, lg_ls]
  rfl
theorem s_act {r k : Int} (M : am_M) (h1 : 0 ≤ 99 + 42 * r + k) (h2 : 99 + 42 * r + k < 406) : g_X10_act (pI r) (pI k) M = some (pI (ac (sg M) r k), M) := by
  unfold g_X10_act
  simp only [pi_lit, pi_add]
  rw [s_of M (by omega) (by omega)]
  rfl
theorem s_item {t w : Int} (M : am_M) (h1 : 0 ≤ 298 + 9 * t + w) (h2 : 298 + 9 * t + w < 406) : g_X10_item (pI t) (pI w) M = some (pI (it (sg M) t w), M) := by
  unfold g_X10_item
  simp (disch := (first | omega | exact (iv_rng _ _ _).1 | exact (iv_rng _ _ _).2)) only [pi_lit, pi_nat, pi_add, pi_sub, pi_mul, pi_neg, pi_le, pi_lt, pi_eq, pi_cn, pi_ci, pi_g, am_b_some, iv_s, iv_ls, lg_s, lg_ls]
  rfl
theorem s_rput {r w : Int} (v : Int32) (M : am_M) (h1 : 0 ≤ 88 + 42 * r + w) (h2 : 88 + 42 * r + w < 406) : g_X10_put (pI r) (pI w) v M = some ((), am_s M 175 (88 + 42 * r + w).toNat v) := by
  unfold g_X10_put
  simp (disch := (first | omega | exact (iv_rng _ _ _).1 | exact (iv_rng _ _ _).2)) only [pi_lit, pi_nat, pi_add, pi_sub, pi_mul, pi_neg, pi_le, pi_lt, pi_eq, pi_cn, pi_ci, pi_g, am_b_some, iv_s, iv_ls, lg_s, lg_ls]
theorem s_tset {t w : Int} (v : Int32) (M : am_M) (h1 : 0 ≤ 298 + 9 * t + w) (h2 : 298 + 9 * t + w < 406) : g_X10_set (pI t) (pI w) v M = some ((), am_s M 175 (298 + 9 * t + w).toNat v) := by
  unfold g_X10_set
  simp (disch := (first | omega | exact (iv_rng _ _ _).1 | exact (iv_rng _ _ _).2)) only [pi_lit, pi_nat, pi_add, pi_sub, pi_mul, pi_neg, pi_le, pi_lt, pi_eq, pi_cn, pi_ci, pi_g, am_b_some, iv_s, iv_ls, lg_s, lg_ls]
theorem s_adds {r w v : Int} (M : am_M) (h1 : 0 ≤ 88 + 42 * r + w) (h2 : 88 + 42 * r + w < 406) : g_X10_adds (pI r) (pI w) (pI v) M = some ((), am_s M 175 (88 + 42 * r + w).toNat (pI (ro (sg M) r w + v))) := by
  unfold g_X10_adds
  simp (disch := (first | omega | exact (iv_rng _ _ _).1 | exact (iv_rng _ _ _).2)) only [pi_lit, pi_nat, pi_add, pi_sub, pi_mul, pi_neg, pi_le, pi_lt, pi_eq, pi_cn, pi_ci, pi_g, am_b_some, iv_s, iv_ls, lg_s, lg_ls]
  rfl
theorem s_in {a b c : Int} (M : am_M) (h1 : -2147483648 ≤ a) (h2 : a < 2147483648) (h3 : -2147483648 ≤ b) (h4 : b < 2147483648) (h5 : -2147483648 ≤ c) (h6 : c < 2147483648) : g_X10_in (pI a) (pI b) (pI c) M = some (pI (if b ≤ a ∧ a ≤ c then 1 else 0), M) := by
  unfold g_X10_in
  simp (disch := (first | omega | exact (iv_rng _ _ _).1 | exact (iv_rng _ _ _).2)) only [pi_lit, pi_nat, pi_add, pi_sub, pi_mul, pi_neg, pi_le, pi_lt, pi_eq, pi_cn, pi_ci, pi_g, am_b_some, iv_s, iv_ls, lg_s, lg_ls]
  by_cases h7 : a < b
  · rw [if_pos h7, if_neg (by omega)]
  · rw [if_neg h7]
    by_cases h8 : c < a
    · rw [if_pos h8, if_neg (by omega)]
    · rw [if_neg h8, if_pos (by omega)]
theorem am_c01 {α : Type} {p : Prop} [Decidable p] (k : Option α) : am_c (pI (if p then 1 else 0) = 0 ∨ pI (if p then 1 else 0) = 1) k = k := by
  apply am_c_true
  split
  · right; rfl
  · left; rfl
theorem s_misCell {a : Int} (M : am_M) (h1 : -2147483648 ≤ a) (h2 : a < 2147483648) : g_X10_isCell (pI a) M = some (pI (if 0 ≤ a ∧ a ≤ 39 then 1 else 0), M) := by
  unfold g_X10_isCell
  have h := s_in (a := a) (b := 0) (c := 39) M h1 h2 (by omega) (by omega) (by omega) (by omega)
  rw [pi_lit, pi_lit]
  erw [h]
  rw [am_b_some]
  exact am_c01 _
theorem s_isRobot {a : Int} (M : am_M) (h1 : -2147483648 ≤ a) (h2 : a < 2147483648) (h3 : 0 ≤ sg M 6) (h4 : sg M 6 ≤ 5) : g_X10_isRobot (pI a) M = some (pI (if 0 ≤ a ∧ a ≤ sg M 6 - 1 then 1 else 0), M) := by
  unfold g_X10_isRobot
  simp (disch := (first | omega | exact (iv_rng _ _ _).1 | exact (iv_rng _ _ _).2)) only [pi_lit, pi_nat, pi_add, pi_sub, pi_mul, pi_neg, pi_le, pi_lt, pi_eq, pi_cn, pi_ci, pi_g, am_b_some, iv_s, iv_ls, lg_s, lg_ls]
  rw [show iv M 175 (6 : Int).toNat = sg M 6 from rfl, s_in (a := a) (b := 0) (c := sg M 6 - 1) M h1 h2 (by omega) (by omega) (by omega) (by omega)]
  rw [am_b_some]
  exact am_c01 _
theorem s_isTask {a : Int} (M : am_M) (h1 : -2147483648 ≤ a) (h2 : a < 2147483648) (h3 : 0 ≤ sg M 7) (h4 : sg M 7 ≤ 12) : g_X10_isTask (pI a) M = some (pI (if 0 ≤ a ∧ a ≤ sg M 7 - 1 then 1 else 0), M) := by
  unfold g_X10_isTask
  simp (disch := (first | omega | exact (iv_rng _ _ _).1 | exact (iv_rng _ _ _).2)) only [pi_lit, pi_nat, pi_add, pi_sub, pi_mul, pi_neg, pi_le, pi_lt, pi_eq, pi_cn, pi_ci, pi_g, am_b_some, iv_s, iv_ls, lg_s, lg_ls]
  rw [show iv M 175 (7 : Int).toNat = sg M 7 from rfl, s_in (a := a) (b := 0) (c := sg M 7 - 1) M h1 h2 (by omega) (by omega) (by omega) (by omega)]
  rw [am_b_some]
  exact am_c01 _
theorem s_misInLift {r : Int} (M : am_M) (h1 : 0 ≤ r) (h2 : r < 5) : g_X10_isInLift (pI r) M = some (pI (if 0 < ro (sg M) r 3 then 1 else 0), M) := by
  unfold g_X10_isInLift
  rw [pi_lit, pi_lit]
  have h := sg_rng M (88 + 42 * r + 3).toNat
  erw [s_of (r := r) (w := 3) M (by omega) (by omega)]
  have h5 : -2147483648 ≤ ro (sg M) r 3 ∧ ro (sg M) r 3 < 2147483648 := h
  simp (disch := (first | omega | exact (iv_rng _ _ _).1 | exact (iv_rng _ _ _).2)) only [pi_lit, pi_nat, pi_add, pi_sub, pi_mul, pi_neg, pi_le, pi_lt, pi_eq, pi_cn, pi_ci, pi_g, am_b_some, iv_s, iv_ls, lg_s, lg_ls]
  by_cases h3 : ro (sg M) r 3 ≤ 0
  · rw [if_pos h3, if_neg (by omega)]
  · rw [if_neg h3, if_pos (by omega)]
theorem s_misWall {c : Int} (M : am_M) (h1 : 0 ≤ c) (h2 : c < 40) : g_X10_isWall (pI c) M = some (pI (if sg M (8 + c).toNat = 1 then 1 else 0), M) := by
  unfold g_X10_isWall
  simp (disch := (first | omega | exact (iv_rng _ _ _).1 | exact (iv_rng _ _ _).2)) only [pi_lit, pi_nat, pi_add, pi_sub, pi_mul, pi_neg, pi_le, pi_lt, pi_eq, pi_cn, pi_ci, pi_g, am_b_some, iv_s, iv_ls, lg_s, lg_ls]
  by_cases h : iv M 175 (8 + c).toNat = 1
  · rw [if_pos h, if_pos (show sg M (8 + c).toNat = 1 from h)]
  · rw [if_neg h, if_neg (show ¬ sg M (8 + c).toNat = 1 from h)]
theorem s_takes {a : Int} (M : am_M) (h1 : -2147483648 ≤ a) (h2 : a < 2147483648) : g_X10_takes (pI a) M = some (pI (tk a), M) := by
  unfold g_X10_takes tk
  simp (disch := (first | omega | exact (iv_rng _ _ _).1 | exact (iv_rng _ _ _).2)) only [pi_lit, pi_nat, pi_add, pi_sub, pi_mul, pi_neg, pi_le, pi_lt, pi_eq, pi_cn, pi_ci, pi_g, am_b_some, iv_s, iv_ls, lg_s, lg_ls]
  by_cases h : a < 5
  · rw [if_pos h, if_pos h]
  · rw [if_neg h, if_neg h]
theorem s_costs {a : Int} (M : am_M) (h1 : -2147483648 ≤ a) (h2 : a < 2147483648) : g_X10_costs (pI a) M = some (pI (cst a), M) := by
  unfold g_X10_costs cst
  simp (disch := (first | omega | exact (iv_rng _ _ _).1 | exact (iv_rng _ _ _).2)) only [pi_lit, pi_nat, pi_add, pi_sub, pi_mul, pi_neg, pi_le, pi_lt, pi_eq, pi_cn, pi_ci, pi_g, am_b_some, iv_s, iv_ls, lg_s, lg_ls]
  by_cases h : a = 0
  · rw [if_pos h, if_pos (by omega), if_pos h]
  · rw [if_neg h]
    by_cases h3 : a < 5
    · rw [if_pos h3, if_pos h3, if_neg h]
    · rw [if_neg h3, if_neg h3]
theorem s_ridden {c l : Int} (M : am_M) (h1 : 0 ≤ c) (h2 : c < 40) (h3 : 0 ≤ l) (h4 : l < 2) : g_X10_ridden (pI c) (pI l) M = some (pI (rd (sg M) c l), M) := by
  unfold g_X10_ridden rd
  simp (disch := (first | omega | exact (iv_rng _ _ _).1 | exact (iv_rng _ _ _).2)) only [pi_lit, pi_nat, pi_add, pi_sub, pi_mul, pi_neg, pi_le, pi_lt, pi_eq, pi_cn, pi_ci, pi_g, am_b_some, iv_s, iv_ls, lg_s, lg_ls]
  rw [show 2 + 2 * l + 1 = 3 + 2 * l by omega]
  unfold sg
  rw [show ((1 : Int).toNat) = 1 from rfl]
  repeat' split
  all_goals first | rfl | contradiction
theorem s_mmoved {c a : Int} (M : am_M) (h1 : 0 ≤ c) (h2 : c < 40) (h3 : 0 ≤ a) (h4 : a < 7) : g_X10_moved (pI c) (pI a) M = some (pI (mvs (sg M) c a), M) := by
  unfold g_X10_moved mvs
  by_cases h : a < 5
  · unfold nb
    simp (disch := (first | omega | exact (iv_rng _ _ _).1 | exact (iv_rng _ _ _).2)) only [pi_lit, pi_nat, pi_add, pi_sub, pi_mul, pi_neg, pi_le, pi_lt, pi_eq, pi_cn, pi_ci, pi_g, am_b_some, iv_s, iv_ls, lg_s, lg_ls, pi_div]
    repeat' split
    all_goals first | rfl | omega
  · simp (disch := (first | omega | exact (iv_rng _ _ _).1 | exact (iv_rng _ _ _).2)) only [pi_lit, pi_nat, pi_add, pi_sub, pi_mul, pi_neg, pi_le, pi_lt, pi_eq, pi_cn, pi_ci, pi_g, am_b_some, iv_s, iv_ls, lg_s, lg_ls]
    rw [if_neg (by omega), if_neg (by omega), if_neg (by omega), if_neg (by omega), if_neg (by omega), if_neg (by omega), if_neg h, s_ridden M h1 h2 (by omega) (by omega)]
    rfl
end PX
