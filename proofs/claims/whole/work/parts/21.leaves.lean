/-! the small functions of the class: rows, masks, cells, actions -/
section PY
theorem s_at (t n : Nat) {i : Int} (M : am_M) (h1 : -2147483648 ≤ i) (h2 : i < 2147483648) (hn : n < 2147483648) : g_X9_at t n (pI i) M = some (pI (if 0 ≤ i ∧ i < n then iv M t i.toNat else 0), M) := by
  unfold g_X9_at
  simp (disch := (first | omega | exact (iv_rng _ _ _).1 | exact (iv_rng _ _ _).2)) only [pi_lit, pi_nat, pi_add, pi_sub, pi_mul, pi_neg, pi_le, pi_lt, pi_eq, pi_cn, pi_ci, pi_g, am_b_some, iv_s, iv_ls, lg_s, lg_ls]
  by_cases h3 : i < 0
  · rw [if_pos h3, if_neg (by omega)]
  · rw [if_neg h3]
    by_cases h4 : (n : Int) ≤ i
    · rw [if_pos h4, if_neg (by omega)]
    · rw [if_neg h4, if_pos (by omega)]
theorem s_at1 (t n : Nat) {i : Int} (M : am_M) (h1 : 0 ≤ i) (h2 : i < n) (hn : n < 2147483648) : g_X9_at t n (pI i) M = some (pI (iv M t i.toNat), M) := by
  rw [s_at t n M (by omega) (by omega) hn, if_pos ⟨h1, h2⟩]
theorem s_put (t n : Nat) {i : Int} (v : Int32) (M : am_M) (h1 : 0 ≤ i) (h2 : i < n) (hn : n < 2147483648) : g_X9_put t n (pI i) v M = some ((), am_s M t i.toNat v) := by
  unfold g_X9_put
  simp (disch := (first | omega | exact (iv_rng _ _ _).1 | exact (iv_rng _ _ _).2)) only [pi_lit, pi_nat, pi_add, pi_sub, pi_mul, pi_neg, pi_le, pi_lt, pi_eq, pi_cn, pi_ci, pi_g, am_b_some, iv_s, iv_ls, lg_s, lg_ls]
  rw [if_neg (by omega), if_neg (by omega)]
theorem s_put0 (t n : Nat) {i : Int} (v : Int32) (M : am_M) (h1 : -2147483648 ≤ i) (h2 : i < 2147483648) (hn : n < 2147483648) (h : ¬ (0 ≤ i ∧ i < n)) : g_X9_put t n (pI i) v M = some ((), M) := by
  unfold g_X9_put
  simp (disch := (first | omega | exact (iv_rng _ _ _).1 | exact (iv_rng _ _ _).2)) only [pi_lit, pi_nat, pi_add, pi_sub, pi_mul, pi_neg, pi_le, pi_lt, pi_eq, pi_cn, pi_ci, pi_g, am_b_some, iv_s, iv_ls, lg_s, lg_ls]
  by_cases h3 : i < 0
  · rw [if_pos h3]
  · rw [if_neg h3, if_pos (by omega)]
theorem s_maskAt (t n : Nat) {i : Int} (M : am_M) (h1 : -2147483648 ≤ i) (h2 : i < 2147483648) (hn : n < 2147483648) : g_X9_maskAt t n (pI i) M = some (if 0 ≤ i ∧ i < n then am_lg M t i.toNat else 0, M) := by
  unfold g_X9_maskAt
  simp (disch := (first | omega | exact (iv_rng _ _ _).1 | exact (iv_rng _ _ _).2)) only [pi_lit, pi_nat, pi_add, pi_sub, pi_mul, pi_neg, pi_le, pi_lt, pi_eq, pi_cn, pi_ci, pi_g, am_b_some, iv_s, iv_ls, lg_s, lg_ls]
  by_cases h3 : i < 0
  · rw [if_pos h3, if_neg (by omega)]
  · rw [if_neg h3]
    by_cases h4 : (n : Int) ≤ i
    · rw [if_pos h4, if_neg (by omega)]
    · rw [if_neg h4, if_pos (by omega)]
theorem s_maskAt1 (t n : Nat) {i : Int} (M : am_M) (h1 : 0 ≤ i) (h2 : i < n) (hn : n < 2147483648) : g_X9_maskAt t n (pI i) M = some (am_lg M t i.toNat, M) := by
  rw [s_maskAt t n M (by omega) (by omega) hn, if_pos ⟨h1, h2⟩]
theorem s_join (t n : Nat) {i : Int} (x : Int64) (M : am_M) (h1 : 0 ≤ i) (h2 : i < n) (hn : n < 2147483648) : g_X9_join t n (pI i) x M = some ((), am_ls M t i.toNat (am_lg M t i.toNat ||| x)) := by
  unfold g_X9_join
  simp (disch := (first | omega | exact (iv_rng _ _ _).1 | exact (iv_rng _ _ _).2)) only [pi_lit, pi_nat, pi_add, pi_sub, pi_mul, pi_neg, pi_le, pi_lt, pi_eq, pi_cn, pi_ci, pi_g, am_b_some, iv_s, iv_ls, lg_s, lg_ls]
  rw [if_neg (by omega), if_neg (by omega)]
theorem s_join0 (t n : Nat) {i : Int} (x : Int64) (M : am_M) (h1 : -2147483648 ≤ i) (h2 : i < 2147483648) (hn : n < 2147483648) (h : ¬ (0 ≤ i ∧ i < n)) : g_X9_join t n (pI i) x M = some ((), M) := by
  unfold g_X9_join
  simp (disch := (first | omega | exact (iv_rng _ _ _).1 | exact (iv_rng _ _ _).2)) only [pi_lit, pi_nat, pi_add, pi_sub, pi_mul, pi_neg, pi_le, pi_lt, pi_eq, pi_cn, pi_ci, pi_g, am_b_some, iv_s, iv_ls, lg_s, lg_ls]
  by_cases h3 : i < 0
  · rw [if_pos h3]
  · rw [if_neg h3, if_pos (by omega)]
theorem s_bit {a : Int} (M : am_M) (h1 : -2147483648 ≤ a) (h2 : a < 2147483648) : g_X9_bit (pI a) M = some (bm a, M) := by
  unfold g_X9_bit bm
  simp (disch := (first | omega | exact (iv_rng _ _ _).1 | exact (iv_rng _ _ _).2)) only [pi_lit, pi_nat, pi_add, pi_sub, pi_mul, pi_neg, pi_le, pi_lt, pi_eq, pi_cn, pi_ci, pi_g, am_b_some, iv_s, iv_ls, lg_s, lg_ls]
  by_cases h3 : a < 0
  · rw [if_pos h3, if_neg (by omega)]
  · rw [if_neg h3]
    by_cases h4 : 40 ≤ a
    · rw [if_pos h4, if_neg (by omega)]
    · rw [if_neg h4, if_pos (by omega)]
theorem s_isWall (t : Nat) {c : Int} (M : am_M) (h1 : 0 ≤ c) (h2 : c < 40) : g_X1_isWall t (pI c) M = some (pI (if iv M (t + 1) c.toNat = 1 then 1 else 0), M) := by
  unfold g_X1_isWall
  have := iv_rng M (t + 1) c.toNat
  rw [s_at1 (t + 1) 40 M h1 h2 (by omega)]
  simp (disch := (first | omega | exact (iv_rng _ _ _).1 | exact (iv_rng _ _ _).2)) only [pi_lit, pi_nat, pi_add, pi_sub, pi_mul, pi_neg, pi_le, pi_lt, pi_eq, pi_cn, pi_ci, pi_g, am_b_some, iv_s, iv_ls, lg_s, lg_ls]
  by_cases h : iv M (t + 1) c.toNat = 1
  · rw [if_pos h, if_pos h]
  · rw [if_neg h, if_neg h]
theorem s_ticksOf {a : Int} (M : am_M) (h1 : -2147483648 ≤ a) (h2 : a < 2147483648) : g_X9_ticksOf (pI a) M = some (pI (if a < 5 then 1 else 3), M) := by
  unfold g_X9_ticksOf
  simp (disch := (first | omega | exact (iv_rng _ _ _).1 | exact (iv_rng _ _ _).2)) only [pi_lit, pi_nat, pi_add, pi_sub, pi_mul, pi_neg, pi_le, pi_lt, pi_eq, pi_cn, pi_ci, pi_g, am_b_some, iv_s, iv_ls, lg_s, lg_ls]
  by_cases h : a < 5
  · rw [if_pos h, if_pos h]
  · rw [if_neg h, if_neg h]
theorem s_costOf {a : Int} (M : am_M) (h1 : -2147483648 ≤ a) (h2 : a < 2147483648) : g_X9_costOf (pI a) M = some (pI (if a < 5 then (if a = 0 then 0 else 1) else 2), M) := by
  unfold g_X9_costOf
  simp (disch := (first | omega | exact (iv_rng _ _ _).1 | exact (iv_rng _ _ _).2)) only [pi_lit, pi_nat, pi_add, pi_sub, pi_mul, pi_neg, pi_le, pi_lt, pi_eq, pi_cn, pi_ci, pi_g, am_b_some, iv_s, iv_ls, lg_s, lg_ls]
  by_cases h : a < 5
  · rw [if_pos h, if_pos h]
    by_cases h3 : a = 0
    · rw [if_pos h3, if_pos h3]
    · rw [if_neg h3, if_neg h3]
  · rw [if_neg h, if_neg h]
theorem s_isCell {a : Int} (M : am_M) (h1 : -2147483648 ≤ a) (h2 : a < 2147483648) : g_X9_isCell (pI a) M = some (pI (if 0 ≤ a ∧ a < 40 then 1 else 0), M) := by
  unfold g_X9_isCell
  simp (disch := (first | omega | exact (iv_rng _ _ _).1 | exact (iv_rng _ _ _).2)) only [pi_lit, pi_nat, pi_add, pi_sub, pi_mul, pi_neg, pi_le, pi_lt, pi_eq, pi_cn, pi_ci, pi_g, am_b_some, iv_s, iv_ls, lg_s, lg_ls]
  by_cases h3 : a < 0
  · rw [if_pos h3, if_neg (by omega)]
  · rw [if_neg h3]
    by_cases h4 : 40 ≤ a
    · rw [if_pos h4, if_neg (by omega)]
    · rw [if_neg h4, if_pos (by omega)]
/-- the cell beside a cell -/
def nb (c a : Int) : Int := if a = 1 then (if c < 8 then -1 else c - 8) else if a = 2 then (if c % 8 = 7 then -1 else c + 1) else if a = 3 then (if 32 ≤ c then -1 else c + 8) else if a = 4 then (if c % 8 = 0 then -1 else c - 1) else -1
theorem s_neighbor {c a : Int} (M : am_M) (h1 : 0 ≤ c) (h2 : c < 40) (h3 : 0 ≤ a) (h4 : a < 7) : g_X9_neighbor (pI c) (pI a) M = some (pI (nb c a), M) := by
  unfold g_X9_neighbor nb
  simp (disch := (first | omega | exact (iv_rng _ _ _).1 | exact (iv_rng _ _ _).2)) only [pi_lit, pi_nat, pi_add, pi_sub, pi_mul, pi_neg, pi_le, pi_lt, pi_eq, pi_cn, pi_ci, pi_g, am_b_some, iv_s, iv_ls, lg_s, lg_ls, pi_div]
  repeat' split
  all_goals first | rfl | omega
theorem nb_rng {c a : Int} (h1 : 0 ≤ c) (h2 : c < 40) : -1 ≤ nb c a ∧ nb c a < 40 := by
  unfold nb
  repeat' split
  all_goals omega
-- rows
theorem s_fill (t n : Nat) {v : Int} (M : am_M) (hn : n < 1000) (h1 : -2147483648 ≤ v) (h2 : v < 2147483648) : ∃ N, g_X9_fill t n (pI v) M = some ((), N) ∧ fr [t] M N ∧ ∀ k, iv N t k = if k < n then v else iv M t k := by
  have key := lo_for (fun m (s : Int32 × am_M) => g_X9_fill_L2 t n (pI v) m s.1 s.2) (fun k s => s.1 = pI k ∧ fr [t] M s.2 ∧ ∀ j, iv s.2 t j = if j < k then v else iv M t j) (fun r => fr [t] M r.2 ∧ ∀ j, iv r.2 t j = if j < n then v else iv M t j) 0 n (pI 0, M) ⟨rfl, fr_refl _ _, fun j => by rw [if_neg (by omega)]⟩ (by omega) (by unfold am_fu; omega) ?_ ?_
  · obtain ⟨⟨u9, N⟩, h3, h4, h5⟩ := key
    refine ⟨N, ?_, h4, h5⟩
    unfold g_X9_fill
    dsimp only at h3
    simp (disch := (first | omega | exact (iv_rng _ _ _).1 | exact (iv_rng _ _ _).2)) only [pi_lit, pi_nat, pi_add, pi_sub, pi_mul, pi_neg, pi_le, pi_lt, pi_eq, pi_cn, pi_ci, pi_g, am_b_some, iv_s, iv_ls, lg_s, lg_ls, h3]
  · rintro m k ⟨a, N⟩ hk ⟨rfl, h4, h5⟩
    left
    refine ⟨(pI (k + 1 : Nat), am_s N t k (pI v)), ?_, rfl, fr_trans h4 (fr_s (by simp)), fun j => ?_⟩
    · dsimp only
      rw [g_X9_fill_L2]
      simp (disch := (first | omega | exact (iv_rng _ _ _).1 | exact (iv_rng _ _ _).2)) only [pi_lit, pi_nat, pi_add, pi_sub, pi_mul, pi_neg, pi_le, pi_lt, pi_eq, pi_cn, pi_ci, pi_g, am_b_some, iv_s, iv_ls, lg_s, lg_ls]
      rw [if_neg (by omega)]
      simp only [Int.toNat_natCast, Int.natCast_add, Int.cast_ofNat_Int]
    · dsimp only at h5 ⊢
      rw [iv_s h1 h2, h5]
      by_cases h6 : j = k
      · rw [if_pos ⟨rfl, h6⟩, if_pos (by omega)]
      · rw [if_neg (by omega)]
        by_cases h7 : j < k
        · rw [if_pos h7, if_pos (by omega)]
        · rw [if_neg h7, if_neg (by omega)]
  · rintro m ⟨a, N⟩ ⟨rfl, h4, h5⟩
    refine ⟨((), N), ?_, h4, h5⟩
    dsimp only
    rw [g_X9_fill_L2]
    simp (disch := (first | omega | exact (iv_rng _ _ _).1 | exact (iv_rng _ _ _).2)) only [pi_lit, pi_nat, pi_add, pi_sub, pi_mul, pi_neg, pi_le, pi_lt, pi_eq, pi_cn, pi_ci, pi_g, am_b_some, iv_s, iv_ls, lg_s, lg_ls]
    rw [if_pos (by omega)]
theorem s_fillMasks (t n : Nat) (v : Int64) (M : am_M) (hn : n < 1000) : ∃ N, g_X9_fillMasks t n v M = some ((), N) ∧ fr [t] M N ∧ ∀ k, am_lg N t k = if k < n then v else am_lg M t k := by
  have key := lo_for (fun m (s : Int32 × am_M) => g_X9_fillMasks_L2 t n v m s.1 s.2) (fun k s => s.1 = pI k ∧ fr [t] M s.2 ∧ ∀ j, am_lg s.2 t j = if j < k then v else am_lg M t j) (fun r => fr [t] M r.2 ∧ ∀ j, am_lg r.2 t j = if j < n then v else am_lg M t j) 0 n (pI 0, M) ⟨rfl, fr_refl _ _, fun j => by rw [if_neg (by omega)]⟩ (by omega) (by unfold am_fu; omega) ?_ ?_
  · obtain ⟨⟨u9, N⟩, h3, h4, h5⟩ := key
    refine ⟨N, ?_, h4, h5⟩
    unfold g_X9_fillMasks
    dsimp only at h3
    simp (disch := (first | omega | exact (iv_rng _ _ _).1 | exact (iv_rng _ _ _).2)) only [pi_lit, pi_nat, pi_add, pi_sub, pi_mul, pi_neg, pi_le, pi_lt, pi_eq, pi_cn, pi_ci, pi_g, am_b_some, iv_s, iv_ls, lg_s, lg_ls, h3]
  · rintro m k ⟨a, N⟩ hk ⟨rfl, h4, h5⟩
    left
    refine ⟨(pI (k + 1 : Nat), am_ls N t k v), ?_, rfl, fr_trans h4 (fr_ls (by simp)), fun j => ?_⟩
    · dsimp only
      rw [g_X9_fillMasks_L2]
      simp (disch := (first | omega | exact (iv_rng _ _ _).1 | exact (iv_rng _ _ _).2)) only [pi_lit, pi_nat, pi_add, pi_sub, pi_mul, pi_neg, pi_le, pi_lt, pi_eq, pi_cn, pi_ci, pi_g, am_b_some, iv_s, iv_ls, lg_s, lg_ls]
      rw [if_neg (by omega)]
      simp only [Int.toNat_natCast, Int.natCast_add, Int.cast_ofNat_Int]
    · dsimp only at h5 ⊢
      rw [lg_ls, h5]
      by_cases h6 : j = k
      · rw [if_pos ⟨rfl, h6⟩, if_pos (by omega)]
      · rw [if_neg (by omega)]
        by_cases h7 : j < k
        · rw [if_pos h7, if_pos (by omega)]
        · rw [if_neg h7, if_neg (by omega)]
  · rintro m ⟨a, N⟩ ⟨rfl, h4, h5⟩
    refine ⟨((), N), ?_, h4, h5⟩
    dsimp only
    rw [g_X9_fillMasks_L2]
    simp (disch := (first | omega | exact (iv_rng _ _ _).1 | exact (iv_rng _ _ _).2)) only [pi_lit, pi_nat, pi_add, pi_sub, pi_mul, pi_neg, pi_le, pi_lt, pi_eq, pi_cn, pi_ci, pi_g, am_b_some, iv_s, iv_ls, lg_s, lg_ls]
    rw [if_pos (by omega)]
theorem s_copyRow (t u n : Nat) (M : am_M) (hn : n < 1000) (htu : t ≠ u) : ∃ N, g_X9_copyRow t n u n M = some ((), N) ∧ fr [u] M N ∧ ∀ k, iv N u k = if k < n then iv M t k else iv M u k := by
  have key := lo_for (fun m (s : Int32 × am_M) => g_X9_copyRow_L2 t n u n m s.1 s.2) (fun k s => s.1 = pI k ∧ fr [u] M s.2 ∧ ∀ j, iv s.2 u j = if j < k then iv M t j else iv M u j) (fun r => fr [u] M r.2 ∧ ∀ j, iv r.2 u j = if j < n then iv M t j else iv M u j) 0 n (pI 0, M) ⟨rfl, fr_refl _ _, fun j => by rw [if_neg (by omega)]⟩ (by omega) (by unfold am_fu; omega) ?_ ?_
  · obtain ⟨⟨u9, N⟩, h3, h4, h5⟩ := key
    refine ⟨N, ?_, h4, h5⟩
    unfold g_X9_copyRow
    dsimp only at h3
    simp (disch := (first | omega | exact (iv_rng _ _ _).1 | exact (iv_rng _ _ _).2)) only [pi_lit, pi_nat, pi_add, pi_sub, pi_mul, pi_neg, pi_le, pi_lt, pi_eq, pi_cn, pi_ci, pi_g, am_b_some, iv_s, iv_ls, lg_s, lg_ls, h3]
  · rintro m k ⟨a, N⟩ hk ⟨rfl, h4, h5⟩
    left
    have h8 := iv_rng M t k
    refine ⟨(pI (k + 1 : Nat), am_s N u k (pI (iv M t k))), ?_, rfl, fr_trans h4 (fr_s (by simp)), fun j => ?_⟩
    · dsimp only
      rw [g_X9_copyRow_L2]
      simp (disch := (first | omega | exact (iv_rng _ _ _).1 | exact (iv_rng _ _ _).2)) only [pi_lit, pi_nat, pi_add, pi_sub, pi_mul, pi_neg, pi_le, pi_lt, pi_eq, pi_cn, pi_ci, pi_g, am_b_some, iv_s, iv_ls, lg_s, lg_ls]
      rw [if_neg (by omega), if_neg (by omega)]
      simp only [Int.toNat_natCast, Int.natCast_add, Int.cast_ofNat_Int]
      rw [fr_i h4 (by simpa using htu)]
    · dsimp only at h5 ⊢
      rw [iv_s h8.1 h8.2, h5]
      by_cases h6 : j = k
      · rw [if_pos ⟨rfl, h6⟩, if_pos (by omega), h6]
      · rw [if_neg (by omega)]
        by_cases h7 : j < k
        · rw [if_pos h7, if_pos (by omega)]
        · rw [if_neg h7, if_neg (by omega)]
  · rintro m ⟨a, N⟩ ⟨rfl, h4, h5⟩
    refine ⟨((), N), ?_, h4, h5⟩
    dsimp only
    rw [g_X9_copyRow_L2]
    simp (disch := (first | omega | exact (iv_rng _ _ _).1 | exact (iv_rng _ _ _).2)) only [pi_lit, pi_nat, pi_add, pi_sub, pi_mul, pi_neg, pi_le, pi_lt, pi_eq, pi_cn, pi_ci, pi_g, am_b_some, iv_s, iv_ls, lg_s, lg_ls]
    rw [if_pos (by omega)]
end PY
