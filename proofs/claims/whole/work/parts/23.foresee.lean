/-! where a robot is from now on, as the model foresees it -/
section PW
/-- the cell behind k actions -/
def ck (σ : Nat → Int) (r : Int) : Nat → Int
  | 0 => ro σ r 0
  | k + 1 => mvs σ (ck σ r k) (ac σ r k)
/-- the ticks of k actions -/
def pk (σ : Nat → Int) (r : Int) : Nat → Int
  | 0 => 0
  | k + 1 => pk σ r k + tk (ac σ r k)
/-- a robot's row is fit -/
def wr (σ : Nat → Int) (r : Int) : Prop := (0 ≤ ro σ r 2 ∧ ro σ r 2 ≤ 30) ∧ (∀ k : Nat, k < ro σ r 2 → 0 ≤ ac σ r k ∧ ac σ r k < 7) ∧ (∀ k : Nat, k ≤ ro σ r 2 → 0 ≤ ck σ r k ∧ ck σ r k < 40) ∧ 0 ≤ ro σ r 3 ∧ (0 < ro σ r 3 → 0 < ro σ r 2 ∧ 5 ≤ ac σ r 0 ∧ ro σ r 3 < 3) ∧ pk σ r (ro σ r 2).toNat - ro σ r 3 ≤ 30
def fw (σ : Nat → Int) (r : Int) (k : Nat) : Int := if (k : Int) < ro σ r 2 then ac σ r k else 0
def fs (σ : Nat → Int) (r : Int) : Nat → Int × Nat × Int
  | 0 => (ro σ r 0, 0, ro σ r 3)
  | t + 1 => if (fs σ r t).2.2 + 1 = tk (fw σ r (fs σ r t).2.1) then (mvs σ (fs σ r t).1 (fw σ r (fs σ r t).2.1), (fs σ r t).2.1 + 1, 0) else ((fs σ r t).1, (fs σ r t).2.1, (fs σ r t).2.2 + 1)
def fa (σ : Nat → Int) (r : Int) (t : Nat) : Int := fw σ r (fs σ r t).2.1
def fp (σ : Nat → Int) (r : Int) (t : Nat) : Int := if 0 < (fs σ r t).2.2 then 4 - fa σ r t else (fs σ r t).1
def fl (σ : Nat → Int) (r : Int) (t : Nat) : Int := if fa σ r t < 5 then -1 else fa σ r t - 5
theorem fw_rng {σ : Nat → Int} {r : Int} (h : wr σ r) (k : Nat) : 0 ≤ fw σ r k ∧ fw σ r k < 7 := by
  unfold fw
  split
  · exact h.2.1 k (by assumption)
  · omega
theorem mvs_zero (σ : Nat → Int) (c : Int) : mvs σ c 0 = c := by
  unfold mvs
  rw [if_pos rfl]
theorem tk_zero : tk 0 = 1 := rfl
theorem tk_ride {a : Int} (h : 5 ≤ a) : tk a = 3 := by
  unfold tk
  rw [if_neg (by omega)]
theorem tk_one {a : Int} (h : a < 5) : tk a = 1 := by
  unfold tk
  rw [if_pos h]
theorem fs_inv {σ : Nat → Int} {r : Int} (h : wr σ r) (t : Nat) : ((fs σ r t).2.1 < ro σ r 2 → (fs σ r t).1 = ck σ r (fs σ r t).2.1 ∧ 0 ≤ (fs σ r t).2.2 ∧ (fs σ r t).2.2 < tk (ac σ r (fs σ r t).2.1) ∧ pk σ r (fs σ r t).2.1 + (fs σ r t).2.2 = ro σ r 3 + t) ∧ (ro σ r 2 ≤ (fs σ r t).2.1 → (fs σ r t).1 = ck σ r (ro σ r 2).toNat ∧ (fs σ r t).2.2 = 0 ∧ pk σ r (ro σ r 2).toNat ≤ ro σ r 3 + t) := by
  obtain ⟨h1, h2, h3, h4, h5, h6⟩ := h
  induction t with
  | zero =>
    unfold fs
    dsimp only
    refine ⟨fun h7 => ⟨rfl, h4, ?_, ?_⟩, fun h7 => ?_⟩
    · by_cases h8 : 0 < ro σ r 3
      · have := h5 h8
        rw [tk_ride (by simpa using this.2.1)]
        omega
      · have := tk_pos (ac σ r ((0 : Nat) : Int))
        omega
    · simp [pk]
    · have h8 : ro σ r 2 = 0 := by simp at h7; omega
      have h9 : ro σ r 3 = 0 := by
        by_cases h8 : 0 < ro σ r 3
        · have := h5 h8; omega
        · omega
      rw [h8]
      refine ⟨rfl, h9, ?_⟩
      simp [pk]
      omega
  | succ t ih =>
    rw [fs]
    obtain ⟨i1, i2⟩ := ih
    generalize fs σ r t = x at i1 i2
    obtain ⟨c, k, f⟩ := x
    dsimp only at i1 i2 ⊢
    by_cases h7 : (k : Int) < ro σ r 2
    · obtain ⟨j1, j2, j3, j4⟩ := i1 h7
      have h8 : fw σ r k = ac σ r k := by unfold fw; rw [if_pos h7]
      rw [h8]
      by_cases h9 : f + 1 = tk (ac σ r k)
      · rw [if_pos h9]
        dsimp only
        refine ⟨fun h10 => ⟨by rw [ck, j1], by omega, (tk_pos _).1, ?_⟩, fun h10 => ⟨?_, rfl, ?_⟩⟩
        · rw [pk]; push_cast; omega
        · have : (ro σ r 2).toNat = k + 1 := by push_cast at h10; omega
          rw [this, ck, j1]
        · have : (ro σ r 2).toNat = k + 1 := by push_cast at h10; omega
          rw [this, pk]; push_cast; omega
      · rw [if_neg h9]
        dsimp only
        refine ⟨fun h10 => ⟨j1, by omega, by omega, ?_⟩, fun h10 => by omega⟩
        push_cast; omega
    · obtain ⟨j1, j2, j3⟩ := i2 (by omega)
      have h8 : fw σ r k = 0 := by unfold fw; rw [if_neg h7]
      rw [h8, tk_zero, if_pos (by omega)]
      dsimp only
      refine ⟨fun h10 => by push_cast at h10; omega, fun h10 => ⟨by rw [mvs_zero]; exact j1, rfl, by push_cast; omega⟩⟩
theorem fs_cell {σ : Nat → Int} {r : Int} (h : wr σ r) (t : Nat) : 0 ≤ (fs σ r t).1 ∧ (fs σ r t).1 < 40 := by
  have h1 := fs_inv h t
  by_cases h2 : ((fs σ r t).2.1 : Int) < ro σ r 2
  · rw [(h1.1 h2).1]; exact h.2.2.1 _ (by omega)
  · rw [(h1.2 (by omega)).1]; exact h.2.2.1 _ (by have := h.1; omega)
theorem fs_off {σ : Nat → Int} {r : Int} (h : wr σ r) (t : Nat) : 0 ≤ (fs σ r t).2.2 ∧ (fs σ r t).2.2 < 3 := by
  have h1 := fs_inv h t
  by_cases h2 : ((fs σ r t).2.1 : Int) < ro σ r 2
  · have := h1.1 h2
    have := tk_pos (ac σ r (fs σ r t).2.1)
    omega
  · have := h1.2 (by omega)
    omega
theorem fs_k (σ : Nat → Int) (r : Int) (t : Nat) : (fs σ r t).2.1 ≤ t := by
  induction t with
  | zero => exact Nat.le_refl _
  | succ t ih =>
    rw [fs]
    split
    · dsimp only; omega
    · dsimp only; omega
end PW
