/-! a new plan keeps rows fit -/
section QH
theorem mvs_congr {σ τ : Nat → Int} (h : ∀ k : Nat, k < 6 → τ k = σ k) (hwl : wl σ) (c a : Int) : mvs τ c a = mvs σ c a := by
  have h1 := h 1 (by omega)
  have h2 := hwl.1
  unfold mvs
  split
  · rfl
  · split
    · rfl
    · unfold rd
      rw [h1]
      by_cases h3 : a - 5 < σ 1
      · rw [if_pos h3, if_pos h3]
        have h4 := h (2 + 2 * (a - 5)).toNat (by omega)
        have h5 := h (3 + 2 * (a - 5)).toNat (by omega)
        rw [h4, h5]
      · rw [if_neg h3, if_neg h3]
theorem wl_congr {σ τ : Nat → Int} (h : ∀ k : Nat, k < 6 → τ k = σ k) (hwl : wl σ) : wl τ := by
  have h1 := h 1 (by omega)
  have h2 := hwl.1
  refine ⟨by rw [h1]; exact hwl.1, fun k hk => ?_⟩
  rw [h1] at hk
  rw [h (2 + k) (by omega)]
  exact hwl.2 k hk
def SR (σ τ : Nat → Int) (o : Nat) : Prop := ∀ k : Nat, k < 42 → k ≠ 1 → ro τ o k = ro σ o k
theorem ac_SR {σ τ : Nat → Int} {o : Nat} (h : SR σ τ o) {k : Nat} (hk : k < 31) : ac τ o k = ac σ o k := by
  unfold ac
  have := h (11 + k) (by omega) (by omega)
  rw [show ((11 + k : Nat) : Int) = 11 + (k : Int) by omega] at this
  exact this
theorem ro_SR {σ τ : Nat → Int} {o : Nat} (h : SR σ τ o) (k : Nat) (hk : k < 42) (h1 : k ≠ 1) {j : Int} (e : j = k) : ro τ o j = ro σ o j := by
  rw [e]; exact h k hk h1
theorem ck_SR {σ τ : Nat → Int} (h6 : ∀ k : Nat, k < 6 → τ k = σ k) (hwl : wl σ) {o : Nat} (h : SR σ τ o) {k : Nat} (hk : k ≤ 31) : ck τ o k = ck σ o k := by
  induction k with
  | zero => exact ro_SR h 0 (by omega) (by omega) rfl
  | succ k ih => rw [ck, ck, ih (by omega), ac_SR h (by omega), mvs_congr h6 hwl]
theorem pk_SR {σ τ : Nat → Int} {o : Nat} (h : SR σ τ o) {k : Nat} (hk : k ≤ 31) : pk τ o k = pk σ o k := by
  induction k with
  | zero => rfl
  | succ k ih => rw [pk, pk, ih (by omega), ac_SR h (by omega)]
theorem wr_SR {σ τ : Nat → Int} (h6 : ∀ k : Nat, k < 6 → τ k = σ k) (hwl : wl σ) {o : Nat} (h : SR σ τ o) (hw : wr σ o) : wr τ o := by
  obtain ⟨h1, h2, h3, h4, h5, h7⟩ := hw
  have e2 : ro τ o 2 = ro σ o 2 := ro_SR h 2 (by omega) (by omega) rfl
  have e3 : ro τ o 3 = ro σ o 3 := ro_SR h 3 (by omega) (by omega) rfl
  have ea0 : ac τ o 0 = ac σ o 0 := ac_SR h (k := 0) (by omega)
  refine ⟨by rw [e2]; exact h1, fun k hk => ?_, fun k hk => ?_, by rw [e3]; exact h4, by rw [e2, e3, ea0]; exact h5, ?_⟩
  · rw [e2] at hk
    rw [ac_SR h (by omega)]
    exact h2 k hk
  · rw [e2] at hk
    rw [ck_SR h6 hwl h (by omega)]
    exact h3 k hk
  · rw [e2, e3, pk_SR h (by omega)]
    exact h7
theorem fs_SR {σ τ : Nat → Int} (h6 : ∀ k : Nat, k < 6 → τ k = σ k) (hwl : wl σ) {o : Nat} (h : SR σ τ o) (hw : wr σ o) (t : Nat) : fs τ o t = fs σ o t := by
  have hfw : ∀ k, fw τ o k = fw σ o k := fun k => by
    unfold fw
    have e2 : ro τ o 2 = ro σ o 2 := ro_SR h 2 (by omega) (by omega) rfl
    have := hw.1
    rw [e2]
    by_cases h1 : (k : Int) < ro σ o 2
    · rw [if_pos h1, if_pos h1, ac_SR h (by omega)]
    · rw [if_neg h1, if_neg h1]
  induction t with
  | zero =>
    rw [fs, fs, ro_SR h 0 (by omega) (by omega) (j := 0) rfl, ro_SR h 3 (by omega) (by omega) (j := 3) rfl]
  | succ t ih => rw [fs, fs, ih, hfw, mvs_congr h6 hwl]
theorem fa_SR {σ τ : Nat → Int} (h6 : ∀ k : Nat, k < 6 → τ k = σ k) (hwl : wl σ) {o : Nat} (h : SR σ τ o) (hw : wr σ o) (t : Nat) : fa τ o t = fa σ o t := by
  unfold fa
  rw [fs_SR h6 hwl h hw]
  unfold fw
  have e2 : ro τ o 2 = ro σ o 2 := ro_SR h 2 (by omega) (by omega) rfl
  have := hw.1
  rw [e2]
  by_cases h1 : ((fs σ o t).2.1 : Int) < ro σ o 2
  · rw [if_pos h1, if_pos h1, ac_SR h (by omega)]
  · rw [if_neg h1, if_neg h1]
theorem fp_SR {σ τ : Nat → Int} (h6 : ∀ k : Nat, k < 6 → τ k = σ k) (hwl : wl σ) {o : Nat} (h : SR σ τ o) (hw : wr σ o) (t : Nat) : fp τ o t = fp σ o t := by
  unfold fp
  rw [fs_SR h6 hwl h hw, fa_SR h6 hwl h hw]
theorem fl_SR {σ τ : Nat → Int} (h6 : ∀ k : Nat, k < 6 → τ k = σ k) (hwl : wl σ) {o : Nat} (h : SR σ τ o) (hw : wr σ o) (t : Nat) : fl τ o t = fl σ o t := by
  unfold fl
  rw [fa_SR h6 hwl h hw]
theorem pk_mono {σ : Nat → Int} {r : Int} {k n : Nat} (h : k ≤ n) : pk σ r k ≤ pk σ r n := by
  rw [pk_tl, pk_tl]
  have := lt_mono (al σ r) h
  omega
/-- behind the horizon nothing moves -/
theorem fp_30 {σ : Nat → Int} {r : Int} (h : wr σ r) {t : Nat} (ht : 30 ≤ t) : fp σ r t = ck σ r (ro σ r 2).toNat ∧ fa σ r t = 0 := by
  obtain ⟨v1, v2⟩ := fs_inv h t
  have h6 := h.2.2.2.2.2
  have h1 := h.1
  have hk : ro σ r 2 ≤ (fs σ r t).2.1 := by
    by_cases hk : ((fs σ r t).2.1 : Int) < ro σ r 2
    · obtain ⟨a1, a2, a3, a4⟩ := v1 hk
      have h7 := pk_mono (σ := σ) (r := r) (k := (fs σ r t).2.1 + 1) (n := (ro σ r 2).toNat) (by omega)
      rw [pk] at h7
      omega
    · omega
  obtain ⟨a1, a2, a3⟩ := v2 hk
  unfold fp fa fw
  rw [a2, if_neg (by omega), if_neg (by omega)]
  exact ⟨a1, rfl⟩
def LG (σ : Nat → Int) (r wo c : Int) (act : Nat → Int) (n : Nat) : Prop := (0 ≤ c ∧ c < 40) ∧ (∀ k : Nat, k < n → (0 ≤ act k ∧ act k < 7) ∧ leg σ r wo (lc σ c act k) (act k) (lt act k)) ∧ lt act n ≤ 30 ∧ ∀ t : Nat, lt act n ≤ t → t ≤ 30 → fre σ r wo (lc σ c act n) t
theorem lc_rng {σ : Nat → Int} (hwl : wl σ) {r wo c : Int} {act : Nat → Int} {n : Nat} (h : LG σ r wo c act n) {k : Nat} (hk : k ≤ n) : 0 ≤ lc σ c act k ∧ lc σ c act k < 40 := by
  induction k with
  | zero => exact h.1
  | succ k ih =>
    have h1 := h.2.1 k (by omega)
    have h2 := mvs_rng hwl (ih (by omega)) h1.1
    have h3 := h1.2.1
    rw [lc]
    omega
/-- the row of a robot that follows a legal route -/
def NR (σ τ : Nat → Int) (r : Nat) (act : Nat → Int) (n : Nat) : Prop := ro τ r 0 = ro σ r 0 ∧ ro τ r 2 = n ∧ ro τ r 3 = 0 ∧ ∀ k : Nat, k < n → ac τ r k = act k
theorem ck_NR {σ τ : Nat → Int} (h6 : ∀ k : Nat, k < 6 → τ k = σ k) (hwl : wl σ) {r n : Nat} {act : Nat → Int} (h : NR σ τ r act n) {k : Nat} (hk : k ≤ n) : ck τ r k = lc σ (ro σ r 0) act k := by
  induction k with
  | zero => exact h.1
  | succ k ih => rw [ck, lc, ih (by omega), h.2.2.2 k (by omega), mvs_congr h6 hwl]
theorem pk_NR {σ τ : Nat → Int} {r n : Nat} {act : Nat → Int} (h : NR σ τ r act n) {k : Nat} (hk : k ≤ n) : pk τ r k = lt act k := by
  induction k with
  | zero => rfl
  | succ k ih =>
    have := tk_pos (act k)
    rw [pk, lt, ih (by omega), h.2.2.2 k (by omega)]
    omega
theorem wr_NR {σ τ : Nat → Int} (h6 : ∀ k : Nat, k < 6 → τ k = σ k) (hwl : wl σ) {r n : Nat} {wo : Int} {act : Nat → Int} (h : NR σ τ r act n) (hL : LG σ r wo (ro σ r 0) act n) : wr τ r := by
  have h1 := lt_ge act n
  have h2 := hL.2.2.1
  refine ⟨by rw [h.2.1]; omega, fun k hk => ?_, fun k hk => ?_, by rw [h.2.2.1]; omega, by rw [h.2.2.1]; omega, ?_⟩
  · rw [h.2.1] at hk
    rw [h.2.2.2 k (by omega)]
    exact (hL.2.1 k (by omega)).1
  · rw [h.2.1] at hk
    rw [ck_NR h6 hwl h (by omega)]
    exact lc_rng hwl hL (by omega)
  · rw [h.2.1, h.2.2.1, show ((n : Nat) : Int).toNat = n by omega, pk_NR h (Nat.le_refl _)]
    omega
theorem fp_NR {σ τ : Nat → Int} (h6 : ∀ k : Nat, k < 6 → τ k = σ k) (hwl : wl σ) {r n : Nat} {wo : Int} {act : Nat → Int} (h : NR σ τ r act n) (hL : LG σ r wo (ro σ r 0) act n) (h0 : fre σ r wo (ro σ r 0) 0) {t : Nat} (ht : t ≤ 30) (hp : 0 ≤ fp τ r t) : fre σ r wo (fp τ r t) t := by
  have hw := wr_NR h6 hwl h hL
  obtain ⟨v1, v2⟩ := fs_inv hw t
  have hfa := fa_rng hw t
  obtain ⟨k, ek⟩ : ∃ k, k = (fs τ r t).2.1 := ⟨_, rfl⟩
  rw [← ek, h.2.1, h.2.2.1] at v1 v2
  by_cases hk : (k : Int) < n
  · obtain ⟨a1, a2, a3, a4⟩ := v1 hk
    rw [pk_NR h (by omega)] at a4
    have h2 : fa τ r t = ac τ r k := by unfold fa fw; rw [← ek, h.2.1, if_pos hk]
    have hz : (fs τ r t).2.2 = 0 := by
      by_cases h3 : 0 < (fs τ r t).2.2
      · exfalso
        unfold fp at hp
        rw [if_pos h3] at hp
        rw [h2] at hp
        by_cases h5 : ac τ r k < 5
        · rw [tk_one h5] at a3; omega
        · omega
      · omega
    have e : fp τ r t = lc σ (ro σ r 0) act k := by
      unfold fp
      rw [hz, if_neg (by omega), a1, ck_NR h6 hwl h (by omega)]
    rw [e]
    have et : t = lt act k := by omega
    by_cases hk0 : k = 0
    · rw [hk0] at et ⊢
      have : t = 0 := et
      rw [this]
      exact h0
    · obtain ⟨q, rfl⟩ : ∃ q, k = q + 1 := ⟨k - 1, by omega⟩
      have h3 := (hL.2.1 q (by omega)).2.2.2.1
      have h4 := tk_pos (act q)
      rw [lt] at et
      rw [show ((lt act q : Nat) : Int) + tk (act q) = (t : Int) by omega, Int.toNat_natCast] at h3
      exact h3
  · obtain ⟨a1, a2, a3⟩ := v2 (by omega)
    rw [show ((n : Nat) : Int).toNat = n by omega, pk_NR h (Nat.le_refl _)] at a3
    rw [show ((n : Nat) : Int).toNat = n by omega, ck_NR h6 hwl h (Nat.le_refl _)] at a1
    have e : fp τ r t = lc σ (ro σ r 0) act n := by
      unfold fp
      rw [a2, if_neg (by omega), a1]
    rw [e]
    exact hL.2.2.2 t (by omega) ht
end QH
