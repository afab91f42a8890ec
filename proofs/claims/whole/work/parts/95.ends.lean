/-! a tick on both sides: tasks that end -/
section ENS
/-- the row when robot q ends task t -/
def EN (B : am_M) (q t : Nat) : am_M := am_s (am_s (am_s (am_s B 175 (298 + 9 * t + 4) (pI 2)) 175 (298 + 9 * t + 7) (am_g B 175 0)) 175 (88 + 42 * q + 4) (pI (-1))) 175 (88 + 42 * q + 8) (am_g B 175 (88 + 42 * q + 8) + pI 1)
/-- the world when robot q ends task t -/
def FI (A : am_M) (q t : Nat) : am_M := am_s (am_s (am_s (am_s (am_s (am_s A (41 + t) 5 (pI 2)) (41 + t) 6 (pI 0)) (41 + t) 7 (pI q)) (41 + t) 8 (am_g A 1 4)) (16 + 5 * q) 3 (pI (-1))) (16 + 5 * q + 4) 3 (am_g A (16 + 5 * q + 4) 3 + pI 1)
theorem m_set {t : Nat} {M : am_M} {v : Int32} (w : Int32) (k : Nat) (e : w = pI (k : Nat)) (ht : t < 12) (hk : k < 9) : g_X10_set (pI t) w v M = some ((), am_s M 175 (298 + 9 * t + k) v) := by
  subst e
  rw [s_tset v M (by omega) (by omega), show (298 + 9 * (t : Int) + (k : Int)).toNat = 298 + 9 * t + k by omega]
theorem s_ends {B : am_M} {q : Nat} (hq : q < 5) (h4 : -1 ≤ ro (sg B) q 4 ∧ ro (sg B) q 4 < 12) (h2 : 0 ≤ ro (sg B) q 2 ∧ ro (sg B) q 2 ≤ 30) : g_X10_ends (pI q) B = if 0 ≤ ro (sg B) q 4 ∧ ro (sg B) q 2 = 0 then some (pI 1, EN B q (ro (sg B) q 4).toNat) else some (pI 0, B) := by
  have g4 : am_g B 175 (88 + 42 * q + 4) = pI (ro (sg B) q 4) := (m_ro (w := 4)).symm
  have g2 : am_g B 175 (88 + 42 * q + 2) = pI (ro (sg B) q 2) := (m_ro (w := 2)).symm
  unfold g_X10_ends
  rw [m_of 4 4 rfl hq (by omega), am_b_some, g4]
  by_cases c : ro (sg B) q 4 = -1
  · rw [if_pos (show pI (ro (sg B) q 4) = (-1 : Int32) by rw [c]; rfl), if_neg (by omega)]
    rfl
  · rw [if_neg (show ¬ (pI (ro (sg B) q 4) = (-1 : Int32)) from fun h => c ((pi_eq (b := -1) (by omega) (by omega) (by omega) (by omega)).mp h)), m_of 2 2 rfl hq (by omega), am_b_some, g2]
    by_cases d : ro (sg B) q 2 = 0
    · obtain ⟨t, ht⟩ : ∃ t : Nat, ro (sg B) q 4 = t := ⟨(ro (sg B) q 4).toNat, by omega⟩
      rw [if_pos (show pI (ro (sg B) q 2) ≤ (0 : Int32) by
        show _ ≤ pI 0
        rw [pi_le (by omega) (by omega) (by omega) (by omega)]
        omega), if_pos (by omega), ht, m_set 4 4 rfl (by omega) (by omega), am_b_some]
      rw [show ∀ x : Option (Int32 × am_M), am_ci (0 : Int32) 406 x = x from fun _ => rfl]
      show am_b (g_X10_set (pI t) (7 : Int32) (am_g (am_s B 175 (298 + 9 * t + 4) (2 : Int32)) 175 0) (am_s B 175 (298 + 9 * t + 4) (2 : Int32))) _ = _
      rw [m_set 7 7 rfl (by omega) (by omega), am_b_some, m_put 4 4 rfl hq (by omega), am_b_some, m_adds 8 8 rfl hq (by omega), am_b_some, gx_ne (by omega), gx_ne (by omega), gx_ne (by omega), gx_ne (by omega)]
      rfl
    · rw [if_neg (show ¬ (pI (ro (sg B) q 2) ≤ (0 : Int32)) by
        show ¬ (_ ≤ pI 0)
        rw [pi_le (by omega) (by omega) (by omega) (by omega)]
        omega), if_neg (by omega)]
      rfl
theorem s_finish {A : am_M} {q t : Nat} (hq : q < 5) (ht : t < 12) (h3 : iv A (16 + 5 * q) 3 = t) : g_X8_finishTaskOf 1 (16 + 5 * q) (pI q) A = some ((), FI A q t) := by
  unfold g_X8_finishTaskOf
  have t0 : g_X8_taskOf 1 (pI t) A = some (1 + 40 + t, A) := s_taskOf A ht
  rw [pi_g, h3, t0, am_b_some, show 1 + 40 + t = 41 + t by omega]
  unfold g_X7_become
  rw [am_b_some, s_raise 3 1 (k := 3) rfl (by omega), am_b_some]
  rw [hx_ne (a := 16 + 5 * q) (b := 16 + 5 * q + 4) (by omega), hx_ne (b := 16 + 5 * q + 4) (by omega), hx_ne (b := 16 + 5 * q + 4) (by omega), hx_ne (b := 16 + 5 * q + 4) (by omega), hx_ne (b := 16 + 5 * q + 4) (by omega)]
  rw [hx_ne (b := 1) (by omega), hx_ne (b := 1) (by omega), hx_ne (b := 1) (by omega)]
  rfl
end ENS
