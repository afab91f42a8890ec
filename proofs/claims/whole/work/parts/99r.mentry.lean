/-! texts: an entry and all entries, by the model -/
section SN
/-- what an entry does once it is read -/
def mtl (a1 a2 a3 as0 : Int32) (M9 : am_M) : Option (Int32 × am_M) := (if a1 = (0 : Int32) then (some ((1 : Int32), M9)) else (if a2 = (108 : Int32) then (am_b (g_X10_addLift a3 as0 M9) (fun v35 M34 => (if v35 < (0 : Int32) then (some ((0 : Int32), M34)) else (if (am_g M34 174 0) = (0 : Int32) then (some ((1 : Int32), M34)) else (some ((0 : Int32), M34)))))) else (if a2 = (114 : Int32) then (am_b (g_X10_addRobot a3 (100 : Int32) M9) (fun v29 M28 => (if v29 < (0 : Int32) then (some ((0 : Int32), M28)) else (if (am_g M28 174 0) = (0 : Int32) then (some ((1 : Int32), M28)) else (some ((0 : Int32), M28)))))) else (if a2 = (119 : Int32) then (am_b (g_X10_setCell a3 (1 : Int32) M9) (fun v23 M22 => (if v23 < (0 : Int32) then (some ((0 : Int32), M22)) else (if (am_g M22 174 0) = (0 : Int32) then (some ((1 : Int32), M22)) else (some ((0 : Int32), M22)))))) else (if a2 = (99 : Int32) then (am_b (g_X10_setCell a3 (2 : Int32) M9) (fun v17 M16 => (if v17 < (0 : Int32) then (some ((0 : Int32), M16)) else (if (am_g M16 174 0) = (0 : Int32) then (some ((1 : Int32), M16)) else (some ((0 : Int32), M16)))))) else (am_b (g_X10_setCell a3 (0 : Int32) M9) (fun v12 M11 => (if v12 < (0 : Int32) then (some ((0 : Int32), M11)) else (if (am_g M11 174 0) = (0 : Int32) then (some ((1 : Int32), M11)) else (some ((0 : Int32), M11)))))))))))
theorem J103_eq {a1 a2 a3 as0 : Int32} {M : am_M} : g_X10_entry_J103 a1 a2 a3 as0 M = am_b (g_X10_must (59 : Int32) M) (fun _ M9 => mtl a1 a2 a3 as0 M9) := rfl
/-- an entry behind its letter -/
def mbd (a1 a2 : Int32) (C : am_M) : Option (Int32 × am_M) := (am_b (g_X10_number C) (fun v7 M6 => (if a2 = (108 : Int32) then (am_b (g_X10_must (45 : Int32) M6) (fun _ M45 => (if a2 = (108 : Int32) then (am_b (g_X10_number  M45) (fun v48 M47 => (g_X10_entry_J103 a1 a2 v7 v48 M47))) else (g_X10_entry_J103 a1 a2 v7 (0 : Int32) M45)))) else (if a2 = (108 : Int32) then (am_b (g_X10_number  M6) (fun v42 M41 => (g_X10_entry_J103 a1 a2 v7 v42 M41))) else (g_X10_entry_J103 a1 a2 v7 (0 : Int32) M6)))))
theorem J68_eq {a1 a2 as1 as2 : Int32} {M : am_M} : g_X10_entry_J68 a1 a2 as1 as2 M = mbd a1 a2 (am_s M 174 19 (as1 + as2)) := rfl
theorem s_mletter {ch : Nat → Int} {L i : Nat} {B : am_M} (h : TMs ch L i 1 B) (hi : i < 800) : ∃ (C : am_M) (j b : Nat), (∀ a1, g_X10_entry a1 B = mbd a1 (pI (ch i)) C) ∧ KT B C ∧ TMs ch L j b C ∧ ((lett (ch i) ∧ j = i + 1 ∧ b = 1) ∨ (¬ lett (ch i) ∧ j = i ∧ b = 0)) := by
  have r0 := TM_rng h i
  have cb : am_g B 174 20 = pI (1 : Nat) := by rw [pi_g, h.2.2]
  have c1 : (pI (ch i) = (119 : Int32)) = (ch i = 119) := pi_eq (b := 119) (by omega) (by omega) (by omega) (by omega)
  have c2 : (pI (ch i) = (99 : Int32)) = (ch i = 99) := pi_eq (b := 99) (by omega) (by omega) (by omega) (by omega)
  have c3 : (pI (ch i) = (102 : Int32)) = (ch i = 102) := pi_eq (b := 102) (by omega) (by omega) (by omega) (by omega)
  have c4 : (pI (ch i) = (108 : Int32)) = (ch i = 108) := pi_eq (b := 108) (by omega) (by omega) (by omega) (by omega)
  have c5 : (pI (ch i) = (114 : Int32)) = (ch i = 114) := pi_eq (b := 114) (by omega) (by omega) (by omega) (by omega)
  have T0 : TMs ch L i 0 (am_s B 174 20 (pI (0 : Nat))) := TM_20 h (by omega)
  have T1 : TMs ch L i 1 (am_s B 174 20 (pI (1 : Nat))) := TM_20 h (by omega)
  have j1 : ∀ a1, g_X10_entry_J48 a1 (pI (ch i)) (1 : Int32) B = mbd a1 (pI (ch i)) (am_s (am_s B 174 20 (pI (1 : Nat))) 174 19 (pI (i + 1 : Nat))) := fun a1 => by
    unfold g_X10_entry_J48
    rw [am_c_true (by decide), show am_s B 174 20 (1 : Int32) = am_s B 174 20 (pI (1 : Nat)) from rfl, show am_g (am_s B 174 20 (pI (1 : Nat))) 174 20 = pI (1 : Nat) by rw [pi_g, T1.2.2], if_neg (by decide), J68_eq, show am_g (am_s B 174 20 (pI (1 : Nat))) 174 19 = pI i by rw [pi_g, T1.2.1], show (1 : Int32) = pI 1 from rfl, pi_add]
    rfl
  have j0 : ∀ a1, g_X10_entry_J48 a1 (pI (ch i)) (0 : Int32) B = mbd a1 (pI (ch i)) (am_s (am_s B 174 20 (pI (0 : Nat))) 174 19 (pI (i : Nat))) := fun a1 => by
    unfold g_X10_entry_J48
    rw [am_c_true (by decide), show am_s B 174 20 (0 : Int32) = am_s B 174 20 (pI (0 : Nat)) from rfl, show am_g (am_s B 174 20 (pI (0 : Nat))) 174 20 = pI (0 : Nat) by rw [pi_g, T0.2.2], if_pos (show pI ((0 : Nat) : Int) = (0 : Int32) from rfl), J68_eq, show am_g (am_s B 174 20 (pI (0 : Nat))) 174 19 = pI i by rw [pi_g, T0.2.1], show (0 : Int32) = pI 0 from rfl, pi_add, Int.add_zero]
  have e0 : ∀ a1, g_X10_entry a1 B = if lett (ch i) then g_X10_entry_J48 a1 (pI (ch i)) (1 : Int32) B else g_X10_entry_J48 a1 (pI (ch i)) (0 : Int32) B := fun a1 => by
    unfold g_X10_entry
    rw [s_here h (by omega), am_b_some, cb, if_neg (by decide)]
    simp only [c1, c2, c3, c4, c5]
    by_cases d1 : ch i = 119
    · rw [if_pos d1, if_pos (by omega)]
    · rw [if_neg d1]
      by_cases d2 : ch i = 99
      · rw [if_pos d2, if_pos (by omega)]
      · rw [if_neg d2]
        by_cases d3 : ch i = 102
        · rw [if_pos d3, if_pos (by omega)]
        · rw [if_neg d3]
          by_cases d4 : ch i = 108
          · rw [if_pos d4, if_pos (by omega)]
          · rw [if_neg d4]
            by_cases d5 : ch i = 114
            · rw [if_pos d5, if_pos (by omega)]
            · rw [if_neg d5, if_neg (by omega)]
  by_cases hl : lett (ch i)
  · refine ⟨_, i + 1, 1, fun a1 => ?_, KT_trans (KT_20 _ _) (KT_19 _ _), TM_19 T1 (by omega), Or.inl ⟨hl, rfl, rfl⟩⟩
    rw [e0, if_pos hl, j1]
  · refine ⟨_, i, 0, fun a1 => ?_, KT_trans (KT_20 _ _) (KT_19 _ _), TM_19 T0 (by omega), Or.inr ⟨hl, rfl, rfl⟩⟩
    rw [e0, if_neg hl, j0]
theorem s_mentry {ch : Nat → Int} {L i : Nat} {B : am_M} (h : TMs ch L i 1 B) (hi : i < 800) : ∃ (x y : Int) (B9 : am_M), (∀ a1, g_X10_entry a1 B = mtl a1 (pI (ch i)) (pI x) (pI y) B9) ∧ KT B B9 ∧ TMs ch L (enE ch i).2.2 (enE ch i).1 B9 ∧ ((enE ch i).1 = 1 → x = (enE ch i).2.1.2.1 ∧ (ch i = 108 → y = (enE ch i).2.1.2.2)) := by
  have r0 := TM_rng h i
  have c4 : (pI (ch i) = (108 : Int32)) = (ch i = 108) := pi_eq (b := 108) (by omega) (by omega) (by omega) (by omega)
  obtain ⟨C, j, b, hpre, kC, tC, hjb⟩ := s_mletter h hi
  obtain ⟨v, p, b', D, g1, k1, t1, hb', res1⟩ := s_number tC (by omega) (by omega)
  have n1 := nm_rng ch (i + 1)
  have hp : p < 850 := by
    rcases res1 with ⟨_, _, q⟩ | ⟨q1, q2, _⟩
    · omega
    · rcases hjb with ⟨_, q3, _⟩ | ⟨_, _, q3⟩
      · rw [q3] at q2; omega
      · omega
  by_cases c1 : ch i = 108
  · have hl : lett (ch i) := by unfold lett; omega
    obtain ⟨rfl, rfl⟩ : j = i + 1 ∧ b = 1 := by
      rcases hjb with ⟨_, q1, q2⟩ | ⟨q, _, _⟩
      · exact ⟨q1, q2⟩
      · exact absurd hl q
    have res1 : p = (nmE ch (i + 1)).2.2 ∧ (((nmE ch (i + 1)).1 = 1 ∧ b' = 1 ∧ v = (nmE ch (i + 1)).2.1) ∨ ((nmE ch (i + 1)).1 = 0 ∧ (b' = 0 ∨ dg (ch p)))) := by
      rcases res1 with ⟨q, _⟩ | ⟨_, q⟩
      · omega
      · exact q
    obtain ⟨E, g2, k2, r2⟩ := s_must (c := 45) t1 (by omega) hb' (by omega)
    obtain ⟨p2, b2, t2, hb2, res2⟩ : ∃ p2 b2, TMs ch L p2 b2 E ∧ (b2 = 0 ∨ b2 = 1) ∧ ((b' = 1 ∧ ch p = 45 ∧ p2 = p + 1 ∧ b2 = 1) ∨ (¬ (b' = 1 ∧ ch p = 45) ∧ p2 = p ∧ b2 = 0)) := by
      rcases r2 with ⟨q1, q2, q3⟩ | ⟨q1, q2⟩
      · exact ⟨_, _, q3, Or.inr rfl, Or.inl ⟨q1, q2, rfl, rfl⟩⟩
      · exact ⟨_, _, q2, Or.inl rfl, Or.inr ⟨q1, rfl, rfl⟩⟩
    obtain ⟨w, q, b3, F, g3, k3, t3, hb3, res3⟩ := s_number t2 (by omega) hb2
    have n2 := nm_rng ch p2
    obtain ⟨B9, g4, k4, r4⟩ := s_must (c := 59) t3 (by omega) hb3 (by omega)
    refine ⟨v, w, B9, fun a1 => ?_, KT_trans kC (KT_trans k1 (KT_trans k2 (KT_trans k3 k4))), ?_⟩
    · rw [hpre]
      unfold mbd
      have cc : pI (ch i) = (108 : Int32) := by rw [c4]; exact c1
      rw [g1, am_b_some, if_pos cc, show (45 : Int32) = pI 45 from rfl, g2, am_b_some, if_pos cc, g3, am_b_some, J103_eq, show (59 : Int32) = pI 59 from rfl, g4, am_b_some]
    · unfold enE
      rw [if_pos hl]
      rcases res1.2 with ⟨z, zb, zv⟩ | ⟨z, zb⟩
      · rw [if_neg (by omega), if_pos c1]
        rw [← res1.1]
        rcases res2 with ⟨s1, s2, rfl, rfl⟩ | ⟨s1, rfl, rfl⟩
        · rw [if_pos s2]
          rcases res3 with ⟨u1, _⟩ | ⟨_, u2, ⟨u3, rfl, u4⟩ | ⟨u3, u4⟩⟩
          · omega
          · rw [if_neg (by omega), ← u2]
            rcases r4 with ⟨_, y2, y3⟩ | ⟨y1, y2⟩
            · rw [if_pos y2]
              exact ⟨y3, fun _ => ⟨zv, fun _ => u4⟩⟩
            · rw [if_neg (fun y => y1 ⟨rfl, y⟩)]
              exact ⟨y2, fun y => absurd y (show ¬ ((0 : Nat) = 1) by decide)⟩
          · rw [if_pos u3, ← u2]
            rcases r4 with ⟨y1, y2, y3⟩ | ⟨y1, y2⟩
            · rcases u4 with u4 | u4
              · omega
              · unfold dg at u4
                omega
            · exact ⟨y2, fun y => absurd y (show ¬ ((0 : Nat) = 1) by decide)⟩
        · rw [if_neg (fun y => s1 ⟨zb, y⟩)]
          rcases res3 with ⟨_, rfl, u2⟩ | ⟨u1, _⟩
          · rcases r4 with ⟨y1, _⟩ | ⟨y1, y2⟩
            · omega
            · rw [u2] at y2
              exact ⟨y2, fun y => absurd y (show ¬ ((0 : Nat) = 1) by decide)⟩
          · omega
      · rw [if_pos z]
        have e2 : p2 = p ∧ b2 = 0 := by
          rcases res2 with ⟨s1, s2, _⟩ | ⟨_, q1, q2⟩
          · rcases zb with zb | zb
            · omega
            · unfold dg at zb
              omega
          · exact ⟨q1, q2⟩
        obtain ⟨rfl, rfl⟩ := e2
        rcases res3 with ⟨_, rfl, u2⟩ | ⟨u1, _⟩
        · rcases r4 with ⟨y1, _⟩ | ⟨y1, y2⟩
          · omega
          · rw [u2, res1.1] at y2
            exact ⟨y2, fun y => absurd y (show ¬ ((0 : Nat) = 1) by decide)⟩
        · omega
  · obtain ⟨B9, g4, k4, r4⟩ := s_must (c := 59) t1 (by omega) hb' (by omega)
    refine ⟨v, 0, B9, fun a1 => ?_, KT_trans kC (KT_trans k1 k4), ?_⟩
    · rw [hpre]
      unfold mbd
      have cc : ¬ (pI (ch i) = (108 : Int32)) := by rw [c4]; exact c1
      rw [g1, am_b_some, if_neg cc, if_neg cc, J103_eq, show (59 : Int32) = pI 59 from rfl, g4, am_b_some]
      rfl
    · unfold enE
      rcases hjb with ⟨hl, rfl, rfl⟩ | ⟨hl, rfl, rfl⟩
      · rw [if_pos hl]
        rcases res1 with ⟨q, _⟩ | ⟨_, e1, ⟨z, rfl, zv⟩ | ⟨z, zb⟩⟩
        · omega
        · rw [if_neg (by omega), if_neg c1, ← e1]
          rcases r4 with ⟨_, y2, y3⟩ | ⟨y1, y2⟩
          · rw [if_pos y2]
            exact ⟨y3, fun _ => ⟨zv, fun y => absurd y c1⟩⟩
          · rw [if_neg (fun y => y1 ⟨rfl, y⟩)]
            exact ⟨y2, fun y => absurd y (show ¬ ((0 : Nat) = 1) by decide)⟩
        · rw [if_pos z, ← e1]
          rcases r4 with ⟨y1, y2, y3⟩ | ⟨y1, y2⟩
          · rcases zb with zb | zb
            · omega
            · unfold dg at zb
              omega
          · exact ⟨y2, fun y => absurd y (show ¬ ((0 : Nat) = 1) by decide)⟩
      · rw [if_neg hl]
        rcases res1 with ⟨_, rfl, e2⟩ | ⟨q, _⟩
        · rcases r4 with ⟨y1, _⟩ | ⟨y1, y2⟩
          · omega
          · rw [e2] at y2
            exact ⟨y2, fun y => absurd y (show ¬ ((0 : Nat) = 1) by decide)⟩
        · omega
end SN
