/-! ticks between cells: when two arrays of distances are the same -/
section SA
/-- an action leads from a cell to a cell that is no wall -/
def eg (σ : Nat → Int) (c a b : Nat) : Prop := (c < 40 ∧ 1 ≤ a ∧ a < 7 ∧ b < 40) ∧ mvs σ c a = b ∧ σ (8 + b) ≠ 1
def DG (σ : Nat → Int) (s : Nat) (G : Nat → Int) : Prop := (∀ c, c < 40 → 0 ≤ G c ∧ G c ≤ 1000000) ∧ (G s = if σ (8 + s) = 1 then 1000000 else 0) ∧ (∀ c a b, eg σ c a b → G c < 1000000 → G b ≤ G c + tk a) ∧ ∀ b, b < 40 → G b < 1000000 → b = s ∨ ∃ c a, eg σ c a b ∧ G c < 1000000 ∧ G b = G c + tk a
theorem DG_le {σ : Nat → Int} {s : Nat} {F G : Nat → Int} (hF : DG σ s F) (hG : DG σ s G) : ∀ n : Nat, ∀ b, b < 40 → F b < 1000000 → F b ≤ n → G b ≤ F b := by
  intro n
  induction n with
  | zero =>
    intro b hb h1 h2
    rcases hF.2.2.2 b hb h1 with rfl | ⟨c, a, h3, h4, h5⟩
    · rw [hF.2.1, hG.2.1]; exact Int.le_refl _
    · have h6 := tk_pos a
      have h7 := (hF.1 c h3.1.1).1
      omega
  | succ n ih =>
    intro b hb h1 h2
    rcases hF.2.2.2 b hb h1 with rfl | ⟨c, a, h3, h4, h5⟩
    · rw [hF.2.1, hG.2.1]; exact Int.le_refl _
    · have h6 := tk_pos a
      have h7 := ih c h3.1.1 h4 (by omega)
      have h8 := hG.2.2.1 c a b h3 (by omega)
      omega
theorem DG_uniq {σ : Nat → Int} {s : Nat} {F G : Nat → Int} (hF : DG σ s F) (hG : DG σ s G) : ∀ b, b < 40 → F b = G b := by
  have key : ∀ {F G : Nat → Int}, DG σ s F → DG σ s G → ∀ b, b < 40 → G b ≤ F b := by
    intro F G hF hG b hb
    have h1 := hF.1 b hb
    have h2 := hG.1 b hb
    by_cases h : F b < 1000000
    · exact DG_le hF hG (F b).toNat b hb h (by omega)
    · omega
  intro b hb
  have h1 := key hF hG b hb
  have h2 := key hG hF b hb
  omega
/-- how many of the first cells are below a value -/
def ct (d : Nat → Int) (v : Int) : Nat → Nat
  | 0 => 0
  | q + 1 => ct d v q + if d q < v then 1 else 0
theorem ct_mono {d : Nat → Int} {v w : Int} {q : Nat} (h : v ≤ w) : ct d v q ≤ ct d w q := by
  induction q with
  | zero => exact Nat.le_refl _
  | succ q ih =>
    rw [ct, ct]
    by_cases h1 : d q < v
    · rw [if_pos h1, if_pos (by omega)]; omega
    · rw [if_neg h1]; omega
theorem ct_lt {d : Nat → Int} {v w : Int} {q c : Nat} (h : v ≤ w) (hc : c < q) (h1 : d c < w) (h2 : v ≤ d c) : ct d v q + 1 ≤ ct d w q := by
  induction q with
  | zero => omega
  | succ q ih =>
    rw [ct, ct]
    by_cases e : c = q
    · subst e
      have := ct_mono (d := d) (q := c) h
      rw [if_neg (by omega), if_pos h1]
      omega
    · have := ih (by omega)
      by_cases h3 : d q < v
      · rw [if_pos h3, if_pos (by omega)]; omega
      · rw [if_neg h3]; omega
theorem ct_le (d : Nat → Int) (v : Int) (q : Nat) : ct d v q ≤ q := by
  induction q with
  | zero => exact Nat.le_refl _
  | succ q ih =>
    rw [ct]
    split <;> omega
theorem ct_self {d : Nat → Int} {q c : Nat} (hc : c < q) : ct d (d c) q + 1 ≤ q := by
  induction q with
  | zero => omega
  | succ q ih =>
    rw [ct]
    by_cases e : c = q
    · subst e
      have := ct_le d (d c) c
      rw [if_neg (by omega)]
      omega
    · have := ih (by omega)
      split <;> omega
theorem WD_fr5 {σ : Nat → Int} {M N : am_M} (h : WD σ 1 M) (h6 : σ 6 ≤ 5) (h7 : σ 7 ≤ 12) {X : List Nat} (hf : fr X M N) (hX : ∀ a, 1 ≤ a → a < 53 → a ≠ 6 → a ∉ X) : WD σ 1 N := by
  obtain ⟨h1, h2, h3, h4, h5⟩ := h
  refine ⟨FLw_fr h1 hf (fun a b1 b2 => hX a (by omega) (by omega) (by omega)), ?_, fun c hc => ?_, fun i hi => RB_fr (h4 i hi) hf (fun a b1 b2 => hX a (by omega) (by omega) (by omega)), fun j hj => TB_fr (h5 j hj) hf (hX _ (by omega) (by omega) (by omega))⟩
  · rw [fr_i hf (hX _ (by omega) (by omega) (by omega)), fr_i hf (hX _ (by omega) (by omega) (by omega)), fr_i hf (hX _ (by omega) (by omega) (by omega))]; exact h2
  · rw [fr_i hf (hX _ (by omega) (by omega) (by omega))]; exact h3 c hc
theorem INV_scr5 {M N : am_M} (h : INV M) {X : List Nat} (hf : fr X M N) (hX : ∀ a ∈ X, a = 6 ∨ (158 ≤ a ∧ a ≤ 165) ∨ a = 174 ∨ (180 ≤ a ∧ a < 188)) (hk : ∀ k, k = 4 ∨ k = 7 ∨ k = 8 ∨ k = 11 → iv N 174 k = iv M 174 k) : INV N := by
  have h175 : 175 ∉ X := fun q => by have := hX _ q; omega
  have e := sg_fr hf h175
  have hO := h.1
  refine INV_set h (by rw [e]; exact hO) ?_ (fr_mono hf (fun a ha => mem_KX.mpr (by have := hX a ha; omega))) (hk 4 (by omega)) (hk 7 (by omega)) (hk 8 (by omega)) (hk 11 (by omega))
  rw [e]
  exact WD_fr5 h.2.1 hO.2.2.1.2 hO.2.2.2.1.2 hf (fun a b1 b2 b3 q => by have := hX _ q; omega)
/-- the class: the ways behind a cell -/
theorem s_shorten {σ : Nat → Int} {G : Nat → Int} {s c : Nat} {M : am_M} (hF : FLw σ 1 M) (hwl : wl σ) (hG : DG σ s G) (hc : c < 40) (hb : ∀ x, x < 40 → G x ≤ iv M 6 x ∧ iv M 6 x ≤ 1000000) (hlt : iv M 6 c < 1000000) : ∃ (h : Nat) (N : am_M), g_X1_shortenBehind (1 + 1) (pI c) M = some (pI h, N) ∧ (h = 0 ∨ h = 1) ∧ fr [6] M N ∧ (∀ x, x < 40 → G x ≤ iv N 6 x ∧ iv N 6 x ≤ iv M 6 x) ∧ (∀ a b, eg σ c a b → iv N 6 b ≤ iv M 6 c + tk a) ∧ (h = 0 → ∀ x, x < 40 → iv N 6 x = iv M 6 x) := by
  have hGc := hG.1 c hc
  have hbc := hb c hc
  obtain ⟨⟨u, N⟩, g1, ⟨h, eh, h01⟩, f1, p1, p2⟩ := lo_for (fun m (s : Int32 × Int32 × am_M) => g_X1_shortenBehind_L4 (1 + 1) (pI c) m s.1 s.2.1 s.2.2) (fun q s => s.2.1 = pI (q : Nat) ∧ 1 ≤ q ∧ iv s.2.2 6 c = iv M 6 c ∧ fr [6] M s.2.2 ∧ (∀ x, x < 40 → G x ≤ iv s.2.2 6 x ∧ iv s.2.2 6 x ≤ iv M 6 x) ∧ (∀ a b, a < q → eg σ c a b → iv s.2.2 6 b ≤ iv M 6 c + tk a) ∧ ∃ h : Nat, s.1 = pI h ∧ (h = 0 ∨ h = 1) ∧ (h = 0 → ∀ x, x < 40 → iv s.2.2 6 x = iv M 6 x)) (fun s => (∃ h : Nat, s.1 = pI h ∧ (h = 0 ∨ h = 1) ∧ (h = 0 → ∀ x, x < 40 → iv s.2 6 x = iv M 6 x)) ∧ fr [6] M s.2 ∧ (∀ x, x < 40 → G x ≤ iv s.2 6 x ∧ iv s.2 6 x ≤ iv M 6 x) ∧ (∀ a b, eg σ c a b → iv s.2 6 b ≤ iv M 6 c + tk a)) 1 7 (pI 0, pI 1, M) ⟨rfl, Nat.le_refl _, rfl, fr_refl _ _, fun x hx => ⟨(hb x hx).1, Int.le_refl _⟩, fun a b ha he => by have := he.1.2.1; omega, 0, rfl, Or.inl rfl, fun _ x hx => rfl⟩ (by omega) (by unfold am_fu; omega) (by
    rintro m q ⟨ch, ap, N⟩ hq ⟨e1, hq1, ec, hf, p1, p2, h, eh, h01, p3⟩
    dsimp only at e1 ec hf p1 p2 eh p3
    subst e1 eh
    left
    have hmr := mvs_rng hwl (c := (c : Int)) (a := (q : Int)) (by omega) (by omega)
    have htk := tk_pos q
    have k1 : g_X9_at (1 + 1 + 2) 280 ((pI c * (7 : Int32)) + pI (q : Nat)) N = some (pI (mvs σ c q), N) := by
      rw [show (7 : Int32) = pI 7 from rfl, pi_mul, pi_add, s_at1 _ _ _ (by omega) (by omega) (by omega), show ((c : Int) * 7 + (q : Int)).toNat = 7 * c + q by omega, show 1 + 1 + 2 = 4 from rfl, fr_i hf (by decide)]
      exact congrArg (fun z => some (pI z, N)) (hF.2.2.2 c q hc hq)
    have k2 : g_X9_at (1 + 1 + 4) 40 (pI c) N = some (pI (iv M 6 c), N) := by
      rw [s_at1 _ _ _ (by omega) (by omega) (by omega), Int.toNat_natCast, show 1 + 1 + 4 = 6 from rfl, ec]
    have k3 : g_X9_ticksOf (pI (q : Nat)) N = some (pI (tk q), N) := s_ticksOf N (by omega) (by omega)
    dsimp only
    rw [g_X1_shortenBehind_L4, if_neg (show ¬ ((7 : Int32) ≤ pI (q : Nat)) by rw [show (7 : Int32) = pI 7 from rfl, pi_le (by omega) (by omega) (by omega) (by omega)]; omega), k1, am_b_some, k2, am_b_some, k3, am_b_some]
    have nx : pI (q : Nat) + (1 : Int32) = pI (q + 1 : Nat) := by rw [show (1 : Int32) = pI 1 from rfl, pi_add]; rfl
    rw [nx]
    have stay : (∀ b, eg σ c q b → iv N 6 b ≤ iv M 6 c + tk q) → ∀ a b, a < q + 1 → eg σ c a b → iv N 6 b ≤ iv M 6 c + tk a := fun hz a b ha he => by
      by_cases e : a = q
      · subst e; exact hz b he
      · exact p2 a b (by omega) he
    by_cases c1 : mvs σ c q < 0
    · rw [if_pos (show pI (mvs σ c q) < (0 : Int32) by rw [show (0 : Int32) = pI 0 from rfl, pi_lt (by omega) (by omega) (by omega) (by omega)]; exact c1)]
      exact ⟨(pI h, pI (q + 1 : Nat), N), rfl, rfl, by omega, ec, hf, p1, stay (fun b he => by have := he.2.1; omega), h, rfl, h01, p3⟩
    · rw [if_neg (show ¬ (pI (mvs σ c q) < (0 : Int32)) by rw [show (0 : Int32) = pI 0 from rfl, pi_lt (by omega) (by omega) (by omega) (by omega)]; exact c1)]
      obtain ⟨b, eb⟩ : ∃ b : Nat, mvs σ c q = b := ⟨(mvs σ c q).toNat, by omega⟩
      rw [eb] at hmr ⊢
      have k4 := s_isWall (1 + 1) (c := (b : Int)) N (by omega) (by omega)
      have hkb : iv N (1 + 1 + 1) (b : Int).toNat = σ (8 + b) := by
        rw [Int.toNat_natCast, fr_i hf (by decide)]
        exact hF.2.2.1 b (by omega)
      rw [hkb] at k4
      by_cases c2 : σ (8 + b) = 1
      · rw [if_pos c2] at k4
        rw [k4, am_b_some, if_neg ci1]
        exact ⟨(pI h, pI (q + 1 : Nat), N), rfl, rfl, by omega, ec, hf, p1, stay (fun b' he => by
          have h1 := he.2.1
          rw [eb] at h1
          have h2 : b = b' := by omega
          subst h2
          exact absurd c2 he.2.2), h, rfl, h01, p3⟩
      · rw [if_neg c2] at k4
        have k5 : g_X9_at (1 + 1 + 4) 40 (pI b) N = some (pI (iv N 6 b), N) := by
          rw [s_at1 _ _ _ (by omega) (by omega) (by omega), Int.toNat_natCast]
        have hpb := p1 b (by omega)
        have hbb := hb b (by omega)
        have hGb := hG.1 b (by omega)
        rw [k4, am_b_some, if_pos ci0, k5, am_b_some, pi_add]
        by_cases c3 : iv N 6 b ≤ iv M 6 c + tk q
        · rw [if_pos (show pI (iv N 6 b) ≤ pI (iv M 6 c + tk q) by rw [pi_le (by omega) (by omega) (by omega) (by omega)]; exact c3)]
          exact ⟨(pI h, pI (q + 1 : Nat), N), rfl, rfl, by omega, ec, hf, p1, stay (fun b' he => by
            have h1 := he.2.1
            rw [eb] at h1
            have h2 : b = b' := by omega
            subst h2
            exact c3), h, rfl, h01, p3⟩
        · rw [if_neg (show ¬ (pI (iv N 6 b) ≤ pI (iv M 6 c + tk q)) by rw [pi_le (by omega) (by omega) (by omega) (by omega)]; exact c3)]
          have k6 : g_X9_put (1 + 1 + 4) 40 (pI b) (pI (iv M 6 c + tk q)) N = some ((), am_s N 6 b (pI (iv M 6 c + tk q))) := by
            rw [s_put _ _ _ _ (by omega) (by omega) (by omega), Int.toNat_natCast]
          rw [k6, am_b_some]
          have hv : ∀ x, iv (am_s N 6 b (pI (iv M 6 c + tk q))) 6 x = if x = b then iv M 6 c + tk q else iv N 6 x := fun x => by
            rw [iv_s (by omega) (by omega)]
            by_cases e : x = b
            · rw [if_pos ⟨rfl, e⟩, if_pos e]
            · rw [if_neg (fun z => e z.2), if_neg e]
          have hedge : eg σ c q b := ⟨⟨hc, hq1, hq, by omega⟩, eb, c2⟩
          have hGe := hG.2.2.1 c q b hedge (by omega)
          have hcb : c ≠ b := fun e => by rw [← e] at c3; omega
          refine ⟨(pI 1, pI (q + 1 : Nat), am_s N 6 b (pI (iv M 6 c + tk q))), rfl, rfl, by omega, ?_, fr_trans hf (fr_s (by simp)), fun x hx => ?_, fun a b' ha he => ?_, 1, rfl, Or.inr rfl, fun z => by omega⟩
          · dsimp only
            rw [hv, if_neg hcb, ec]
          · dsimp only
            rw [hv]
            by_cases e : x = b
            · rw [if_pos e, e]; omega
            · rw [if_neg e]; exact p1 x hx
          · dsimp only
            rw [hv]
            by_cases e : a = q
            · subst e
              have h1 := he.2.1
              rw [eb] at h1
              rw [if_pos (by omega)]
              exact Int.le_refl _
            · have h3 := p2 a b' (by omega) he
              by_cases e2 : b' = b
              · rw [if_pos e2]
                subst e2
                omega
              · rw [if_neg e2]; exact h3) (by
    rintro m ⟨ch, ap, N⟩ ⟨e1, hq1, ec, hf, p1, p2, h, eh, h01, p3⟩
    dsimp only at e1 ec hf p1 p2 eh p3
    subst e1 eh
    refine ⟨(pI h, N), ?_, ⟨h, rfl, h01, p3⟩, hf, p1, fun a b he => p2 a b he.1.2.2.1 he⟩
    dsimp only
    rw [g_X1_shortenBehind_L4, if_pos (by decide)])
  dsimp only at g1 eh h01 f1 p1 p2
  subst eh
  refine ⟨h, N, ?_, h01.1, f1, p1, p2, h01.2⟩
  unfold g_X1_shortenBehind
  rw [show (0 : Int32) = pI 0 from rfl, show (1 : Int32) = pI 1 from rfl, g1, am_b_some]
  exact am_c_true (by rcases h01.1 with rfl | rfl <;> decide)
end SA
