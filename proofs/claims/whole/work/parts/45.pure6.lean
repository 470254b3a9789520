/-! rows, odds -/
def pc (b : Nat) : Nat := b % 2 + b / 2 % 2 + b / 4 % 2 + b / 8 % 2 + b / 16 % 2 + b / 32 % 2 + b / 64 % 2 + b / 128 % 2
theorem pc_le (b : Nat) : pc b ≤ 8 := by unfold pc; omega
theorem x_bits0 : ∀ b, b < 256 → fJ6_bitCount_0f7a4 (nI b) = some (nI (pc b)) := by decide +kernel
theorem m_ones_mono (f g : Nat) (x : Int32) (r : Int32) : ∀ (n m : Nat) (a b : Int32), n ≤ m → fX8_ones_L4 f x (fun l => some l) n a b = some r → fX8_ones_L4 g x (fun l => some l) m a b = some r := by
  intro n
  induction n with
  | zero => intro m a b _ h; rw [fX8_ones_L4] at h; cases h
  | succ n ih =>
    intro m a b hm h
    obtain ⟨m, rfl⟩ : ∃ k, m = k + 1 := ⟨m - 1, by omega⟩
    rw [fX8_ones_L4] at h ⊢
    by_cases c : (8 : Int32) ≤ b
    · rw [if_pos c] at h ⊢; exact h
    · rw [if_neg c] at h ⊢; exact ih m _ _ (by omega) h
theorem m_ones0 : ∀ b, b < 256 → fX8_ones_L4 0 (nI b) (fun l => some l) 9 0 0 = some (nI (pc b)) := by decide +kernel
theorem m_ones {fu b : Nat} (hb : b < 256) (hfu : 9 ≤ fu) : fX8_ones fu (nI b) = some (nI (pc b)) := by
  rw [fX8_ones]; exact m_ones_mono 0 fu _ _ 9 fu 0 0 hfu (m_ones0 b hb)
theorem op_rows {n ll lk lt lm lw s no oc le se dr ke cl ck} (h : rL n ll lk lt lm lw s 0) (hO : rO no oc le se dr ke cl ck) (fu : Nat) (hfu : 100 ≤ fu) (th : Int32) : ∃ r, fX7_rows fu ll lt lm oc le se dr ke = some r ∧ fX8_rows fu th cl ck s = some (r, 0) := by
  have e1 := h.2.2.1
  have e2 : s 20 = nI n := h.2.2.2.1
  have o1 := hO.1
  have o2 := hO.2.1
  have o3 := hO.2.2.1
  subst e1; subst o2; subst o3
  have n10 := h.2.1
  have n1 := h.1
  suffices H : ∀ (j i f : Nat) (acc : Int32), 1 ≤ i → i + j = n → j < f → ∃ r, fX7_rows_L4 fu (nI n) lt lm (nI no) le se dr ke (fun l => some l) f acc (nI i) = some r ∧ fX8_rows_L9 fu (nI no) ck s (fun l => some (l, 0)) f acc (nI i) = some (r, 0) by
    rw [fX7_rows, fX8_rows]
    exact H (n - 1) 1 fu 1 (Nat.le_refl _) (by omega) (by omega)
  intro j
  induction j with
  | zero =>
    intro i f acc h1 hi hf
    obtain ⟨f, rfl⟩ : ∃ g, f = g + 1 := ⟨f - 1, by omega⟩
    rw [fX7_rows_L4, fX8_rows_L9, e2, show i = n by omega, if_pos (Int32.le_refl _), if_pos (Int32.le_refl _)]
    exact ⟨_, rfl, rfl⟩
  | succ j ih =>
    intro i f acc h1 hi hf
    obtain ⟨f, rfl⟩ : ∃ g, f = g + 1 := ⟨f - 1, by omega⟩
    obtain ⟨i, rfl⟩ : ∃ k, i = k + 1 := ⟨i - 1, by omega⟩
    obtain ⟨w, hw⟩ := ways_ex h hO (i := i) (by omega)
    have x1 := x_writers o1 (fun c hc => ⟨(hw c hc).1, (hw c hc).2.1⟩) fu (fun l => some l) no 0 fu (by omega) (by omega)
    have x2 := m_whoOf o1 (fun c hc => ⟨(hw c hc).1, (hw c hc).2.2⟩) fu (fun l => some l) no 0 fu (by omega) (by omega)
    rw [show (nI (wrB w 0)) = 0 from rfl, show nI 0 = 0 from rfl] at x1 x2
    have hb : wrB w no < 256 := Nat.lt_trans (wrB_64 w o1) (by omega)
    rw [fX7_rows_L4, fX8_rows_L9, e2, if_neg (nI_ge (by omega) (by omega)), if_neg (nI_ge (by omega) (by omega)), fX7_writersOf, fX8_whoOf, x1, x2, zb1_r, zb1_r, x_bits0 _ hb, m_ones hb (by omega), zb1_r, zb1_r, q_1]
    exact ih (i + 1 + 1) f _ (by omega) (by omega) (by omega)
def alB (w : Nat → Nat) : Nat → Nat
  | 0 => 0
  | c + 1 => alB w c + w c
theorem alB_le {w : Nat → Nat} {no : Nat} (hw : ∀ c, c < no → w c ≤ 10) : ∀ c, c ≤ no → alB w c ≤ 10 * c
  | 0, _ => by simp [alB]
  | c + 1, h => by
    have := alB_le hw c (by omega)
    have := hw c (by omega)
    rw [alB]; omega
theorem alB_ge {w : Nat → Nat} : ∀ {no c : Nat}, c < no → w c ≤ alB w no
  | 0, c, h => by omega
  | no + 1, c, h => by
    rw [alB]
    by_cases e : c = no
    · rw [e]; omega
    · have := alB_ge (w := w) (no := no) (c := c) (by omega); omega
theorem x_all {ll lt lm le se dr ke} {no : Nat} (hno : no ≤ 6) {x : Int32} {w : Nat → Nat} (hw : ∀ c, c < no → w c ≤ 10 ∧ fX7_waysOf ll lt lm (nI no) le se dr ke (nI c) x = some (nI (w c))) (fu : Nat) (K : Int32 → Option Int32) : ∀ (j c f : Nat), c + j = no → j < f → fX7_waysOfAll_L4 fu x ll lt lm (nI no) le se dr ke K f (nI (alB w c)) (nI c) = K (nI (alB w no)) := by
  intro j
  induction j with
  | zero =>
    intro c f hc hf
    obtain ⟨f, rfl⟩ : ∃ g, f = g + 1 := ⟨f - 1, by omega⟩
    rw [fX7_waysOfAll_L4, show c = no by omega, if_pos (Int32.le_refl _)]
  | succ j ih =>
    intro c f hc hf
    obtain ⟨f, rfl⟩ : ∃ g, f = g + 1 := ⟨f - 1, by omega⟩
    rw [fX7_waysOfAll_L4, if_neg (nI_ge (by omega) (by omega)), (hw c (by omega)).2, zb1_r, q_1, nI_add]
    exact ih (c + 1) f (by omega) (by omega)
theorem m_all {ck s} {no : Nat} (hno : no ≤ 6) {x y z : Int32} {w : Nat → Nat} (hw : ∀ c, c < no → w c ≤ 10 ∧ fX8_waysOf ck s (nI c) x = some (nI (w c))) (fu : Nat) (K : Int32 → Option (Int32 × Int32)) : ∀ (j c f : Nat), c + j = no → j < f → fX8_odds_L47 fu y x z (nI no) ck s K f (nI (alB w c)) (nI c) = K (nI (alB w no)) := by
  intro j
  induction j with
  | zero =>
    intro c f hc hf
    obtain ⟨f, rfl⟩ : ∃ g, f = g + 1 := ⟨f - 1, by omega⟩
    rw [fX8_odds_L47, show c = no by omega, if_pos (Int32.le_refl _)]
  | succ j ih =>
    intro c f hc hf
    obtain ⟨f, rfl⟩ : ∃ g, f = g + 1 := ⟨f - 1, by omega⟩
    rw [fX8_odds_L47, if_neg (nI_ge (by omega) (by omega)), (hw c (by omega)).2, zb1_r, q_1, nI_add]
    exact ih (c + 1) f (by omega) (by omega)
theorem x_sd_mono (f g : Nat) (x y : Int32) (r : Int32) : ∀ (n m : Nat) (a b : Int32), n ≤ m → fX7_sharedDivisor_L4 f x y (fun l => some l) n a b = some r → fX7_sharedDivisor_L4 g x y (fun l => some l) m a b = some r := by
  intro n
  induction n with
  | zero => intro m a b _ h; rw [fX7_sharedDivisor_L4] at h; cases h
  | succ n ih =>
    intro m a b hm h
    obtain ⟨m, rfl⟩ : ∃ k, m = k + 1 := ⟨m - 1, by omega⟩
    rw [fX7_sharedDivisor_L4] at h ⊢
    by_cases c : x < b
    · rw [if_pos c] at h ⊢; exact h
    · rw [if_neg c] at h ⊢
      by_cases c2 : ¬ b = 0
      · rw [if_pos c2] at h ⊢
        by_cases c3 : x - x / b * b = 0
        · rw [if_pos c3] at h ⊢
          by_cases c4 : y - y / b * b = 0
          · rw [if_pos c4] at h ⊢; exact ih m _ _ (by omega) h
          · rw [if_neg c4] at h ⊢; exact ih m _ _ (by omega) h
        · rw [if_neg c3] at h ⊢; exact ih m _ _ (by omega) h
      · rw [if_neg c2] at h; cases h
theorem m_gcd_mono (f g : Nat) (r : Int32) : ∀ (n m : Nat) (a b : Int32), n ≤ m → fX8_gcd_L4 f (fun l => some l) n a b = some r → fX8_gcd_L4 g (fun l => some l) m a b = some r := by
  intro n
  induction n with
  | zero => intro m a b _ h; rw [fX8_gcd_L4] at h; cases h
  | succ n ih =>
    intro m a b hm h
    obtain ⟨m, rfl⟩ : ∃ k, m = k + 1 := ⟨m - 1, by omega⟩
    rw [fX8_gcd_L4] at h ⊢
    by_cases c : b = 0
    · rw [if_pos c] at h ⊢; exact h
    · rw [if_neg c, if_pos c] at h ⊢; exact ih m _ _ (by omega) h
theorem x_sd0 : ∀ b, b < 11 → ∀ a, a < 60 → fX7_sharedDivisor_L4 0 (nI (a + 1)) (nI b) (fun l => some l) 61 1 2 = some (nI (Nat.gcd b (a + 1))) := by decide +kernel
theorem m_gcd0 : ∀ b, b < 11 → ∀ a, a < 60 → fX8_gcd_L4 0 (fun l => some l) 20 (nI b) (nI (a + 1)) = some (nI (Nat.gcd b (a + 1))) := by decide +kernel
theorem op_odds {n ll lk lt lm lw s no oc le se dr ke cl ck} (h : rL n ll lk lt lm lw s 0) (hO : rO no oc le se dr ke cl ck) (fu : Nat) (hfu : 100 ≤ fu) (th x1 x2 x3 : Int32) : ∃ r, fX7_odds fu ll lt lm oc le se dr ke x1 x2 x3 = some r ∧ fX8_odds fu th cl ck s x1 x2 x3 = some (r, 0) := by
  have e1 := h.2.2.1
  have e2 : s 20 = nI n := h.2.2.2.1
  have o1 := hO.1
  have o2 := hO.2.1
  have o3 := hO.2.2.1
  subst e1; subst o2; subst o3
  rw [fX7_odds, fX8_odds, e2]
  rcases q_what x1 no (by omega) with ⟨c, hc, rfl⟩ | ⟨hx, -⟩
  · rw [m_isClerk1 o1 hc, zb1_r, if_neg z10, if_neg (nI_pos (by omega)), if_neg (nI_ge hc (by omega)), if_pos (q_in (by omega) (by omega))]
    rcases q_ahead h.2.1 x2 with ⟨i, hi, rfl, a1, a2⟩ | ⟨a1, a2⟩
    · rw [a1, a2, zb1_r, zb1_r, if_neg z10, if_neg z10]
      rcases q_what x3 2 (by omega) with ⟨q, hq, rfl⟩ | ⟨hy, hz⟩
      · have hin : fX8_in (nI q) 0 1 = some 1 := m_inN (a := 0) (b := 1) (by omega) (by omega) (by omega)
        obtain ⟨w, hw⟩ := ways_ex h hO hi
        have x1 := x_all o1 (fun c hc => ⟨(hw c hc).1, (hw c hc).2.1⟩) fu (fun l => some l) no 0 fu (by omega) (by omega)
        rw [show (nI (alB w 0)) = 0 from rfl, show nI 0 = 0 from rfl] at x1
        have x2 := fun K => m_all (y := nI c) (z := nI q) o1 (fun c hc => ⟨(hw c hc).1, (hw c hc).2.2⟩) fu K no 0 fu (by omega) (by omega)
        rw [show (nI (alB w 0)) = 0 from rfl, show nI 0 = 0 from rfl] at x2
        have hal := alB_le (fun c hc => (hw c hc).1) no (Nat.le_refl _)
        rw [hin, zb1_r, if_neg z10, if_neg (nI_pos (by omega)), if_pos (show nI q ≤ (1 : Int32) from nI_le (b := 1) (by omega) (by omega)), fX7_waysOfAll, x1, zb1_r, x2]
        generalize hA : alB w no = A at *
        cases A with
        | zero => exact ⟨-2, rfl, rfl⟩
        | succ A =>
          obtain ⟨w1, w2, w3⟩ := hw c hc
          have hle := alB_ge (w := w) hc
          have hg1 : 0 < Nat.gcd (w c) (A + 1) := Nat.gcd_pos_of_pos_right _ (by omega)
          have hg2 : Nat.gcd (w c) (A + 1) ≤ A + 1 := Nat.gcd_le_right _ (by omega)
          have hgn : ¬ nI (Nat.gcd (w c) (A + 1)) = 0 := q_ne (b := 0) (by omega) (by omega) (by omega)
          rw [if_pos (show (0 : Int32) < nI (A + 1) from nI_lt (a := 0) (by omega) (by omega)), w2, zb1_r, fX7_sharedDivisor, x_sd_mono 0 fu _ _ _ 61 fu 1 2 (by omega) (x_sd0 (w c) (by omega) A (by omega)), zb1_r, if_neg (show ¬ nI (A + 1) = (0 : Int32) from q_ne (b := 0) (by omega) (by omega) (by omega)), w3, zb1_r, fX8_gcd, m_gcd_mono 0 fu _ 20 fu _ _ (by omega) (m_gcd0 (w c) (by omega) A (by omega)), zb1_r, if_pos hgn, if_pos hgn, zb1_r, if_pos hgn, if_pos hgn]
          by_cases q0 : nI q = 0
          · rw [if_pos q0, if_pos q0]; exact ⟨_, rfl, rfl⟩
          · rw [if_neg q0, if_neg q0]; exact ⟨_, rfl, rfl⟩
      · have hin : fX8_in x3 0 1 = some 0 := m_in0N (n := 1) (by omega) hy
        rw [hin, zb1_r, if_pos rfl]
        refine ⟨-1, ?_, rfl⟩
        by_cases h0 : x3 < 0
        · rw [if_pos h0]
        · rw [if_neg h0, if_neg (Int32.not_le.mpr (show (1 : Int32) < x3 from (q_above (n := 1) (by omega) hy).resolve_left h0))]
    · rw [a1, a2, zb1_r, zb1_r, if_pos rfl, if_pos rfl]
      exact ⟨-1, rfl, rfl⟩
  · rw [m_isClerk0 o1 hx, zb1_r, if_pos rfl]
    refine ⟨-1, ?_, rfl⟩
    by_cases h0 : x1 < 0
    · rw [if_pos h0]
    · rw [if_neg h0, if_pos (hx.resolve_left h0)]
