/-! who, rows, odds -/
theorem x_ahead1 {n i : Nat} (h1 : 1 ≤ i) (h2 : i < n) (hn : n ≤ 10) : fX7_hasLineAhead (nI n) (nI i) = some 1 := by
  rw [fX7_hasLineAhead, if_neg (show ¬ nI i < (1 : Int32) from nI_nlt (b := 1) h1 (by omega)), if_neg (nI_ge h2 (by omega))]
theorem q_ahead {n : Nat} (hn : n ≤ 10) (x : Int32) : (∃ i, i + 1 < n ∧ x = nI (i + 1) ∧ fX7_hasLineAhead (nI n) x = some 1 ∧ fX8_in x 1 (nI n - 1) = some 1) ∨ (fX7_hasLineAhead (nI n) x = some 0 ∧ fX8_in x 1 (nI n - 1) = some 0) := by
  rcases q_what x n (by omega) with ⟨i, hi, rfl⟩ | ⟨hx, -⟩
  · cases i with
    | zero => exact Or.inr ⟨by rw [fX7_hasLineAhead, if_pos (by decide)], m_in0 (Or.inl (by decide))⟩
    | succ i => exact Or.inl ⟨i, hi, rfl, x_ahead1 (by omega) hi hn, m_in1 (show ¬ nI (i + 1) < (1 : Int32) from nI_nlt (b := 1) (by omega) (by omega)) (fun q => nI_ge hi (by omega) ((q_pred (by omega) _).mp q))⟩
  · refine Or.inr ⟨?_, m_in0 ?_⟩
    · rw [fX7_hasLineAhead]
      rcases hx with h | h
      · rw [if_pos (Int32.lt_trans h (by decide))]
      · by_cases h0 : x < 1
        · rw [if_pos h0]
        · rw [if_neg h0, if_pos h]
    · rcases hx with h | h
      · exact Or.inl (Int32.lt_trans h (by decide))
      · exact Or.inr ((q_pred (by omega) _).mpr h)
theorem ways_ex {n ll lk lt lm lw s no oc le se dr ke cl ck} (h : rL n ll lk lt lm lw s 0) (hO : rO no oc le se dr ke cl ck) {i : Nat} (hi : i + 1 < n) : ∃ w : Nat → Nat, ∀ c, c < no → w c ≤ 10 ∧ fX7_waysOf ll lt lm oc le se dr ke (nI c) (nI (i + 1)) = some (nI (w c)) ∧ fX8_waysOf ck s (nI c) (nI (i + 1)) = some (nI (w c)) := by
  obtain ⟨h1, h2, h3, h4, h5, h6⟩ := h
  subst h3
  obtain ⟨o1, o2, o3, o4⟩ := hO
  subst o2; subst o3
  have : ∀ c, ∃ v, c < no → v ≤ 10 ∧ fX7_waysOf (nI n) lt lm (nI no) le se dr ke (nI c) (nI (i + 1)) = some (nI v) ∧ fX8_waysOf ck s (nI c) (nI (i + 1)) = some (nI v) := by
    intro c
    by_cases hc : c < no
    · obtain ⟨a, b, d, k, ha, hb, hd, hk, e1, e2, e3, e4, e5, e6, e7, e8⟩ := o4 c hc
      obtain ⟨t, g, ht, hg, a1, a2, a3, a4⟩ := h6 i (by omega)
      obtain ⟨t2, g2, ht2, hg2, b1, b2, b3, b4⟩ := h6 (i + 1) (by omega)
      refine ⟨wy a b d k t g t2 g2, fun _ => ⟨wy_le hk, ?_, m_waysOf (by omega) (by omega) e5 e6 e7 e8 (by rw [← a3]; congr 1; omega) (by rw [← b3]; congr 1; omega) ha hb hd hk ht hg ht2 hg2⟩⟩
      rw [fX7_waysOf, if_neg (nI_pos (by omega)), if_neg (nI_ge hc (by omega))]
      simp only [if_pos (q_in (k := c) (n := 6) (by omega) (by omega)), q_cl (n := c) (by omega), e1, e2, e3, e4, x_ahead1 (show 1 ≤ i + 1 by omega) hi h2, zb1_r, if_neg z10, show nI (i + 1) - (1 : Int32) = nI i from nI_pred i, if_pos (q_in (k := i) (n := 10) (by omega) (by omega)), q_cl (n := i) (by omega), if_pos (q_in (k := i + 1) (n := 10) (by omega) (by omega)), q_cl (n := i + 1) (by omega), a1, a2, b1, b2, x_waysTo ha hb hd hk ht hg ht2 hg2]
    · exact ⟨0, fun q => absurd q hc⟩
  exact ⟨fun c => Classical.choose (this c), fun c hc => Classical.choose_spec (this c) hc⟩
def wrB (w : Nat → Nat) : Nat → Nat
  | 0 => 0
  | c + 1 => if w c = 0 then wrB w c else wrB w c ||| 2 ^ c
theorem wrB_lt (w : Nat → Nat) : ∀ c, wrB w c < 2 ^ c
  | 0 => by simp [wrB]
  | c + 1 => by
    have := wrB_lt w c
    rw [wrB]
    split
    · rw [Nat.pow_succ]; omega
    · exact Nat.or_lt_two_pow (Nat.lt_of_lt_of_le this (Nat.pow_le_pow_right (by omega) (by omega))) (Nat.pow_lt_pow_right (by omega) (by omega))
theorem q_or0 : ∀ c, c < 6 → ∀ b, b < 64 → nI b ||| ((1 : Int32) <<< (nI c &&& 31)) = nI (b ||| 2 ^ c) := by decide +kernel
theorem wrB_64 (w : Nat → Nat) {c : Nat} (h : c ≤ 6) : wrB w c < 64 := Nat.lt_of_lt_of_le (wrB_lt w c) (show 2 ^ c ≤ 2 ^ 6 from Nat.pow_le_pow_right (by omega) h)
theorem q_le0 {v : Nat} (hv : v ≤ 10) : nI v ≤ (0 : Int32) ↔ v = 0 := by
  rw [show (0 : Int32) = nI 0 from rfl, nI_leI (by omega) (by omega)]; omega
theorem x_writers {ll lt lm le se dr ke} {no : Nat} (hno : no ≤ 6) {x : Int32} {w : Nat → Nat} (hw : ∀ c, c < no → w c ≤ 10 ∧ fX7_waysOf ll lt lm (nI no) le se dr ke (nI c) x = some (nI (w c))) (fu : Nat) (K : Int32 → Option Int32) : ∀ (j c f : Nat), c + j = no → j < f → fX7_writersOf_L4 fu x ll lt lm (nI no) le se dr ke K f (nI (wrB w c)) (nI c) = K (nI (wrB w no)) := by
  intro j
  induction j with
  | zero =>
    intro c f hc hf
    obtain ⟨f, rfl⟩ : ∃ g, f = g + 1 := ⟨f - 1, by omega⟩
    rw [fX7_writersOf_L4, show c = no by omega, if_pos (Int32.le_refl _)]
  | succ j ih =>
    intro c f hc hf
    obtain ⟨f, rfl⟩ : ∃ g, f = g + 1 := ⟨f - 1, by omega⟩
    have := ih (c + 1) f (by omega) (by omega)
    rw [fX7_writersOf_L4, if_neg (nI_ge (by omega) (by omega)), (hw c (by omega)).2, zb1_r, q_1, q_or0 c (by omega) _ (wrB_64 w (by omega)), ← this, wrB]
    simp only [q_le0 (hw c (by omega)).1]
    by_cases e : w c = 0
    · rw [if_pos e, if_pos e]
    · rw [if_neg e, if_neg e]
theorem m_whoOf {ck s} {no : Nat} (hno : no ≤ 6) {x : Int32} {w : Nat → Nat} (hw : ∀ c, c < no → w c ≤ 10 ∧ fX8_waysOf ck s (nI c) x = some (nI (w c))) (fu : Nat) (K : Int32 → Option Int32) : ∀ (j c f : Nat), c + j = no → j < f → fX8_whoOf_L4 fu x (nI no) ck s K f (nI (wrB w c)) (nI c) = K (nI (wrB w no)) := by
  intro j
  induction j with
  | zero =>
    intro c f hc hf
    obtain ⟨f, rfl⟩ : ∃ g, f = g + 1 := ⟨f - 1, by omega⟩
    rw [fX8_whoOf_L4, show c = no by omega, if_pos (Int32.le_refl _)]
  | succ j ih =>
    intro c f hc hf
    obtain ⟨f, rfl⟩ : ∃ g, f = g + 1 := ⟨f - 1, by omega⟩
    have := ih (c + 1) f (by omega) (by omega)
    rw [fX8_whoOf_L4, if_neg (nI_ge (by omega) (by omega)), (hw c (by omega)).2, zb1_r, q_1, q_or0 c (by omega) _ (wrB_64 w (by omega)), Int32.or_zero, ← this, wrB]
    simp only [q_le0 (hw c (by omega)).1]
    by_cases e : w c = 0
    · rw [if_pos e, if_pos e]
    · rw [if_neg e, if_neg e]
/-- the likeliest so far, and his ways -/
def mlB (w : Nat → Nat) : Nat → Int32 × Nat
  | 0 => (-9, 0)
  | c + 1 => if w c ≤ (mlB w c).2 then mlB w c else (nI c, w c)
theorem mlB_le {w : Nat → Nat} {no : Nat} (hw : ∀ c, c < no → w c ≤ 10) : ∀ c, c ≤ no → (mlB w c).2 ≤ 10
  | 0, _ => by simp [mlB]
  | c + 1, h => by
    rw [mlB]
    split
    · exact mlB_le hw c (by omega)
    · exact hw c (by omega)
theorem x_likeliest {ll lt lm le se dr ke} {no : Nat} (hno : no ≤ 6) {x : Int32} {w : Nat → Nat} (hw : ∀ c, c < no → w c ≤ 10 ∧ fX7_waysOf ll lt lm (nI no) le se dr ke (nI c) x = some (nI (w c))) (fu : Nat) (K : Int32 → Option Int32) : ∀ (j c f : Nat), c + j = no → j < f → fX7_likeliestOf_L8 fu x ll lt lm (nI no) le se dr ke K f (mlB w c).1 (nI (mlB w c).2) (nI c) = K (mlB w no).1 := by
  intro j
  induction j with
  | zero =>
    intro c f hc hf
    obtain ⟨f, rfl⟩ : ∃ g, f = g + 1 := ⟨f - 1, by omega⟩
    rw [fX7_likeliestOf_L8, show c = no by omega, if_pos (Int32.le_refl _)]
  | succ j ih =>
    intro c f hc hf
    obtain ⟨f, rfl⟩ : ∃ g, f = g + 1 := ⟨f - 1, by omega⟩
    have := ih (c + 1) f (by omega) (by omega)
    have h10 := mlB_le (fun c hc => (hw c hc).1) c (by omega)
    have h11 := (hw c (by omega)).1
    rw [fX7_likeliestOf_L8, if_neg (nI_ge (by omega) (by omega)), (hw c (by omega)).2, zb1_r, q_1, ← this, mlB]
    simp only [nI_leI (a := w c) (b := (mlB w c).2) (by omega) (by omega)]
    by_cases e : w c ≤ (mlB w c).2
    · rw [if_pos e, if_pos e]
    · rw [if_neg e, if_neg e]
theorem m_likeliest {ck s} {no : Nat} (hno : no ≤ 6) {x : Int32} {w : Nat → Nat} (hw : ∀ c, c < no → w c ≤ 10 ∧ fX8_waysOf ck s (nI c) x = some (nI (w c))) (fu : Nat) (K : Int32 → Option (Int32 × Int32)) : ∀ (j c f : Nat), c + j = no → j < f → fX8_who_L52 fu x (nI no) ck s K f (mlB w c).1 (nI (mlB w c).2) (nI c) = K (mlB w no).1 := by
  intro j
  induction j with
  | zero =>
    intro c f hc hf
    obtain ⟨f, rfl⟩ : ∃ g, f = g + 1 := ⟨f - 1, by omega⟩
    rw [fX8_who_L52, show c = no by omega, if_pos (Int32.le_refl _)]
  | succ j ih =>
    intro c f hc hf
    obtain ⟨f, rfl⟩ : ∃ g, f = g + 1 := ⟨f - 1, by omega⟩
    have := ih (c + 1) f (by omega) (by omega)
    have h10 := mlB_le (fun c hc => (hw c hc).1) c (by omega)
    have h11 := (hw c (by omega)).1
    rw [fX8_who_L52, if_neg (nI_ge (by omega) (by omega)), (hw c (by omega)).2, zb1_r, zb1_r, q_1, ← this, mlB]
    simp only [nI_leI (a := w c) (b := (mlB w c).2) (by omega) (by omega)]
    by_cases e : w c ≤ (mlB w c).2
    · rw [if_pos e, if_pos e]
    · rw [if_neg e, if_neg e]
theorem op_who {n ll lk lt lm lw s no oc le se dr ke cl ck} (h : rL n ll lk lt lm lw s 0) (hO : rO no oc le se dr ke cl ck) (fu : Nat) (hfu : 100 ≤ fu) (th x1 x2 : Int32) : ∃ r, fX7_who fu ll lt lm oc le se dr ke x1 x2 = some r ∧ fX8_who fu th cl ck s x1 x2 = some (r, 0) := by
  have e1 := h.2.2.1
  have e2 : s 20 = nI n := h.2.2.2.1
  have o1 := hO.1
  have o2 := hO.2.1
  have o3 := hO.2.2.1
  subst e1; subst o2; subst o3
  rw [fX7_who, fX8_who, e2]
  rcases q_ahead h.2.1 x1 with ⟨i, hi, rfl, a1, a2⟩ | ⟨a1, a2⟩
  · obtain ⟨w, hw⟩ := ways_ex h hO hi
    rw [a1, a2, zb1_r, zb1_r, if_neg z10, if_neg z10]
    rcases q_what x2 2 (by omega) with ⟨q, hq, rfl⟩ | ⟨hy, hz⟩
    · have hin : fX8_in (nI q) 0 1 = some 1 := m_inN (a := 0) (b := 1) (by omega) (by omega) (by omega)
      rw [hin, zb1_r, if_neg z10]
      match q, hq with
      | 0, _ =>
        refine ⟨nI (wrB w no), ?_, ?_⟩
        · rw [if_pos (show nI 0 = (0 : Int32) from rfl), fX7_writersOf]
          have := x_writers o1 (fun c hc => ⟨(hw c hc).1, (hw c hc).2.1⟩) fu (fun l => some l) no 0 fu (by omega) (by omega)
          rw [show (nI (wrB w 0)) = 0 from rfl, show nI 0 = 0 from rfl] at this
          rw [this, zb1_r]
        · rw [if_pos (show nI 0 = (0 : Int32) from rfl), fX8_whoOf]
          have := m_whoOf o1 (fun c hc => ⟨(hw c hc).1, (hw c hc).2.2⟩) fu (fun l => some l) no 0 fu (by omega) (by omega)
          rw [show (nI (wrB w 0)) = 0 from rfl, show nI 0 = 0 from rfl] at this
          rw [this, zb1_r]
      | 1, _ =>
        refine ⟨(mlB w no).1, ?_, ?_⟩
        · have := x_likeliest o1 (fun c hc => ⟨(hw c hc).1, (hw c hc).2.1⟩) fu (fun l => some l) no 0 fu (by omega) (by omega)
          rw [if_neg (show ¬ nI 1 = (0 : Int32) by decide), if_pos (show nI 1 = (1 : Int32) from rfl), fX7_likeliestOf]
          rw [show (mlB w 0).1 = -9 from rfl, show nI (mlB w 0).2 = 0 from rfl, show nI 0 = 0 from rfl] at this
          rw [this, zb1_r]
        · have := m_likeliest o1 (fun c hc => ⟨(hw c hc).1, (hw c hc).2.2⟩) fu (fun l => some (l, 0)) no 0 fu (by omega) (by omega)
          rw [if_neg (show ¬ nI 1 = (0 : Int32) by decide)]
          rw [show (mlB w 0).1 = -9 from rfl, show nI (mlB w 0).2 = 0 from rfl, show nI 0 = 0 from rfl] at this
          exact this
      | q + 2, hq => omega
    · have hin : fX8_in x2 0 1 = some 0 := m_in0N (n := 1) (by omega) hy
      rw [hin, zb1_r, if_pos rfl]
      exact ⟨-1, by rw [if_neg (show ¬ x2 = (0 : Int32) from hz 0 (by omega)), if_neg (show ¬ x2 = (1 : Int32) from hz 1 (by omega))], rfl⟩
  · rw [a1, a2, zb1_r, zb1_r, if_pos rfl, if_pos rfl]
    exact ⟨-1, rfl, rfl⟩
