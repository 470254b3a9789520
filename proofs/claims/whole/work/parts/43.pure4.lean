/-! turned; ways; who, rows, odds -/
theorem x_warm {t : Nat} (ht : t < 10) : fX7_isWarm (nI t) = some (nI (if t < 5 then 0 else 1)) := by
  rw [fX7_isWarm]
  by_cases h : t < 5
  · rw [if_pos (show nI t < (5 : Int32) from nI_lt (b := 5) h (by omega)), if_pos h]; rfl
  · rw [if_neg (show ¬ nI t < (5 : Int32) from nI_nlt (b := 5) (by omega) (by omega)), if_neg h]; rfl
theorem m_cold {t : Nat} (ht : t < 10) : nI t ≤ (4 : Int32) ↔ t < 5 := by
  rw [show (4 : Int32) = nI 4 from rfl, nI_leI (by omega) (by omega)]; omega
theorem turned_L {n ll lk lt lm lw s} (h : rL n ll lk lt lm lw s 0) (fu fu2 : Nat) (w th : Int32) (hw : w = 0 ∨ w = 1) : ∀ (j i f f2 : Nat), i + j = n → j < f → j < f2 → ∃ r, fX7_turned_L15 fu w (nI n) lt (some (-9)) f (nI i) = some r ∧ fX8_turned_L26 fu2 w th s (some (-9, th)) f2 (nI i) = some (r, th) := by
  obtain ⟨h1, h2, h3, h4, h5, h6⟩ := h
  intro j
  induction j with
  | zero =>
    intro i f f2 hi hf hf2
    obtain ⟨f, rfl⟩ : ∃ g, f = g + 1 := ⟨f - 1, by omega⟩
    obtain ⟨f2, rfl⟩ : ∃ g, f2 = g + 1 := ⟨f2 - 1, by omega⟩
    rw [fX7_turned_L15, fX8_turned_L26, show s 20 = nI n from h4, show i = n by omega, if_pos (Int32.le_refl _), if_pos (Int32.le_refl _)]
    exact ⟨_, rfl, rfl⟩
  | succ j ih =>
    intro i f f2 hi hf hf2
    obtain ⟨f, rfl⟩ : ∃ g, f = g + 1 := ⟨f - 1, by omega⟩
    obtain ⟨f2, rfl⟩ : ∃ g, f2 = g + 1 := ⟨f2 - 1, by omega⟩
    obtain ⟨t, g, ht, hg, a1, a2, a3, a4⟩ := h6 i (by omega)
    obtain ⟨r, r1, r2⟩ := ih (i + 1) f f2 (by omega) (by omega) (by omega)
    rw [fX7_turned_L15, fX8_turned_L26, show s 20 = nI n from h4, if_neg (nI_ge (by omega) (by omega)), if_neg (nI_ge (by omega) (by omega))]
    simp only [q_m2, if_pos (q_in (k := 2 * i) (n := 22) (by omega) (by omega)), q_cl (n := 2 * i) (by omega), if_pos (q_in (k := i) (n := 10) (by omega) (by omega)), q_cl (n := i) (by omega), a1, show s (2 * i) = nI (t + 10 * g) from (by rw [← a3]; congr 1; omega), q_g ht hg, q_t2 ht hg, m_cold ht, x_warm ht, zb1_r, q_1]
    by_cases c : t < 5
    · simp only [if_pos c, show nI 0 = (0 : Int32) from rfl]
      by_cases c2 : (0 : Int32) = w
      · rw [if_pos c2, if_pos c2]; exact ⟨r, r1, r2⟩
      · rw [if_neg c2, if_neg c2]; exact ⟨_, rfl, rfl⟩
    · simp only [if_neg c, show nI 1 = (1 : Int32) from rfl]
      by_cases c2 : (1 : Int32) = w
      · rw [if_pos c2, if_pos c2]; exact ⟨r, r1, r2⟩
      · rw [if_neg c2, if_neg c2]; exact ⟨_, rfl, rfl⟩
theorem op_turned {n ll lk lt lm lw s} (h : rL n ll lk lt lm lw s 0) (fu : Nat) (hfu : 100 ≤ fu) (th : Int32) : ∃ r, fX7_turned fu ll lt = some r ∧ fX8_turned fu th s = some (r, 0) := by
  have H := h
  obtain ⟨h1, h2, h3, h4, h5, h6⟩ := h
  subst h3
  obtain ⟨t, g, ht, hg, a1, a2, a3, a4⟩ := h6 0 (by omega)
  rw [fX7_turned, fX8_turned, a1, show s 0 = nI (t + 10 * g) from a3, q_t ht hg, x_warm ht, zb1_r]
  simp only [m_cold ht]
  by_cases c : t < 5
  · obtain ⟨r, r1, r2⟩ := turned_L H fu fu 0 0 (Or.inl rfl) (n - 1) 1 fu fu (by omega) (by omega) (by omega)
    rw [if_pos c, if_pos c, fX8_turned_J23]
    exact ⟨r, r1, r2⟩
  · obtain ⟨r, r1, r2⟩ := turned_L H fu fu 1 0 (Or.inr rfl) (n - 1) 1 fu fu (by omega) (by omega) (by omega)
    rw [if_neg c, if_neg c, fX8_turned_J23]
    exact ⟨r, r1, r2⟩
/-- the ways that a clerk had to a line -/
def wy (a b d k t g t2 g2 : Nat) : Nat := (if tn t a = t2 ∧ mk g b d = g2 then k else 0) + (if t = t2 ∧ g = g2 then 10 - k else 0)
theorem wy_le {a b d k t g t2 g2 : Nat} (hk : k < 11) : wy a b d k t g t2 g2 ≤ 10 := by unfold wy; split <;> split <;> omega
theorem x_waysTo {a b d k t g t2 g2 : Nat} (ha : a < 9) (hb : b < 8) (hd : d < 8) (hk : k < 11) (ht : t < 10) (hg : g < 8) (ht2 : t2 < 10) (hg2 : g2 < 8) : fX0_waysTo (nI a) (nI b) (nI d) (nI k) (nI t) (nI g) (nI t2) (nI g2) = some (nI (wy a b d k t g t2 g2)) := by
  have htn : tn t a < 10 := tn_lt
  have hmk : mk g b d < 8 := mk_lt hg hb
  have J : ∀ z, z ≤ k → fX0_waysTo_J31 (nI t) (nI g) (nI t2) (nI g2) (nI k) (nI z) = some (nI (z + if t = t2 ∧ g = g2 then 10 - k else 0)) := by
    intro z hz
    rw [fX0_waysTo_J31]
    simp only [nI_eq (a := t) (b := t2) (by omega) (by omega), nI_eq (a := g) (b := g2) (by omega) (by omega), show (10 : Int32) - nI k = nI (10 - k) from q_sub (a := 10) (by omega), nI_add]
    by_cases c1 : t = t2
    · by_cases c2 : g = g2
      · rw [if_pos c1, if_pos c2, if_pos ⟨c1, c2⟩]
      · rw [if_pos c1, if_neg c2, if_neg (fun q => c2 q.2)]; rfl
    · rw [if_neg c1, if_neg (fun q => c1 q.1)]; rfl
  rw [fX0_waysTo, x_tone ha ht, zb1_r, x_marks hb hd hg, zb1_r]
  simp only [nI_eq (a := tn t a) (b := t2) (by omega) (by omega), nI_eq (a := mk g b d) (b := g2) (by omega) (by omega), show (0 : Int32) + nI k = nI k from Int32.zero_add _, J k (Nat.le_refl _), show fX0_waysTo_J31 (nI t) (nI g) (nI t2) (nI g2) (nI k) (0 : Int32) = _ from J 0 (Nat.zero_le _)]
  unfold wy
  by_cases c1 : tn t a = t2
  · by_cases c2 : mk g b d = g2
    · rw [if_pos c1, if_pos c2, if_pos (show tn t a = t2 ∧ mk g b d = g2 from ⟨c1, c2⟩)]
    · rw [if_pos c1, if_neg c2, if_neg (show ¬ (tn t a = t2 ∧ mk g b d = g2) from fun q => c2 q.2)]
  · rw [if_neg c1, if_neg (show ¬ (tn t a = t2 ∧ mk g b d = g2) from fun q => c1 q.1)]
theorem m_waysOf {ck s : Nat → Int32} {c i a b d k t g t2 g2 : Nat} (hc : c < 6) (hi : i < 9) (e5 : ck (4 * c) = nI a) (e6 : ck (4 * c + 1) = nI b) (e7 : ck (4 * c + 2) = nI d) (e8 : ck (4 * c + 3) = nI k) (l1 : s (2 * i) = nI (t + 10 * g)) (l2 : s (2 * (i + 1)) = nI (t2 + 10 * g2)) (ha : a < 9) (hb : b < 8) (hd : d < 8) (hk : k < 11) (ht : t < 10) (hg : g < 8) (ht2 : t2 < 10) (hg2 : g2 < 8) : fX8_waysOf ck s (nI c) (nI (i + 1)) = some (nI (wy a b d k t g t2 g2)) := by
  have htn : tn t a < 10 := tn_lt
  have hmk : mk g b d < 8 := mk_lt hg hb
  rw [fX8_waysOf, q_2m2]
  simp only [q_m2, if_pos (q_in (k := 2 * i) (n := 22) (by omega) (by omega)), q_cl (n := 2 * i) (by omega), if_pos (q_in (k := 2 * (i + 1)) (n := 22) (by omega) (by omega)), q_cl (n := 2 * (i + 1)) (by omega), show (4 : Int32) * nI c + 3 = nI (4 * c + 3) from q_m4k c 3, if_pos (q_in (k := 4 * c + 3) (n := 48) (by omega) (by omega)), q_cl (n := 4 * c + 3) (by omega), e8, l1, l2, m_made (show c < 12 by omega) e5 e6 e7 ha hb hd ht hg, zb1_r, q_eqL htn hmk ht2 hg2]
  unfold wy
  have J : ∀ z, fX8_waysOf_J50 (nI z) (nI (t + 10 * g)) (nI (t2 + 10 * g2)) (nI k) = some (nI (z + if t = t2 ∧ g = g2 then 10 - k else 0)) := by
    intro z
    rw [fX8_waysOf_J50]
    simp only [q_eqL ht hg ht2 hg2, show (10 : Int32) - nI k = nI (10 - k) from q_sub (a := 10) (by omega), show nI z + (0 : Int32) = nI (z + 0) from nI_add z 0, nI_add]
    by_cases c1 : t = t2 ∧ g = g2
    · rw [if_pos c1, if_pos c1]
    · rw [if_neg c1, if_neg c1]
  by_cases c1 : tn t a = t2 ∧ mk g b d = g2
  · rw [if_pos c1, if_pos c1, J]
  · rw [if_neg c1, if_neg c1]; exact J 0
