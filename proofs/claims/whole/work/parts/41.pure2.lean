/-! Habits as small numbers: what a clerk makes of a line. -/
def tn (t a : Nat) : Nat := min 9 (t + a - 4)
def mk (g s d : Nat) : Nat := (g ||| s) &&& (7 ^^^ d)
theorem tn_lt {t a : Nat} : tn t a < 10 := by unfold tn; omega
theorem mk_lt {g s d : Nat} (hg : g < 8) (hs : s < 8) : mk g s d < 8 := by
  unfold mk
  exact Nat.lt_of_le_of_lt Nat.and_le_left (Nat.or_lt_two_pow (n := 3) hg hs)
theorem x_tone0 : ∀ a, a < 9 → ∀ t, t < 10 → fX0_toneBehind (nI a) (nI t) = some (nI (tn t a)) := by decide +kernel
theorem x_tone {a t : Nat} (ha : a < 9) (ht : t < 10) : fX0_toneBehind (nI a) (nI t) = some (nI (tn t a)) := x_tone0 a ha t ht
theorem x_marks0 : ∀ s, s < 8 → ∀ d, d < 8 → ∀ g, g < 8 → fX0_marksBehind (nI s) (nI d) (nI g) = some (nI (mk g s d)) := by decide +kernel
theorem x_marks {s d g : Nat} (hs : s < 8) (hd : d < 8) (hg : g < 8) : fX0_marksBehind (nI s) (nI d) (nI g) = some (nI (mk g s d)) := x_marks0 s hs d hd g hg
def mtone (x a : Int32) : Option Int32 := if (0 : Int32) ≤ ((x + a) - (4 : Int32)) then (if ((x + a) - (4 : Int32)) ≤ (9 : Int32) then some ((x + a) - (4 : Int32)) else some (9 : Int32)) else some (0 : Int32)
theorem m_tone0 : ∀ a, a < 9 → ∀ t, t < 10 → mtone (nI t) (nI a) = some (nI (tn t a)) := by decide +kernel
theorem m_marks0 : ∀ s, s < 8 → ∀ d, d < 8 → ∀ g, g < 8 → (nI g ||| nI s) &&& (nI d ^^^ (-1 : Int32)) = nI (mk g s d) := by decide +kernel
theorem m_tone {ck : Nat → Int32} {c a t : Nat} (hc : c < 12) (e : ck (4 * c) = nI a) (ha : a < 9) (ht : t < 10) : fX8_toneBy ck (nI c) (nI t) = some (nI (tn t a)) := by
  rw [fX8_toneBy, q_m4, if_pos (q_in (by omega) (by omega)), q_cl (by omega), e]
  exact m_tone0 a ha t ht
theorem m_made {ck : Nat → Int32} {c a s d t g : Nat} (hc : c < 12) (e : ck (4 * c) = nI a) (e1 : ck (4 * c + 1) = nI s) (e2 : ck (4 * c + 2) = nI d) (ha : a < 9) (hs : s < 8) (hd : d < 8) (ht : t < 10) (hg : g < 8) : fX8_madeBy ck (nI c) (nI (t + 10 * g)) = some (nI (tn t a + 10 * mk g s d)) := by
  rw [fX8_madeBy, show (4 : Int32) * nI c + 1 = nI (4 * c + 1) from q_m4k c 1, show (4 : Int32) * nI c + 2 = nI (4 * c + 2) from q_m4k c 2, if_pos (q_in (by omega) (by omega)), if_pos (q_in (by omega) (by omega)), q_cl (by omega), q_cl (by omega), e1, e2, q_t ht hg, q_g ht hg, m_tone hc e ha ht, zb1_r, m_marks0 s hs d hd g hg, q_line]
theorem x_isTone {t : Nat} (ht : t < 10) : fX7_isTone (nI t) = some 1 := by
  rw [fX7_isTone, if_neg (nI_pos (by omega)), if_neg (show ¬ (9 : Int32) < nI t from nI_nlt (a := 9) (b := t) (by omega) (by omega))]
theorem x_isTone0 {x : Int32} (h : x < 0 ∨ nI 10 ≤ x) : fX7_isTone x = some 0 := by
  rw [fX7_isTone]
  by_cases h0 : x < 0
  · rw [if_pos h0]
  · rw [if_neg h0, if_pos (show (9 : Int32) < x from (q_above (n := 9) (by omega) h).resolve_left h0)]
theorem x_isLine1 {t g : Nat} (ht : t < 10) (hg : g < 8) : fX7_isLine (nI t) (nI g) = some 1 := by
  rw [fX7_isLine, x_isTone ht, zb1_r, if_neg (show ¬ (1 : Int32) = 0 by decide), if_neg (nI_pos (by omega)), if_neg (show ¬ (7 : Int32) < nI g from nI_nlt (a := 7) (b := g) (by omega) (by omega))]
theorem x_isLine0 {t : Nat} {y : Int32} (ht : t < 10) (h : y < 0 ∨ nI 8 ≤ y) : fX7_isLine (nI t) y = some 0 := by
  rw [fX7_isLine, x_isTone ht, zb1_r, if_neg (show ¬ (1 : Int32) = 0 by decide)]
  by_cases h0 : y < 0
  · rw [if_pos h0]
  · rw [if_neg h0, if_pos (show (7 : Int32) < y from (q_above (n := 7) (by omega) h).resolve_left h0)]
theorem x_isLine00 {x y : Int32} (h : x < 0 ∨ nI 10 ≤ x) : fX7_isLine x y = some 0 := by
  rw [fX7_isLine, x_isTone0 h, zb1_r, if_pos rfl]
/-- two numbers in their ranges, or not a line -/
theorem q_isLine (x y : Int32) : (∃ t g, t < 10 ∧ g < 8 ∧ x = nI t ∧ y = nI g) ∨ (fX7_isLine x y = some 0 ∧ (fX8_in x 0 9 = some 0 ∨ (fX8_in x 0 9 = some 1 ∧ fX8_in y 0 7 = some 0))) := by
  rcases q_what x 10 (by omega) with ⟨t, ht, rfl⟩ | ⟨h, -⟩
  · rcases q_what y 8 (by omega) with ⟨g, hg, rfl⟩ | ⟨h, -⟩
    · exact Or.inl ⟨t, g, ht, hg, rfl, rfl⟩
    · exact Or.inr ⟨x_isLine0 ht h, Or.inr ⟨m_inN (a := 0) (b := 9) (by omega) (by omega) (by omega), m_in0N (n := 7) (by omega) h⟩⟩
  · exact Or.inr ⟨x_isLine00 h, Or.inl (m_in0N (n := 9) (by omega) h)⟩
theorem z10 : ¬ (1 : Int32) = 0 := by decide
theorem m_in9 {t : Nat} (ht : t < 10) : fX8_in (nI t) 0 9 = some 1 := m_inN (a := 0) (b := 9) (by omega) (by omega) (by omega)
theorem m_in7 {t : Nat} (ht : t < 8) : fX8_in (nI t) 0 7 = some 1 := m_inN (a := 0) (b := 7) (by omega) (by omega) (by omega)
theorem op_makes {no oc le se dr ke cl ck} (hO : rO no oc le se dr ke cl ck) (th x1 x2 x3 : Int32) : ∃ r, fX7_makes oc le se dr x1 x2 x3 = some r ∧ fX8_makes th cl ck x1 x2 x3 = some (r, 0) := by
  obtain ⟨h1, h2, h3, h4⟩ := hO
  subst h2; subst h3
  rcases q_what x1 no (by omega) with ⟨c, hc, rfl⟩ | ⟨hx, -⟩
  · obtain ⟨a, b, d, k, ha, hb, hd, -, e1, e2, e3, e4, e5, e6, e7, e8⟩ := h4 c hc
    rw [fX7_makes, fX8_makes, m_isClerk1 h1 hc, zb1_r, if_neg z10, if_neg (nI_pos (by omega)), if_neg (nI_ge hc (by omega)), if_pos (q_in (by omega) (by omega)), q_cl (by omega), e1, e2, e3]
    rcases q_isLine x2 x3 with ⟨t, g, ht, hg, rfl, rfl⟩ | ⟨hx, hm | ⟨hm, hm2⟩⟩
    · rw [x_isLine1 ht hg, zb1_r, if_neg z10, x_tone ha ht, zb1_r, x_marks hb hd hg, zb1_r, fX7_told, zb1_r, m_in9 ht, zb1_r, if_neg z10, m_in7 hg, zb1_r, if_neg z10, q_line, q_line, m_made (by omega) e5 e6 e7 ha hb hd ht hg, zb1_r]
      exact ⟨_, rfl, rfl⟩
    · rw [hx, zb1_r, if_pos rfl, hm, zb1_r, if_pos rfl]; exact ⟨_, rfl, rfl⟩
    · rw [hx, zb1_r, if_pos rfl, hm, zb1_r, if_neg z10, hm2, zb1_r, if_pos rfl]; exact ⟨_, rfl, rfl⟩
  · rw [fX8_makes, m_isClerk0 h1 hx, zb1_r, if_pos rfl, fX7_makes]
    refine ⟨-1, ?_, rfl⟩
    by_cases h0 : x1 < 0
    · rw [if_pos h0]
    · rw [if_neg h0, if_pos (hx.resolve_left h0)]

theorem q_eqL {t g t2 g2 : Nat} (ht : t < 10) (hg : g < 8) (ht2 : t2 < 10) (hg2 : g2 < 8) : nI (t + 10 * g) = nI (t2 + 10 * g2) ↔ t = t2 ∧ g = g2 := by
  rw [nI_eq (by omega) (by omega)]; omega
theorem q_t2 {t g : Nat} (ht : t < 10) (hg : g < 8) : nI (t + 10 * g) - nI g * 10 = nI t := by
  have := q_t ht hg
  rwa [q_g ht hg] at this
theorem q_z100 : ¬ (0 : Int32) = 1 := by decide
/-! line -/
theorem op_line {n ll lk lt lm lw s} (h : rL n ll lk lt lm lw s 0) (th x1 x2 : Int32) : ∃ r, fX7_line ll lt lm lw x1 x2 = some r ∧ fX8_line th s x1 x2 = some (r, 0) := by
  obtain ⟨h1, h2, h3, h4, h5, h6⟩ := h
  subst h3
  rw [fX7_line, fX8_line, show s 20 = nI n from h4]
  rcases q_what x1 n (by omega) with ⟨k, hk, rfl⟩ | ⟨hx, -⟩
  · obtain ⟨t, g, ht, hg, e1, e2, e3, e4⟩ := h6 k hk
    have hin : fX8_in (nI k) 0 (nI n - 1) = some 1 := m_in1 (nI_pos (by omega)) (fun q => nI_ge hk (by omega) ((q_pred (by omega) _).mp q))
    rw [hin, zb1_r, if_neg z10, if_neg (nI_pos (by omega)), if_pos (nI_lt hk (by omega))]
    simp only [if_pos (q_in (k := k) (n := 10) (by omega) (by omega)), q_cl (n := k) (by omega), e1, e2]
    rcases q_what x2 3 (by omega) with ⟨w, hw, rfl⟩ | ⟨hy, hz⟩
    · have hin : fX8_in (nI w) 0 2 = some 1 := m_inN (a := 0) (b := 2) (by omega) (by omega) (by omega)
      rw [hin, zb1_r, if_neg z10]
      simp only [q_m2, if_pos (q_in (k := 2 * k) (n := 22) (by omega) (by omega)), q_cl (n := 2 * k) (by omega), show s (2 * k) = nI (t + 10 * g) from (by rw [← e3]; congr 1; omega), q_t2 ht hg, q_g ht hg, show nI (2 * k) + (1 : Int32) = nI (2 * k + 1) from nI_add _ _, if_pos (q_in (k := 2 * k + 1) (n := 22) (by omega) (by omega)), q_cl (n := 2 * k + 1) (by omega)]
      match w, hw with
      | 0, _ => exact ⟨nI t, rfl, rfl⟩
      | 1, _ => exact ⟨nI g, rfl, rfl⟩
      | 2, _ => exact ⟨lw k, rfl, by rw [← e4, show 0 + 2 * k + 1 = 2 * k + 1 by omega]; rfl⟩
      | w + 3, hw => omega
    · have hin : fX8_in x2 0 2 = some 0 := m_in0N (n := 2) (by omega) hy
      rw [hin, zb1_r, if_pos rfl]
      exact ⟨-1, by rw [if_neg (show ¬ x2 = (0 : Int32) from hz 0 (by omega)), if_neg (show ¬ x2 = (1 : Int32) from hz 1 (by omega)), if_neg (show ¬ x2 = (2 : Int32) from hz 2 (by omega))], rfl⟩
  · have hin : fX8_in x1 0 (nI n - 1) = some 0 := m_in0 (hx.imp id (fun q => (q_pred (by omega) _).mpr q))
    rw [hin, zb1_r, if_pos rfl]
    refine ⟨-1, ?_, rfl⟩
    by_cases h0 : x1 < 0
    · rw [if_pos h0]
    · rw [if_neg h0, if_neg (Int32.not_lt.mpr (hx.resolve_left h0))]

/-! forge, undo, sign, copy: one more, or one fewer -/
theorem q_full {n N : Nat} (hn : n ≤ N) (hN : N < 1000) : (n < N ∧ nI n < nI N ∧ ¬ nI n = nI N) ∨ (n = N ∧ ¬ nI n < nI N ∧ nI n = nI N) := by
  by_cases h : n < N
  · exact Or.inl ⟨h, nI_lt h (by omega), q_ne (by omega) (by omega) (by omega)⟩
  · have : n = N := by omega
    subst this
    exact Or.inr ⟨rfl, fun q => Int32.lt_irrefl q, rfl⟩
theorem q_1 (n : Nat) : nI n + 1 = nI (n + 1) := nI_add n 1
theorem rL_add {n ll lk lt lm lw s o} (h : rL n ll lk lt lm lw s o) {t g : Nat} (ht : t < 10) (hg : g < 8) (w l2 : Int32) (hn : n < 10) : rL (n + 1) (nI (n + 1)) l2 (upd lt n (nI t)) (upd lm n (nI g)) (upd lw n w) (upd (upd (upd (upd s (o + 21) l2) (o + 2 * n) (nI (t + 10 * g))) (o + 2 * n + 1) w) (o + 20) (nI (n + 1))) o := by
  obtain ⟨h1, h2, h3, h4, h5, h6⟩ := h
  refine ⟨by omega, by omega, rfl, ?_, ?_, fun k hk => ?_⟩
  · rw [q_up, if_pos rfl]
  · rw [q_up, if_neg (by omega), q_up, if_neg (by omega), q_up, if_neg (by omega), q_up, if_pos rfl]
  · by_cases e : k = n
    · subst e
      refine ⟨t, g, ht, hg, by rw [q_up, if_pos rfl], by rw [q_up, if_pos rfl], ?_, ?_⟩
      · rw [q_up, if_neg (by omega), q_up, if_neg (by omega), q_up, if_pos rfl]
      · rw [q_up, if_neg (by omega), q_up, if_pos rfl, q_up, if_pos rfl]
    · obtain ⟨t2, g2, a1, a2, a3, a4, a5, a6⟩ := h6 k (by omega)
      refine ⟨t2, g2, a1, a2, by rw [q_up, if_neg e]; exact a3, by rw [q_up, if_neg e]; exact a4, ?_, ?_⟩
      · rw [q_up, if_neg (by omega), q_up, if_neg (by omega), q_up, if_neg (by omega), q_up, if_neg (by omega)]; exact a5
      · rw [q_up, if_neg (by omega), q_up, if_neg (by omega), q_up, if_neg (by omega), q_up, if_neg (by omega), q_up, if_neg e]; exact a6
theorem q_same {s : Nat → Int32} {k : Nat} : upd s k (s k) = s := by
  funext j; rw [q_up]
  by_cases h : j = k
  · rw [if_pos h, h]
  · rw [if_neg h]
theorem m_puts {s : Nat → Int32} {n : Nat} (hn : n < 10) (e : s 20 = nI n) (x w : Int32) : fX8_puts s x w = some (upd (upd (upd s (2 * n) x) (2 * n + 1) w) 20 (nI (n + 1))) := by
  have h1 : (upd s (2 * n) x) 20 = nI n := by rw [q_up, if_neg (by omega)]; exact e
  have h2 : (upd (upd s (2 * n) x) (2 * n + 1) w) 20 = nI n := by rw [q_up, if_neg (by omega)]; exact h1
  rw [fX8_puts]
  simp only [e, q_m2, if_pos (q_in (k := 2 * n) (n := 22) (by omega) (by omega)), q_cl (n := 2 * n) (by omega), h1, show nI (2 * n) + (1 : Int32) = nI (2 * n + 1) from nI_add _ _, if_pos (q_in (k := 2 * n + 1) (n := 22) (by omega) (by omega)), q_cl (n := 2 * n + 1) (by omega), h2, q_1]
theorem x_isFull2 {n : Nat} (h : n < 10) : fX2_isFull (nI n) = some 0 := by rw [fX2_isFull, if_pos (show nI n < (10 : Int32) from nI_lt (b := 10) h (by omega))]
theorem x_add2 {n : Nat} (hn : n < 10) (lt lm lw : Nat → Int32) (x y w : Int32) : fX2_add (nI n) lt lm lw x y w = some (nI (n + 1), upd lt n x, upd lm n y, upd lw n w) := by
  rw [fX2_add, x_isFull2 hn, zb1_r, if_pos rfl]
  simp only [if_pos (q_in (k := n) (n := 10) (by omega) (by omega)), q_cl (n := n) (by omega), q_1]
theorem op_forge {n ll lk lt lm lw s} (h : rL n ll lk lt lm lw s 0) (th x1 x2 : Int32) : ∃ r n' ll' lt' lm' lw' s', fX7_forge ll lt lm lw x1 x2 = some (r, ll', lt', lm', lw') ∧ fX8_forge th s x1 x2 = some (r, 0, s') ∧ rL n' ll' lk lt' lm' lw' s' 0 := by
  have H := h
  obtain ⟨h1, h2, h3, h4, h5, h6⟩ := h
  subst h3
  rw [fX7_forge, fX8_forge]
  rcases q_isLine x1 x2 with ⟨t, g, ht, hg, rfl, rfl⟩ | ⟨hx, hm | ⟨hm, hm2⟩⟩
  · rw [x_isLine1 ht hg, zb1_r, if_neg z10, m_in9 ht, zb1_r, if_neg z10, m_in7 hg, zb1_r, if_neg z10, show s 20 = nI n from h4]
    rcases q_full h2 (by omega) with ⟨hn, hn2, hn3⟩ | ⟨hn, hn2, hn3⟩
    · rw [if_neg (show ¬ nI n = (10 : Int32) from hn3), x_isFull2 hn, zb1_r, if_pos rfl, x_add2 hn, zb4_r, m_puts hn h4, zb1_r, q_line]
      have := rL_add H ht hg (-9) lk hn
      rw [show upd s (0 + 21) lk = s from (by rw [← h5]; exact q_same)] at this
      simp only [Nat.zero_add] at this
      exact ⟨_, _, _, _, _, _, _, rfl, by rw [q_up, if_pos rfl], this⟩
    · rw [if_pos (show nI n = (10 : Int32) from hn3), fX2_isFull, if_neg (show ¬ nI n < (10 : Int32) from hn2), zb1_r, if_neg z10]
      exact ⟨_, _, _, _, _, _, _, rfl, rfl, H⟩
  · rw [hx, zb1_r, if_pos rfl, hm, zb1_r, if_pos rfl]; exact ⟨_, _, _, _, _, _, _, rfl, rfl, H⟩
  · rw [hx, zb1_r, if_pos rfl, hm, zb1_r, if_neg z10, hm2, zb1_r, if_pos rfl]; exact ⟨_, _, _, _, _, _, _, rfl, rfl, H⟩
theorem op_undo {n ll lk lt lm lw s} (h : rL n ll lk lt lm lw s 0) (th : Int32) : ∃ r n' ll' s', fX7_undo ll = some (r, ll') ∧ fX8_undo th s = some (r, 0, s') ∧ rL n' ll' lk lt lm lw s' 0 := by
  have H := h
  obtain ⟨h1, h2, h3, h4, h5, h6⟩ := h
  subst h3
  rw [fX7_undo, fX8_undo, show s 20 = nI n from h4]
  by_cases e : n = 1
  · subst e
    exact ⟨-2, 1, _, s, rfl, rfl, H⟩
  · rw [if_pos (show (1 : Int32) < nI n from nI_lt (a := 1) (by omega) (by omega)), if_neg (show ¬ nI n = (1 : Int32) from q_ne (b := 1) (by omega) (by omega) e)]
    obtain ⟨m, rfl⟩ : ∃ m, n = m + 1 := ⟨n - 1, by omega⟩
    rw [show nI (m + 1) - (1 : Int32) = nI m from nI_pred m]
    refine ⟨_, m, _, _, rfl, by rw [q_up, if_pos rfl], by omega, by omega, rfl, by rw [q_up, if_pos (by omega)], by rw [q_up, if_neg (by omega)]; exact h5, fun k hk => ?_⟩
    obtain ⟨t, g, a1, a2, a3, a4, a5, a6⟩ := h6 k (by omega)
    exact ⟨t, g, a1, a2, a3, a4, by rw [q_up, if_neg (by omega)]; exact a5, by rw [q_up, if_neg (by omega)]; exact a6⟩
