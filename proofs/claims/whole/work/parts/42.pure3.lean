/-! sign, copy -/
theorem x_add5 {n : Nat} (hn : n < 8) (a b c d : Nat → Int32) (x y z w : Int32) : fX5_add (nI n) a b c d x y z w = some (nI (n + 1), upd a n x, upd b n y, upd c n z, upd d n w) := by
  rw [fX5_add, fX5_isFull, if_pos (show nI n < (8 : Int32) from nI_lt (b := 8) hn (by omega)), zb1_r, if_pos rfl]
  simp only [if_pos (q_in (k := n) (n := 8) (by omega) (by omega)), q_cl (n := n) (by omega), q_1]
theorem rS_add {n sc st sm tt tm sg sd} (h : rS n sc st sm tt tm sg sd) {t g t2 g2 : Nat} (ht : t < 10) (hg : g < 8) (ht2 : t2 < 10) (hg2 : g2 < 8) (hn : n < 8) : rS (n + 1) (nI (n + 1)) (upd st n (nI t)) (upd sm n (nI g)) (upd tt n (nI t2)) (upd tm n (nI g2)) (nI (n + 1)) (upd (upd sd (2 * n) (nI (t + 10 * g))) (2 * n + 1) (nI (t2 + 10 * g2))) := by
  obtain ⟨h1, h2, h3, h6⟩ := h
  refine ⟨by omega, rfl, rfl, fun k hk => ?_⟩
  by_cases e : k = n
  · subst e
    refine ⟨t, g, t2, g2, ht, hg, ht2, hg2, by rw [q_up, if_pos rfl], by rw [q_up, if_pos rfl], by rw [q_up, if_pos rfl], by rw [q_up, if_pos rfl], ?_, ?_⟩
    · rw [q_up, if_neg (by omega), q_up, if_pos rfl]
    · rw [q_up, if_pos rfl]
  · obtain ⟨a, b, c, d, a1, a2, a3, a4, a5, a6, a7, a8, a9, a10⟩ := h6 k (by omega)
    refine ⟨a, b, c, d, a1, a2, a3, a4, by rw [q_up, if_neg e]; exact a5, by rw [q_up, if_neg e]; exact a6, by rw [q_up, if_neg e]; exact a7, by rw [q_up, if_neg e]; exact a8, ?_, ?_⟩
    · rw [q_up, if_neg (by omega), q_up, if_neg (by omega)]; exact a9
    · rw [q_up, if_neg (by omega), q_up, if_neg (by omega)]; exact a10
theorem op_sign {n sc st sm tt tm sg sd} (h : rS n sc st sm tt tm sg sd) (th x1 x2 x3 x4 : Int32) : ∃ r n' sc' st' sm' tt' tm' sg' sd', fX7_sign sc st sm tt tm x1 x2 x3 x4 = some (r, sc', st', sm', tt', tm') ∧ fX8_sign th sg sd x1 x2 x3 x4 = some (r, 0, sg', sd') ∧ rS n' sc' st' sm' tt' tm' sg' sd' := by
  have H := h
  obtain ⟨h1, h2, h3, h6⟩ := h
  subst h2; subst h3
  rw [fX7_sign, fX8_sign]
  rcases q_isLine x1 x2 with ⟨t, g, ht, hg, rfl, rfl⟩ | ⟨hx, hm | ⟨hm, hm2⟩⟩
  · rw [x_isLine1 ht hg, zb1_r, if_neg z10, m_in9 ht, zb1_r, if_neg z10, m_in7 hg, zb1_r, if_neg z10]
    rcases q_isLine x3 x4 with ⟨t2, g2, ht2, hg2, rfl, rfl⟩ | ⟨hx, hm | ⟨hm, hm2⟩⟩
    · rw [x_isLine1 ht2 hg2, zb1_r, if_neg z10, m_in9 ht2, zb1_r, if_neg z10, m_in7 hg2, zb1_r, if_neg z10]
      rcases q_full h1 (by omega) with ⟨hn, hn2, hn3⟩ | ⟨hn, hn2, hn3⟩
      · rw [if_neg (show ¬ nI n = (8 : Int32) from hn3), fX5_isFull, if_pos (show nI n < (8 : Int32) from hn2), zb1_r, if_pos rfl, x_add5 hn, zb5_r]
        simp only [q_m2, if_pos (q_in (k := 2 * n) (n := 16) (by omega) (by omega)), q_cl (n := 2 * n) (by omega), show nI (2 * n) + (1 : Int32) = nI (2 * n + 1) from nI_add _ _, if_pos (q_in (k := 2 * n + 1) (n := 16) (by omega) (by omega)), q_cl (n := 2 * n + 1) (by omega), q_1, q_line]
        exact ⟨_, _, _, _, _, _, _, _, _, rfl, rfl, rS_add H ht hg ht2 hg2 hn⟩
      · rw [if_pos (show nI n = (8 : Int32) from hn3), fX5_isFull, if_neg (show ¬ nI n < (8 : Int32) from hn2), zb1_r, if_neg z10]
        exact ⟨_, _, _, _, _, _, _, _, _, rfl, rfl, H⟩
    · rw [hx, zb1_r, if_pos rfl, hm, zb1_r, if_pos rfl]; exact ⟨_, _, _, _, _, _, _, _, _, rfl, rfl, H⟩
    · rw [hx, zb1_r, if_pos rfl, hm, zb1_r, if_neg z10, hm2, zb1_r, if_pos rfl]; exact ⟨_, _, _, _, _, _, _, _, _, rfl, rfl, H⟩
  · rw [hx, zb1_r, if_pos rfl, hm, zb1_r, if_pos rfl]; exact ⟨_, _, _, _, _, _, _, _, _, rfl, rfl, H⟩
  · rw [hx, zb1_r, if_pos rfl, hm, zb1_r, if_neg z10, hm2, zb1_r, if_pos rfl]; exact ⟨_, _, _, _, _, _, _, _, _, rfl, rfl, H⟩
theorem op_copy {n cc cs cp sl} (h : rC n cc cs cp sl) (th x : Int32) : ∃ r n' cc' cs' cp' sl', fX7_copy cc cs x = some (r, cc', cs') ∧ fX8_copy th cp sl x = some (r, 0, cp', sl') ∧ rC n' cc' cs' cp' sl' := by
  have H := h
  obtain ⟨h1, h2, h3, h6⟩ := h
  subst h2; subst h3
  rw [fX7_copy, fX8_copy]
  rcases q_what x 256 (by omega) with ⟨v, hv, rfl⟩ | ⟨hx, -⟩
  · have hin : fX8_in (nI v) 0 255 = some 1 := m_inN (a := 0) (b := 255) (by omega) (by omega) (by omega)
    rw [hin, zb1_r, if_neg z10, if_neg (nI_pos (by omega)), if_pos (show nI v ≤ (255 : Int32) from nI_le (b := 255) (by omega) (by omega))]
    rcases q_full h1 (by omega) with ⟨hn, hn2, hn3⟩ | ⟨hn, hn2, hn3⟩
    · rw [if_neg (show ¬ nI n = (8 : Int32) from hn3), fX1_isFull, if_pos (show nI n < (8 : Int32) from hn2), zb1_r, if_pos rfl, fX1_add, fX1_isFull, if_pos (show nI n < (8 : Int32) from hn2), zb1_r, if_pos rfl]
      simp only [if_pos (q_in (k := n) (n := 8) (by omega) (by omega)), q_cl (n := n) (by omega), q_1, zb2_r, show nI (n + 1) - (1 : Int32) = nI n from nI_pred n]
      refine ⟨_, n + 1, _, _, _, _, rfl, rfl, by omega, rfl, rfl, fun k hk => ?_⟩
      by_cases e : k = n
      · subst e
        exact ⟨v, hv, by rw [q_up, if_pos rfl], by rw [q_up, if_pos rfl]⟩
      · obtain ⟨u, a1, a2, a3⟩ := h6 k (by omega)
        exact ⟨u, a1, by rw [q_up, if_neg e]; exact a2, by rw [q_up, if_neg e]; exact a3⟩
    · rw [if_pos (show nI n = (8 : Int32) from hn3), fX1_isFull, if_neg (show ¬ nI n < (8 : Int32) from hn2), zb1_r, if_neg z10]
      exact ⟨_, _, _, _, _, _, rfl, rfl, H⟩
  · have hin : fX8_in x 0 255 = some 0 := m_in0N (n := 255) (by omega) hx
    rw [hin, zb1_r, if_pos rfl]
    refine ⟨-1, n, nI n, cs, nI n, sl, ?_, rfl, H⟩
    by_cases h0 : x < 0
    · rw [if_pos h0]
    · rw [if_neg h0, if_neg (Int32.not_le.mpr (show (255 : Int32) < x from (q_above (n := 255) (by omega) hx).resolve_left h0))]
/-! write -/
theorem q_m16a : ∀ i, i < 16 → (65535#32).getLsbD i = true := by decide
theorem q_m16b : ∀ i, i < 32 → 16 ≤ i → (65535#32).getLsbD i = false := by decide
theorem q_draw (x : Int32) : ((x.toUInt32 >>> ((16 : Int32).toUInt32 &&& Int32.toUInt32 31)).toInt32) = (x >>> ((16 : Int32) &&& 31)) &&& (65535 : Int32) := by
  apply Int32.toBitVec_inj.mp
  have e1 : ((16 : Int32).toUInt32 &&& Int32.toUInt32 31) = 16 := by decide
  have e2 : ((16 : Int32) &&& 31) = 16 := by decide
  rw [e1, e2, Int32.toBitVec_and, Int32.toBitVec_shiftRight]
  have a1 : ((x.toUInt32 >>> (16 : UInt32)).toInt32).toBitVec = x.toBitVec >>> 16 := rfl
  have a2 : (x.toBitVec.sshiftRight' ((16 : Int32).toBitVec.smod 32)) = x.toBitVec.sshiftRight 16 := rfl
  rw [a1, a2, show (65535 : Int32).toBitVec = 65535#32 from rfl]
  apply BitVec.eq_of_getLsbD_eq
  intro i hi
  rw [BitVec.getLsbD_ushiftRight, BitVec.getLsbD_and, BitVec.getLsbD_sshiftRight]
  by_cases h : i < 16
  · rw [q_m16a i h, if_pos (by omega)]; simp; omega
  · rw [q_m16b i hi (by omega), BitVec.getLsbD_of_ge _ _ (by omega)]; simp
theorem x_isBlank {m : Nat} (hm : m < 10) : fX2_isBlank (nI (m + 1)) = some 0 := by rw [fX2_isBlank, if_pos (show (0 : Int32) < nI (m + 1) from nI_lt (a := 0) (by omega) (by omega))]
theorem x_lastTone {m : Nat} (hm : m < 10) (lt : Nat → Int32) : fX2_lastTone (nI (m + 1)) lt = some (lt m) := by
  rw [fX2_lastTone, x_isBlank hm, zb1_r, if_pos rfl, show nI (m + 1) - (1 : Int32) = nI m from nI_pred m]
  simp only [if_pos (q_in (k := m) (n := 10) (by omega) (by omega)), q_cl (n := m) (by omega)]
theorem x_lastMarks {m : Nat} (hm : m < 10) (lt : Nat → Int32) : fX2_lastMarks (nI (m + 1)) lt = some (lt m) := by
  rw [fX2_lastMarks, x_isBlank hm, zb1_r, if_pos rfl, show nI (m + 1) - (1 : Int32) = nI m from nI_pred m]
  simp only [if_pos (q_in (k := m) (n := 10) (by omega) (by omega)), q_cl (n := m) (by omega)]
theorem q_sub {a b : Nat} (h : b ≤ a) : nI a - nI b = nI (a - b) := by
  rw [show nI a = nI (a - b) + nI b from (by rw [nI_add]; congr 1; omega), Int32.add_sub_cancel]
theorem q_2m2 (m : Nat) : (2 : Int32) * nI (m + 1) - 2 = nI (2 * m) := by
  rw [q_m2]
  exact (q_sub (a := 2 * (m + 1)) (b := 2) (by omega)).trans (by congr 1)
theorem m_last {s : Nat → Int32} {m : Nat} (hm : m < 10) (e : s 20 = nI (m + 1)) : fX8_last s = some (s (2 * m)) := by
  rw [fX8_last, e, q_2m2]
  simp only [if_pos (q_in (k := 2 * m) (n := 22) (by omega) (by omega)), q_cl (n := 2 * m) (by omega)]
/-- the line put behind the last one, on either side -/
theorem wr_end {m lk lt lm lw s} {l2 : Int32} (H : rL (m + 1) (nI (m + 1)) lk lt lm lw s 0) (hn : m + 1 < 10) (w : Int32) {t g : Nat} (ht : t < 10) (hg : g < 8) (th : Int32) : ∃ s', fX7_write_J73 w (nI t) (nI g) (nI (m + 1)) l2 lt lm lw = some (nI (t + 10 * g), nI (m + 1 + 1), l2, upd lt (m + 1) (nI t), upd lm (m + 1) (nI g), upd lw (m + 1) w) ∧ fX8_write_J99 w (nI (t + 10 * g)) th (upd s 21 l2) = some (nI (t + 10 * g), th, s') ∧ rL (m + 1 + 1) (nI (m + 1 + 1)) l2 (upd lt (m + 1) (nI t)) (upd lm (m + 1) (nI g)) (upd lw (m + 1) w) s' 0 := by
  have e1 : (upd s 21 l2) 20 = nI (m + 1) := by rw [q_up, if_neg (by omega)]; exact H.2.2.2.1
  refine ⟨_, ?_, ?_, rL_add H ht hg w l2 hn⟩
  · rw [fX7_write_J73, x_add2 hn, zb4_r, fX7_told, zb1_r, q_line]
  · have e2 : (upd (upd (upd (upd s (0 + 21) l2) (0 + 2 * (m + 1)) (nI (t + 10 * g))) (0 + 2 * (m + 1) + 1) w) (0 + 20) (nI (m + 1 + 1))) 20 = nI (m + 1 + 1) := by rw [q_up, if_pos rfl]
    have e3 := m_last hn e2
    rw [fX8_write_J99, m_puts hn e1, zb1_r]
    simp only [Nat.zero_add] at e2 e3 ⊢
    rw [e3, zb1_r, q_up, if_neg (by omega), q_up, if_neg (by omega), q_up, if_pos rfl]
theorem op_write {n ll lk lt lm lw s no oc le se dr ke cl ck} (h : rL n ll lk lt lm lw s 0) (hO : rO no oc le se dr ke cl ck) (th x1 : Int32) : ∃ r n' ll' lk' lt' lm' lw' s', fX7_write ll lk lt lm lw oc le se dr ke x1 = some (r, ll', lk', lt', lm', lw') ∧ fX8_write th cl ck s x1 = some (r, 0, s') ∧ rL n' ll' lk' lt' lm' lw' s' 0 := by
  have H := h
  obtain ⟨h1, h2, h3, h4, h5, h6⟩ := h
  subst h3
  obtain ⟨o1, o2, o3, o4⟩ := hO
  subst o2; subst o3
  obtain ⟨m, rfl⟩ : ∃ m, n = m + 1 := ⟨n - 1, by omega⟩
  rcases q_what x1 no (by omega) with ⟨c, hc, rfl⟩ | ⟨hx, -⟩
  · obtain ⟨a, b, d, k, ha, hb, hd, hk, e1, e2, e3, e4, e5, e6, e7, e8⟩ := o4 c hc
    rw [fX7_write, fX8_write, m_isClerk1 o1 hc, zb1_r, if_neg z10, if_neg (nI_pos (by omega)), if_neg (nI_ge hc (by omega))]
    simp only [if_pos (q_in (k := c) (n := 6) (by omega) (by omega)), q_cl (n := c) (by omega), show (4 : Int32) * nI c + 3 = nI (4 * c + 3) from q_m4k c 3, if_pos (q_in (k := 4 * c + 3) (n := 48) (by omega) (by omega)), q_cl (n := 4 * c + 3) (by omega), e1, e2, e3, e4, e8, show s 20 = nI (m + 1) from h4]
    rcases q_full h2 (by omega) with ⟨hn, hn2, hn3⟩ | ⟨hn, hn2, hn3⟩
    · obtain ⟨t, g, ht, hg, a1, a2, a3, a4⟩ := h6 m (by omega)
      have l1 : (upd s 21 (lk * (1103515245 : Int32) + (12345 : Int32))) 20 = nI (m + 1) := by rw [q_up, if_neg (by omega)]; exact h4
      have l2 : (upd s 21 (lk * (1103515245 : Int32) + (12345 : Int32))) (2 * m) = nI (t + 10 * g) := by rw [q_up, if_neg (by omega), ← a3]; congr 1; omega
      rw [if_neg (show ¬ nI (m + 1) = (10 : Int32) from hn3), x_isFull2 hn, zb1_r, if_pos rfl, x_lastTone (by omega), zb1_r, x_lastMarks (by omega), zb1_r, fX2_draw, zb2_r, q_draw, a1, a2, show s 21 = lk from h5, m_last (by omega) l1, l2, zb1_r]
      simp only [show (upd s 21 (lk * (1103515245 : Int32) + (12345 : Int32))) 21 = lk * (1103515245 : Int32) + (12345 : Int32) from (by rw [q_up, if_pos rfl])]
      by_cases hk2 : nI k ≤ ((lk * (1103515245 : Int32) + (12345 : Int32)) >>> ((16 : Int32) &&& 31) &&& (65535 : Int32)) - ((lk * (1103515245 : Int32) + (12345 : Int32)) >>> ((16 : Int32) &&& 31) &&& (65535 : Int32)) / (10 : Int32) * (10 : Int32)
      · rw [if_pos hk2, if_pos hk2]
        obtain ⟨s', w1, w2, w3⟩ := wr_end (l2 := lk * (1103515245 : Int32) + (12345 : Int32)) H hn (nI c) ht hg 0
        exact ⟨_, _, _, _, _, _, _, s', w1, w2, w3⟩
      · rw [if_neg hk2, if_neg hk2, x_tone ha ht, zb1_r, x_marks hb hd hg, zb1_r, zb1_r, m_made (by omega) e5 e6 e7 ha hb hd ht hg, zb1_r]
        obtain ⟨s', w1, w2, w3⟩ := wr_end (l2 := lk * (1103515245 : Int32) + (12345 : Int32)) H hn (nI c) (t := tn t a) (g := mk g b d) tn_lt (mk_lt hg hb) 0
        exact ⟨_, _, _, _, _, _, _, s', w1, w2, w3⟩
    · rw [if_pos (show nI (m + 1) = (10 : Int32) from hn3), fX2_isFull, if_neg (show ¬ nI (m + 1) < (10 : Int32) from hn2), zb1_r, if_neg z10]
      exact ⟨_, _, _, _, _, _, _, _, rfl, rfl, H⟩
  · rw [fX8_write, m_isClerk0 o1 hx, zb1_r, if_pos rfl, fX7_write]
    refine ⟨-1, m + 1, nI (m + 1), lk, lt, lm, lw, s, ?_, rfl, H⟩
    by_cases h0 : x1 < 0
    · rw [if_pos h0]
    · rw [if_neg h0, if_pos (hx.resolve_left h0)]
