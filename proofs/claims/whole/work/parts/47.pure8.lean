/-! rate -/
theorem q_t10 (T : Int64) : T + 10 + 1 = T + 11 := by rw [Int64.add_assoc]; congr 1
theorem q_t100 (T : Int64) : T + 100 + 1 = T + 101 := by rw [Int64.add_assoc]; congr 1
theorem q_t1000 (T : Int64) : T + 1000 + 10 + 1 = T + 1011 := by rw [Int64.add_assoc, Int64.add_assoc]; congr 1
theorem q_t10000 (T : Int64) : T + 10000 + 100 + 1 = T + 10101 := by rw [Int64.add_assoc, Int64.add_assoc]; exact congrArg (fun z => T + z) (by decide +kernel)
theorem q_t100000 (T : Int64) : T + 100000 + 1 = T + 100001 := by rw [Int64.add_assoc]; exact congrArg (fun z => T + z) (by decide +kernel)
theorem op_rate {no oc le se dr ke cl ck} (hO : rO no oc le se dr ke cl ck) (fu : Nat) (hfu : 100 ≤ fu) (th x1 x2 : Int32) (T : Int64) : ∃ r T', fX7_rate T oc le se dr ke x1 x2 = some (r, T') ∧ fX8_rate fu th T cl ck x1 x2 = some (r, 0, T') := by
  obtain ⟨o1, o2, o3, o4⟩ := hO
  subst o2; subst o3
  rw [fX7_rate, fX8_rate]
  rcases q_what x2 no (by omega) with ⟨c, hc, rfl⟩ | ⟨hx, -⟩
  · obtain ⟨a, b, d, k, ha, hb, hd, hk, e1, e2, e3, e4, e5, e6, e7, e8⟩ := o4 c hc
    rw [if_neg (nI_pos (by omega)), if_neg (nI_ge hc (by omega)), m_isClerk1 o1 hc]
    simp only [if_pos (q_in (k := c) (n := 6) (by omega) (by omega)), q_cl (n := c) (by omega), e1, e2, e3, e4, q_m4, show nI (4 * c) + (1 : Int32) = nI (4 * c + 1) from nI_add _ _, show nI (4 * c) + (2 : Int32) = nI (4 * c + 2) from nI_add _ _, if_pos (q_in (k := 4 * c) (n := 48) (by omega) (by omega)), if_pos (q_in (k := 4 * c + 1) (n := 48) (by omega) (by omega)), if_pos (q_in (k := 4 * c + 2) (n := 48) (by omega) (by omega)), q_cl (n := 4 * c) (by omega), q_cl (n := 4 * c + 1) (by omega), q_cl (n := 4 * c + 2) (by omega), e5, e6, e7, m_ones (fu := fu) (show b < 256 by omega) (by omega), m_ones (fu := fu) (show d < 256 by omega) (by omega), zb1_r, if_neg z10]
    rcases q_what x1 6 (by omega) with ⟨q, hq, rfl⟩ | ⟨hy, hz⟩
    · have hin : fX8_in (nI q) 0 5 = some 1 := m_inN (a := 0) (b := 5) (by omega) (by omega) (by omega)
      rw [hin, zb1_r, if_neg z10]
      match q, hq with
      | 0, _ =>
        rw [if_pos (show nI 0 = (0 : Int32) from rfl), if_pos (show nI 0 = (0 : Int32) from rfl), fX7_asClerk, zb2_r, fX8_rate_J130, if_pos (show nI 0 = (0 : Int32) from rfl)]
        exact ⟨_, _, rfl, rfl⟩
      | 1, _ =>
        rw [if_neg (show ¬ nI 1 = (0 : Int32) by decide), if_neg (show ¬ nI 1 = (0 : Int32) by decide), if_pos (show nI 1 = (1 : Int32) from rfl), if_pos (show nI 1 = (1 : Int32) from rfl), fX7_asTwin, fX7_asClerk, zb2_r, x_bits0 b (by omega), zb1_r, zb2_r, fX8_rate_J130, if_neg (show ¬ nI 1 = (0 : Int32) by decide), if_pos (show nI 1 = (1 : Int32) from rfl), q_t10]
        exact ⟨_, _, rfl, rfl⟩
      | 2, _ =>
        rw [if_neg (show ¬ nI 2 = (0 : Int32) by decide), if_neg (show ¬ nI 2 = (0 : Int32) by decide), if_neg (show ¬ nI 2 = (1 : Int32) by decide), if_neg (show ¬ nI 2 = (1 : Int32) by decide), if_pos (show nI 2 = (2 : Int32) from rfl), if_pos (show nI 2 = (2 : Int32) from rfl), fX7_asMocker, fX7_asClerk, zb2_r, x_bits0 d (by omega), zb1_r, zb2_r, fX8_rate_J130, if_neg (show ¬ nI 2 = (0 : Int32) by decide), if_neg (show ¬ nI 2 = (1 : Int32) by decide), if_pos (show nI 2 = (2 : Int32) from rfl), q_t100]
        exact ⟨_, _, rfl, rfl⟩
      | 3, _ =>
        rw [if_neg (show ¬ nI 3 = (0 : Int32) by decide), if_neg (show ¬ nI 3 = (0 : Int32) by decide), if_neg (show ¬ nI 3 = (1 : Int32) by decide), if_neg (show ¬ nI 3 = (1 : Int32) by decide), if_neg (show ¬ nI 3 = (2 : Int32) by decide), if_neg (show ¬ nI 3 = (2 : Int32) by decide), if_pos (show nI 3 = (3 : Int32) from rfl), if_pos (show nI 3 = (3 : Int32) from rfl), fX7_asConstant, fX7_asTwin, fX7_asClerk, zb2_r, x_bits0 b (by omega), zb1_r, zb2_r, zb2_r, fX8_rate_J130, if_neg (show ¬ nI 3 = (0 : Int32) by decide), if_neg (show ¬ nI 3 = (1 : Int32) by decide), if_neg (show ¬ nI 3 = (2 : Int32) by decide), if_pos (show nI 3 = (3 : Int32) from rfl), q_t1000]
        exact ⟨_, _, rfl, rfl⟩
      | 4, _ =>
        rw [if_neg (show ¬ nI 4 = (0 : Int32) by decide), if_neg (show ¬ nI 4 = (0 : Int32) by decide), if_neg (show ¬ nI 4 = (1 : Int32) by decide), if_neg (show ¬ nI 4 = (1 : Int32) by decide), if_neg (show ¬ nI 4 = (2 : Int32) by decide), if_neg (show ¬ nI 4 = (2 : Int32) by decide), if_neg (show ¬ nI 4 = (3 : Int32) by decide), if_neg (show ¬ nI 4 = (3 : Int32) by decide), if_pos (show nI 4 = (4 : Int32) from rfl), if_pos (show nI 4 = (4 : Int32) from rfl), fX7_asLeft, fX7_asMocker, fX7_asClerk, zb2_r, x_bits0 d (by omega), zb1_r, zb2_r, zb2_r, fX8_rate_J130, if_neg (show ¬ nI 4 = (0 : Int32) by decide), if_neg (show ¬ nI 4 = (1 : Int32) by decide), if_neg (show ¬ nI 4 = (2 : Int32) by decide), if_neg (show ¬ nI 4 = (3 : Int32) by decide), if_pos (show nI 4 = (4 : Int32) from rfl), q_t10000]
        exact ⟨_, _, rfl, rfl⟩
      | 5, _ =>
        rw [if_neg (show ¬ nI 5 = (0 : Int32) by decide), if_neg (show ¬ nI 5 = (0 : Int32) by decide), if_neg (show ¬ nI 5 = (1 : Int32) by decide), if_neg (show ¬ nI 5 = (1 : Int32) by decide), if_neg (show ¬ nI 5 = (2 : Int32) by decide), if_neg (show ¬ nI 5 = (2 : Int32) by decide), if_neg (show ¬ nI 5 = (3 : Int32) by decide), if_neg (show ¬ nI 5 = (3 : Int32) by decide), if_neg (show ¬ nI 5 = (4 : Int32) by decide), if_neg (show ¬ nI 5 = (4 : Int32) by decide), if_pos (show nI 5 = (5 : Int32) from rfl), fX7_asHasty, fX7_asClerk, zb2_r, zb2_r, fX8_rate_J130, if_neg (show ¬ nI 5 = (0 : Int32) by decide), if_neg (show ¬ nI 5 = (1 : Int32) by decide), if_neg (show ¬ nI 5 = (2 : Int32) by decide), if_neg (show ¬ nI 5 = (3 : Int32) by decide), if_neg (show ¬ nI 5 = (4 : Int32) by decide), q_t100000]
        simp only [q_m4, show nI (4 * c) + (3 : Int32) = nI (4 * c + 3) from nI_add _ _, if_pos (q_in (k := 4 * c + 3) (n := 48) (by omega) (by omega)), q_cl (n := 4 * c + 3) (by omega), e8]
        exact ⟨_, _, rfl, rfl⟩
      | q + 6, hq => omega
    · have hin : fX8_in x1 0 5 = some 0 := m_in0N (n := 5) (by omega) hy
      rw [hin, zb1_r, if_pos rfl, if_neg (show ¬ x1 = (0 : Int32) from hz 0 (by omega)), if_neg (show ¬ x1 = (1 : Int32) from hz 1 (by omega)), if_neg (show ¬ x1 = (2 : Int32) from hz 2 (by omega)), if_neg (show ¬ x1 = (3 : Int32) from hz 3 (by omega)), if_neg (show ¬ x1 = (4 : Int32) from hz 4 (by omega)), if_neg (show ¬ x1 = (5 : Int32) from hz 5 (by omega))]
      exact ⟨_, _, rfl, rfl⟩
  · refine ⟨-1000000, T, ?_, ?_⟩
    · by_cases h0 : x2 < 0
      · rw [if_pos h0]
      · rw [if_neg h0, if_pos (hx.resolve_left h0)]
    · rw [m_isClerk0 o1 hx]
      by_cases c : fX8_in x1 0 5 = some 1
      · rw [c, zb1_r, if_neg z10, zb1_r, if_pos rfl]
      · have : fX8_in x1 0 5 = some 0 := by
          rw [fX8_in] at c ⊢
          by_cases c1 : x1 < 0
          · rw [if_pos c1]
          · rw [if_neg c1] at c ⊢
            by_cases c2 : (5 : Int32) < x1
            · rw [if_pos c2]
            · rw [if_neg c2] at c; exact absurd rfl c
        rw [this, zb1_r, if_pos rfl]
/-! keep, back -/
def kpF (s kept : Nat → Int32) (a i : Nat) : Nat → Int32 := fun j => if 22 * a ≤ j ∧ j < 22 * a + i then s (j - 22 * a) else kept j
def bkF (kept s : Nat → Int32) (a i : Nat) : Nat → Int32 := fun j => if j < i then kept (22 * a + j) else s j
theorem m_keepL {s kept : Nat → Int32} {a : Nat} (ha : a < 2) (fu : Nat) (K : (Nat → Int32) → Option (Int32 × Int32 × (Nat → Int32) × (Nat → Int32))) : ∀ (j i f : Nat), i + j = 22 → j < f → fX8_keep_L18 fu (nI a) s K f (nI i) (kpF s kept a i) = K (kpF s kept a 22) := by
  intro j
  induction j with
  | zero =>
    intro i f hi hf
    obtain ⟨f, rfl⟩ : ∃ g, f = g + 1 := ⟨f - 1, by omega⟩
    rw [fX8_keep_L18, show i = 22 by omega, if_pos (show (22 : Int32) ≤ nI 22 by decide)]
  | succ j ih =>
    intro i f hi hf
    obtain ⟨f, rfl⟩ : ∃ g, f = g + 1 := ⟨f - 1, by omega⟩
    rw [fX8_keep_L18, if_neg (show ¬ (22 : Int32) ≤ nI i from nI_ge (b := 22) (by omega) (by omega))]
    have e : upd (kpF s kept a i) (22 * a + i) (s i) = kpF s kept a (i + 1) := by
      funext k
      rw [q_up, kpF, kpF]
      by_cases c : k = 22 * a + i
      · rw [if_pos c, if_pos (by omega)]; congr 1; omega
      · rw [if_neg c]
        by_cases c2 : 22 * a ≤ k ∧ k < 22 * a + i
        · rw [if_pos c2, if_pos (by omega)]
        · rw [if_neg c2, if_neg (by omega)]
    simp only [show (22 : Int32) * nI a = nI (22 * a) from q_mul 22 a, nI_add, q_1, if_pos (q_in (k := i) (n := 22) (by omega) (by omega)), if_pos (q_in (k := 22 * a + i) (n := 44) (by omega) (by omega)), q_cl (n := i) (by omega), q_cl (n := 22 * a + i) (by omega), e]
    exact ih (i + 1) f (by omega) (by omega)
theorem m_backL {s kept : Nat → Int32} {a : Nat} (ha : a < 2) (fu : Nat) (K : (Nat → Int32) → Option (Int32 × Int32 × (Nat → Int32))) : ∀ (j i f : Nat), i + j = 22 → j < f → fX8_back_L30 fu (nI a) kept K f (nI i) (bkF kept s a i) = K (bkF kept s a 22) := by
  intro j
  induction j with
  | zero =>
    intro i f hi hf
    obtain ⟨f, rfl⟩ : ∃ g, f = g + 1 := ⟨f - 1, by omega⟩
    rw [fX8_back_L30, show i = 22 by omega, if_pos (show (22 : Int32) ≤ nI 22 by decide)]
  | succ j ih =>
    intro i f hi hf
    obtain ⟨f, rfl⟩ : ∃ g, f = g + 1 := ⟨f - 1, by omega⟩
    rw [fX8_back_L30, if_neg (show ¬ (22 : Int32) ≤ nI i from nI_ge (b := 22) (by omega) (by omega))]
    have e : upd (bkF kept s a i) i (kept (22 * a + i)) = bkF kept s a (i + 1) := by
      funext k
      rw [q_up, bkF, bkF]
      by_cases c : k = i
      · rw [if_pos c, if_pos (by omega), c]
      · rw [if_neg c]
        by_cases c2 : k < i
        · rw [if_pos c2, if_pos (by omega)]
        · rw [if_neg c2, if_neg (by omega)]
    simp only [show (22 : Int32) * nI a = nI (22 * a) from q_mul 22 a, nI_add, q_1, if_pos (q_in (k := i) (n := 22) (by omega) (by omega)), if_pos (q_in (k := 22 * a + i) (n := 44) (by omega) (by omega)), q_cl (n := i) (by omega), q_cl (n := 22 * a + i) (by omega), e]
    exact ih (i + 1) f (by omega) (by omega)
theorem rL_cpy {n ll lk lt lm lw s o s' o'} (h : rL n ll lk lt lm lw s o) (e : ∀ j, j < 22 → s' (o' + j) = s (o + j)) (pt pm pw : Nat → Int32) : rL n ll lk (va_cpy lt pt 0 0 10) (va_cpy lm pm 0 0 10) (va_cpy lw pw 0 0 10) s' o' := by
  obtain ⟨h1, h2, h3, h4, h5, h6⟩ := h
  refine ⟨h1, h2, h3, (e 20 (by omega)).trans h4, (e 21 (by omega)).trans h5, fun k hk => ?_⟩
  obtain ⟨t, g, a1, a2, a3, a4, a5, a6⟩ := h6 k hk
  have q : ∀ (f p : Nat → Int32), va_cpy f p 0 0 10 k = f k := fun f p => by rw [va_cpy, if_pos (by omega)]; congr 1; omega
  refine ⟨t, g, a1, a2, (q _ _).trans a3, (q _ _).trans a4, ?_, ?_⟩
  · rw [e _ (by omega), ← a5]
  · rw [Nat.add_assoc, e _ (by omega), q, ← a6, Nat.add_assoc]
theorem rL_same {n ll lk lt lm lw s o s'} (h : rL n ll lk lt lm lw s o) (e : ∀ j, j < 22 → s' (o + j) = s (o + j)) : rL n ll lk lt lm lw s' o := by
  obtain ⟨h1, h2, h3, h4, h5, h6⟩ := h
  refine ⟨h1, h2, h3, (e 20 (by omega)).trans h4, (e 21 (by omega)).trans h5, fun k hk => ?_⟩
  obtain ⟨t, g, a1, a2, a3, a4, a5, a6⟩ := h6 k hk
  refine ⟨t, g, a1, a2, a3, a4, ?_, ?_⟩
  · rw [e _ (by omega), ← a5]
  · rw [Nat.add_assoc, e _ (by omega), ← a6, Nat.add_assoc]
theorem op_keep {n ll lk lt lm lw s al ak at_ am aw bl bk bt bm bw kept isK} (h : rL n ll lk lt lm lw s 0) (hA : rI 0 al ak at_ am aw kept isK) (hB : rI 1 bl bk bt bm bw kept isK) (fu : Nat) (hfu : 100 ≤ fu) (th x : Int32) : ∃ r al' ak' at' am' aw' bl' bk' bt' bm' bw' kept' isK', fX7_keep ll lk lt lm lw al ak at_ am aw bl bk bt bm bw x = some (r, al', ak', at', am', aw', bl', bk', bt', bm', bw') ∧ fX8_keep fu th s kept isK x = some (r, 0, kept', isK') ∧ rI 0 al' ak' at' am' aw' kept' isK' ∧ rI 1 bl' bk' bt' bm' bw' kept' isK' := by
  have e2 : s 20 = nI n := h.2.2.2.1
  have e1 := h.2.2.1
  subst e1
  rw [fX7_keep, fX8_keep]
  rcases q_what x 2 (by omega) with ⟨q, hq, rfl⟩ | ⟨hy, hz⟩
  · have hin : fX8_in (nI q) 0 1 = some 1 := m_inN (a := 0) (b := 1) (by omega) (by omega) (by omega)
    have hL := fun K => m_keepL (s := s) (kept := kept) hq fu K 22 0 fu (by omega) (by omega)
    rw [show kpF s kept q 0 = kept from (by funext j; rw [kpF, if_neg (by omega)]), show nI 0 = (0 : Int32) from rfl] at hL
    rw [hin, zb1_r, if_neg z10, hL, if_neg (nI_pos (by omega)), if_pos (show nI q < (2 : Int32) from nI_lt (b := 2) (by omega) (by omega)), if_pos (q_in (by omega) (by omega)), q_cl (by omega), e2]
    match q, hq with
    | 0, _ =>
      rw [if_pos (show nI 0 = (0 : Int32) from rfl), fX2_become, zb5_r]
      refine ⟨_, _, _, _, _, _, _, _, _, _, _, _, _, rfl, rfl, Or.inr ⟨by rw [q_up, if_pos rfl], n, rL_cpy h (fun j hj => ?_) _ _ _⟩, ?_⟩
      · rw [kpF, if_pos (by omega)]; congr 1
      · refine hB.imp (fun q => ⟨by rw [q_up, if_neg (by omega)]; exact q.1, q.2⟩) (fun q => ⟨by rw [q_up, if_neg (by omega)]; exact q.1, ?_⟩)
        obtain ⟨m, hm⟩ := q.2
        exact ⟨m, rL_same hm (fun j hj => by rw [kpF, if_neg (by omega)])⟩
    | 1, _ =>
      rw [if_neg (show ¬ nI 1 = (0 : Int32) by decide), if_pos (show nI 1 = (1 : Int32) from rfl), fX2_become, zb5_r]
      refine ⟨_, _, _, _, _, _, _, _, _, _, _, _, _, rfl, rfl, ?_, Or.inr ⟨by rw [q_up, if_pos rfl], n, rL_cpy h (fun j hj => ?_) _ _ _⟩⟩
      · refine hA.imp (fun q => ⟨by rw [q_up, if_neg (by omega)]; exact q.1, q.2⟩) (fun q => ⟨by rw [q_up, if_neg (by omega)]; exact q.1, ?_⟩)
        obtain ⟨m, hm⟩ := q.2
        exact ⟨m, rL_same hm (fun j hj => by rw [kpF, if_neg (by omega)])⟩
      · rw [kpF, if_pos (by omega)]; congr 1; omega
    | q + 2, hq => omega
  · have hin : fX8_in x 0 1 = some 0 := m_in0N (n := 1) (by omega) hy
    rw [hin, zb1_r, if_pos rfl]
    refine ⟨-1, _, _, _, _, _, _, _, _, _, _, kept, isK, ?_, rfl, hA, hB⟩
    by_cases h0 : x < 0
    · rw [if_pos h0]
    · rw [if_neg h0, if_neg (show ¬ x < (2 : Int32) from Int32.not_lt.mpr (hy.resolve_left h0))]
theorem bk_become {n ll lk lt lm lw s a al ak at_ am aw kept} (ha : a < 2) (h : rL n al ak at_ am aw kept (22 * a)) : ∃ n' : Nat, fX2_become ll lk lt lm lw al ak at_ am aw = some (al, ak, va_cpy at_ lt 0 0 10, va_cpy am lm 0 0 10, va_cpy aw lw 0 0 10) ∧ (bkF kept s a 22) 20 = al ∧ rL n al ak (va_cpy at_ lt 0 0 10) (va_cpy am lm 0 0 10) (va_cpy aw lw 0 0 10) (bkF kept s a 22) 0 := by
  refine ⟨n, rfl, ?_, rL_cpy h (fun j hj => ?_) _ _ _⟩
  · rw [bkF, if_pos (by omega), h.2.2.2.1, h.2.2.1]
  · rw [bkF, if_pos (by omega)]; congr 1; omega
theorem x_blank0 : fX2_isBlank 0 = some 1 := rfl
theorem x_blankL {n ll lk lt lm lw s o} (h : rL n ll lk lt lm lw s o) : fX2_isBlank ll = some 0 := by
  obtain ⟨h1, h2, h3, -⟩ := h
  subst h3
  rw [fX2_isBlank, if_pos (show (0 : Int32) < nI n from nI_lt (a := 0) (by omega) (by omega))]
theorem op_back {n ll lk lt lm lw s al ak at_ am aw bl bk bt bm bw kept isK} (h : rL n ll lk lt lm lw s 0) (hA : rI 0 al ak at_ am aw kept isK) (hB : rI 1 bl bk bt bm bw kept isK) (fu : Nat) (hfu : 100 ≤ fu) (th x : Int32) : ∃ r n' ll' lk' lt' lm' lw' s', fX7_back ll lk lt lm lw al ak at_ am aw bl bk bt bm bw x = some (r, ll', lk', lt', lm', lw') ∧ fX8_back fu th s kept isK x = some (r, 0, s') ∧ rL n' ll' lk' lt' lm' lw' s' 0 := by
  rw [fX7_back, fX8_back]
  rcases q_what x 2 (by omega) with ⟨q, hq, rfl⟩ | ⟨hy, hz⟩
  · have hin : fX8_in (nI q) 0 1 = some 1 := m_inN (a := 0) (b := 1) (by omega) (by omega) (by omega)
    have hL := fun K => m_backL (s := s) (kept := kept) hq fu K 22 0 fu (by omega) (by omega)
    rw [show bkF kept s q 0 = s from (by funext j; rw [bkF, if_neg (by omega)]), show nI 0 = (0 : Int32) from rfl] at hL
    rw [hin, zb1_r, if_neg z10, hL, if_neg (nI_pos (by omega)), if_pos (show nI q < (2 : Int32) from nI_lt (b := 2) (by omega) (by omega)), if_pos (q_in (by omega) (by omega)), q_cl (by omega)]
    match q, hq with
    | 0, _ =>
      rw [if_pos (show nI 0 = (0 : Int32) from rfl)]
      rcases hA with ⟨k1, k2⟩ | ⟨k1, m, hm⟩
      · rw [k1, k2, x_blank0, zb1_r, if_neg z10, if_pos rfl]
        exact ⟨_, _, _, _, _, _, _, _, rfl, rfl, h⟩
      · obtain ⟨n', b1, b2, b3⟩ := bk_become (ll := ll) (lk := lk) (lt := lt) (lm := lm) (lw := lw) (s := s) (a := 0) (by omega) hm
        rw [k1, x_blankL hm, zb1_r, if_pos rfl, if_pos (show nI 0 = (0 : Int32) from rfl), b1, zb5_r, if_neg z10, b2]
        exact ⟨_, _, _, _, _, _, _, _, rfl, rfl, b3⟩
    | 1, _ =>
      rw [if_neg (show ¬ nI 1 = (0 : Int32) by decide), if_pos (show nI 1 = (1 : Int32) from rfl)]
      rcases hB with ⟨k1, k2⟩ | ⟨k1, m, hm⟩
      · rw [k1, k2, x_blank0, zb1_r, if_neg z10, if_pos rfl]
        exact ⟨_, _, _, _, _, _, _, _, rfl, rfl, h⟩
      · obtain ⟨n', b1, b2, b3⟩ := bk_become (ll := ll) (lk := lk) (lt := lt) (lm := lm) (lw := lw) (s := s) (a := 1) (by omega) hm
        rw [k1, x_blankL hm, zb1_r, if_pos rfl, if_neg (show ¬ nI 1 = (0 : Int32) by decide), if_pos (show nI 1 = (1 : Int32) from rfl), b1, zb5_r, if_neg z10, b2]
        exact ⟨_, _, _, _, _, _, _, _, rfl, rfl, b3⟩
    | q + 2, hq => omega
  · have hin : fX8_in x 0 1 = some 0 := m_in0N (n := 1) (by omega) hy
    rw [hin, zb1_r, if_pos rfl]
    refine ⟨-1, n, _, _, _, _, _, s, ?_, rfl, h⟩
    by_cases h0 : x < 0
    · rw [if_pos h0]
    · rw [if_neg h0, if_neg (show ¬ x < (2 : Int32) from Int32.not_lt.mpr (hy.resolve_left h0))]
