/-! chancery: a letter's item; the loop over the items -/
theorem item_letter {n B tb mt} (h : txR n B tb mt) (fu : Nat) (hfu : 1000 ≤ fu) {p : Nat} (hp : p ≤ n) {va : Int32} (hv : vaR n B p va) {K B0 : Int32 → Int32 → Int32 → Int32 → Int32 → Int32 → Int32 → Int32 → (Nat → Int32) → Option (Int32 × Int32 × Int32 × Int32 × Int32 × Int32 × Int32 × Int32 × Int32 × Int32 × Int32 × Int32 × Int32 × (Nat → Int32) × (Nat → Int32) × (Nat → Int32))} (l dc dl st num lt ft fm : Int32) (ck : Nat → Int32) :
    (∃ q t g va' num', p ≤ q ∧ q ≤ n ∧ tK n B q = 3 ∧ t < 10 ∧ g < 8 ∧ vaR n B (tN n B q) va' ∧ fX6_readFirstLine fu (nI n) (nI p) st num tb lt ft fm = some (1, nI (tN n B q), nI (tS n B q), num', 1, nI t, nI g) ∧ zb8 (fX8_readsItem fu (nI n) (nI (tN n B p)) (nI (mT n B p)) (nI (tS n B p)) va (-1) dc dl mt ck 1) (fun y1 y2 y3 y4 y5 y6 y7 y8 => fX8_chancery_J104 fu (nI n) mt K B0 l y1 y2 y3 y4 y5 y6 y7 y8) = B0 (l + 1) (nI (tN n B (tN n B q))) (nI (mT n B (tN n B q))) (nI (tS n B (tN n B q))) va' (-1) dc (nI (t + 10 * g)) ck)
    ∨ (∃ f xn nu k1 k2 k3 mn mk mp mv dl', f ≤ 200 ∧ fX6_readFirstLine fu (nI n) (nI p) st num tb lt ft fm = some (0, xn, nI f, nu, k1, k2, k3) ∧ zb8 (fX8_readsItem fu (nI n) (nI (tN n B p)) (nI (mT n B p)) (nI (tS n B p)) va (-1) dc dl mt ck 1) (fun y1 y2 y3 y4 y5 y6 y7 y8 => fX8_chancery_J104 fu (nI n) mt K B0 l y1 y2 y3 y4 y5 y6 y7 y8) = B0 (l + 1) mn mk mp mv (nI f) dc dl' ck) := by
  have h1 := h.1
  have hp1 := (tN_le (B := B) hp).2.1
  have hp2 := (tN_le (B := B) hp1).2.1
  have g0 := tS_le (B := B) hp
  have g1 := tS_le (B := B) hp1
  have g2 := tS_le (B := B) hp2
  have l0 := (tN_le (B := B) hp).1
  have l1 := (tN_le (B := B) hp1).1
  obtain ⟨m1, m2⟩ := m_numT h fu hfu hp hv (most := 9) (by omega)
  obtain ⟨x1, x2⟩ := x_takeNumber h fu hfu hp st num (most := 9) (by omega)
  rw [show nI 9 = (9 : Int32) from rfl] at m1 m2 x1 x2
  rw [fX6_readFirstLine, fX8_readsItem, if_neg z10]
  by_cases o1 : okN n B p 9
  case neg =>
    obtain ⟨nu, x2⟩ := x2 o1
    refine Or.inr ⟨tS n B p, nI (tN n B p), nu, lt, ft, fm, nI (tN n B p), nI (mT n B p), nI (tS n B p), va, (0 : Int32) + (10 : Int32) * 0, by omega, ?_, ?_⟩
    · rw [x2, zb4_r, if_pos rfl]
    · rw [m2 o1, zb6_r, m_numF _ _ _ _ _ _ _ (show tS n B p < 1000 by omega), zb6_r, zb8_r]
      exact m_J104F fu (nI n) mt l _ _ _ _ _ _ _ (show tS n B p < 1000 by omega)
  have hv1 := vaR_mV n B (tN n B p) va
  obtain ⟨m3, m4⟩ := m_numT h fu hfu hp1 hv1 (most := 7) (by omega)
  obtain ⟨x3, x4⟩ := x_takeNumber h fu hfu hp1 (nI (tS n B p)) (nI (nvF B (tS n B p) (tN n B p - tS n B p))) (most := 7) (by omega)
  rw [show nI 7 = (7 : Int32) from rfl] at m3 m4 x3 x4
  rw [m1 o1, x1 o1, zb4_r, if_neg z10, zb6_r]
  generalize mV n B (tN n B p) va = va1 at *
  have hn1 : nvF B (tS n B p) (tN n B p - tS n B p) ≤ 9 := o1.2
  generalize nvF B (tS n B p) (tN n B p - tS n B p) = v1 at *
  generalize hP1 : tN n B p = p1 at *
  by_cases o2 : okN n B p1 7
  case neg =>
    obtain ⟨nu, x4⟩ := x4 o2
    refine Or.inr ⟨tS n B p1, nI (tN n B p1), nu, lt, nI v1, fm, nI (tN n B p1), nI (mT n B p1), nI (tS n B p1), va1, nI v1 + (10 : Int32) * 0, by omega, ?_, ?_⟩
    · rw [x4, zb4_r, if_pos rfl]
    · rw [m4 o2, zb6_r, zb8_r]
      exact m_J104F fu (nI n) mt l _ _ _ _ _ _ _ (show tS n B p1 < 1000 by omega)
  have hn2 : nvF B (tS n B p1) (tN n B p1 - tS n B p1) ≤ 7 := o2.2
  rw [m3 o2, x3 o2, zb4_r, if_neg z10, zb6_r, zb8_r]
  generalize nvF B (tS n B p1) (tN n B p1 - tS n B p1) = v2 at *
  generalize mV n B (tN n B p1) va1 = va2 at *
  generalize hP2 : tN n B p1 = p2 at *
  rw [x_take h fu hfu hp2, zb3_r, q_line]
  obtain ⟨t1, t2⟩ := item_stop h fu hfu hp2 (va := va2) (K := K) (B0 := B0) l dc (nI (v1 + 10 * v2)) ck
  have hk := tK_lt n B p2
  by_cases c3 : tK n B p2 = 3
  · rw [if_pos (show nI (tK n B p2) = (3 : Int32) by rw [c3]; rfl), t1 c3]
    exact Or.inl ⟨p2, v1, v2, _, nI v2, by omega, hp2, c3, by omega, by omega, vaR_mV _ _ _ _, rfl, rfl⟩
  · rw [if_neg (show ¬ nI (tK n B p2) = (3 : Int32) from q_ne (b := 3) (by omega) (by omega) c3), t2 c3]
    exact Or.inr ⟨tS n B p2, _, _, _, _, _, _, _, _, _, _, by omega, rfl, rfl⟩
/-- the drafts on either side: the clerks read so far, the first line read or not -/
def dfR (d : Nat) (kl ks kd kk ck : Nat → Int32) : Prop := d ≤ 6 ∧ ∀ c, c < d → ∃ a b e k, a < 9 ∧ b < 8 ∧ e < 8 ∧ k < 11 ∧ kl c = nI a ∧ ks c = nI b ∧ kd c = nI e ∧ kk c = nI k ∧ ck (24 + 4 * c) = nI a ∧ ck (24 + 4 * c + 1) = nI b ∧ ck (24 + 4 * c + 2) = nI e ∧ ck (24 + 4 * c + 3) = nI k
def flR (lt ft fm dl : Int32) : Prop := (lt = 0 ∧ ft = 5 ∧ fm = 0 ∧ dl = -9) ∨ (lt = 1 ∧ ∃ t g, t < 10 ∧ g < 8 ∧ ft = nI t ∧ fm = nI g ∧ dl = nI (t + 10 * g))
theorem dfR_add {d kl ks kd kk ck} (h : dfR d kl ks kd kk ck) (hd : d < 6) {a s e k : Nat} (ha : a < 9) (hs : s < 8) (he : e < 8) (hk : k < 11) : dfR (d + 1) (upd kl d (nI a)) (upd ks d (nI s)) (upd kd d (nI e)) (upd kk d (nI k)) (upd (upd (upd (upd ck (24 + 4 * d) (nI a)) (24 + 4 * d + 1) (nI s)) (24 + 4 * d + 2) (nI e)) (24 + 4 * d + 3) (nI k)) := by
  refine ⟨by omega, fun c hc => ?_⟩
  by_cases q : c = d
  · subst q
    refine ⟨a, s, e, k, ha, hs, he, hk, by rw [q_up, if_pos rfl], by rw [q_up, if_pos rfl], by rw [q_up, if_pos rfl], by rw [q_up, if_pos rfl], ?_, ?_, ?_, ?_⟩
    · rw [q_up, if_neg (by omega), q_up, if_neg (by omega), q_up, if_neg (by omega), q_up, if_pos rfl]
    · rw [q_up, if_neg (by omega), q_up, if_neg (by omega), q_up, if_pos rfl]
    · rw [q_up, if_neg (by omega), q_up, if_pos rfl]
    · rw [q_up, if_pos rfl]
  · obtain ⟨a2, b2, e2, k2, r1, r2, r3, r4, r5, r6, r7, r8, r9, r10, r11, r12⟩ := h.2 c (by omega)
    refine ⟨a2, b2, e2, k2, r1, r2, r3, r4, by rw [q_up, if_neg q]; exact r5, by rw [q_up, if_neg q]; exact r6, by rw [q_up, if_neg q]; exact r7, by rw [q_up, if_neg q]; exact r8, ?_, ?_, ?_, ?_⟩
    · rw [q_up, if_neg (by omega), q_up, if_neg (by omega), q_up, if_neg (by omega), q_up, if_neg (by omega)]; exact r9
    · rw [q_up, if_neg (by omega), q_up, if_neg (by omega), q_up, if_neg (by omega), q_up, if_neg (by omega)]; exact r10
    · rw [q_up, if_neg (by omega), q_up, if_neg (by omega), q_up, if_neg (by omega), q_up, if_neg (by omega)]; exact r11
    · rw [q_up, if_neg (by omega), q_up, if_neg (by omega), q_up, if_neg (by omega), q_up, if_neg (by omega)]; exact r12
