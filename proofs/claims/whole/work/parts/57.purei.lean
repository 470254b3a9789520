/-! chancery: a clerk's item, a letter's item -/
theorem q_24 (d : Nat) : (24 : Int32) + (4 : Int32) * nI d = nI (24 + 4 * d) := by rw [q_m4]; exact nI_add 24 (4 * d)
theorem q_and {a b : Int32} : (a &&& b = 0) ∨ ¬ (a &&& b = 0) := Classical.em _
theorem item_stop {n B tb mt} (h : txR n B tb mt) (fu : Nat) (hfu : 1000 ≤ fu) {q : Nat} (hq : q ≤ n) {va : Int32} {K B0 : Int32 → Int32 → Int32 → Int32 → Int32 → Int32 → Int32 → Int32 → (Nat → Int32) → Option (Int32 × Int32 × Int32 × Int32 × Int32 × Int32 × Int32 × Int32 × Int32 × Int32 × Int32 × Int32 × Int32 × (Nat → Int32) × (Nat → Int32) × (Nat → Int32))} (l dc dl : Int32) (ck : Nat → Int32) : (tK n B q = 3 → fX8_chancery_J104 fu (nI n) mt K B0 l (nI (tN n B q)) (nI (mT n B q)) (nI (tS n B q)) va (-1) dc dl ck = B0 (l + 1) (nI (tN n B (tN n B q))) (nI (mT n B (tN n B q))) (nI (tS n B (tN n B q))) (mV n B (tN n B q) va) (-1) dc dl ck) ∧ (tK n B q ≠ 3 → fX8_chancery_J104 fu (nI n) mt K B0 l (nI (tN n B q)) (nI (mT n B q)) (nI (tS n B q)) va (-1) dc dl ck = B0 (l + 1) (nI (tN n B q)) (nI (mT n B q)) (nI (tS n B q)) va (nI (tS n B q)) dc dl ck) := by
  have hN := (tN_le (B := B) hq).2.1
  have hT := mT_lt n B q
  rw [fX8_chancery_J104]
  constructor
  · intro c
    rw [if_pos (show nI (mT n B q) = (3 : Int32) by rw [mT_3.mpr c]; rfl), m_takes1 h fu hfu hN, zb6_r]
  · intro c
    rw [if_neg (show ¬ nI (mT n B q) = (3 : Int32) from q_ne (b := 3) (by omega) (by omega) (fun e => c (mT_3.mp e))), m_takes0, zb6_r]
theorem tK_lt (n : Nat) (B : Nat → Nat) (p : Nat) : tK n B p < 5 := by
  have := sk_pos (B (tS n B p))
  rw [tK]
  by_cases c : tS n B p < n
  · rw [if_pos c]; omega
  · rw [if_neg c]; omega
theorem item_clerk {n B tb mt} (h : txR n B tb mt) (fu : Nat) (hfu : 1000 ≤ fu) {p : Nat} (hp : p ≤ n) {d : Nat} (hd : d < 6) {va : Int32} (hv : vaR n B p va) {K B0 : Int32 → Int32 → Int32 → Int32 → Int32 → Int32 → Int32 → Int32 → (Nat → Int32) → Option (Int32 × Int32 × Int32 × Int32 × Int32 × Int32 × Int32 × Int32 × Int32 × Int32 × Int32 × Int32 × Int32 × (Nat → Int32) × (Nat → Int32) × (Nat → Int32))} (l dl st num : Int32) (ck kl ks kd kk : Nat → Int32) :
    (∃ q a s e k va' num', p ≤ q ∧ q ≤ n ∧ tK n B q = 3 ∧ a < 9 ∧ s < 8 ∧ e < 8 ∧ k < 11 ∧ vaR n B (tN n B q) va' ∧ fX6_readClerk fu (nI n) (nI p) st num tb (nI d) kl ks kd kk = some (1, nI (tN n B q), nI (tS n B q), num', nI (d + 1), upd kl d (nI a), upd ks d (nI s), upd kd d (nI e), upd kk d (nI k)) ∧ zb8 (fX8_readsItem fu (nI n) (nI (tN n B p)) (nI (mT n B p)) (nI (tS n B p)) va (-1) (nI d) dl mt ck 0) (fun y1 y2 y3 y4 y5 y6 y7 y8 => fX8_chancery_J104 fu (nI n) mt K B0 l y1 y2 y3 y4 y5 y6 y7 y8) = B0 (l + 1) (nI (tN n B (tN n B q))) (nI (mT n B (tN n B q))) (nI (tS n B (tN n B q))) va' (-1) (nI (d + 1)) dl (upd (upd (upd (upd ck (24 + 4 * d) (nI a)) (24 + 4 * d + 1) (nI s)) (24 + 4 * d + 2) (nI e)) (24 + 4 * d + 3) (nI k)))
    ∨ (∃ f xn nu cn k1 k2 k3 k4 mn mk mp mv dc dl' ck', f ≤ 200 ∧ fX6_readClerk fu (nI n) (nI p) st num tb (nI d) kl ks kd kk = some (0, xn, nI f, nu, cn, k1, k2, k3, k4) ∧ zb8 (fX8_readsItem fu (nI n) (nI (tN n B p)) (nI (mT n B p)) (nI (tS n B p)) va (-1) (nI d) dl mt ck 0) (fun y1 y2 y3 y4 y5 y6 y7 y8 => fX8_chancery_J104 fu (nI n) mt K B0 l y1 y2 y3 y4 y5 y6 y7 y8) = B0 (l + 1) mn mk mp mv (nI f) dc dl' ck' ∧ ∀ j, j < 24 → ck' j = ck j) := by
  have h1 := h.1
  have hp1 := (tN_le (B := B) hp).2.1
  have hp2 := (tN_le (B := B) hp1).2.1
  have hp3 := (tN_le (B := B) hp2).2.1
  have hp4 := (tN_le (B := B) hp3).2.1
  have g0 := tS_le (B := B) hp
  have g1 := tS_le (B := B) hp1
  have g2 := tS_le (B := B) hp2
  have g3 := tS_le (B := B) hp3
  have g4 := tS_le (B := B) hp4
  have l0 := (tN_le (B := B) hp).1
  have l1 := (tN_le (B := B) hp1).1
  have l2 := (tN_le (B := B) hp2).1
  have l3 := (tN_le (B := B) hp3).1
  have s24 : ∀ (x y z w : Int32) (j : Nat), j < 24 → (upd (upd (upd (upd ck (24 + 4 * d) x) (24 + 4 * d + 1) y) (24 + 4 * d + 2) z) (24 + 4 * d + 3) w) j = ck j := by
    intro x y z w j hj
    rw [q_up, if_neg (by omega), q_up, if_neg (by omega), q_up, if_neg (by omega), q_up, if_neg (by omega)]
  have i0 : zin (nI (24 + 4 * d)) 48 := q_in (by omega) (by omega)
  have i1 : zin (nI (24 + 4 * d + 1)) 48 := q_in (by omega) (by omega)
  have i2 : zin (nI (24 + 4 * d + 2)) 48 := q_in (by omega) (by omega)
  have i3 : zin (nI (24 + 4 * d + 3)) 48 := q_in (by omega) (by omega)
  have e1 : nI (24 + 4 * d) + (1 : Int32) = nI (24 + 4 * d + 1) := nI_add _ _
  have e2 : nI (24 + 4 * d) + (2 : Int32) = nI (24 + 4 * d + 2) := nI_add _ _
  have e3 : nI (24 + 4 * d) + (3 : Int32) = nI (24 + 4 * d + 3) := nI_add _ _
  obtain ⟨m1, m2⟩ := m_numT h fu hfu hp hv (most := 8) (by omega)
  obtain ⟨x1, x2⟩ := x_takeNumber h fu hfu hp st num (most := 8) (by omega)
  rw [show nI 8 = (8 : Int32) from rfl] at m1 m2 x1 x2
  rw [fX6_readClerk, fX8_readsItem, if_pos rfl]
  simp only [q_24]
  by_cases o1 : okN n B p 8
  case neg =>
    obtain ⟨nu, x2⟩ := x2 o1
    refine Or.inr ⟨tS n B p, nI (tN n B p), nu, nI d, kl, ks, kd, kk, nI (tN n B p), nI (mT n B p), nI (tS n B p), va, nI d + 1, dl, _, by omega, ?_, ?_, s24 0 0 0 0⟩
    · rw [x2, zb4_r, if_pos rfl]
    · rw [m2 o1, zb6_r, if_pos i0, m_numF _ _ _ _ _ _ _ (by omega), zb6_r, e1, if_pos i1]
      have J := fun s3 => m_J87F fu (nI n) mt (show 24 + 4 * d + 3 < 48 by omega) s3 (nI (tN n B p)) (nI (mT n B p)) (nI (tS n B p)) va (nI d) dl (upd (upd ck (24 + 4 * d) 0) (24 + 4 * d + 1) 0) (show tS n B p < 1000 by omega)
      simp only [q_cl (n := 24 + 4 * d) (by omega), q_cl (n := 24 + 4 * d + 1) (by omega), J]
      have J2 := m_J104F (K := K) (B0 := B0) fu (nI n) mt l (nI (tN n B p)) (nI (mT n B p)) (nI (tS n B p)) va (nI d + 1) dl (upd (upd (upd (upd ck (24 + 4 * d) 0) (24 + 4 * d + 1) 0) (24 + 4 * d + 2) 0) (24 + 4 * d + 3) 0) (show tS n B p < 1000 by omega)
      by_cases c : nI (mT n B p) = (2 : Int32)
      · rw [if_pos c]
        rcases m_inT va 0 7 with e | e
        · rw [e, zb1_r, if_pos rfl, zb8_r]; exact J2
        · rw [e, zb1_r, if_neg z10]
          by_cases c3 : va &&& 0 = 0
          · rw [if_pos c3, zb8_r]; exact J2
          · rw [if_neg c3, zb8_r]; exact J2
      · rw [if_neg c, zb8_r]; exact J2
  have hv1 := vaR_mV n B (tN n B p) va
  obtain ⟨m3, m4⟩ := m_numT h fu hfu hp1 hv1 (most := 7) (by omega)
  obtain ⟨x3, x4⟩ := x_takeNumber h fu hfu hp1 (nI (tS n B p)) (nI (nvF B (tS n B p) (tN n B p - tS n B p))) (most := 7) (by omega)
  rw [show nI 7 = (7 : Int32) from rfl] at m3 m4 x3 x4
  rw [m1 o1, x1 o1, zb4_r, if_neg z10, zb6_r, if_pos i0]
  generalize mV n B (tN n B p) va = va1 at *
  have hn1 : nvF B (tS n B p) (tN n B p - tS n B p) ≤ 8 := o1.2
  generalize nvF B (tS n B p) (tN n B p - tS n B p) = v1 at *
  generalize hP1 : tN n B p = p1 at *
  by_cases o2 : okN n B p1 7
  case neg =>
    obtain ⟨nu, x4⟩ := x4 o2
    refine Or.inr ⟨tS n B p1, nI (tN n B p1), nu, nI d, kl, ks, kd, kk, nI (tN n B p1), nI (mT n B p1), nI (tS n B p1), va1, nI d + 1, dl, _, by omega, ?_, ?_, s24 (nI v1) 0 0 0⟩
    · rw [x4, zb4_r, if_pos rfl]
    · rw [m4 o2, zb6_r, e1, if_pos i1]
      have J := fun s3 => m_J87F fu (nI n) mt (show 24 + 4 * d + 3 < 48 by omega) s3 (nI (tN n B p1)) (nI (mT n B p1)) (nI (tS n B p1)) va1 (nI d) dl (upd (upd ck (24 + 4 * d) (nI v1)) (24 + 4 * d + 1) 0) (show tS n B p1 < 1000 by omega)
      simp only [q_cl (n := 24 + 4 * d) (by omega), q_cl (n := 24 + 4 * d + 1) (by omega), J]
      have J2 := m_J104F (K := K) (B0 := B0) fu (nI n) mt l (nI (tN n B p1)) (nI (mT n B p1)) (nI (tS n B p1)) va1 (nI d + 1) dl (upd (upd (upd (upd ck (24 + 4 * d) (nI v1)) (24 + 4 * d + 1) 0) (24 + 4 * d + 2) 0) (24 + 4 * d + 3) 0) (show tS n B p1 < 1000 by omega)
      by_cases c : nI (mT n B p1) = (2 : Int32)
      · rw [if_pos c]
        rcases m_inT va1 0 7 with e | e
        · rw [e, zb1_r, if_pos rfl, zb8_r]; exact J2
        · rw [e, zb1_r, if_neg z10]
          by_cases c3 : va1 &&& 0 = 0
          · rw [if_pos c3, zb8_r]; exact J2
          · rw [if_neg c3, zb8_r]; exact J2
      · rw [if_neg c, zb8_r]; exact J2
  have hv2 := vaR_mV n B (tN n B p1) va1
  obtain ⟨m5, m6⟩ := m_numT h fu hfu hp2 hv2 (most := 7) (by omega)
  obtain ⟨x5, x6⟩ := x_takeNumber h fu hfu hp2 (nI (tS n B p1)) (nI (nvF B (tS n B p1) (tN n B p1 - tS n B p1))) (most := 7) (by omega)
  rw [show nI 7 = (7 : Int32) from rfl] at m5 m6 x5 x6
  rw [m3 o2, x3 o2, zb4_r, if_neg z10, zb6_r, e1, if_pos i1]
  generalize mV n B (tN n B p1) va1 = va2 at *
  have hn2 : nvF B (tS n B p1) (tN n B p1 - tS n B p1) ≤ 7 := o2.2
  generalize nvF B (tS n B p1) (tN n B p1 - tS n B p1) = v2 at *
  generalize hP2 : tN n B p1 = p2 at *
  have hT2 := mT_lt n B p2
  simp only [q_cl (n := 24 + 4 * d) (by omega), q_cl (n := 24 + 4 * d + 1) (by omega)]
  -- the drops: a number, and none of the sets
  have M3 : zb8 (fX8_readsItem_J87 fu (nI n) mt (nI (24 + 4 * d) + 2) 0 (nI (24 + 4 * d)) (nI (tN n B p2)) (nI (mT n B p2)) (nI (tS n B p2)) va2 (-1) (nI d) dl (upd (upd ck (24 + 4 * d) (nI v1)) (24 + 4 * d + 1) (nI v2))) (fun y1 y2 y3 y4 y5 y6 y7 y8 => fX8_chancery_J104 fu (nI n) mt K B0 l y1 y2 y3 y4 y5 y6 y7 y8) = B0 (l + 1) (nI (tN n B p2)) (nI (mT n B p2)) (nI (tS n B p2)) va2 (nI (tS n B p2)) (nI d + 1) dl (upd (upd (upd (upd ck (24 + 4 * d) (nI v1)) (24 + 4 * d + 1) (nI v2)) (24 + 4 * d + 2) 0) (24 + 4 * d + 3) 0) := by
    rw [fX8_readsItem_J87, m_takes0, zb6_r, m_numF _ _ _ _ _ _ _ (show tS n B p2 < 1000 by omega), zb6_r, e2, e3, if_pos i2, if_pos i3, q_cl (by omega), q_cl (by omega), zb8_r]
    exact m_J104F fu (nI n) mt l _ _ _ _ _ _ _ (show tS n B p2 < 1000 by omega)
  by_cases o3 : okN n B p2 7
  case neg =>
    obtain ⟨nu, x6⟩ := x6 o3
    refine Or.inr ⟨tS n B p2, nI (tN n B p2), nu, nI d, kl, ks, kd, kk, nI (tN n B p2), nI (mT n B p2), nI (tS n B p2), va2, nI d + 1, dl, _, by omega, ?_, ?_, s24 (nI v1) (nI v2) 0 0⟩
    · rw [x6, zb4_r, if_pos rfl]
    · by_cases c : mT n B p2 = 2
      · have hva : va2 = nI (nvF B (tS n B p2) (tN n B p2 - tS n B p2)) := hv2.2 c
        rw [if_pos (show nI (mT n B p2) = (2 : Int32) by rw [c]; rfl)]
        have e0 : fX8_in va2 0 7 = some 0 := by
          rcases m_inT va2 0 7 with e | e
          · exact e
          · exfalso
            have hm6 := m6 o3
            rw [fX8_number, if_pos (show nI (mT n B p2) = (2 : Int32) by rw [c]; rfl), e, zb1_r, if_neg z10, m_takes1 h fu hfu hp3, zb6_r] at hm6
            simp only [Option.some.injEq, Prod.mk.injEq] at hm6
            have := hm6.2.2.2.2.2
            exact absurd this.symm (by
              intro q
              have : nI (tS n B p2) < 0 := by rw [q]; decide
              exact nI_pos (by omega) this)
        rw [e0, zb1_r, if_pos rfl]
        exact M3
      · rw [if_neg (show ¬ nI (mT n B p2) = (2 : Int32) from q_ne (b := 2) (by omega) (by omega) c)]
        exact M3
  have hva : va2 = nI (nvF B (tS n B p2) (tN n B p2 - tS n B p2)) := hv2.2 o3.1
  have hn3 : nvF B (tS n B p2) (tN n B p2 - tS n B p2) ≤ 7 := o3.2
  have in3 : fX8_in va2 0 7 = some 1 := by rw [hva]; exact m_inN (a := 0) (b := 7) (by omega) hn3 (by omega)
  have tk1 := m_takes1 h fu hfu hp3 (nI (mT n B p2)) (nI (tS n B p2)) va2
  rw [x5 o3, zb4_r, if_neg z10, if_pos (show nI (mT n B p2) = (2 : Int32) by rw [o3.1]; rfl), in3, zb1_r, if_neg z10]
  rw [← hva]
  by_cases cA : va2 &&& nI v2 = 0
  case neg =>
    rw [if_neg cA, if_neg cA]
    exact Or.inr ⟨tS n B p2, nI (tN n B p2), va2, nI d, kl, ks, kd, kk, nI (tN n B p2), nI (mT n B p2), nI (tS n B p2), va2, nI d + 1, dl, _, by omega, rfl, M3, s24 (nI v1) (nI v2) 0 0⟩
  rw [if_pos cA, if_pos cA, fX8_readsItem_J87, tk1, zb6_r, e2, if_pos i2]
  have hv3 := vaR_mV n B (tN n B p2) va2
  obtain ⟨m7, m8⟩ := m_numT h fu hfu hp3 hv3 (most := 10) (by omega)
  obtain ⟨x7, x8⟩ := x_takeNumber h fu hfu hp3 (nI (tS n B p2)) va2 (most := 10) (by omega)
  rw [show nI 10 = (10 : Int32) from rfl] at m7 m8 x7 x8
  rw [hva] at cA ⊢
  generalize nvF B (tS n B p2) (tN n B p2 - tS n B p2) = v3 at *
  subst hva
  generalize mV n B (tN n B p2) (nI v3) = va3 at *
  generalize hP3 : tN n B p2 = p3 at *
  by_cases o4 : okN n B p3 10
  case neg =>
    obtain ⟨nu, x8⟩ := x8 o4
    refine Or.inr ⟨tS n B p3, nI (tN n B p3), nu, nI d, kl, ks, kd, kk, nI (tN n B p3), nI (mT n B p3), nI (tS n B p3), va3, nI d + 1, dl, _, by omega, ?_, ?_, s24 (nI v1) (nI v2) (nI v3) 0⟩
    · rw [x8, zb4_r, if_pos rfl]
    · rw [m8 o4, zb6_r, e3, if_pos i3, q_cl (by omega), q_cl (by omega), zb8_r]
      exact m_J104F fu (nI n) mt l _ _ _ _ _ _ _ (show tS n B p3 < 1000 by omega)
  have hn4 : nvF B (tS n B p3) (tN n B p3 - tS n B p3) ≤ 10 := o4.2
  rw [m7 o4, x7 o4, zb4_r, if_neg z10, zb6_r, e3, if_pos i3, q_cl (by omega), q_cl (by omega), zb8_r]
  generalize nvF B (tS n B p3) (tN n B p3 - tS n B p3) = v4 at *
  generalize mV n B (tN n B p3) va3 = va4 at *
  generalize hP4 : tN n B p3 = p4 at *
  rw [fX3_add, fX3_isFull, if_pos (show nI d < (6 : Int32) from nI_lt (b := 6) hd (by omega)), zb1_r, if_pos rfl]
  simp only [if_pos (q_in (k := d) (n := 6) (by omega) (by omega)), q_cl (n := d) (by omega), q_1, zb5_r]
  rw [x_take h fu hfu hp4, zb3_r]
  obtain ⟨t1, t2⟩ := item_stop h fu hfu hp4 (va := va4) (K := K) (B0 := B0) l (nI (d + 1)) dl (upd (upd (upd (upd ck (24 + 4 * d) (nI v1)) (24 + 4 * d + 1) (nI v2)) (24 + 4 * d + 2) (nI v3)) (24 + 4 * d + 3) (nI v4))
  have hk := tK_lt n B p4
  by_cases c3 : tK n B p4 = 3
  · rw [if_pos (show nI (tK n B p4) = (3 : Int32) by rw [c3]; rfl), t1 c3]
    exact Or.inl ⟨p4, v1, v2, v3, v4, _, nI v4, by omega, hp4, c3, by omega, by omega, by omega, by omega, vaR_mV _ _ _ _, rfl, rfl⟩
  · rw [if_neg (show ¬ nI (tK n B p4) = (3 : Int32) from q_ne (b := 3) (by omega) (by omega) c3), t2 c3]
    exact Or.inr ⟨tS n B p4, _, _, _, _, _, _, _, _, _, _, _, _, _, _, by omega, rfl, rfl, s24 (nI v1) (nI v2) (nI v3) (nI v4)⟩
