/-! chancery: the loop over the items -/
theorem m_L32F {K : Int32 → Int32 → Int32 → Int32 → Int32 → Int32 → Int32 → Int32 → (Nat → Int32) → Option (Int32 × Int32 × Int32 × Int32 × Int32 × Int32 × Int32 × Int32 × Int32 × Int32 × Int32 × Int32 × Int32 × (Nat → Int32) × (Nat → Int32) × (Nat → Int32))} (fu : Nat) (n : Int32) (mt : Nat → Int32) (f : Nat) (l nx tok pl va dc dl : Int32) (ck : Nat → Int32) {e : Nat} (he : e < 1000) : fX8_chancery_L32 fu n mt K (f + 1) l nx tok pl va (nI e) dc dl ck = K l nx tok pl va (nI e) dc dl ck := by
  rw [fX8_chancery_L32, m_ill he, zb1_r, if_pos rfl]
theorem m_J880 {K : Int32 → Int32 → Int32 → Int32 → Int32 → Int32 → Int32 → Int32 → (Nat → Int32) → Option (Int32 × Int32 × Int32 × Int32 × Int32 × Int32 × Int32 × Int32 × Int32 × Int32 × Int32 × Int32 × Int32 × (Nat → Int32) × (Nat → Int32) × (Nat → Int32))} (fu : Nat) (n : Int32) (mt : Nat → Int32) (f : Nat) (l nx tok va dc dl : Int32) (ck : Nat → Int32) {e : Nat} (he : e < 1000) : fX8_chancery_J88 fu n mt K (fun b1 b2 b3 b4 b5 b6 b7 b8 b9 => fX8_chancery_L32 fu n mt K (f + 1) b1 b2 b3 b4 b5 b6 b7 b8 b9) 0 l nx tok (nI e) va (-1) dc dl ck = K (l + 1) nx tok (nI e) va (nI e) dc dl ck := by
  rw [fX8_chancery_J88, m_takes0, zb6_r, m_ill he, zb1_r, if_pos rfl, m_J104F fu n mt l nx tok (nI e) va dc dl ck he, m_L32F _ _ _ _ _ _ _ _ _ _ _ _ he]
theorem word_fact {n B p} (hp : p ≤ n) (hk : tK n B p = 1) : (isC B (tS n B p) (tN n B p - tS n B p) → mT n B p = 1 ∧ wV B (tS n B p) (tN n B p - tS n B p) = 0) ∧ (isT B (tS n B p) (tN n B p - tS n B p) → mT n B p = 1 ∧ wV B (tS n B p) (tN n B p - tS n B p) = 1) ∧ (¬ isC B (tS n B p) (tN n B p - tS n B p) → ¬ isT B (tS n B p) (tN n B p - tS n B p) → mT n B p = 4) := by
  obtain ⟨g1, g2⟩ := (tN_le (B := B) hp).2.2 (by omega)
  have c2 : sk (B (tS n B p)) = 1 := by rw [tK, if_pos g2] at hk; exact hk
  have eN : tN n B p = run n B 1 (n - tS n B p) (tS n B p) := by
    rw [tN, if_pos g2, if_pos (Or.inl c2), c2, show n - tS n B p = n - (tS n B p + 1) + 1 by omega, run, if_pos ⟨g2, c2⟩]
  have hr := run_le (n := n) (B := B) (s := 1) (n - tS n B p) (tS n B p) (tS_le hp).2
  rw [← eN] at hr
  obtain ⟨w1, w2⟩ := hv_isC (B := B) (s := tS n B p) (L := tN n B p - tS n B p) (fun j hj => sk1.mp (hr.2.2 _ (by omega) (by omega))) (by omega)
  rw [mT, if_pos hk, wV]
  refine ⟨fun c => ?_, fun c => ?_, fun c d => ?_⟩
  · rw [if_pos (w1.mpr c), if_neg (by decide)]; exact ⟨rfl, rfl⟩
  · have nc : ¬ hvF B (tS n B p) (tN n B p - tS n B p) = cC := fun q => by
      have a := (w1.mp q).1
      have b := c.1
      omega
    rw [if_neg nc, if_pos (w2.mpr c), if_neg (by decide)]; exact ⟨rfl, rfl⟩
  · rw [if_neg (fun q => c (w1.mp q)), if_neg (fun q => d (w2.mp q)), if_pos rfl]
theorem mT_0 {n B p} : mT n B p = 0 ↔ tK n B p = 0 := by
  rw [mT]
  by_cases c : tK n B p = 1
  · rw [if_pos c, c]
    split <;> constructor <;> intro h <;> omega
  · rw [if_neg c]
    by_cases d : tK n B p = 2
    · rw [if_pos d, d]
      constructor
      · intro h; exfalso; revert h; split
        · omega
        · split
          · split <;> omega
          · omega
      · intro h; omega
    · rw [if_neg d]
theorem flR_z {lt ft fm dl} (h : flR lt ft fm dl) : (lt = 0 ∧ dl = -9) ∨ (¬ lt = 0 ∧ ¬ dl = -9) := by
  rcases h with ⟨a, b, c, d⟩ | ⟨a, t, g, ht, hg, b, c, d⟩
  · exact Or.inl ⟨a, d⟩
  · refine Or.inr ⟨by rw [a]; decide, ?_⟩
    rw [d]
    intro q
    have : nI (t + 10 * g) < 0 := by rw [q]; decide
    exact nI_pos (by omega) this
set_option maxHeartbeats 4000000 in
theorem chan_L {n B tb mt} (h : txR n B tb mt) (fu : Nat) (hfu : 1000 ≤ fu) (KM : Int32 → Int32 → Int32 → Int32 → Int32 → Int32 → Int32 → Int32 → (Nat → Int32) → Option (Int32 × Int32 × Int32 × Int32 × Int32 × Int32 × Int32 × Int32 × Int32 × Int32 × Int32 × Int32 × Int32 × (Nat → Int32) × (Nat → Int32) × (Nat → Int32))) : ∀ (k f p i d : Nat) (va nu lt ft fm dl : Int32) (kl ks kd kk ck : Nat → Int32), n - p < k → k < f → p ≤ n → i ≤ p → vaR n B p va → dfR d kl ks kd kk ck → flR lt ft fm dl →
    (∃ i' xn xs nu' d' lt' ft' fm' kl' ks' kd' kk' mn mk mp mv dl' ck', i' ≤ 200 ∧ fX6_readInto_L16 fu (nI n) tb (fun a1 a2 a3 a4 a5 a6 a7 a8 a9 a10 a11 a12 => some (a1, a2, a3, a4, a5, a6, a7, a8, a9, a10, a11, a12)) f (nI i) (nI (tK n B p)) (nI (tN n B p)) (nI (tS n B p)) nu (nI d) lt ft fm kl ks kd kk = some (nI i', xn, xs, nu', nI d', lt', ft', fm', kl', ks', kd', kk') ∧ fX8_chancery_L32 fu (nI n) mt KM f (nI i) (nI (tN n B p)) (nI (mT n B p)) (nI (tS n B p)) va (-1) (nI d) dl ck = KM (nI i') mn mk mp mv (-1) (nI d') dl' ck' ∧ dfR d' kl' ks' kd' kk' ck' ∧ flR lt' ft' fm' dl' ∧ ∀ j, j < 24 → ck' j = ck j)
    ∨ (∃ e xn xs nu' d' lt' ft' fm' kl' ks' kd' kk' l' mn mk mp mv dc dl' ck', e ≤ 200 ∧ fX6_readInto_L16 fu (nI n) tb (fun a1 a2 a3 a4 a5 a6 a7 a8 a9 a10 a11 a12 => some (a1, a2, a3, a4, a5, a6, a7, a8, a9, a10, a11, a12)) f (nI i) (nI (tK n B p)) (nI (tN n B p)) (nI (tS n B p)) nu (nI d) lt ft fm kl ks kd kk = some ((-10 : Int32) - nI e, xn, xs, nu', d', lt', ft', fm', kl', ks', kd', kk') ∧ fX8_chancery_L32 fu (nI n) mt KM f (nI i) (nI (tN n B p)) (nI (mT n B p)) (nI (tS n B p)) va (-1) (nI d) dl ck = KM l' mn mk mp mv (nI e) dc dl' ck' ∧ ∀ j, j < 24 → ck' j = ck j) := by
  intro k
  have h1 := h.1
  induction k with
  | zero => intro f p i d va nu lt ft fm dl kl ks kd kk ck hk; omega
  | succ k ih =>
    intro f p i d va nu lt ft fm dl kl ks kd kk ck hk hf hp hi hv hD hF
    obtain ⟨f, rfl⟩ : ∃ g, f = g + 1 := ⟨f - 1, by omega⟩
    obtain ⟨f0, hf0⟩ : ∃ g, f = g + 1 := ⟨f - 1, by omega⟩
    have hT := mT_lt n B p
    have hK := tK_lt n B p
    have hS := tS_le (B := B) hp
    have hN := tN_le (B := B) hp
    have hD6 := hD.1
    rw [fX6_readInto_L16, fX8_chancery_L32, m_well, zb1_r, if_neg z10]
    by_cases c0 : tK n B p = 0
    · rw [if_pos (show nI (tK n B p) = (0 : Int32) by rw [c0]; rfl), if_pos (show nI (mT n B p) = (0 : Int32) by rw [mT_0.mpr c0]; rfl)]
      exact Or.inl ⟨i, _, _, _, d, _, _, _, _, _, _, _, _, _, _, _, _, _, by omega, rfl, rfl, hD, hF, fun j hj => rfl⟩
    have hN2 := hN.2.2 c0
    have c0m : ¬ mT n B p = 0 := fun q => c0 (mT_0.mp q)
    rw [if_neg (show ¬ nI (tK n B p) = (0 : Int32) from q_ne (b := 0) (by omega) (by omega) c0), if_neg (show ¬ nI (mT n B p) = (0 : Int32) from q_ne (b := 0) (by omega) (by omega) c0m), if_neg (show ¬ (200 : Int32) ≤ nI i from nI_ge (b := 200) (by omega) (by omega))]
    have bad := fun l va => m_J880 (K := KM) fu (nI n) mt f0 l (nI (tN n B p)) (nI (mT n B p)) va (nI d) dl ck (show tS n B p < 1000 by omega)
    rw [← hf0] at bad
    by_cases c1 : tK n B p = 1
    case neg =>
      rw [if_neg (show ¬ nI (tK n B p) = (1 : Int32) from q_ne (b := 1) (by omega) (by omega) c1), if_neg (show ¬ nI (mT n B p) = (1 : Int32) from q_ne (b := 1) (by omega) (by omega) (fun q => c1 (mT_12.1 q))), bad]
      exact Or.inr ⟨tS n B p, _, _, _, _, _, _, _, _, _, _, _, _, _, _, _, _, _, _, _, by omega, rfl, rfl, fun j hj => rfl⟩
    obtain ⟨w1, w2, w3⟩ := word_fact hp c1
    obtain ⟨xc1, xc2⟩ := x_clerkW h fu hfu hN.1 hN.2.1
    obtain ⟨xl1, xl2⟩ := x_letterW h fu hfu hN.1 hN.2.1
    rw [if_pos (show nI (tK n B p) = (1 : Int32) by rw [c1]; rfl), fX6_readItem]
    by_cases isc : isC B (tS n B p) (tN n B p - tS n B p)
    · obtain ⟨u1, u2⟩ := w1 isc
      have hva : va = 0 := (hv.1 u1).trans u2
      rw [xc1 isc, zb1_r, if_neg z10, if_pos (show nI (mT n B p) = (1 : Int32) by rw [u1]; rfl), if_pos hva, fX3_isFull]
      by_cases d6 : d = 6
      · rw [if_neg (show ¬ nI d < (6 : Int32) from nI_nlt (b := 6) (by omega) (by omega)), zb1_r, if_neg z10, zb12_r, if_pos rfl, if_pos (show (6 : Int32) ≤ nI d from nI_le (a := 6) (by omega) (by omega)), bad]
        exact Or.inr ⟨tS n B p, _, _, _, _, _, _, _, _, _, _, _, _, _, _, _, _, _, _, _, by omega, rfl, rfl, fun j hj => rfl⟩
      · have hd : d < 6 := by omega
        rw [if_pos (show nI d < (6 : Int32) from nI_lt (b := 6) hd (by omega)), zb1_r, if_pos rfl, if_neg (show ¬ (6 : Int32) ≤ nI d from nI_ge (b := 6) hd (by omega)), fX8_chancery_J88, m_takes1 h fu hfu hN.2.1, zb6_r, m_well, zb1_r, if_neg z10]
        subst hva
        rcases item_clerk h fu hfu hN.2.1 hd (vaR_mV n B (tN n B p) 0) (K := KM) (B0 := fun b1 b2 b3 b4 b5 b6 b7 b8 b9 => fX8_chancery_L32 fu (nI n) mt KM f b1 b2 b3 b4 b5 b6 b7 b8 b9) (nI i) dl (nI (tS n B p)) nu ck kl ks kd kk with ⟨q, a, s, e, kk2, va', num', r1, r2, r3, ra, rs, re, rk, rv, rX, rM⟩ | ⟨e, xn, nu', cn, k1, k2, k3, k4, mn, mk, mp, mv, dc, dl', ck', re, rX, rM, rC⟩
        · rw [rX, zb9_r, if_neg z10, zb12_r, if_neg z10]
          have hq := tN_le (B := B) r2
          have hq2 := hq.2.2 (by omega)
          have hqS := tS_le (B := B) r2
          rw [x_take h fu hfu hq.2.1, zb3_r, q_1]
          have hI := ih f (tN n B q) (i + 1) (d + 1) va' num' lt ft fm dl (upd kl d (nI a)) (upd ks d (nI s)) (upd kd d (nI e)) (upd kk d (nI kk2)) (upd (upd (upd (upd ck (24 + 4 * d) (nI a)) (24 + 4 * d + 1) (nI s)) (24 + 4 * d + 2) (nI e)) (24 + 4 * d + 3) (nI kk2)) (by omega) (by omega) hq.2.1 (by omega) rv (dfR_add hD hd ra rs re rk) hF
          have s24 : ∀ j, j < 24 → (upd (upd (upd (upd ck (24 + 4 * d) (nI a)) (24 + 4 * d + 1) (nI s)) (24 + 4 * d + 2) (nI e)) (24 + 4 * d + 3) (nI kk2)) j = ck j := by
            intro j hj
            rw [q_up, if_neg (by omega), q_up, if_neg (by omega), q_up, if_neg (by omega), q_up, if_neg (by omega)]
          rw [q_1] at rM
          refine hI.imp ?_ ?_
          · rintro ⟨i', xn, xs, nu', d', lt', ft', fm', kl', ks', kd', kk', mn, mk, mp, mv, dl', ck', y1, y2, y3, y4, y5, y6⟩
            exact ⟨i', xn, xs, nu', d', lt', ft', fm', kl', ks', kd', kk', mn, mk, mp, mv, dl', ck', y1, y2, rM.trans y3, y4, y5, fun j hj => (y6 j hj).trans (s24 j hj)⟩
          · rintro ⟨e2, xn, xs, nu', d', lt', ft', fm', kl', ks', kd', kk', l', mn, mk, mp, mv, dc, dl', ck', y1, y2, y3, y6⟩
            exact ⟨e2, xn, xs, nu', d', lt', ft', fm', kl', ks', kd', kk', l', mn, mk, mp, mv, dc, dl', ck', y1, y2, rM.trans y3, fun j hj => (y6 j hj).trans (s24 j hj)⟩
        · rw [rX, zb9_r, if_pos rfl, zb12_r, if_pos rfl]
          refine Or.inr ⟨e, _, _, _, _, _, _, _, _, _, _, _, nI i + 1, mn, mk, mp, mv, dc, dl', ck', re, rfl, rM.trans ?_, rC⟩
          show fX8_chancery_L32 fu (nI n) mt KM f _ _ _ _ _ _ _ _ _ = _
          rw [hf0, m_L32F _ _ _ _ _ _ _ _ _ _ _ _ (show e < 1000 by omega)]
    rw [xc2 isc, zb1_r, if_pos rfl]
    by_cases ist : isT B (tS n B p) (tN n B p - tS n B p)
    · obtain ⟨u1, u2⟩ := w2 ist
      have hva : va = 1 := (hv.1 u1).trans u2
      rw [xl1 ist, zb1_r, if_neg z10, if_pos (show nI (mT n B p) = (1 : Int32) by rw [u1]; rfl), if_neg (show ¬ va = (0 : Int32) by rw [hva]; decide)]
      rcases flR_z hF with ⟨z1, z2⟩ | ⟨z1, z2⟩
      · rw [if_pos z1, if_pos z2, fX8_chancery_J88, m_takes1 h fu hfu hN.2.1, zb6_r, m_well, zb1_r, if_neg z10]
        subst hva
        rcases item_letter h fu hfu hN.2.1 (vaR_mV n B (tN n B p) 1) (K := KM) (B0 := fun b1 b2 b3 b4 b5 b6 b7 b8 b9 => fX8_chancery_L32 fu (nI n) mt KM f b1 b2 b3 b4 b5 b6 b7 b8 b9) (nI i) (nI d) dl (nI (tS n B p)) nu lt ft fm ck with ⟨q, t, g, va', num', r1, r2, r3, rt, rg, rv, rX, rM⟩ | ⟨e, xn, nu', k1, k2, k3, mn, mk, mp, mv, dl', re, rX, rM⟩
        · rw [rX, zb7_r, if_neg z10, zb12_r, if_neg z10]
          have hq := tN_le (B := B) r2
          have hq2 := hq.2.2 (by omega)
          have hqS := tS_le (B := B) r2
          rw [x_take h fu hfu hq.2.1, zb3_r, q_1]
          have hI := ih f (tN n B q) (i + 1) d va' num' 1 (nI t) (nI g) (nI (t + 10 * g)) kl ks kd kk ck (by omega) (by omega) hq.2.1 (by omega) rv hD (Or.inr ⟨rfl, t, g, rt, rg, rfl, rfl, rfl⟩)
          rw [q_1] at rM
          refine hI.imp ?_ ?_
          · rintro ⟨i', xn, xs, nu', d', lt', ft', fm', kl', ks', kd', kk', mn, mk, mp, mv, dl', ck', y1, y2, y3, y4, y5, y6⟩
            exact ⟨i', xn, xs, nu', d', lt', ft', fm', kl', ks', kd', kk', mn, mk, mp, mv, dl', ck', y1, y2, rM.trans y3, y4, y5, y6⟩
          · rintro ⟨e2, xn, xs, nu', d', lt', ft', fm', kl', ks', kd', kk', l', mn, mk, mp, mv, dc, dl', ck', y1, y2, y3, y6⟩
            exact ⟨e2, xn, xs, nu', d', lt', ft', fm', kl', ks', kd', kk', l', mn, mk, mp, mv, dc, dl', ck', y1, y2, rM.trans y3, y6⟩
        · rw [rX, zb7_r, if_pos rfl, zb12_r, if_pos rfl]
          refine Or.inr ⟨e, _, _, _, _, _, _, _, _, _, _, _, nI i + 1, mn, mk, mp, mv, nI d, dl', ck, re, rfl, rM.trans ?_, fun j hj => rfl⟩
          show fX8_chancery_L32 fu (nI n) mt KM f _ _ _ _ _ _ _ _ _ = _
          rw [hf0, m_L32F _ _ _ _ _ _ _ _ _ _ _ _ (show e < 1000 by omega)]
      · rw [if_neg z1, if_neg z2, zb12_r, if_pos rfl, bad]
        exact Or.inr ⟨tS n B p, _, _, _, _, _, _, _, _, _, _, _, _, _, _, _, _, _, _, _, by omega, rfl, rfl, fun j hj => rfl⟩
    · have u4 := w3 isc ist
      rw [xl2 ist, zb1_r, if_pos rfl, zb12_r, if_pos rfl, if_neg (show ¬ nI (mT n B p) = (1 : Int32) by rw [u4]; decide), bad]
      exact Or.inr ⟨tS n B p, _, _, _, _, _, _, _, _, _, _, _, _, _, _, _, _, _, _, _, by omega, rfl, rfl, fun j hj => rfl⟩
