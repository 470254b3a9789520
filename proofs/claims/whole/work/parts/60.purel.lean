/-! chancery, as a whole -/
def cpF (ck : Nat → Int32) (i : Nat) : Nat → Int32 := fun j => if j < i then ck (24 + j) else ck j
theorem m_copyC (fu : Nat) (l : Int32) (ck : Nat → Int32) (K : (Nat → Int32) → Option (Int32 × Int32 × Int32 × Int32 × Int32 × Int32 × Int32 × Int32 × Int32 × Int32 × Int32 × Int32 × Int32 × (Nat → Int32) × (Nat → Int32) × (Nat → Int32))) : ∀ (j i f : Nat), i + j = 24 → j < f → fX8_chancery_L153 fu l K f (nI i) (cpF ck i) = K (cpF ck 24) := by
  intro j
  induction j with
  | zero =>
    intro i f hi hf
    obtain ⟨f, rfl⟩ : ∃ g, f = g + 1 := ⟨f - 1, by omega⟩
    rw [fX8_chancery_L153, show i = 24 by omega, if_pos (by decide)]
  | succ j ih =>
    intro i f hi hf
    obtain ⟨f, rfl⟩ : ∃ g, f = g + 1 := ⟨f - 1, by omega⟩
    have e : upd (cpF ck i) i (cpF ck i (24 + i)) = cpF ck (i + 1) := by
      funext k
      show (if k = i then (if 24 + i < i then ck (24 + (24 + i)) else ck (24 + i)) else (if k < i then ck (24 + k) else ck k)) = (if k < i + 1 then ck (24 + k) else ck k)
      by_cases c : k = i
      · rw [if_pos c, if_neg (by omega), if_pos (by omega), c]
      · rw [if_neg c]
        by_cases c2 : k < i
        · rw [if_pos c2, if_pos (by omega)]
        · rw [if_neg c2, if_neg (by omega)]
    rw [fX8_chancery_L153, if_neg (show ¬ (24 : Int32) ≤ nI i from nI_ge (b := 24) (by omega) (by omega))]
    simp only [show (24 : Int32) + nI i = nI (24 + i) from nI_add 24 i, if_pos (q_in (k := 24 + i) (n := 48) (by omega) (by omega)), if_pos (q_in (k := i) (n := 48) (by omega) (by omega)), q_cl (n := i) (by omega), q_cl (n := 24 + i) (by omega), q_1, e]
    exact ih (i + 1) f (by omega) (by omega)
theorem x_begin (fu : Nat) (hfu : 1000 ≤ fu) (tl ll i0 i1 sc cc ft fm : Int32) (lt lm lw : Nat → Int32) : fX7_beginAnew fu tl ll lt lm lw i0 i1 sc cc ft fm = some (0, 1, upd lt 0 ft, upd lm 0 fm, upd lw 0 (-9), 0, 0, 0, 0) := by
  obtain ⟨g, rfl⟩ : ∃ g, fu = g + 3 := ⟨fu - 3, by omega⟩
  rw [fX7_beginAnew, fX2_begin, show fX2_add 0 lt lm lw ft fm (-9) = _ from x_add2 (n := 0) (by omega) lt lm lw ft fm (-9), zb4_r, zb4_r]
  rw [show g + 3 = g + 2 + 1 from rfl, fX7_beginAnew_L47, if_neg (by decide), if_pos rfl, show g + 2 = g + 1 + 1 from rfl, fX7_beginAnew_L47, if_neg (by decide), if_neg (by decide), if_pos (by decide), fX7_beginAnew_L47, if_pos (by decide)]
  rfl
theorem rL_begin {s lt lm lw : Nat → Int32} {lk : Int32} (h : s 21 = lk) {t g : Nat} (ht : t < 10) (hg : g < 8) : rL 1 1 lk (upd lt 0 (nI t)) (upd lm 0 (nI g)) (upd lw 0 (-9)) (upd (upd (upd s 0 (nI (t + 10 * g))) 1 (-9)) 20 1) 0 := by
  refine ⟨by omega, by omega, rfl, ?_, ?_, fun k hk => ?_⟩
  · rw [q_up, if_pos rfl]; rfl
  · rw [q_up, if_neg (by omega), q_up, if_neg (by omega), q_up, if_neg (by omega)]; exact h
  · have : k = 0 := by omega
    subst this
    refine ⟨t, g, ht, hg, by rw [q_up, if_pos rfl], by rw [q_up, if_pos rfl], ?_, ?_⟩
    · rw [q_up, if_neg (by omega), q_up, if_neg (by omega), q_up, if_pos rfl]
    · rw [q_up, if_neg (by omega), q_up, if_pos rfl, q_up, if_pos rfl]
theorem dfR_0 (kl ks kd kk ck : Nat → Int32) : dfR 0 kl ks kd kk ck := ⟨by omega, fun c hc => absurd hc (Nat.not_lt_zero c)⟩
theorem rO_df {d kl ks kd kk ck} (h : dfR d kl ks kd kk ck) : rO d (nI d) kl ks kd kk (nI d) (cpF ck 24) := by
  refine ⟨h.1, rfl, rfl, fun c hc => ?_⟩
  have hd := h.1
  obtain ⟨a2, b2, e2, k2, r1, r2, r3, r4, r5, r6, r7, r8, r9, r10, r11, r12⟩ := h.2 c hc
  refine ⟨a2, b2, e2, k2, r1, r2, r3, r4, r5, r6, r7, r8, ?_, ?_, ?_, ?_⟩
  · rw [cpF, if_pos (by omega)]; exact r9
  · rw [cpF, if_pos (by omega)]; exact r10
  · rw [cpF, if_pos (by omega)]; exact r11
  · rw [cpF, if_pos (by omega)]; exact r12
set_option maxHeartbeats 4000000 in
theorem op_chancery {nt tl tb ty mt} (hT : rT nt tl tb ty mt) {s : Nat → Int32} {lk : Int32} (hs : s 21 = lk) (fu : Nat) (hfu : 1000 ≤ fu) (ao ad : Nat) (tn ts tu ll i0 i1 sc cc dc dt df dm : Int32) (lt lm lw kl ks kd kk : Nat → Int32) (th nx tk pl va fa cl dcl dln sg cp : Int32) (ck isK : Nat → Int32) :
    ∃ y ro rd tl' tn' ts' tu' ll' lt' lm' lw' i0' i1' sc' cc' dc' dt' df' dm' kl' ks' kd' kk' ty' nx' tk' pl' va' fa' cl' dcl' dln' sg' cp' ck' s' isK', fX7_chancery fu ao ad tl tn ts tu tb ll lt lm lw i0 i1 sc cc dc dt df dm kl ks kd kk = some (y, ro, rd, tl', tn', ts', tu', ll', lt', lm', lw', i0', i1', sc', cc', dc', dt', df', dm', kl', ks', kd', kk') ∧ fX8_chancery fu th ty nx tk pl va fa cl dcl dln sg cp mt ck s isK = some (y, 0, ty', nx', tk', pl', va', fa', cl', dcl', dln', sg', cp', ck', s', isK') ∧
    ((¬ y < 0 ∧ tl' = 0 ∧ ty' = 0 ∧ rL 1 ll' lk lt' lm' lw' s' 0 ∧ (∃ no', rO no' dc' kl' ks' kd' kk' cl' ck') ∧ i0' = 0 ∧ i1' = 0 ∧ isK' 0 = 0 ∧ isK' 1 = 0 ∧ sc' = 0 ∧ sg' = 0 ∧ cc' = 0 ∧ cp' = 0)
    ∨ (y < 0 ∧ tl' = tl ∧ ty' = ty ∧ ll' = ll ∧ lt' = lt ∧ lm' = lm ∧ lw' = lw ∧ i0' = i0 ∧ i1' = i1 ∧ sc' = sc ∧ cc' = cc ∧ cl' = cl ∧ sg' = sg ∧ cp' = cp ∧ s' = s ∧ isK' = isK ∧ ∀ j, j < 24 → ck' j = ck j)) := by
  obtain ⟨B, hB⟩ := rT_B hT
  have h1 := hT.1
  have hb := hT.2.1
  have hc := hT.2.2.1
  subst hb; subst hc
  have xt := x_take hB fu hfu (p := 0) (Nat.zero_le _) ts
  have ma := m_adv hB fu hfu (p := 0) (Nat.zero_le _) tk pl va
  rw [show nI 0 = (0 : Int32) from rfl] at xt ma
  rw [fX7_chancery, fX8_chancery, ma, zb4_r, fX6_readInto, fX3_begin, zb4_r, xt, zb3_r]
  have hI := chan_L hB fu hfu (fun (l1_32e) (v_next_32e) (v_token_32e) (v_place_32e) (v_value_32e) (v_fault_32e) (v_draftClerks_32e) (v_draftLine_32e) (f_clerk_32e : Nat → Int32) => (fX8_chancery_J128 fu l1_32e (0) (nI nt) v_next_32e v_token_32e v_place_32e v_value_32e v_fault_32e cl v_draftClerks_32e v_draftLine_32e sg cp f_clerk_32e s isK)) (nt + 1) fu 0 0 0 (mV nt B 0 va) tu 0 5 0 (-9) kl ks kd kk ck (by omega) (by omega) (Nat.zero_le _) (Nat.le_refl _) (vaR_mV nt B 0 va) (dfR_0 _ _ _ _ _) (Or.inl ⟨rfl, rfl, rfl, rfl⟩)
  rw [show nI 0 = (0 : Int32) from rfl] at hI
  rcases hI with ⟨i', xn, xs, nu', d', lt2, ft, fm, kl', ks', kd', kk', mn, mk, mp, mv, dl', ck', y1, y2, y3, y4, y5, y6⟩ | ⟨e, xn, xs, nu', d', lt2, ft, fm, kl', ks', kd', kk', l', mn, mk, mp, mv, dc2, dl', ck', y1, y2, y3, y6⟩
  · rw [y2, y3, zb12_r, if_pos (nI_pos' (by omega)), x_begin fu hfu, zb9_r, fX8_chancery_J128, m_well, zb1_r, if_neg z10]
    have hC := fun K => m_copyC fu (nI i') ck' K 24 0 fu (by omega) (by omega)
    rw [show cpF ck' 0 = ck' from (by funext j; rw [cpF, if_neg (by omega)]), show nI 0 = (0 : Int32) from rfl] at hC
    rw [hC]
    have k0 : (upd (upd isK 0 0) 1 0) 0 = (0 : Int32) := by rw [q_up, if_neg (by omega), q_up, if_pos rfl]
    have k1 : (upd (upd isK 0 0) 1 0) 1 = (0 : Int32) := by rw [q_up, if_pos rfl]
    rcases y5 with ⟨a1, a2, a3, a4⟩ | ⟨a1, t, g, ht, hg, a2, a3, a4⟩
    · subst a2; subst a3
      rw [if_pos a4, fX8_begins, zb1_r]
      exact ⟨_, _, _, _, _, _, _, _, _, _, _, _, _, _, _, _, _, _, _, _, _, _, _, _, _, _, _, _, _, _, _, _, _, _, _, _, _, rfl, rfl, Or.inl ⟨nI_pos (by omega), rfl, rfl, rL_begin hs (t := 5) (g := 0) (by omega) (by omega), ⟨d', rO_df y4⟩, rfl, rfl, k0, k1, rfl, rfl, rfl, rfl⟩⟩
    · subst a2; subst a3; subst a4
      have hne : ¬ nI (t + 10 * g) = (-9 : Int32) := fun q => by
        have : nI (t + 10 * g) < 0 := by rw [q]; decide
        exact nI_pos (by omega) this
      rw [if_neg hne, fX8_begins, zb1_r]
      exact ⟨_, _, _, _, _, _, _, _, _, _, _, _, _, _, _, _, _, _, _, _, _, _, _, _, _, _, _, _, _, _, _, _, _, _, _, _, _, rfl, rfl, Or.inl ⟨nI_pos (by omega), rfl, rfl, rL_begin hs ht hg, ⟨d', rO_df y4⟩, rfl, rfl, k0, k1, rfl, rfl, rfl, rfl⟩⟩
  · have hneg : ((-10 : Int32) - nI e) < 0 := by
      rw [show (-10 : Int32) - nI e = nI 0 - nI (10 + e) from (by rw [show nI (10 + e) = nI 10 + nI e from (nI_add 10 e).symm, show nI 0 = (0 : Int32) from rfl, show nI 10 = (10 : Int32) from rfl, Int32.sub_eq_add_neg, Int32.sub_eq_add_neg, Int32.neg_add, Int32.zero_add, Int32.sub_eq_add_neg])]
      exact pk_sneg (by omega) (by omega)
    rw [y2, y3, zb12_r, if_neg (fun q => absurd hneg (Int32.not_lt.mpr q)), fX8_chancery_J128, m_ill (show e < 1000 by omega), zb1_r, if_pos rfl]
    exact ⟨_, _, _, _, _, _, _, _, _, _, _, _, _, _, _, _, _, _, _, _, _, _, _, _, _, _, _, _, _, _, _, _, _, _, _, _, _, rfl, rfl, Or.inr ⟨hneg, rfl, rfl, rfl, rfl, rfl, rfl, rfl, rfl, rfl, rfl, rfl, rfl, rfl, rfl, rfl, y6⟩⟩
