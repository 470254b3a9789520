/-! order, drift: both searches side by side -/
theorem q_n9c : ∀ a, a < 10 → ¬ nI a = (-9 : Int32) := by decide
theorem rowR_list {m N : Nat} {g : Nat → Int32} {r : Nat → Nat} (h : rowR m N g r) : rowR m N g (fun k => ((List.range m).map r).getD k 0) := by
  intro k hk
  have e : ((List.range m).map r).getD k 0 = r k := by simp [List.getD, hk]
  show g k = nI (((List.range m).map r).getD k 0) ∧ ((List.range m).map r).getD k 0 < N
  rw [e]; exact h k hk
theorem rowR_eq {m N : Nat} {g b : Nat → Int32} {r : Nat → Nat} (h : rowR m N g r) (e : ∀ k, k < m → b k = g k) : rowR m N b r := fun k hk => by rw [e k hk]; exact h k hk
theorem ends_cases {m n : Nat} {l : List Nat} (h : ends m (n + 1) l = true) : stp m (fun k => l.getD k 0) = none ∨ ∃ r, stp m (fun k => l.getD k 0) = some r ∧ ends m n ((List.range m).map r) = true := by
  rw [ends, stpL] at h
  cases e : stp m (fun k => l.getD k 0) with
  | none => exact Or.inl rfl
  | some r => rw [e] at h; exact Or.inr ⟨r, rfl, h⟩
theorem m_copy {m : Nat} (hm : m ≤ 6) {g : Nat → Int32} (fu : Nat) (z q : Int32) (K : (Nat → Int32) → Option (Int32 × Int32 × (Nat → Int32) × (Nat → Int32))) : ∀ (j i f : Nat) (b : Nat → Int32), i + j = m → j < f → (∀ k, k < i → b k = g k) → ∃ b', (∀ k, k < m → b' k = g k) ∧ fX8_bestRow_L86 fu z q (nI m) g K f (nI i) b = K b' := by
  intro j
  induction j with
  | zero =>
    intro i f b hi hf hb
    obtain ⟨f, rfl⟩ : ∃ g, f = g + 1 := ⟨f - 1, by omega⟩
    refine ⟨b, fun k hk => hb k (by omega), ?_⟩
    rw [fX8_bestRow_L86, show i = m by omega, if_pos (Int32.le_refl _)]
  | succ j ih =>
    intro i f b hi hf hb
    obtain ⟨f, rfl⟩ : ∃ g, f = g + 1 := ⟨f - 1, by omega⟩
    rw [fX8_bestRow_L86, if_neg (nI_ge (by omega) (by omega))]
    simp only [if_pos (q_in (k := i) (n := 6) (by omega) (by omega)), q_cl (n := i) (by omega), q_1]
    refine ih (i + 1) f _ (by omega) (by omega) (fun k hk => ?_)
    rw [q_up]
    by_cases e : k = i
    · rw [if_pos e, e]
    · rw [if_neg e]; exact hb k (by omega)
theorem x_keepRow {m : Nat} (hm : m ≤ 6) (g b : Nat → Int32) : ∃ b', (∀ k, k < m → b' k = g k) ∧ fX4_keepRow (nI m) g b = some b' := by
  refine ⟨va_cpy g b 0 0 m, fun k hk => ?_, ?_⟩
  · rw [va_cpy, if_pos (by omega)]; congr 1; omega
  · rw [fX4_keepRow]
    simp only [if_pos (q_in (k := m) (n := 7) (by omega) (by omega)), q_cl (n := m) (by omega)]
theorem m_rest {m no : Nat} (hm : m ≤ 6) (hno : no ≤ 6) (fu : Nat) (hfu : 100 ≤ fu) {ck s : Nat → Int32} {z : Int32} {F : (Nat → Nat) → Nat} (hF : ∀ r, F r < 10) (hM : ∀ g r, rowR m no g r → fX8_farBy fu (nI m) ck s g z = some (nI (F r))) (bM : Nat → Int32) : ∀ (k : Nat) (l : List Nat) (f2 : Nat) (gM : Nat → Int32), ends m (k + 1) l = true → rowR m no gM (fun k => l.getD k 0) → k < f2 → ∃ gM', zb2 (fX8_steps fu (nI m) gM) (fun y g' => fX8_bestRow_L56 fu z (nI m) ck s (fun a b c => some (a, nI m, b, c)) f2 (nI 0) y g' bM) = some (nI 0, nI m, gM', bM) := by
  intro k
  induction k with
  | zero =>
    intro l f2 gM he hR hf
    obtain ⟨f2, rfl⟩ : ∃ g, f2 = g + 1 := ⟨f2 - 1, by omega⟩
    obtain ⟨s1, s2⟩ := m_step hm hno fu hfu hR
    rcases ends_cases he with e | ⟨r, e, e2⟩
    · rw [s1 e, zb2_r, fX8_bestRow_L56, if_pos rfl]; exact ⟨_, rfl⟩
    · cases e2
  | succ k ih =>
    intro l f2 gM he hR hf
    obtain ⟨f2, rfl⟩ : ∃ g, f2 = g + 1 := ⟨f2 - 1, by omega⟩
    obtain ⟨s1, s2⟩ := m_step hm hno fu hfu hR
    rcases ends_cases he with e | ⟨r, e, e2⟩
    · rw [s1 e, zb2_r, fX8_bestRow_L56, if_pos rfl]; exact ⟨_, rfl⟩
    · obtain ⟨g', g1, g2⟩ := s2 r e
      rw [g2, zb2_r, fX8_bestRow_L56, if_neg z10, hM g' r g1, zb1_r, if_neg (q_n9c 0 (by omega)), if_pos (nI_le (Nat.zero_le _) (by have := hF r; omega))]
      exact ih _ f2 g' e2 (rowR_list g1) (by omega)
theorem seek_L {m no : Nat} (hm : m ≤ 6) (hno : no ≤ 6) (fu : Nat) (hfu : 100 ≤ fu) {le ck s : Nat → Int32} {z zf zt zw : Int32} {F : (Nat → Nat) → Nat} (hF : ∀ r, F r < 10) (hX : ∀ g r, rowR m no g r → fX4_stray fu (nI m) g (nI no) le zf zt zw = some (nI (F r))) (hM : ∀ g r, rowR m no g r → fX8_farBy fu (nI m) ck s g z = some (nI (F r))) : ∀ (k : Nat) (l : List Nat) (v : Nat) (bl : Nat → Nat) (f f2 : Nat) (gX gM bX bM : Nat → Int32), k ≤ 719 → ends m (k + 1) l = true → rowR m no gX (fun k => l.getD k 0) → rowR m no gM (fun k => l.getD k 0) → rowR m no bX bl → rowR m no bM bl → v < 10 → k < f → k < f2 → ∃ v' bl' gX' bX' gM' bM', v' < 10 ∧ rowR m no bX' bl' ∧ rowR m no bM' bl' ∧ fX4_seek_L26 fu zf zt zw (nI m) (nI no) le (fun a b c => some (nI m, a, b, c)) f (nI (720 - k)) (nI v) gX bX = some (nI m, nI v', gX', bX') ∧ zb2 (fX8_steps fu (nI m) gM) (fun y g' => fX8_bestRow_L56 fu z (nI m) ck s (fun a b c => some (a, nI m, b, c)) f2 (nI v) y g' bM) = some (nI v', nI m, gM', bM') := by
  intro k
  induction k with
  | zero =>
    intro l v bl f f2 gX gM bX bM hk he hX1 hM1 hbX hbM hv hf hf2
    obtain ⟨f, rfl⟩ : ∃ g, f = g + 1 := ⟨f - 1, by omega⟩
    obtain ⟨f2, rfl⟩ : ∃ g, f2 = g + 1 := ⟨f2 - 1, by omega⟩
    obtain ⟨s1, s2⟩ := m_step hm hno fu hfu hM1
    rcases ends_cases he with e | ⟨r, e, e2⟩
    · rw [s1 e, zb2_r, fX8_bestRow_L56, if_pos rfl, fX4_seek_L26, if_pos (by decide)]
      exact ⟨v, bl, _, _, _, _, hv, hbX, hbM, rfl, rfl⟩
    · cases e2
  | succ k ih =>
    intro l v bl f f2 gX gM bX bM hk he hX1 hM1 hbX hbM hv hf hf2
    obtain ⟨f, rfl⟩ : ∃ g, f = g + 1 := ⟨f - 1, by omega⟩
    rw [fX4_seek_L26, if_neg (show ¬ (720 : Int32) ≤ nI (720 - (k + 1)) from nI_ge (b := 720) (by omega) (by omega))]
    by_cases v0 : v = 0
    · subst v0
      rw [if_pos (show nI 0 ≤ (0 : Int32) by decide)]
      obtain ⟨gM', w⟩ := m_rest hm hno fu hfu hF hM bM (k + 1) l f2 gM he hM1 hf2
      rw [w]
      exact ⟨0, bl, _, _, _, _, hv, hbX, hbM, rfl, rfl⟩
    obtain ⟨f2, rfl⟩ : ∃ g, f2 = g + 1 := ⟨f2 - 1, by omega⟩
    obtain ⟨s1, s2⟩ := m_step hm hno fu hfu hM1
    obtain ⟨x1, x2⟩ := x_step hm hno fu hfu hX1
    rw [if_neg (show ¬ nI v ≤ (0 : Int32) from nI_ge (a := 0) (by omega) (by omega))]
    rcases ends_cases he with e | ⟨r, e, e2⟩
    · rw [s1 e, x1 e, zb2_r, zb2_r, fX8_bestRow_L56, if_pos rfl, if_pos rfl]
      exact ⟨v, bl, _, _, _, _, hv, hbX, hbM, rfl, rfl⟩
    · obtain ⟨gM', g1, g2⟩ := s2 r e
      obtain ⟨gX', h1, h2⟩ := x2 r e
      have hFr := hF r
      rw [g2, h2, zb2_r, zb2_r, fX8_bestRow_L56, if_neg z10, if_neg z10, hM gM' r g1, hX gX' r h1, zb1_r, zb1_r, if_neg (q_n9c v (by omega)), q_1, show 720 - (k + 1) + 1 = 720 - k by omega]
      by_cases c : v ≤ F r
      · rw [if_pos (nI_le c (by omega)), if_pos (nI_le c (by omega))]
        exact ih _ v bl f f2 gX' gM' bX bM (by omega) e2 (rowR_list h1) (rowR_list g1) hbX hbM hv (by omega) (by omega)
      · rw [if_neg (nI_ge (by omega) (by omega)), if_neg (nI_ge (by omega) (by omega)), fX8_bestRow_J80]
        obtain ⟨bX', b1, b2⟩ := x_keepRow hm gX' bX
        obtain ⟨bM', c1, c2⟩ := m_copy hm (g := gM') fu z (nI (F r)) (fun (f_best_86e : Nat → Int32) => (zb2 (fX8_steps fu (nI m) gM') (fun (y116) (y116_f_row : Nat → Int32) => fX8_bestRow_L56 fu z (nI m) ck s (fun a b c => some (a, nI m, b, c)) f2 (nI (F r)) y116 y116_f_row f_best_86e))) m 0 fu bM (by omega) (by omega) (fun k hk => by omega)
        rw [b2, zb1_r]
        have := ih _ (F r) r f f2 gX' gM' bX' bM' (by omega) e2 (rowR_list h1) (rowR_list g1) (rowR_eq h1 b1) (rowR_eq g1 c1) hFr (by omega) (by omega)
        rw [← c2] at this
        exact this
/-- the whole search, from a set of clerks -/
theorem seek_all {no : Nat} (hno : no ≤ 6) (fu : Nat) (hfu : 1000 ≤ fu) {le ck s : Nat → Int32} {z zf zt zw : Int32} {S : Nat} (hS : S < 2 ^ no) {F : (Nat → Nat) → Nat} (hF : ∀ r, F r < 10) (hX : ∀ g r, rowR (rws S no).length no g r → fX4_stray fu (nI (rws S no).length) g (nI no) le zf zt zw = some (nI (F r))) (hM : ∀ g r, rowR (rws S no).length no g r → fX8_farBy fu (nI (rws S no).length) ck s g z = some (nI (F r))) (sz ls rm : Int32) (gX bX gM bM : Nat → Int32) : ∃ m v bl gX' bX' gM' bM', m ≤ 6 ∧ v < 10 ∧ rowR m no bX' bl ∧ rowR m no bM' bl ∧ fX4_seek fu sz ls gX bX (nI no) le (nI S) zf zt zw = some (nI m, nI v, gX', bX') ∧ fX8_bestRow fu (nI no) rm ck s gM bM (nI S) z = some (nI v, nI m, gM', bM') := by
  have hS64 : S < 64 := Nat.lt_of_lt_of_le hS (show 2 ^ no ≤ 2 ^ 6 from Nat.pow_le_pow_right (by omega) hno)
  have e6 := rws_no no (by omega) S hS
  have hz := rws_hz no (by omega) S hS
  have hE := ends_all S hS64
  have hm := rws_len S no
  obtain ⟨g1, a1, a2⟩ := x_lineUp hS64 hno hz fu (fun (v_size_7e) (f_row_7e : Nat → Int32) => (some (v_size_7e, f_row_7e))) 6 0 fu gX (by omega) (by omega) (fun k hk => absurd hk (Nat.not_lt_zero k))
  obtain ⟨g2, b1, b2⟩ := m_lineUp hS64 hno fu z (fun (v_rowMany_7e) (f_row_7e : Nat → Int32) => (fX8_bestRow_L56 fu z v_rowMany_7e ck s (fun (l3_56e) (f_row_56e : Nat → Int32) (f_best_56e : Nat → Int32) => (some (l3_56e, v_rowMany_7e, f_row_56e, f_best_56e))) fu ((-9)) (1) f_row_7e bM)) no 0 fu gM (by omega) (by omega) (fun k hk => absurd hk (Nat.not_lt_zero k))
  rw [e6] at a1 a2 hE
  rw [show nI (rws S 0).length = (0 : Int32) from rfl, show nI 0 = (0 : Int32) from rfl] at a2 b2
  rw [fX4_seek, fX8_bestRow, fX4_lineUp, a2, b2, zb2_r]
  generalize hL : rws S no = L at *
  obtain ⟨fu', hfu'⟩ : ∃ g, fu = g + 1 := ⟨fu - 1, by omega⟩
  have hm6 : L.length ≤ 6 := by omega
  obtain ⟨bX', c1, c2⟩ := x_keepRow hm6 g1 bX
  have hFr := hF (fun k => L.getD k 0)
  rw [hX _ _ a1, zb1_r, c2, zb1_r]
  have hu : fX8_bestRow_L56 fu z (nI L.length) ck s (fun (l3_56e) (f_row_56e : Nat → Int32) (f_best_56e : Nat → Int32) => (some (l3_56e, nI L.length, f_row_56e, f_best_56e))) fu (-9) 1 g2 bM = fX8_bestRow_J80 fu z (nI L.length) (fun (l3_56e) (f_row_56e : Nat → Int32) (f_best_56e : Nat → Int32) => (some (l3_56e, nI L.length, f_row_56e, f_best_56e))) (fun (l3_56b) (l4_56b) (f_row_56b : Nat → Int32) (f_best_56b : Nat → Int32) => fX8_bestRow_L56 fu z (nI L.length) ck s (fun (l3_56e) (f_row_56e : Nat → Int32) (f_best_56e : Nat → Int32) => (some (l3_56e, nI L.length, f_row_56e, f_best_56e))) fu' l3_56b l4_56b f_row_56b f_best_56b) (nI (F (fun k => L.getD k 0))) g2 bM := by
    have hM2 := hM _ _ b1
    conv => lhs; arg 7; rw [hfu']
    rw [fX8_bestRow_L56, if_neg z10, hM2, zb1_r, if_pos rfl]
  rw [hu, fX8_bestRow_J80]
  obtain ⟨bM', d1, d2⟩ := m_copy hm6 (g := g2) fu z (nI (F (fun k => L.getD k 0))) (fun (f_best_86e : Nat → Int32) => (zb2 (fX8_steps fu (nI L.length) g2) (fun (y116) (y116_f_row : Nat → Int32) => fX8_bestRow_L56 fu z (nI L.length) ck s (fun a b c => some (a, nI L.length, b, c)) fu' (nI (F (fun k => L.getD k 0))) y116 y116_f_row f_best_86e))) L.length 0 fu bM (by omega) (by omega) (fun k hk => by omega)
  obtain ⟨v', bl', gX', bX2, gM', bM2, r1, r2, r3, r4, r5⟩ := seek_L hm6 hno fu (by omega) hF hX hM 719 L (F (fun k => L.getD k 0)) (fun k => L.getD k 0) fu fu' g1 g2 bX' bM' (by omega) hE a1 b1 (rowR_eq a1 c1) (rowR_eq b1 d1) hFr (by omega) (by omega)
  rw [← d2] at r5
  exact ⟨L.length, v', bl', gX', bX2, gM', bM2, hm6, r1, r2, r3, r4, r5⟩
theorem q_2pow : ∀ no, no < 7 → (1 : Int32) <<< (nI no &&& 31) = nI (2 ^ no) := by decide +kernel
theorem q_set {no : Nat} (hno : no ≤ 6) (x : Int32) : (∃ S, S < 2 ^ no ∧ x = nI S ∧ fX3_hasAll (nI no) x = some 1 ∧ fX8_areClerks (nI no) x = some 1) ∨ (fX3_hasAll (nI no) x = some 0 ∧ fX8_areClerks (nI no) x = some 0) := by
  have h64 : 2 ^ no ≤ 2 ^ 6 := Nat.pow_le_pow_right (by omega) hno
  have h1 : 0 < 2 ^ no := Nat.pow_pos (by omega)
  have e64 : 2 ^ 6 = 64 := rfl
  rw [fX3_hasAll, fX8_areClerks, q_2pow no (by omega)]
  rcases q_what x (2 ^ no) (by omega) with ⟨S, hS, rfl⟩ | ⟨hx, -⟩
  · refine Or.inl ⟨S, hS, rfl, ?_, ?_⟩
    · rw [if_neg (nI_pos (by omega)), if_neg (nI_ge hS (by omega))]
    · rw [m_in1 (nI_pos (by omega)) (fun q => nI_ge hS (by omega) ((q_pred (by omega) _).mp q)), zb1_r, if_pos (Or.inr rfl)]
  · refine Or.inr ⟨?_, ?_⟩
    · by_cases h0 : x < 0
      · rw [if_pos h0]
      · rw [if_neg h0, if_pos (hx.resolve_left h0)]
    · rw [m_in0 (hx.imp id (fun q => (q_pred (by omega) _).mpr q)), zb1_r, if_pos (Or.inl rfl)]
theorem rO_A {no oc le se dr ke cl ck} (hO : rO no oc le se dr ke cl ck) : ∃ A : Nat → Nat, ∀ c, c < no → A c < 9 ∧ le c = nI (A c) ∧ ck (4 * c) = nI (A c) := by
  have : ∀ c, ∃ a, c < no → a < 9 ∧ le c = nI a ∧ ck (4 * c) = nI a := by
    intro c
    by_cases hc : c < no
    · obtain ⟨a, b, d, k, ha, hb, hd, hk, e1, e2, e3, e4, e5, e6, e7, e8⟩ := hO.2.2.2 c hc
      exact ⟨a, fun _ => ⟨ha, e1, e5⟩⟩
    · exact ⟨0, fun q => absurd q hc⟩
  exact ⟨fun c => Classical.choose (this c), fun c hc => Classical.choose_spec (this c) hc⟩
/-- what is told of a search -/
theorem told_end {m v : Nat} {bl : Nat → Nat} {no : Nat} {bX bM : Nat → Int32} (hm : m ≤ 6) (h1 : rowR m no bX bl) (h2 : rowR m no bM bl) (x : Int32) (rm : Int32) (gM : Nat → Int32) : ∃ r, fX4_answer (nI m) (nI v) bX x = some r ∧ (if (0 : Int32) ≤ x then (if nI m ≤ x then (some (((-5 : Int32)), nI m, gM, bM)) else (if zin x 6 then (some ((bM (x).toNatClampNeg), nI m, gM, bM)) else none)) else (some (nI v, nI m, gM, bM))) = some (r, nI m, gM, bM) := by
  rw [fX4_answer]
  by_cases h0 : (0 : Int32) ≤ x
  · rw [if_pos h0, if_pos h0]
    rcases q_what x m (by omega) with ⟨i, hi, rfl⟩ | ⟨hx, -⟩
    · rw [if_neg (nI_ge hi (by omega)), if_neg (nI_ge hi (by omega))]
      simp only [if_pos (q_in (k := i) (n := 6) (by omega) (by omega)), q_cl (n := i) (by omega), (h1 i hi).1, (h2 i hi).1]
      exact ⟨_, rfl, rfl⟩
    · have := hx.resolve_left (Int32.not_lt.mpr h0)
      rw [if_pos this, if_pos this]; exact ⟨_, rfl, rfl⟩
  · rw [if_neg h0, if_neg h0]; exact ⟨_, rfl, rfl⟩
theorem op_order {n ll lk lt lm lw s no oc le se dr ke cl ck} (h : rL n ll lk lt lm lw s 0) (hO : rO no oc le se dr ke cl ck) (fu : Nat) (hfu : 1000 ≤ fu) (th sz ls rm : Int32) (gX bX gM bM : Nat → Int32) (x1 x2 x3 : Int32) : ∃ r sz' ls' gX' bX' rm' gM' bM', fX7_order fu ll lt sz ls gX bX oc le x1 x2 x3 = some (r, sz', ls', gX', bX') ∧ fX8_order fu th cl rm ck s gM bM x1 x2 x3 = some (r, 0, rm', gM', bM') := by
  obtain ⟨A, hA⟩ := rO_A hO
  have o1 := hO.1
  have o2 := hO.2.1
  have o3 := hO.2.2.1
  obtain ⟨h1, h2, h3, h4, h5, h6⟩ := h
  subst o2; subst o3; subst h3
  obtain ⟨p, rfl⟩ : ∃ p, n = p + 1 := ⟨n - 1, by omega⟩
  obtain ⟨t, g, ht, hg, a1, a2, a3, a4⟩ := h6 p (by omega)
  have hl : fX8_last s = some (nI (t + 10 * g)) := by rw [m_last (by omega) h4, ← a3]; congr 2; omega
  rw [fX7_order, fX8_order]
  rcases q_set o1 x1 with ⟨S, hS, rfl, w1, w2⟩ | ⟨w1, w2⟩
  · rw [w1, w2, zb1_r, zb1_r, if_neg z10, if_neg z10]
    rcases q_what x2 10 (by omega) with ⟨tg, htg, rfl⟩ | ⟨hx, -⟩
    · rw [x_isTone htg, m_in9 htg, zb1_r, zb1_r, if_neg z10, if_neg z10]
      by_cases c : (-1 : Int32) ≤ x3
      · have hm := rws_len S no
        obtain ⟨m, v, bl, gX', bX', gM', bM', q1, q2, q3, q4, q5, q6⟩ := seek_all o1 fu hfu (le := le) (ck := ck) (s := s) (z := nI tg) (zf := nI t) (zt := nI tg) (zw := 0) hS (F := fun r => far A r (rws S no).length t tg false) (fun r => far_lt ht htg) (fun g2 r hR => x_stray (by omega) o1 hR (fun c hc => ⟨(hA c hc).1, (hA c hc).2.1⟩) ht htg fu (by omega) false) (fun g2 r hR => (m_far (by omega) o1 hR (fun c hc => ⟨(hA c hc).1, (hA c hc).2.2⟩) ht hg htg fu (by omega) hl).1) sz ls rm gX bX gM bM
        obtain ⟨r, r1, r2⟩ := told_end (v := v) q1 q3 q4 x3 rm gM'
        rw [if_pos c, if_pos c, x_lastTone (by omega), zb1_r, a1, q5, zb4_r, r1, zb1_r, fX8_told, q6, zb4_r, r2, zb4_r]
        exact ⟨_, _, _, _, _, _, _, _, rfl, rfl⟩
      · rw [if_neg c, if_neg c]; exact ⟨_, _, _, _, _, _, _, _, rfl, rfl⟩
    · have hin : fX8_in x2 0 9 = some 0 := m_in0N (n := 9) (by omega) hx
      rw [x_isTone0 hx, hin, zb1_r, zb1_r, if_pos rfl, if_pos rfl]
      exact ⟨_, _, _, _, _, _, _, _, rfl, rfl⟩
  · rw [w1, w2, zb1_r, zb1_r, if_pos rfl, if_pos rfl]
    exact ⟨_, _, _, _, _, _, _, _, rfl, rfl⟩
theorem op_drift {n ll lk lt lm lw s no oc le se dr ke cl ck} (h : rL n ll lk lt lm lw s 0) (hO : rO no oc le se dr ke cl ck) (fu : Nat) (hfu : 1000 ≤ fu) (th sz ls rm : Int32) (gX bX gM bM : Nat → Int32) (x1 x3 : Int32) : ∃ r sz' ls' gX' bX' rm' gM' bM', fX7_drift fu ll lt sz ls gX bX oc le x1 x3 = some (r, sz', ls', gX', bX') ∧ fX8_drift fu th cl rm ck s gM bM x1 x3 = some (r, 0, rm', gM', bM') := by
  obtain ⟨A, hA⟩ := rO_A hO
  have o1 := hO.1
  have o2 := hO.2.1
  have o3 := hO.2.2.1
  obtain ⟨h1, h2, h3, h4, h5, h6⟩ := h
  subst o2; subst o3; subst h3
  obtain ⟨p, rfl⟩ : ∃ p, n = p + 1 := ⟨n - 1, by omega⟩
  obtain ⟨t, g, ht, hg, a1, a2, a3, a4⟩ := h6 p (by omega)
  have hl : fX8_last s = some (nI (t + 10 * g)) := by rw [m_last (by omega) h4, ← a3]; congr 2; omega
  rw [fX7_drift, fX8_drift]
  rcases q_set o1 x1 with ⟨S, hS, rfl, w1, w2⟩ | ⟨w1, w2⟩
  · rw [w1, w2, zb1_r, zb1_r, if_neg z10, if_neg z10]
    by_cases c : (-1 : Int32) ≤ x3
    · have hm := rws_len S no
      obtain ⟨m, v, bl, gX', bX', gM', bM', q1, q2, q3, q4, q5, q6⟩ := seek_all o1 fu hfu (le := le) (ck := ck) (s := s) (z := -1) (zf := nI t) (zt := nI t) (zw := 1) hS (F := fun r => far A r (rws S no).length t t true) (fun r => far_lt ht ht) (fun g2 r hR => x_stray (by omega) o1 hR (fun c hc => ⟨(hA c hc).1, (hA c hc).2.1⟩) ht ht fu (by omega) true) (fun g2 r hR => (m_far (by omega) o1 hR (fun c hc => ⟨(hA c hc).1, (hA c hc).2.2⟩) ht hg ht fu (by omega) hl).2) sz ls rm gX bX gM bM
      obtain ⟨r, r1, r2⟩ := told_end (v := v) q1 q3 q4 x3 rm gM'
      rw [if_pos c, if_pos c, x_lastTone (by omega), zb1_r, zb1_r, a1, q5, zb4_r, r1, zb1_r, fX8_told, q6, zb4_r, r2, zb4_r]
      exact ⟨_, _, _, _, _, _, _, _, rfl, rfl⟩
    · rw [if_neg c, if_neg c]; exact ⟨_, _, _, _, _, _, _, _, rfl, rfl⟩
  · rw [w1, w2, zb1_r, zb1_r, if_pos rfl, if_pos rfl]
    exact ⟨_, _, _, _, _, _, _, _, rfl, rfl⟩
