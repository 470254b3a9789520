/-! came, firsts: the chain of copies -/
def sbs (x y : Int32) : Prop := x &&& (y ^^^ (-1 : Int32)) = 0
theorem sbs_iff {x y : Int32} : sbs x y ↔ ∀ i, i < 32 → x.toBitVec.getLsbD i = true → y.toBitVec.getLsbD i = true := by
  unfold sbs
  rw [← Int32.toBitVec_inj, Int32.toBitVec_and, Int32.toBitVec_xor]
  have e1 : (-1 : Int32).toBitVec = BitVec.allOnes 32 := by decide
  have e0 : (0 : Int32).toBitVec = 0#32 := rfl
  rw [e1, e0]
  constructor
  · intro h i hi hx
    have := congrArg (fun z => BitVec.getLsbD z i) h
    simp only [BitVec.getLsbD_and, BitVec.getLsbD_xor, BitVec.getLsbD_allOnes, hi, hx, decide_true, Bool.true_and] at this
    simpa using this
  · intro h
    apply BitVec.eq_of_getLsbD_eq
    intro i hi
    simp only [BitVec.getLsbD_and, BitVec.getLsbD_xor, BitVec.getLsbD_allOnes, hi, decide_true]
    cases hx : x.toBitVec.getLsbD i with
    | false => simp
    | true => rw [h i hi hx]; simp
theorem sbs_trans {x y z : Int32} (h1 : sbs x y) (h2 : sbs y z) : sbs x z := sbs_iff.mpr (fun i hi hx => sbs_iff.mp h2 i hi (sbs_iff.mp h1 i hi hx))
theorem sbs_anti {x y : Int32} (h1 : sbs x y) (h2 : sbs y x) : x = y := by
  apply Int32.toBitVec_inj.mp
  apply BitVec.eq_of_getLsbD_eq
  intro i hi
  have a := sbs_iff.mp h1 i hi
  have b := sbs_iff.mp h2 i hi
  cases hx : x.toBitVec.getLsbD i with
  | false =>
    cases hy : y.toBitVec.getLsbD i with
    | false => rfl
    | true => rw [b hy] at hx; cases hx
  | true => exact (a hx).symm
/-- copy k can come of copy j -/
def cco (V : Nat → Int32) (k j : Nat) : Prop := j ≠ k ∧ sbs (V j) (V k) ∧ (V j ≠ V k ∨ j < k)
theorem cco_trans {V : Nat → Int32} {k j i : Nat} (h1 : cco V k j) (h2 : cco V j i) : cco V k i := by
  obtain ⟨a1, a2, a3⟩ := h1
  obtain ⟨b1, b2, b3⟩ := h2
  have hs := sbs_trans b2 a2
  by_cases e : V i = V k
  · have e2 : V j = V k := sbs_anti a2 (by rw [← e]; exact b2)
    have l1 : j < k := a3.resolve_left (fun q => q e2)
    have l2 : i < j := b3.resolve_left (fun q => q (e.trans e2.symm))
    exact ⟨by omega, hs, Or.inr (by omega)⟩
  · exact ⟨fun q => e (by rw [q]), hs, Or.inl e⟩
noncomputable def cnt (P : Nat → Prop) : Nat → Nat
  | 0 => 0
  | n + 1 => cnt P n + (@ite Nat (P n) (Classical.propDecidable (P n)) 1 0)
theorem cnt_le (P : Nat → Prop) : ∀ n, cnt P n ≤ n
  | 0 => Nat.le_refl _
  | n + 1 => by
    have := cnt_le P n
    rw [cnt]; split <;> omega
theorem cnt_mono {P Q : Nat → Prop} (h : ∀ i, P i → Q i) : ∀ n, cnt P n ≤ cnt Q n
  | 0 => Nat.le_refl _
  | n + 1 => by
    have := cnt_mono h n
    rw [cnt, cnt]
    by_cases c : P n
    · rw [if_pos c, if_pos (h n c)]; omega
    · rw [if_neg c]; omega
theorem cnt_lt {P Q : Nat → Prop} (h : ∀ i, P i → Q i) {i0 : Nat} (hq : Q i0) (hp : ¬ P i0) : ∀ n, i0 < n → cnt P n < cnt Q n
  | 0, h0 => by omega
  | n + 1, h0 => by
    rw [cnt, cnt]
    by_cases e : i0 = n
    · subst e
      have := cnt_mono h i0
      rw [if_neg hp, if_pos hq]; omega
    · have := cnt_lt h hq hp n (by omega)
      by_cases c : P n
      · rw [if_pos c, if_pos (h n c)]; omega
      · rw [if_neg c]; omega
theorem cnt_cco {V : Nat → Int32} {k j n : Nat} (h : cco V k j) (hj : j < n) : cnt (cco V j) n < cnt (cco V k) n :=
  cnt_lt (P := cco V j) (Q := cco V k) (fun i hi => cco_trans h hi) h (fun q => q.1 rfl) n hj
theorem rC_V {n cc cs cp sl} (h : rC n cc cs cp sl) : ∃ v : Nat → Nat, ∀ k, k < n → v k < 256 ∧ cs k = nI (v k) ∧ sl k = nI (v k) := by
  have : ∀ k, ∃ v, k < n → v < 256 ∧ cs k = nI v ∧ sl k = nI v := by
    intro k
    by_cases hk : k < n
    · obtain ⟨v, hv⟩ := h.2.2.2 k hk
      exact ⟨v, fun _ => hv⟩
    · exact ⟨0, fun q => absurd q hk⟩
  exact ⟨fun k => Classical.choose (this k), fun k hk => Classical.choose_spec (this k) hk⟩
theorem x_canCome {n : Nat} {V cs : Nat → Int32} (hn : n ≤ 8) (hc : ∀ k, k < n → cs k = V k) {k j : Nat} (hk : k < n) (hj : j < n) : (cco V k j → fX1_canComeOf cs (nI k) (nI j) = some 1) ∧ (¬ cco V k j → fX1_canComeOf cs (nI k) (nI j) = some 0) := by
  rw [fX1_canComeOf]
  simp only [nI_eq (a := j) (b := k) (by omega) (by omega), if_pos (q_in (k := j) (n := 8) (by omega) (by omega)), if_pos (q_in (k := k) (n := 8) (by omega) (by omega)), q_cl (n := j) (by omega), q_cl (n := k) (by omega), hc k hk, hc j hj, nI_leI (a := k) (b := j) (by omega) (by omega)]
  constructor
  · rintro ⟨a1, a2, a3⟩
    rw [if_neg a1, if_pos (show V j &&& (V k ^^^ (-1 : Int32)) = 0 from a2)]
    by_cases e : V j = V k
    · rw [if_pos e, if_neg (by have := a3.resolve_left (fun q => q e); omega)]
    · rw [if_neg e]
  · intro h
    by_cases a1 : j = k
    · rw [if_pos a1]
    rw [if_neg a1]
    by_cases a2 : sbs (V j) (V k)
    · rw [if_pos (show V j &&& (V k ^^^ (-1 : Int32)) = 0 from a2)]
      by_cases e : V j = V k
      · rw [if_pos e]
        by_cases l : k ≤ j
        · rw [if_pos l]
        · exact absurd ⟨a1, a2, Or.inr (by omega)⟩ h
      · exact absurd ⟨a1, a2, Or.inl e⟩ h
    · rw [if_neg (show ¬ V j &&& (V k ^^^ (-1 : Int32)) = 0 from a2)]
theorem m_canCome {n : Nat} {V sl : Nat → Int32} (hn : n ≤ 8) (hc : ∀ k, k < n → sl k = V k) {k j : Nat} (hk : k < n) (hj : j < n) (fu : Nat) (K : Int32 → Option Int32) (cp its : Int32) (f : Nat) (hne : ¬ cp ≤ nI j) : (cco V k j → fX8_cameOf_L5 fu (nI k) cp sl K (f + 1) its (nI j) = fX8_cameOf_J61 fu (nI k) sl K (fun (l2_5b) (l3_5b) => fX8_cameOf_L5 fu (nI k) cp sl K f l2_5b l3_5b) 1 its (nI j)) ∧ (¬ cco V k j → fX8_cameOf_L5 fu (nI k) cp sl K (f + 1) its (nI j) = fX8_cameOf_J61 fu (nI k) sl K (fun (l2_5b) (l3_5b) => fX8_cameOf_L5 fu (nI k) cp sl K f l2_5b l3_5b) 0 its (nI j)) := by
  rw [fX8_cameOf_L5, if_neg hne]
  simp only [nI_eq (a := j) (b := k) (by omega) (by omega), if_pos (q_in (k := j) (n := 8) (by omega) (by omega)), if_pos (q_in (k := k) (n := 8) (by omega) (by omega)), q_cl (n := j) (by omega), q_cl (n := k) (by omega), hc k hk, hc j hj, nI_leI (a := k) (b := j) (by omega) (by omega)]
  constructor
  · rintro ⟨a1, a2, a3⟩
    rw [if_neg a1, if_pos (show V j &&& (V k ^^^ (-1 : Int32)) = 0 from a2)]
    by_cases e : V j = V k
    · rw [if_pos e, if_neg (by have := a3.resolve_left (fun q => q e); omega)]
    · rw [if_neg e]
  · intro h
    by_cases a1 : j = k
    · rw [if_pos a1]
    rw [if_neg a1]
    by_cases a2 : sbs (V j) (V k)
    · rw [if_pos (show V j &&& (V k ^^^ (-1 : Int32)) = 0 from a2)]
      by_cases e : V j = V k
      · rw [if_pos e]
        by_cases l : k ≤ j
        · rw [if_pos l]
        · exact absurd ⟨a1, a2, Or.inr (by omega)⟩ h
      · exact absurd ⟨a1, a2, Or.inl e⟩ h
    · rw [if_neg (show ¬ V j &&& (V k ^^^ (-1 : Int32)) = 0 from a2)]
theorem q_n9b {a : Nat} (h : a < 8) : ¬ nI a = (-9 : Int32) := q_n9 a (by omega)
theorem op_origin {n cc cs cp sl} (h : rC n cc cs cp sl) {V : Nat → Int32} (hV : ∀ k, k < n → cs k = V k) (fu : Nat) (hfu : 100 ≤ fu) {k : Nat} (hk : k < n) : ∃ r, fX1_originOf fu cc cs (nI k) = some r ∧ fX8_cameOf fu cp sl (nI k) = some r ∧ (r = -9 ∨ ∃ q, q < n ∧ r = nI q ∧ cco V k q) := by
  obtain ⟨v, hv⟩ := rC_V h
  obtain ⟨h1, h2, h3, h6⟩ := h
  subst h2; subst h3
  have hV2 : ∀ k, k < n → sl k = V k := fun k hk => by rw [(hv k hk).2.2, ← hV k hk, (hv k hk).2.1]
  suffices H : ∀ (j i f : Nat) (its most : Int32), i + j = n → j < f → ((its = -9 ∧ most = -1) ∨ ∃ q, q < n ∧ its = nI q ∧ most = nI (pc (v q)) ∧ cco V k q) → ∃ r, fX1_originOf_L8 fu (nI k) (nI n) cs (fun l => some l) f its most (nI i) = some r ∧ fX8_cameOf_L5 fu (nI k) (nI n) sl (fun l => some l) f its (nI i) = some r ∧ (r = -9 ∨ ∃ q, q < n ∧ r = nI q ∧ cco V k q) by
    rw [fX1_originOf, fX8_cameOf]
    exact H n 0 fu (-9) (-1) (by omega) (by omega) (Or.inl ⟨rfl, rfl⟩)
  intro j
  induction j with
  | zero =>
    intro i f its most hi hf hI
    obtain ⟨f, rfl⟩ : ∃ g, f = g + 1 := ⟨f - 1, by omega⟩
    rw [fX1_originOf_L8, fX8_cameOf_L5, show i = n by omega, if_pos (Int32.le_refl _), if_pos (Int32.le_refl _)]
    exact ⟨its, rfl, rfl, hI.imp (fun q => q.1) (fun ⟨q, a, b, c, d⟩ => ⟨q, a, b, d⟩)⟩
  | succ j ih =>
    intro i f its most hi hf hI
    obtain ⟨f, rfl⟩ : ∃ g, f = g + 1 := ⟨f - 1, by omega⟩
    have hin : i < n := by omega
    have hne : ¬ nI n ≤ nI i := nI_ge (by omega) (by omega)
    obtain ⟨x1, x2⟩ := x_canCome h1 hV hk hin
    obtain ⟨m1, m2⟩ := m_canCome h1 hV2 hk hin fu (fun l => some l) (nI n) its f hne
    obtain ⟨v1, v2, v3⟩ := hv i hin
    by_cases c : cco V k i
    · rw [fX1_originOf_L8, if_neg hne, x1 c, m1 c, zb1_r, if_neg z10, fX8_cameOf_J61, if_neg z10]
      simp only [if_pos (q_in (k := i) (n := 8) (by omega) (by omega)), q_cl (n := i) (by omega), v2, v3, x_bits0 _ v1, m_ones (fu := fu) v1 (by omega), zb1_r, q_1]
      rcases hI with ⟨e1, e2⟩ | ⟨q, q1, q2, q3, q4⟩
      · rw [if_pos e1, e2, if_neg (Int32.not_le.mpr (Int32.lt_of_lt_of_le (show (-1 : Int32) < 0 by decide) (nI_pos' (by have := pc_le (v i); omega))))]
        exact ih (i + 1) f _ _ (by omega) (by omega) (Or.inr ⟨i, hin, rfl, rfl, c⟩)
      · subst q2; subst q3
        obtain ⟨u1, u2, u3⟩ := hv q q1
        rw [if_neg (q_n9b (by omega))]
        simp only [if_pos (q_in (k := q) (n := 8) (by omega) (by omega)), q_cl (n := q) (by omega), u3, m_ones (fu := fu) u1 (by omega), zb1_r]
        by_cases l : nI (pc (v i)) ≤ nI (pc (v q))
        · rw [if_pos l, if_pos l]
          exact ih (i + 1) f _ _ (by omega) (by omega) (Or.inr ⟨q, q1, rfl, rfl, q4⟩)
        · rw [if_neg l, if_neg l]
          exact ih (i + 1) f _ _ (by omega) (by omega) (Or.inr ⟨i, hin, rfl, rfl, c⟩)
    · rw [fX1_originOf_L8, if_neg hne, x2 c, m2 c, zb1_r, if_pos rfl, fX8_cameOf_J61, if_pos rfl, q_1]
      exact ih (i + 1) f _ _ (by omega) (by omega) hI
theorem op_depth {n cc cs cp sl} (h : rC n cc cs cp sl) {V : Nat → Int32} (hV : ∀ k, k < n → cs k = V k) (fu : Nat) (hfu : 100 ≤ fu) : ∀ (m d f : Nat) (r : Int32), (r = -9 ∨ ∃ q, q < n ∧ r = nI q ∧ cnt (cco V q) n < m) → d + m ≤ 8 → m < f → ∃ t, fX1_depthOf_L8 fu cc cs (fun l => some l) f (nI d) r = some t ∧ fX8_came_L63 fu cp sl (fun l => some (l, 0)) f (nI d) r = some (t, 0) := by
  intro m
  induction m with
  | zero =>
    intro d f r hr hd hf
    obtain ⟨f, rfl⟩ : ∃ g, f = g + 1 := ⟨f - 1, by omega⟩
    rcases hr with rfl | ⟨q, q1, q2, q3⟩
    · rw [fX1_depthOf_L8, fX8_came_L63, if_pos rfl, if_pos rfl]; exact ⟨_, rfl, rfl⟩
    · omega
  | succ m ih =>
    intro d f r hr hd hf
    obtain ⟨f, rfl⟩ : ∃ g, f = g + 1 := ⟨f - 1, by omega⟩
    rcases hr with rfl | ⟨q, q1, rfl, q3⟩
    · rw [fX1_depthOf_L8, fX8_came_L63, if_pos rfl, if_pos rfl]; exact ⟨_, rfl, rfl⟩
    · obtain ⟨r, r1, r2, r3⟩ := op_origin h hV fu hfu q1
      have hn := h.1
      rw [fX1_depthOf_L8, fX8_came_L63, if_neg (q_n9b (by omega)), if_neg (q_n9b (by omega)), if_neg (show ¬ (8 : Int32) ≤ nI d from nI_ge (b := 8) (by omega) (by omega)), r1, r2, zb1_r, zb1_r, q_1]
      refine ih (d + 1) f r (r3.imp id (fun ⟨p, p1, p2, p3⟩ => ⟨p, p1, p2, ?_⟩)) (by omega) (by omega)
      have := cnt_cco p3 p1
      omega
theorem op_came {n cc cs cp sl} (h : rC n cc cs cp sl) (fu : Nat) (hfu : 100 ≤ fu) (th x1 x2 : Int32) : ∃ r, fX7_came fu cc cs x1 x2 = some r ∧ fX8_came fu th cp sl x1 x2 = some (r, 0) := by
  have hn := h.1
  have hc := h.2.1
  have hp := h.2.2.1
  have h6 := h.2.2.2
  rw [fX7_came, fX8_came]
  rcases q_what x1 n (by omega) with ⟨k, hk, rfl⟩ | ⟨hx, -⟩
  · have hin : fX8_in (nI k) 0 (nI n - 1) = some 1 := m_in1 (nI_pos (by omega)) (fun q => nI_ge hk (by omega) ((q_pred (by omega) _).mp q))
    obtain ⟨r, r1, r2, r3⟩ := op_origin h (V := cs) (fun _ _ => rfl) fu hfu hk
    obtain ⟨v, v1, v2, v3⟩ := h6 k hk
    rw [r1, r2, fX1_depthOf, r1]
    obtain ⟨t, t1, t2⟩ := op_depth h (V := cs) (fun _ _ => rfl) fu hfu 8 0 fu r (r3.imp id (fun ⟨p, p1, p2, p3⟩ => ⟨p, p1, p2, by
      have := cnt_cco p3 p1
      have := cnt_le (cco cs k) n
      omega⟩)) (by omega) (by omega)
    rw [show nI 0 = (0 : Int32) from rfl] at t1 t2
    subst hc; subst hp
    rw [hin]
    simp only [zb1_r, if_neg z10, if_neg (nI_pos (n := k) (by omega)), if_pos (nI_lt hk (show n < 2 ^ 31 by omega)), if_pos (q_in (k := k) (n := 8) (by omega) (by omega)), q_cl (n := k) (by omega), v2, v3, zb1_r, t1, t2]
    rcases q_what x2 3 (by omega) with ⟨q, hq, rfl⟩ | ⟨hy, hz⟩
    · have hin : fX8_in (nI q) 0 2 = some 1 := m_inN (a := 0) (b := 2) (by omega) (by omega) (by omega)
      rw [hin, zb1_r, if_neg z10]
      match q, hq with
      | 0, _ => exact ⟨_, rfl, rfl⟩
      | 1, _ => exact ⟨_, rfl, rfl⟩
      | 2, _ => exact ⟨_, rfl, rfl⟩
      | q + 3, hq => omega
    · have hin : fX8_in x2 0 2 = some 0 := m_in0N (n := 2) (by omega) hy
      rw [hin, zb1_r, if_pos rfl, if_neg (show ¬ x2 = (0 : Int32) from hz 0 (by omega)), if_neg (show ¬ x2 = (1 : Int32) from hz 1 (by omega)), if_neg (show ¬ x2 = (2 : Int32) from hz 2 (by omega))]
      exact ⟨_, rfl, rfl⟩
  · subst hc; subst hp
    have hin : fX8_in x1 0 (nI n - 1) = some 0 := m_in0 (hx.imp id (fun q => (q_pred (by omega) _).mpr q))
    rw [hin, zb1_r, if_pos rfl]
    refine ⟨-1, ?_, rfl⟩
    by_cases h0 : x1 < 0
    · rw [if_pos h0]
    · rw [if_neg h0, if_neg (Int32.not_lt.mpr (hx.resolve_left h0))]
theorem op_firsts {n cc cs cp sl} (h : rC n cc cs cp sl) (fu : Nat) (hfu : 100 ≤ fu) (th : Int32) : ∃ r, fX7_firsts fu cc cs = some r ∧ fX8_firsts fu th cp sl = some (r, 0) := by
  have hn := h.1
  suffices H : ∀ (j i f : Nat) (acc : Int32), i + j = n → j < f → ∃ r, fX7_firsts_L4 fu cc cs (fun l => some l) f acc (nI i) = some r ∧ fX8_firsts_L9 fu cp sl (fun l => some (l, 0)) f acc (nI i) = some (r, 0) by
    rw [fX7_firsts, fX8_firsts]
    exact H n 0 fu 0 (by omega) (by omega)
  intro j
  induction j with
  | zero =>
    intro i f acc hi hf
    obtain ⟨f, rfl⟩ : ∃ g, f = g + 1 := ⟨f - 1, by omega⟩
    rw [fX7_firsts_L4, fX8_firsts_L9, h.2.1, h.2.2.1, show i = n by omega, if_pos (Int32.le_refl _), if_pos (Int32.le_refl _)]
    exact ⟨_, rfl, rfl⟩
  | succ j ih =>
    intro i f acc hi hf
    obtain ⟨f, rfl⟩ : ∃ g, f = g + 1 := ⟨f - 1, by omega⟩
    obtain ⟨r, r1, r2, r3⟩ := op_origin h (V := cs) (fun _ _ => rfl) fu hfu (show i < n by omega)
    have hg : ¬ nI n ≤ nI i := nI_ge (by omega) (by omega)
    rw [fX7_firsts_L4, fX8_firsts_L9, r1, r2, zb1_r, zb1_r, q_1, Int32.or_zero, if_neg (show ¬ cc ≤ nI i by rw [h.2.1]; exact hg), if_neg (show ¬ cp ≤ nI i by rw [h.2.2.1]; exact hg)]
    by_cases c : r = -9
    · rw [if_pos c, if_pos c]; exact ih (i + 1) f _ (by omega) (by omega)
    · rw [if_neg c, if_neg c]; exact ih (i + 1) f _ (by omega) (by omega)
