/-! learnt -/
theorem rS_fun {n sc st sm tt tm sg sd} (h : rS n sc st sm tt tm sg sd) : ∃ T G T2 G2 : Nat → Nat, ∀ k, k < n → T k < 10 ∧ G k < 8 ∧ T2 k < 10 ∧ G2 k < 8 ∧ st k = nI (T k) ∧ sm k = nI (G k) ∧ tt k = nI (T2 k) ∧ tm k = nI (G2 k) ∧ sd (2 * k) = nI (T k + 10 * G k) ∧ sd (2 * k + 1) = nI (T2 k + 10 * G2 k) := by
  have : ∀ k, ∃ q : Nat × Nat × Nat × Nat, k < n → q.1 < 10 ∧ q.2.1 < 8 ∧ q.2.2.1 < 10 ∧ q.2.2.2 < 8 ∧ st k = nI q.1 ∧ sm k = nI q.2.1 ∧ tt k = nI q.2.2.1 ∧ tm k = nI q.2.2.2 ∧ sd (2 * k) = nI (q.1 + 10 * q.2.1) ∧ sd (2 * k + 1) = nI (q.2.2.1 + 10 * q.2.2.2) := by
    intro k
    by_cases hk : k < n
    · obtain ⟨a, b, c, d, H⟩ := h.2.2.2 k hk
      exact ⟨(a, b, c, d), fun _ => H⟩
    · exact ⟨(0, 0, 0, 0), fun q => absurd q hk⟩
  exact ⟨fun k => (Classical.choose (this k)).1, fun k => (Classical.choose (this k)).2.1, fun k => (Classical.choose (this k)).2.2.1, fun k => (Classical.choose (this k)).2.2.2, fun k hk => Classical.choose_spec (this k) hk⟩
theorem x_leant0 : ∀ a, a < 9 → ∀ t, t < 10 → fX7_leant (nI t) (nI a) = some (nI (tn t a)) := by decide +kernel
/-- does a lean fit the samples from i on -/
def fitF (T T2 : Nat → Nat) (a : Nat) : Nat → Nat → Bool
  | 0, _ => true
  | j + 1, i => if tn (T i) a = T2 i then fitF T T2 a j (i + 1) else false
theorem x_fits {st tt : Nat → Int32} {n : Nat} (hn : n ≤ 8) {T T2 : Nat → Nat} (H : ∀ k, k < n → T k < 10 ∧ T2 k < 10 ∧ st k = nI (T k) ∧ tt k = nI (T2 k)) {a : Nat} (ha : a < 9) (fu : Nat) : ∀ (j i f : Nat), i + j = n → j < f → fX5_leanFits_L2 fu (nI a) (nI n) st tt (some 1) f (nI i) = some (if fitF T T2 a j i = true then 1 else 0) := by
  intro j
  induction j with
  | zero =>
    intro i f hi hf
    obtain ⟨f, rfl⟩ : ∃ g, f = g + 1 := ⟨f - 1, by omega⟩
    rw [fX5_leanFits_L2, show i = n by omega, if_pos (Int32.le_refl _)]; rfl
  | succ j ih =>
    intro i f hi hf
    obtain ⟨f, rfl⟩ : ∃ g, f = g + 1 := ⟨f - 1, by omega⟩
    obtain ⟨h1, h2, h3, h4⟩ := H i (by omega)
    have htn : tn (T i) a < 10 := tn_lt
    rw [fX5_leanFits_L2, if_neg (nI_ge (by omega) (by omega)), fitF]
    simp only [if_pos (q_in (k := i) (n := 8) (by omega) (by omega)), q_cl (n := i) (by omega), h3, h4, x_leant0 a ha _ h1, zb1_r, nI_eq (a := tn (T i) a) (b := T2 i) (by omega) (by omega), q_1]
    by_cases c : tn (T i) a = T2 i
    · rw [if_pos c, if_pos c]; exact ih (i + 1) f (by omega) (by omega)
    · rw [if_neg c, if_neg c]; rfl
theorem m_fitsJ {sd : Nat → Int32} {i : Nat} (hi : i < 8) {t2 g2 v : Nat} (ht2 : t2 < 10) (hg2 : g2 < 8) (hv : v < 10) (e : sd (2 * i + 1) = nI (t2 + 10 * g2)) (fu : Nat) (x q : Int32) (hq : q = 0 ∨ q = 1) (K : Int32 → Option Int32) (B : Int32 → Int32 → Option Int32) : fX8_fitsLean_J52 fu x sd K B (nI v) q (nI i) = B (if q = 1 ∧ v = t2 then 1 else 0) (nI (i + 1)) := by
  rw [fX8_fitsLean_J52]
  simp only [q_m2, show nI (2 * i) + (1 : Int32) = nI (2 * i + 1) from nI_add _ _, if_pos (q_in (k := 2 * i + 1) (n := 16) (by omega) (by omega)), q_cl (n := 2 * i + 1) (by omega), e, q_g ht2 hg2, q_t2 ht2 hg2, q_1, nI_eq (a := v) (b := t2) (by omega) (by omega)]
  rcases hq with rfl | rfl
  · rw [if_pos rfl, if_neg (fun q => absurd q.1 (by decide))]
  · rw [if_neg z10]
    by_cases c : v = t2
    · rw [if_pos c, if_pos ⟨rfl, c⟩]
    · rw [if_neg c, if_neg (fun q => c q.2)]
theorem m_fits {sd : Nat → Int32} {n : Nat} (hn : n ≤ 8) {T G T2 G2 : Nat → Nat} (H : ∀ k, k < n → T k < 10 ∧ G k < 8 ∧ T2 k < 10 ∧ G2 k < 8 ∧ sd (2 * k) = nI (T k + 10 * G k) ∧ sd (2 * k + 1) = nI (T2 k + 10 * G2 k)) {a : Nat} (ha : a < 9) (fu : Nat) (K : Int32 → Option Int32) : ∀ (j i f : Nat) (q : Int32), (q = 0 ∨ q = 1) → i + j = n → j < f → fX8_fitsLean_L4 fu (nI a) (nI n) sd K f q (nI i) = K (if q = 1 ∧ fitF T T2 a j i = true then 1 else 0) := by
  intro j
  induction j with
  | zero =>
    intro i f q hq hi hf
    obtain ⟨f, rfl⟩ : ∃ g, f = g + 1 := ⟨f - 1, by omega⟩
    rw [fX8_fitsLean_L4, show i = n by omega, if_pos (Int32.le_refl _)]
    rcases hq with rfl | rfl
    · rw [if_neg (fun q => absurd q.1 (by decide))]
    · rw [if_pos ⟨rfl, rfl⟩]
  | succ j ih =>
    intro i f q hq hi hf
    obtain ⟨f, rfl⟩ : ∃ g, f = g + 1 := ⟨f - 1, by omega⟩
    obtain ⟨h1, h2, h3, h4, h5, h6⟩ := H i (by omega)
    have htn : tn (T i) a < 10 := tn_lt
    have hJ := m_fitsJ (show i < 8 by omega) h3 h4 htn h6 fu (nI a) q hq K (fun (l2_4b) (l3_4b) => fX8_fitsLean_L4 fu (nI a) (nI n) sd K f l2_4b l3_4b)
    have hM := m_tone0 a ha (T i) h1
    have hR := ih (i + 1) f (if q = 1 ∧ tn (T i) a = T2 i then 1 else 0) (by by_cases c : q = 1 ∧ tn (T i) a = T2 i <;> simp [c]) (by omega) (by omega)
    rw [hR] at hJ
    rw [fX8_fitsLean_L4, if_neg (nI_ge (by omega) (by omega)), fitF]
    simp only [q_m2, if_pos (q_in (k := 2 * i) (n := 16) (by omega) (by omega)), q_cl (n := 2 * i) (by omega), h5, q_g h1 h2, q_t2 h1 h2]
    have hE : (if (if q = 1 ∧ tn (T i) a = T2 i then (1 : Int32) else 0) = 1 ∧ fitF T T2 a j (i + 1) = true then (1 : Int32) else 0) = (if q = 1 ∧ (if tn (T i) a = T2 i then fitF T T2 a j (i + 1) else false) = true then 1 else 0) := by
      rcases hq with rfl | rfl <;> by_cases c : tn (T i) a = T2 i <;> simp [c]
    rw [hE] at hJ
    unfold mtone at hM
    by_cases c1 : (0 : Int32) ≤ (nI (T i) + nI a) - 4
    · rw [if_pos c1] at hM ⊢
      by_cases c2 : (nI (T i) + nI a) - 4 ≤ (9 : Int32)
      · rw [if_pos c2] at hM ⊢; exact (congrArg (fun z => fX8_fitsLean_J52 fu (nI a) sd K (fun (l2_4b) (l3_4b) => fX8_fitsLean_L4 fu (nI a) (nI n) sd K f l2_4b l3_4b) z q (nI i)) (Option.some.inj hM)).trans hJ
      · rw [if_neg c2] at hM ⊢; exact (congrArg (fun z => fX8_fitsLean_J52 fu (nI a) sd K (fun (l2_4b) (l3_4b) => fX8_fitsLean_L4 fu (nI a) (nI n) sd K f l2_4b l3_4b) z q (nI i)) (Option.some.inj hM)).trans hJ
    · rw [if_neg c1] at hM ⊢; exact (congrArg (fun z => fX8_fitsLean_J52 fu (nI a) sd K (fun (l2_4b) (l3_4b) => fX8_fitsLean_L4 fu (nI a) (nI n) sd K f l2_4b l3_4b) z q (nI i)) (Option.some.inj hM)).trans hJ
def leF (F : Nat → Bool) : Nat → Nat → Int32
  | 0, _ => -9
  | j + 1, a => if F a = true then nI a else leF F j (a + 1)
def gdF (F : Nat → Bool) : Nat → Int32
  | 0 => -9
  | j + 1 => if F j = true then nI j else gdF F j
def grF (F : Nat → Bool) : Nat → Int32 → Nat → Int32
  | 0, l, _ => l
  | j + 1, l, a => grF F j (if F a = true then nI a else l) (a + 1)
theorem grF_gd (F : Nat → Bool) : ∀ j a, grF F j (gdF F a) a = gdF F (a + j)
  | 0, a => rfl
  | j + 1, a => by
    rw [grF, show a + (j + 1) = a + 1 + j by omega, ← grF_gd F j (a + 1), gdF]
theorem q_n9 : ∀ a, a < 9 → ¬ nI a = (-9 : Int32) := by decide
def fdF (h : Nat → Int32) : Nat → Int32 → Nat → Int32
  | 0, a, _ => a
  | j + 1, a, i => fdF h j (a &&& h i) (i + 1)
theorem x_maySet {n : Nat} (hn : n ≤ 8) (tm : Nat → Int32) (fu : Nat) (K : Int32 → Option Int32) : ∀ (j i f : Nat) (q : Int32), i + j = n → j < f → fX5_maySet_L5 fu (nI n) tm K f q (nI i) = K (fdF tm j q i) := by
  intro j
  induction j with
  | zero =>
    intro i f q hi hf
    obtain ⟨f, rfl⟩ : ∃ g, f = g + 1 := ⟨f - 1, by omega⟩
    rw [fX5_maySet_L5, show i = n by omega, if_pos (Int32.le_refl _)]; rfl
  | succ j ih =>
    intro i f q hi hf
    obtain ⟨f, rfl⟩ : ∃ g, f = g + 1 := ⟨f - 1, by omega⟩
    rw [fX5_maySet_L5, if_neg (nI_ge (by omega) (by omega))]
    simp only [if_pos (q_in (k := i) (n := 8) (by omega) (by omega)), q_cl (n := i) (by omega), q_1]
    exact ih (i + 1) f _ (by omega) (by omega)
theorem x_mayDrop {n : Nat} (hn : n ≤ 8) (tm : Nat → Int32) (fu : Nat) (K : Int32 → Option Int32) : ∀ (j i f : Nat) (q : Int32), i + j = n → j < f → fX5_mayDrop_L5 fu (nI n) tm K f q (nI i) = K (fdF (fun k => tm k ^^^ (-1)) j q i) := by
  intro j
  induction j with
  | zero =>
    intro i f q hi hf
    obtain ⟨f, rfl⟩ : ∃ g, f = g + 1 := ⟨f - 1, by omega⟩
    rw [fX5_mayDrop_L5, show i = n by omega, if_pos (Int32.le_refl _)]; rfl
  | succ j ih =>
    intro i f q hi hf
    obtain ⟨f, rfl⟩ : ∃ g, f = g + 1 := ⟨f - 1, by omega⟩
    rw [fX5_mayDrop_L5, if_neg (nI_ge (by omega) (by omega))]
    simp only [if_pos (q_in (k := i) (n := 8) (by omega) (by omega)), q_cl (n := i) (by omega), q_1]
    exact ih (i + 1) f _ (by omega) (by omega)
theorem x_mayLeave {n : Nat} (hn : n ≤ 8) (sm tm : Nat → Int32) (fu : Nat) (K : Int32 → Option Int32) : ∀ (j i f : Nat) (q : Int32), i + j = n → j < f → fX5_mayLeave_L5 fu (nI n) sm tm K f q (nI i) = K (fdF (fun k => (sm k ^^^ tm k) ^^^ (-1)) j q i) := by
  intro j
  induction j with
  | zero =>
    intro i f q hi hf
    obtain ⟨f, rfl⟩ : ∃ g, f = g + 1 := ⟨f - 1, by omega⟩
    rw [fX5_mayLeave_L5, show i = n by omega, if_pos (Int32.le_refl _)]; rfl
  | succ j ih =>
    intro i f q hi hf
    obtain ⟨f, rfl⟩ : ∃ g, f = g + 1 := ⟨f - 1, by omega⟩
    rw [fX5_mayLeave_L5, if_neg (nI_ge (by omega) (by omega))]
    simp only [if_pos (q_in (k := i) (n := 8) (by omega) (by omega)), q_cl (n := i) (by omega), q_1]
    exact ih (i + 1) f _ (by omega) (by omega)
/-- how the reference goes through the marks of its samples -/
def mbF (sm tm : Nat → Int32) (w : Nat) (k : Nat) : Int32 := if w = 0 then tm k else if w = 1 then tm k ^^^ (-1) else (sm k ^^^ tm k) ^^^ (-1)
theorem m_marksBy {sd sm tm : Nat → Int32} {n : Nat} (hn : n ≤ 8) {T G T2 G2 : Nat → Nat} (H : ∀ k, k < n → T k < 10 ∧ G k < 8 ∧ T2 k < 10 ∧ G2 k < 8 ∧ sm k = nI (G k) ∧ tm k = nI (G2 k) ∧ sd (2 * k) = nI (T k + 10 * G k) ∧ sd (2 * k + 1) = nI (T2 k + 10 * G2 k)) {w : Nat} (hw : w < 3) (fu : Nat) (K : Int32 → Option Int32) : ∀ (j i f : Nat) (q : Int32), i + j = n → j < f → fX8_marksBy_L5 fu (nI w) (nI n) sd K f q (nI i) = K (fdF (mbF sm tm w) j q i) := by
  intro j
  induction j with
  | zero =>
    intro i f q hi hf
    obtain ⟨f, rfl⟩ : ∃ g, f = g + 1 := ⟨f - 1, by omega⟩
    rw [fX8_marksBy_L5, show i = n by omega, if_pos (Int32.le_refl _)]; rfl
  | succ j ih =>
    intro i f q hi hf
    obtain ⟨f, rfl⟩ : ∃ g, f = g + 1 := ⟨f - 1, by omega⟩
    obtain ⟨h1, h2, h3, h4, h7, h8, h5, h6⟩ := H i (by omega)
    have hR := fun q => ih (i + 1) f q (by omega) (by omega)
    rw [fX8_marksBy_L5, if_neg (nI_ge (by omega) (by omega)), fdF, mbF, h7, h8]
    simp only [q_m2, if_pos (q_in (k := 2 * i) (n := 16) (by omega) (by omega)), q_cl (n := 2 * i) (by omega), show nI (2 * i) + (1 : Int32) = nI (2 * i + 1) from nI_add _ _, if_pos (q_in (k := 2 * i + 1) (n := 16) (by omega) (by omega)), q_cl (n := 2 * i + 1) (by omega), h5, h6, q_g h1 h2, q_g h3 h4, q_1, hR]
    match w, hw with
    | 0, _ => rfl
    | 1, _ => rfl
    | 2, _ => rfl
    | w + 3, hw => omega
theorem x_least {st tt : Nat → Int32} {n : Nat} (hn : n ≤ 8) {T T2 : Nat → Nat} (H : ∀ k, k < n → T k < 10 ∧ T2 k < 10 ∧ st k = nI (T k) ∧ tt k = nI (T2 k)) (fu : Nat) (hfu : 100 ≤ fu) : ∀ (j a f : Nat), a + j = 9 → j < f → fX5_leastLean_L2 fu (nI n) st tt (some (-9)) f (nI a) = some (leF (fun a => fitF T T2 a n 0) j a) := by
  intro j
  induction j with
  | zero =>
    intro a f hi hf
    obtain ⟨f, rfl⟩ : ∃ g, f = g + 1 := ⟨f - 1, by omega⟩
    rw [fX5_leastLean_L2, show a = 9 by omega, if_pos (by decide)]; rfl
  | succ j ih =>
    intro a f hi hf
    obtain ⟨f, rfl⟩ : ∃ g, f = g + 1 := ⟨f - 1, by omega⟩
    rw [fX5_leastLean_L2, if_neg (show ¬ (8 : Int32) < nI a from nI_nlt (a := 8) (by omega) (by omega)), fX5_leanFits, show fX5_leanFits_L2 fu (nI a) (nI n) st tt (some 1) fu 0 = _ from x_fits hn H (show a < 9 by omega) fu n 0 fu (by omega) (by omega), zb1_r, leF, q_1]
    by_cases c : fitF T T2 a n 0 = true
    · rw [if_pos c, if_neg z10, if_pos c]
    · rw [if_neg c, if_pos rfl, if_neg c]; exact ih (a + 1) f (by omega) (by omega)
theorem x_greatest {st tt : Nat → Int32} {n : Nat} (hn : n ≤ 8) {T T2 : Nat → Nat} (H : ∀ k, k < n → T k < 10 ∧ T2 k < 10 ∧ st k = nI (T k) ∧ tt k = nI (T2 k)) (fu : Nat) (hfu : 100 ≤ fu) : ∀ (j f : Nat), j ≤ 9 → j < f → fX5_greatestLean_L3 fu (nI n) st tt (some (-9)) f (nI j - 1) = some (gdF (fun a => fitF T T2 a n 0) j) := by
  intro j
  induction j with
  | zero =>
    intro f hi hf
    obtain ⟨f, rfl⟩ : ∃ g, f = g + 1 := ⟨f - 1, by omega⟩
    rw [fX5_greatestLean_L3, if_pos (by decide)]; rfl
  | succ j ih =>
    intro f hi hf
    obtain ⟨f, rfl⟩ : ∃ g, f = g + 1 := ⟨f - 1, by omega⟩
    rw [nI_pred, fX5_greatestLean_L3, if_neg (nI_pos (by omega)), fX5_leanFits, show fX5_leanFits_L2 fu (nI j) (nI n) st tt (some 1) fu 0 = _ from x_fits hn H (show j < 9 by omega) fu n 0 fu (by omega) (by omega), zb1_r, gdF, show nI j + (-1 : Int32) = nI j - 1 from (Int32.sub_eq_add_neg _ _).symm]
    by_cases c : fitF T T2 j n 0 = true
    · rw [if_pos c, if_neg z10, if_pos c]
    · rw [if_neg c, if_pos rfl, if_neg c]; exact ih f (by omega) (by omega)
theorem m_leans {sd : Nat → Int32} {n : Nat} (hn : n ≤ 8) {T G T2 G2 : Nat → Nat} (H : ∀ k, k < n → T k < 10 ∧ G k < 8 ∧ T2 k < 10 ∧ G2 k < 8 ∧ sd (2 * k) = nI (T k + 10 * G k) ∧ sd (2 * k + 1) = nI (T2 k + 10 * G2 k)) (fu : Nat) (hfu : 100 ≤ fu) (x : Int32) (K : Int32 → Int32 → Option (Int32 × Int32)) : ∀ (j a f : Nat) (l2 l3 : Int32), a + j = 9 → j < f → fX8_learnt_L25 fu x (nI n) sd K f l2 l3 (nI a) = K (if l2 = -9 then leF (fun a => fitF T T2 a n 0) j a else l2) (grF (fun a => fitF T T2 a n 0) j l3 a) := by
  intro j
  induction j with
  | zero =>
    intro a f l2 l3 hi hf
    obtain ⟨f, rfl⟩ : ∃ g, f = g + 1 := ⟨f - 1, by omega⟩
    rw [fX8_learnt_L25, show a = 9 by omega, if_pos (by decide), leF, grF]
    by_cases c : l2 = -9
    · rw [if_pos c, c]
    · rw [if_neg c]
  | succ j ih =>
    intro a f l2 l3 hi hf
    obtain ⟨f, rfl⟩ : ∃ g, f = g + 1 := ⟨f - 1, by omega⟩
    have hm := m_fits hn H (show a < 9 by omega) fu (fun (l2_4e) => (if l2_4e = 0 ∨ l2_4e = 1 then (some (l2_4e)) else none)) n 0 fu 1 (Or.inr rfl) (by omega) (by omega)
    rw [fX8_learnt_L25, if_neg (show ¬ (9 : Int32) ≤ nI a from nI_ge (b := 9) (by omega) (by omega)), fX8_fitsLean, show fX8_fitsLean_L4 fu (nI a) (nI n) sd _ fu 1 0 = _ from hm, q_1, ih (a + 1) f _ _ (by omega) (by omega), ih (a + 1) f _ _ (by omega) (by omega), ih (a + 1) f _ _ (by omega) (by omega), leF, grF]
    by_cases c : fitF T T2 a n 0 = true
    · rw [if_pos (show (1 : Int32) = 1 ∧ fitF T T2 a n 0 = true from ⟨rfl, c⟩), if_pos (Or.inr rfl), zb1_r, if_neg z10, if_neg (q_n9 a (by omega))]
      by_cases c2 : l2 = -9
      · simp only [if_pos c2, if_pos c]
      · simp only [if_neg c2, if_pos c]
    · rw [if_neg (show ¬ ((1 : Int32) = 1 ∧ fitF T T2 a n 0 = true) from fun q => c q.2), if_pos (Or.inl rfl), zb1_r, if_pos rfl]
      simp only [if_neg c]
theorem op_learnt {n sc st sm tt tm sg sd} (h : rS n sc st sm tt tm sg sd) (fu : Nat) (hfu : 100 ≤ fu) (th x : Int32) : ∃ r, fX7_learnt fu sc st sm tt tm x = some r ∧ fX8_learnt fu th sg sd x = some (r, 0) := by
  obtain ⟨T, G, T2, G2, H⟩ := rS_fun h
  obtain ⟨h1, h2, h3, h6⟩ := h
  subst h2; subst h3
  have H1 : ∀ k, k < n → T k < 10 ∧ T2 k < 10 ∧ st k = nI (T k) ∧ tt k = nI (T2 k) := fun k hk => ⟨(H k hk).1, (H k hk).2.2.1, (H k hk).2.2.2.2.1, (H k hk).2.2.2.2.2.2.1⟩
  have H2 : ∀ k, k < n → T k < 10 ∧ G k < 8 ∧ T2 k < 10 ∧ G2 k < 8 ∧ sd (2 * k) = nI (T k + 10 * G k) ∧ sd (2 * k + 1) = nI (T2 k + 10 * G2 k) := fun k hk => ⟨(H k hk).1, (H k hk).2.1, (H k hk).2.2.1, (H k hk).2.2.2.1, (H k hk).2.2.2.2.2.2.2.2⟩
  have H3 : ∀ k, k < n → T k < 10 ∧ G k < 8 ∧ T2 k < 10 ∧ G2 k < 8 ∧ sm k = nI (G k) ∧ tm k = nI (G2 k) ∧ sd (2 * k) = nI (T k + 10 * G k) ∧ sd (2 * k + 1) = nI (T2 k + 10 * G2 k) := fun k hk => ⟨(H k hk).1, (H k hk).2.1, (H k hk).2.2.1, (H k hk).2.2.2.1, (H k hk).2.2.2.2.2.1, (H k hk).2.2.2.2.2.2.2.1, (H k hk).2.2.2.2.2.2.2.2⟩
  have A1 : fX5_leastLean fu (nI n) st tt = some (leF (fun a => fitF T T2 a n 0) 9 0) := by rw [fX5_leastLean]; exact x_least h1 H1 fu hfu 9 0 fu (by omega) (by omega)
  have A2 : fX5_greatestLean fu (nI n) st tt = some (gdF (fun a => fitF T T2 a n 0) 9) := by rw [fX5_greatestLean]; exact x_greatest h1 H1 fu hfu 9 fu (by omega) (by omega)
  have A3 : fX5_maySet fu (nI n) tm = some (fdF (mbF sm tm 0) n 7 0) := by rw [fX5_maySet]; exact x_maySet h1 tm fu (fun l => some l) n 0 fu 7 (by omega) (by omega)
  have A4 : fX5_mayDrop fu (nI n) tm = some (fdF (mbF sm tm 1) n 7 0) := by rw [fX5_mayDrop]; exact x_mayDrop h1 tm fu (fun l => some l) n 0 fu 7 (by omega) (by omega)
  have A5 : fX5_mayLeave fu (nI n) sm tm = some (fdF (mbF sm tm 2) n 7 0) := by rw [fX5_mayLeave]; exact x_mayLeave h1 sm tm fu (fun l => some l) n 0 fu 7 (by omega) (by omega)
  have B3 : fX8_marksBy fu (nI n) sd 0 = some (fdF (mbF sm tm 0) n 7 0) := by rw [fX8_marksBy]; exact m_marksBy h1 H3 (w := 0) (by omega) fu (fun l => some l) n 0 fu 7 (by omega) (by omega)
  have B4 : fX8_marksBy fu (nI n) sd 1 = some (fdF (mbF sm tm 1) n 7 0) := by rw [fX8_marksBy]; exact m_marksBy h1 H3 (w := 1) (by omega) fu (fun l => some l) n 0 fu 7 (by omega) (by omega)
  have B5 : fX8_marksBy fu (nI n) sd 2 = some (fdF (mbF sm tm 2) n 7 0) := by rw [fX8_marksBy]; exact m_marksBy h1 H3 (w := 2) (by omega) fu (fun l => some l) n 0 fu 7 (by omega) (by omega)
  have B1 := fun K => m_leans h1 H2 fu hfu x K 9 0 fu (-9) (-9) (by omega) (by omega)
  rw [if_pos rfl, show grF (fun a => fitF T T2 a n 0) 9 (-9) 0 = gdF (fun a => fitF T T2 a n 0) 9 from grF_gd _ 9 0, show nI 0 = (0 : Int32) from rfl] at B1
  rw [fX7_learnt, fX8_learnt, fX5_fitOneHabit, fX5_mustSet, fX5_mustDrop, A1, A2, A3, A4, A5, B1, B3, B4, B5]
  simp only [zb1_r]
  generalize leF (fun a => fitF T T2 a n 0) 9 0 = L1
  generalize gdF (fun a => fitF T T2 a n 0) 9 = L2
  generalize fdF (mbF sm tm 0) n 7 0 = M0
  generalize fdF (mbF sm tm 1) n 7 0 = M1
  generalize fdF (mbF sm tm 2) n 7 0 = M2
  rcases q_what x 6 (by omega) with ⟨q, hq, rfl⟩ | ⟨hx, -⟩
  · have hin : fX8_in (nI q) 0 5 = some 1 := m_inN (a := 0) (b := 5) (by omega) (by omega) (by omega)
    rw [hin, zb1_r, if_neg z10, if_neg (nI_pos (by omega)), if_pos (show nI q ≤ (5 : Int32) from nI_le (b := 5) (by omega) (by omega))]
    by_cases c1 : L1 = -9
    · rw [if_pos c1, if_pos c1, zb1_r, if_pos rfl]; exact ⟨_, rfl, rfl⟩
    rw [if_neg c1, if_neg c1]
    by_cases c2 : (M0 ||| M1) ||| M2 = 7
    · rw [if_pos c2, if_pos c2, zb1_r, if_neg z10]
      match q, hq with
      | 0, _ => exact ⟨_, rfl, rfl⟩
      | 1, _ => exact ⟨_, rfl, rfl⟩
      | 2, _ => exact ⟨_, rfl, rfl⟩
      | 3, _ => exact ⟨_, rfl, rfl⟩
      | 4, _ => exact ⟨_, rfl, rfl⟩
      | 5, _ => exact ⟨_, rfl, rfl⟩
      | q + 6, hq => omega
    · rw [if_neg c2, if_neg c2, zb1_r, if_pos rfl]; exact ⟨_, rfl, rfl⟩
  · have hin : fX8_in x 0 5 = some 0 := m_in0N (n := 5) (by omega) hx
    rw [hin, zb1_r, if_pos rfl]
    refine ⟨-1, ?_, rfl⟩
    by_cases h0 : x < 0
    · rw [if_pos h0]
    · rw [if_neg h0, if_neg (Int32.not_le.mpr (show (5 : Int32) < x from (q_above (n := 5) (by omega) hx).resolve_left h0))]
