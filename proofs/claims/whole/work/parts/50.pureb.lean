/-! order, drift: rows of clerks as functions of numbers -/
def pvt (r : Nat → Nat) : Nat → Option Nat
  | 0 => none
  | i + 1 => if r i ≤ r (i + 1) then some i else pvt r i
def hgh (r : Nat → Nat) (p : Nat) : Nat → Nat
  | 0 => 0
  | i + 1 => if r p ≤ r i then i else hgh r p i
def swp (r : Nat → Nat) (a b : Nat) : Nat → Nat := fun k => if k = b then r a else if k = a then r b else r k
def rvs : Nat → (Nat → Nat) → Nat → Nat → (Nat → Nat)
  | 0, r, _, _ => r
  | n + 1, r, a, b => if b ≤ a then r else rvs n (swp r a b) (a + 1) (b - 1)
def stp (m : Nat) (r : Nat → Nat) : Option (Nat → Nat) := match pvt r (m - 1) with
  | none => none
  | some p => some (rvs 6 (swp r p (hgh r p m)) (p + 1) (m - 1))
/-- a row's cells are these numbers, each below N -/
def rowR (m N : Nat) (f : Nat → Int32) (r : Nat → Nat) : Prop := ∀ k, k < m → f k = nI (r k) ∧ r k < N
theorem rowR_swp {m N f r a b} (h : rowR m N f r) (ha : a < m) (hb : b < m) : rowR m N (upd (upd f a (f b)) b (f a)) (swp r a b) := by
  intro k hk
  rw [q_up, q_up, swp]
  by_cases e : k = b
  · rw [if_pos e, if_pos e]; exact h a ha
  · rw [if_neg e, if_neg e]
    by_cases e2 : k = a
    · rw [if_pos e2, if_pos e2]; exact h b hb
    · rw [if_neg e2, if_neg e2]; exact h k hk
theorem x_swap {m f a b} (hm : m ≤ 6) (ha : a < m) (hb : b < m) : fX4_swap f (nI a) (nI b) = some (upd (upd f a (f b)) b (f a)) := by
  rw [fX4_swap]
  simp only [if_pos (q_in (k := a) (n := 6) (by omega) (by omega)), if_pos (q_in (k := b) (n := 6) (by omega) (by omega)), q_cl (n := a) (by omega), q_cl (n := b) (by omega)]
theorem m_swap {m f a b} (hm : m ≤ 6) (ha : a < m) (hb : b < m) : fX8_changes f (nI a) (nI b) = some (upd (upd f a (f b)) b (f a)) := by
  rw [fX8_changes]
  simp only [if_pos (q_in (k := a) (n := 6) (by omega) (by omega)), if_pos (q_in (k := b) (n := 6) (by omega) (by omega)), q_cl (n := a) (by omega), q_cl (n := b) (by omega)]
theorem q_dec {b : Nat} (h : 0 < b) : nI b + (-1 : Int32) = nI (b - 1) := by
  obtain ⟨c, rfl⟩ : ∃ c, b = c + 1 := ⟨b - 1, by omega⟩
  rw [← Int32.sub_eq_add_neg, nI_pred]; rfl
theorem x_rvs {m N : Nat} (hm : m ≤ 6) (fu : Nat) (K : (Nat → Int32) → Option (Int32 × (Nat → Int32))) : ∀ (n a b f : Nat) (g : Nat → Int32) (r : Nat → Nat), b < a + 2 * n → b < m → a ≤ m → n < f → rowR m N g r → ∃ g', rowR m N g' (rvs n r a b) ∧ fX4_step_L91 fu K f (nI a) (nI b) g = K g' := by
  intro n
  induction n with
  | zero =>
    intro a b f g r h1 h2 h3 hf hR
    obtain ⟨f, rfl⟩ : ∃ g, f = g + 1 := ⟨f - 1, by omega⟩
    rw [fX4_step_L91, if_pos (nI_le (by omega) (by omega))]
    exact ⟨g, hR, rfl⟩
  | succ n ih =>
    intro a b f g r h1 h2 h3 hf hR
    obtain ⟨f, rfl⟩ : ∃ g, f = g + 1 := ⟨f - 1, by omega⟩
    rw [fX4_step_L91, rvs]
    by_cases c : b ≤ a
    · rw [if_pos (nI_le c (by omega)), if_pos c]
      exact ⟨g, hR, rfl⟩
    · rw [if_neg (nI_ge (by omega) (by omega)), if_neg c, x_swap hm (by omega) h2, zb1_r, q_1, q_dec (by omega)]
      exact ih (a + 1) (b - 1) f _ _ (by omega) (by omega) (by omega) (by omega) (rowR_swp hR (by omega) h2)
theorem m_rvs {m N : Nat} (hm : m ≤ 6) (fu : Nat) (K : (Nat → Int32) → Option (Int32 × (Nat → Int32))) : ∀ (n a b f : Nat) (g : Nat → Int32) (r : Nat → Nat), b < a + 2 * n → b < m → a ≤ m → n < f → rowR m N g r → ∃ g', rowR m N g' (rvs n r a b) ∧ fX8_steps_L86 fu K f (nI a) (nI b) g = K g' := by
  intro n
  induction n with
  | zero =>
    intro a b f g r h1 h2 h3 hf hR
    obtain ⟨f, rfl⟩ : ∃ g, f = g + 1 := ⟨f - 1, by omega⟩
    rw [fX8_steps_L86, if_pos (nI_le (by omega) (by omega))]
    exact ⟨g, hR, rfl⟩
  | succ n ih =>
    intro a b f g r h1 h2 h3 hf hR
    obtain ⟨f, rfl⟩ : ∃ g, f = g + 1 := ⟨f - 1, by omega⟩
    rw [fX8_steps_L86, rvs]
    by_cases c : b ≤ a
    · rw [if_pos (nI_le c (by omega)), if_pos c]
      exact ⟨g, hR, rfl⟩
    · rw [if_neg (nI_ge (by omega) (by omega)), if_neg c, m_swap hm (by omega) h2, zb1_r, q_1, q_dec (by omega)]
      exact ih (a + 1) (b - 1) f _ _ (by omega) (by omega) (by omega) (by omega) (rowR_swp hR (by omega) h2)
theorem hgh_lt {r : Nat → Nat} {p : Nat} (hp : r p ≤ r (p + 1)) : ∀ i, p + 1 < i → p < hgh r p i ∧ hgh r p i < i
  | 0, h => by omega
  | i + 1, h => by
    rw [hgh]
    by_cases c : r p ≤ r i
    · rw [if_pos c]; omega
    · rw [if_neg c]
      have : i ≠ p + 1 := fun e => c (e ▸ hp)
      have := hgh_lt hp i (by omega)
      omega
theorem x_hgh {m N : Nat} (hm : m ≤ 6) (hN : N ≤ 6) (fu : Nat) {g : Nat → Int32} {r : Nat → Nat} (hR : rowR m N g r) {p : Nat} (hp : r p ≤ r (p + 1)) (K : Int32 → Option (Int32 × (Nat → Int32))) : ∀ (i f : Nat), p + 1 < i → i ≤ m → i < f → fX4_step_L47 fu (nI p) g K f (nI i - 1) = K (nI (hgh r p i)) := by
  intro i
  induction i with
  | zero => intro f h; omega
  | succ i ih =>
    intro f h1 h2 hf
    obtain ⟨f, rfl⟩ : ∃ g, f = g + 1 := ⟨f - 1, by omega⟩
    obtain ⟨a1, a2⟩ := hR i (by omega)
    obtain ⟨b1, b2⟩ := hR p (by omega)
    rw [nI_pred, fX4_step_L47, if_neg (nI_ge (by omega) (by omega)), hgh]
    simp only [if_pos (q_in (k := i) (n := 6) (by omega) (by omega)), if_pos (q_in (k := p) (n := 6) (by omega) (by omega)), q_cl (n := i) (by omega), q_cl (n := p) (by omega), a1, b1, nI_leI (a := r p) (b := r i) (by omega) (by omega)]
    by_cases c : r p ≤ r i
    · rw [if_pos c, if_pos c]
    · rw [if_neg c, if_neg c, ← Int32.sub_eq_add_neg]
      have : i ≠ p + 1 := fun e => c (e ▸ hp)
      exact ih f (by omega) (by omega) (by omega)
theorem m_hgh {m N : Nat} (hm : m ≤ 6) (hN : N ≤ 6) (fu : Nat) {g : Nat → Int32} {r : Nat → Nat} (hR : rowR m N g r) {p : Nat} (hp : r p ≤ r (p + 1)) (K : Int32 → Option (Int32 × (Nat → Int32))) : ∀ (i f : Nat), p + 1 < i → i ≤ m → i < f → fX8_steps_L47 fu (nI p) g K f (nI i - 1) = K (nI (hgh r p i)) := by
  intro i
  induction i with
  | zero => intro f h; omega
  | succ i ih =>
    intro f h1 h2 hf
    obtain ⟨f, rfl⟩ : ∃ g, f = g + 1 := ⟨f - 1, by omega⟩
    obtain ⟨a1, a2⟩ := hR i (by omega)
    obtain ⟨b1, b2⟩ := hR p (by omega)
    rw [nI_pred, fX8_steps_L47, hgh]
    simp only [if_pos (q_in (k := i) (n := 6) (by omega) (by omega)), if_pos (q_in (k := p) (n := 6) (by omega) (by omega)), q_cl (n := i) (by omega), q_cl (n := p) (by omega), a1, b1, nI_leI (a := r p) (b := r i) (by omega) (by omega)]
    by_cases c : r p ≤ r i
    · rw [if_pos c, if_pos c]
    · rw [if_neg c, if_neg c, ← Int32.sub_eq_add_neg]
      have : i ≠ p + 1 := fun e => c (e ▸ hp)
      exact ih f (by omega) (by omega) (by omega)
theorem pvt_some {r : Nat → Nat} : ∀ {i p : Nat}, pvt r i = some p → p < i ∧ r p ≤ r (p + 1)
  | 0, p, h => by cases h
  | i + 1, p, h => by
    rw [pvt] at h
    by_cases c : r i ≤ r (i + 1)
    · rw [if_pos c] at h; cases h; exact ⟨by omega, c⟩
    · rw [if_neg c] at h
      have := pvt_some h
      exact ⟨by omega, this.2⟩
theorem x_pvt {m N : Nat} (hm : m ≤ 6) (hN : N ≤ 6) (fu : Nat) {g : Nat → Int32} {r : Nat → Nat} (hR : rowR m N g r) (K : Int32 → Option (Int32 × (Nat → Int32))) : ∀ (i f : Nat), i < m → i < f → fX4_step_L7 fu g K f (nI i - 1) = match pvt r i with | none => K (-1) | some p => K (nI p) := by
  intro i
  induction i with
  | zero =>
    intro f h1 hf
    obtain ⟨f, rfl⟩ : ∃ g, f = g + 1 := ⟨f - 1, by omega⟩
    rw [fX4_step_L7, if_pos (by decide)]; rfl
  | succ i ih =>
    intro f h1 hf
    obtain ⟨f, rfl⟩ : ∃ g, f = g + 1 := ⟨f - 1, by omega⟩
    obtain ⟨a1, a2⟩ := hR i (by omega)
    obtain ⟨b1, b2⟩ := hR (i + 1) (by omega)
    rw [nI_pred, fX4_step_L7, if_neg (nI_pos (by omega)), pvt]
    simp only [q_1, if_pos (q_in (k := i) (n := 6) (by omega) (by omega)), if_pos (q_in (k := i + 1) (n := 6) (by omega) (by omega)), q_cl (n := i) (by omega), q_cl (n := i + 1) (by omega), a1, b1, nI_leI (a := r i) (b := r (i + 1)) (by omega) (by omega)]
    by_cases c : r i ≤ r (i + 1)
    · rw [if_pos c, if_pos c]
    · rw [if_neg c, if_neg c, ← Int32.sub_eq_add_neg]
      exact ih f (by omega) (by omega)
theorem m_pvt {m N : Nat} (hm : m ≤ 6) (hN : N ≤ 6) (fu : Nat) {g : Nat → Int32} {r : Nat → Nat} (hR : rowR m N g r) (K : Int32 → Option (Int32 × (Nat → Int32))) : ∀ (i f : Nat), i < m → i < f → fX8_steps_L7 fu g K f (nI i - 1) = match pvt r i with | none => K (-1) | some p => K (nI p) := by
  intro i
  induction i with
  | zero =>
    intro f h1 hf
    obtain ⟨f, rfl⟩ : ∃ g, f = g + 1 := ⟨f - 1, by omega⟩
    rw [fX8_steps_L7, if_pos (by decide)]; rfl
  | succ i ih =>
    intro f h1 hf
    obtain ⟨f, rfl⟩ : ∃ g, f = g + 1 := ⟨f - 1, by omega⟩
    obtain ⟨a1, a2⟩ := hR i (by omega)
    obtain ⟨b1, b2⟩ := hR (i + 1) (by omega)
    rw [nI_pred, fX8_steps_L7, if_neg (nI_pos (by omega)), pvt]
    simp only [q_1, if_pos (q_in (k := i) (n := 6) (by omega) (by omega)), if_pos (q_in (k := i + 1) (n := 6) (by omega) (by omega)), q_cl (n := i) (by omega), q_cl (n := i + 1) (by omega), a1, b1, nI_leI (a := r i) (b := r (i + 1)) (by omega) (by omega)]
    by_cases c : r i ≤ r (i + 1)
    · rw [if_pos c, if_pos c]
    · rw [if_neg c, if_neg c, ← Int32.sub_eq_add_neg]
      exact ih f (by omega) (by omega)
theorem q_m1_2 {m : Nat} (h : 0 < m) : nI m - (2 : Int32) = nI (m - 1) - 1 := by
  obtain ⟨c, rfl⟩ : ∃ c, m = c + 1 := ⟨m - 1, by omega⟩
  have e : nI (c + 1) - (2 : Int32) = nI (c + 1) - 1 - 1 := by
    rw [Int32.sub_eq_add_neg, Int32.sub_eq_add_neg, Int32.sub_eq_add_neg, Int32.add_assoc]
    exact congrArg (fun z => nI (c + 1) + z) (by decide)
  rw [e, nI_pred]; rfl
theorem x_step {m N : Nat} (hm : m ≤ 6) (hN : N ≤ 6) (fu : Nat) (hfu : 100 ≤ fu) {g : Nat → Int32} {r : Nat → Nat} (hR : rowR m N g r) : (stp m r = none → fX4_step fu (nI m) g = some (0, g)) ∧ (∀ r', stp m r = some r' → ∃ g', rowR m N g' r' ∧ fX4_step fu (nI m) g = some (1, g')) := by
  rw [fX4_step]
  by_cases m0 : m = 0
  · subst m0
    obtain ⟨fu, rfl⟩ : ∃ g, fu = g + 1 := ⟨fu - 1, by omega⟩
    refine ⟨fun _ => ?_, fun r' h => by cases h⟩
    rw [fX4_step_L7, if_pos (by decide), fX4_step_J34, if_neg (by decide)]
  rw [q_m1_2 (by omega), x_pvt hm hN fu hR _ (m - 1) fu (by omega) (by omega), stp]
  cases hp : pvt r (m - 1) with
  | none =>
    refine ⟨fun _ => ?_, fun r' h => by cases h⟩
    show fX4_step_J34 fu (nI m) (-1) g = _
    rw [fX4_step_J34, if_neg (by decide)]
  | some p =>
    refine ⟨fun h => (by cases h), fun r' h => ?_⟩
    cases h
    obtain ⟨p1, p2⟩ := pvt_some hp
    have hh := hgh_lt p2 m (by omega)
    show ∃ g', _ ∧ fX4_step_J34 fu (nI m) (nI p) g = _
    rw [fX4_step_J34, if_pos (nI_pos' (by omega)), x_hgh hm hN fu hR p2 _ m fu (by omega) (by omega) (by omega), fX4_step_J73, x_swap hm (by omega) hh.2, zb1_r, q_1]
    have := x_rvs (N := N) hm fu (fun f_row_91e => some (1, f_row_91e)) 6 (p + 1) (m - 1) fu _ _ (by omega) (by omega) (by omega) (by omega) (rowR_swp hR (show p < m by omega) hh.2)
    obtain ⟨g', w1, w2⟩ := this
    refine ⟨g', w1, ?_⟩
    rw [show nI m - (1 : Int32) = nI (m - 1) from q_sub (b := 1) (by omega)]
    exact w2
theorem m_step {m N : Nat} (hm : m ≤ 6) (hN : N ≤ 6) (fu : Nat) (hfu : 100 ≤ fu) {g : Nat → Int32} {r : Nat → Nat} (hR : rowR m N g r) : (stp m r = none → fX8_steps fu (nI m) g = some (0, g)) ∧ (∀ r', stp m r = some r' → ∃ g', rowR m N g' r' ∧ fX8_steps fu (nI m) g = some (1, g')) := by
  rw [fX8_steps]
  by_cases m0 : m = 0
  · subst m0
    obtain ⟨fu, rfl⟩ : ∃ g, fu = g + 1 := ⟨fu - 1, by omega⟩
    refine ⟨fun _ => ?_, fun r' h => by cases h⟩
    rw [fX8_steps_L7, if_pos (by decide), fX8_steps_J34, if_neg (by decide)]
  rw [q_m1_2 (by omega), m_pvt hm hN fu hR _ (m - 1) fu (by omega) (by omega), stp]
  cases hp : pvt r (m - 1) with
  | none =>
    refine ⟨fun _ => ?_, fun r' h => by cases h⟩
    show fX8_steps_J34 fu (nI m) (-1) g = _
    rw [fX8_steps_J34, if_neg (by decide)]
  | some p =>
    refine ⟨fun h => (by cases h), fun r' h => ?_⟩
    cases h
    obtain ⟨p1, p2⟩ := pvt_some hp
    have hh := hgh_lt p2 m (by omega)
    show ∃ g', _ ∧ fX8_steps_J34 fu (nI m) (nI p) g = _
    rw [fX8_steps_J34, if_pos (nI_pos' (by omega)), m_hgh hm hN fu hR p2 _ m fu (by omega) (by omega) (by omega), m_swap hm (by omega) hh.2, zb1_r, q_1]
    have := m_rvs (N := N) hm fu (fun f_row_91e => some (1, f_row_91e)) 6 (p + 1) (m - 1) fu _ _ (by omega) (by omega) (by omega) (by omega) (rowR_swp hR (show p < m by omega) hh.2)
    obtain ⟨g', w1, w2⟩ := this
    refine ⟨g', w1, ?_⟩
    rw [show nI m - (1 : Int32) = nI (m - 1) from q_sub (b := 1) (by omega)]
    exact w2
