/-! how far a row strays; the rows of a set; the search -/
def ad (p q : Nat) : Nat := if q ≤ p then p - q else q - p
theorem ad_lt {p q : Nat} (hp : p < 10) (hq : q < 10) : ad p q < 10 := by unfold ad; split <;> omega
theorem x_ad : ∀ p, p < 10 → ∀ q, q < 10 → (if 0 ≤ (nI p - nI q) then (nI p - nI q) else 0 - (nI p - nI q)) = nI (ad p q) := by decide +kernel
theorem m_ad : ∀ p, p < 10 → ∀ q, q < 10 → fX8_size (nI p - nI q) = some (nI (ad p q)) := by decide +kernel
def itF (A r : Nat → Nat) (t0 : Nat) : Nat → Nat
  | 0 => t0
  | k + 1 => tn (itF A r t0 k) (A (r k))
def moF (A r : Nat → Nat) (t0 tg : Nat) : Nat → Nat
  | 0 => 0
  | k + 1 => if ad (itF A r t0 (k + 1)) tg ≤ moF A r t0 tg k then moF A r t0 tg k else ad (itF A r t0 (k + 1)) tg
theorem itF_lt {A r : Nat → Nat} {t0 : Nat} (h : t0 < 10) : ∀ k, itF A r t0 k < 10
  | 0 => h
  | k + 1 => tn_lt
theorem moF_lt {A r : Nat → Nat} {t0 tg : Nat} (h : t0 < 10) (h2 : tg < 10) : ∀ k, moF A r t0 tg k < 10
  | 0 => by rw [moF]; omega
  | k + 1 => by
    rw [moF]
    split
    · exact moF_lt h h2 k
    · exact ad_lt (itF_lt h _) h2
/-- what the row strays by: at its end, or anywhere -/
def far (A r : Nat → Nat) (m t0 tg : Nat) (w : Bool) : Nat := if w = true then moF A r t0 tg m else ad (itF A r t0 m) tg
theorem far_lt {A r : Nat → Nat} {m t0 tg : Nat} {w : Bool} (h : t0 < 10) (h2 : tg < 10) : far A r m t0 tg w < 10 := by
  rw [far]
  split
  · exact moF_lt h h2 m
  · exact ad_lt (itF_lt h _) h2
theorem x_strayL {m no : Nat} (hm : m ≤ 6) (hno : no ≤ 6) {g le : Nat → Int32} {r A : Nat → Nat} (hR : rowR m no g r) (hA : ∀ c, c < no → A c < 9 ∧ le c = nI (A c)) {t0 tg : Nat} (h0 : t0 < 10) (ht : tg < 10) (fu : Nat) (z : Int32) (K : Int32 → Int32 → Option Int32) : ∀ (j k f : Nat), k + j = m → j < f → fX4_stray_L9 fu (nI tg) z (nI m) g (nI no) le K f (nI (itF A r t0 k)) (nI (moF A r t0 tg k)) (nI k) = K (nI (itF A r t0 m)) (nI (moF A r t0 tg m)) := by
  intro j
  induction j with
  | zero =>
    intro k f hk hf
    obtain ⟨f, rfl⟩ : ∃ g, f = g + 1 := ⟨f - 1, by omega⟩
    rw [fX4_stray_L9, show k = m by omega, if_pos (Int32.le_refl _)]
  | succ j ih =>
    intro k f hk hf
    obtain ⟨f, rfl⟩ : ∃ g, f = g + 1 := ⟨f - 1, by omega⟩
    obtain ⟨a1, a2⟩ := hR k (by omega)
    obtain ⟨b1, b2⟩ := hA (r k) a2
    have i1 := itF_lt (A := A) (r := r) h0 k
    have i2 := itF_lt (A := A) (r := r) h0 (k + 1)
    have i3 := moF_lt (A := A) (r := r) h0 ht k
    have i4 := ad_lt i2 ht
    have e : fX4_stray_J45 fu (nI tg) z K (fun (l5_9b) (l6_9b) (l7_9b) => fX4_stray_L9 fu (nI tg) z (nI m) g (nI no) le K f l5_9b l6_9b l7_9b) (nI (itF A r t0 (k + 1))) (nI (moF A r t0 tg k)) (nI k) = K (nI (itF A r t0 m)) (nI (moF A r t0 tg m)) := by
      rw [fX4_stray_J45, x_ad _ i2 _ ht, q_1, ← ih (k + 1) f (by omega) (by omega)]
      congr 1
      rw [moF]
      by_cases c : ad (itF A r t0 (k + 1)) tg ≤ moF A r t0 tg k
      · rw [if_neg (nI_nlt c (by omega)), if_pos c]
      · rw [if_pos (nI_lt (by omega) (by omega)), if_neg c]
    rw [fX4_stray_L9, if_neg (nI_ge (by omega) (by omega))]
    simp only [if_pos (q_in (k := k) (n := 6) (by omega) (by omega)), q_cl (n := k) (by omega), a1, if_neg (nI_pos (n := r k) (by omega)), if_neg (nI_ge a2 (show no < 2 ^ 31 by omega)), if_pos (q_in (k := r k) (n := 6) (by omega) (by omega)), q_cl (n := r k) (by omega), b2, x_tone b1 i1, zb1_r]
    exact e
theorem x_stray {m no : Nat} (hm : m ≤ 6) (hno : no ≤ 6) {g le : Nat → Int32} {r A : Nat → Nat} (hR : rowR m no g r) (hA : ∀ c, c < no → A c < 9 ∧ le c = nI (A c)) {t0 tg : Nat} (h0 : t0 < 10) (ht : tg < 10) (fu : Nat) (hfu : 100 ≤ fu) (w : Bool) : fX4_stray fu (nI m) g (nI no) le (nI t0) (nI tg) (if w = true then 1 else 0) = some (nI (far A r m t0 tg w)) := by
  have := x_strayL hm hno hR hA h0 ht fu (if w = true then 1 else 0) (fun (l5_9e) (l6_9e) => (if (if w = true then (1 : Int32) else 0) = (0 : Int32) then (some (if 0 ≤ (l5_9e - nI tg) then (l5_9e - nI tg) else 0 - (l5_9e - nI tg))) else (some l6_9e))) m 0 fu (by omega) (by omega)
  rw [fX4_stray]
  refine Eq.trans this ?_
  rw [far]
  cases w with
  | true => rw [if_pos rfl, if_neg z10, if_pos rfl]
  | false => rw [if_pos (show (if false = true then (1 : Int32) else 0) = 0 by decide), if_neg (show ¬ false = true by decide), x_ad _ (itF_lt h0 m) _ ht]
theorem m_farL {m no : Nat} (hm : m ≤ 6) (hno : no ≤ 6) {g ck : Nat → Int32} {r A : Nat → Nat} (hR : rowR m no g r) (hA : ∀ c, c < no → A c < 9 ∧ ck (4 * c) = nI (A c)) {t0 : Nat} (h0 : t0 < 10) (fu : Nat) (z : Int32) (K : Int32 → Int32 → Option Int32) : ∀ (j k f : Nat), k + j = m → j < f → fX8_farBy_L16 fu z (nI t0) (nI m) ck g K f (nI (itF A r t0 k)) (nI (moF A r t0 t0 k)) (nI k) = K (nI (itF A r t0 m)) (nI (moF A r t0 t0 m)) := by
  intro j
  induction j with
  | zero =>
    intro k f hk hf
    obtain ⟨f, rfl⟩ : ∃ g, f = g + 1 := ⟨f - 1, by omega⟩
    rw [fX8_farBy_L16, show k = m by omega, if_pos (Int32.le_refl _)]
  | succ j ih =>
    intro k f hk hf
    obtain ⟨f, rfl⟩ : ∃ g, f = g + 1 := ⟨f - 1, by omega⟩
    obtain ⟨a1, a2⟩ := hR k (by omega)
    obtain ⟨b1, b2⟩ := hA (r k) a2
    have i1 := itF_lt (A := A) (r := r) h0 k
    have i2 := itF_lt (A := A) (r := r) h0 (k + 1)
    have i3 := moF_lt (A := A) (r := r) h0 h0 k
    have i4 := ad_lt i2 h0
    have hT : fX8_toneBy ck (nI (r k)) (nI (itF A r t0 k)) = some (nI (itF A r t0 (k + 1))) := m_tone (by omega) b2 b1 i1
    rw [fX8_farBy_L16, if_neg (nI_ge (by omega) (by omega)), ← ih (k + 1) f (by omega) (by omega)]
    simp only [if_pos (q_in (k := k) (n := 6) (by omega) (by omega)), q_cl (n := k) (by omega), a1, hT, zb1_r, m_ad _ i2 _ h0, q_1, nI_leI (a := ad (itF A r t0 (k + 1)) t0) (b := moF A r t0 t0 k) (by omega) (by omega), moF]
    by_cases c : ad (itF A r t0 (k + 1)) t0 ≤ moF A r t0 t0 k
    · rw [if_pos c, if_pos c]
    · rw [if_neg c, if_neg c]
theorem m_far {m no : Nat} (hm : m ≤ 6) (hno : no ≤ 6) {g ck s : Nat → Int32} {r A : Nat → Nat} (hR : rowR m no g r) (hA : ∀ c, c < no → A c < 9 ∧ ck (4 * c) = nI (A c)) {t0 tg y : Nat} (h0 : t0 < 10) (hy : y < 8) (ht : tg < 10) (fu : Nat) (hfu : 100 ≤ fu) (hl : fX8_last s = some (nI (t0 + 10 * y))) : fX8_farBy fu (nI m) ck s g (nI tg) = some (nI (far A r m t0 tg false)) ∧ fX8_farBy fu (nI m) ck s g (-1) = some (nI (far A r m t0 t0 true)) := by
  have L := fun z K => m_farL hm hno hR hA h0 fu z K m 0 fu (by omega) (by omega)
  rw [show nI (itF A r t0 0) = nI t0 from rfl, show nI (moF A r t0 t0 0) = 0 from rfl, show nI 0 = (0 : Int32) from rfl] at L
  rw [fX8_farBy, fX8_farBy, hl, zb1_r, zb1_r, q_t h0 hy, L, L, if_pos (nI_pos' (by omega)), if_neg (by decide), m_ad _ (itF_lt h0 m) _ ht, zb1_r]
  exact ⟨rfl, rfl⟩
/-- the clerks of a set, in order -/
def rws (s : Nat) : Nat → List Nat
  | 0 => []
  | c + 1 => if s / 2 ^ c % 2 = 1 then rws s c ++ [c] else rws s c
theorem rws_len (s : Nat) : ∀ c, (rws s c).length ≤ c
  | 0 => Nat.le_refl _
  | c + 1 => by
    have := rws_len s c
    rw [rws]; split
    · rw [List.length_append]; simp; omega
    · omega
theorem q_bit0 : ∀ s, s < 64 → ∀ c, c < 6 → ((nI s >>> (nI c &&& 31)) &&& (1 : Int32)) = nI (s / 2 ^ c % 2) := by decide +kernel
theorem rowR_snoc {N : Nat} {g : Nat → Int32} {l : List Nat} {c : Nat} (h : rowR l.length N g (fun k => l.getD k 0)) (hc : c < N) : rowR (l ++ [c]).length N (upd g l.length (nI c)) (fun k => (l ++ [c]).getD k 0) := by
  intro k hk
  rw [List.length_append] at hk
  simp at hk
  rw [q_up]
  by_cases e : k = l.length
  · subst e
    rw [if_pos rfl]
    simp [List.getD, hc]
  · rw [if_neg e]
    have := h k (by omega)
    simp only [List.getD, List.getElem?_append_left (show k < l.length by omega)] at this ⊢
    exact this
theorem x_lineUp {s no : Nat} (hs : s < 64) (hno : no ≤ 6) (hz : ∀ c, c < 6 → s / 2 ^ c % 2 = 1 → c < no) (fu : Nat) (K : Int32 → (Nat → Int32) → Option (Int32 × (Nat → Int32))) : ∀ (j c f : Nat) (g : Nat → Int32), c + j = 6 → j < f → rowR (rws s c).length no g (fun k => (rws s c).getD k 0) → ∃ g', rowR (rws s 6).length no g' (fun k => (rws s 6).getD k 0) ∧ fX4_lineUp_L7 fu (nI s) K f (nI c) (nI (rws s c).length) g = K (nI (rws s 6).length) g' := by
  intro j
  induction j with
  | zero =>
    intro c f g hc hf hR
    obtain ⟨f, rfl⟩ : ∃ g, f = g + 1 := ⟨f - 1, by omega⟩
    obtain rfl : c = 6 := by omega
    refine ⟨g, hR, ?_⟩
    rw [fX4_lineUp_L7, if_pos (by decide)]
  | succ j ih =>
    intro c f g hc hf hR
    obtain ⟨f, rfl⟩ : ∃ g, f = g + 1 := ⟨f - 1, by omega⟩
    have hl := rws_len s c
    rw [fX4_lineUp_L7, if_neg (show ¬ (6 : Int32) ≤ nI c from nI_ge (b := 6) (by omega) (by omega)), q_bit0 s hs c (by omega)]
    by_cases e : s / 2 ^ c % 2 = 1
    · have e2 : rws s (c + 1) = rws s c ++ [c] := by rw [rws, if_pos e]
      have := ih (c + 1) f (upd g (rws s c).length (nI c)) (by omega) (by omega) (by rw [e2]; exact rowR_snoc hR (hz c (by omega) e))
      rw [e2, List.length_append] at this
      rw [if_neg (by rw [e]; decide)]
      simp only [if_pos (q_in (k := (rws s c).length) (n := 6) (by omega) (by omega)), q_cl (n := (rws s c).length) (by omega), q_1]
      exact this
    · have e2 : rws s (c + 1) = rws s c := by rw [rws, if_neg e]
      have := ih (c + 1) f g (by omega) (by omega) (by rw [e2]; exact hR)
      rw [e2] at this
      rw [if_pos (by rw [show s / 2 ^ c % 2 = 0 by omega]; rfl), q_1]
      exact this
theorem m_lineUp {s no : Nat} (hs : s < 64) (hno : no ≤ 6) (fu : Nat) (t : Int32) (K : Int32 → (Nat → Int32) → Option (Int32 × Int32 × (Nat → Int32) × (Nat → Int32))) : ∀ (j c f : Nat) (g : Nat → Int32), c + j = no → j < f → rowR (rws s c).length no g (fun k => (rws s c).getD k 0) → ∃ g', rowR (rws s no).length no g' (fun k => (rws s no).getD k 0) ∧ fX8_bestRow_L7 fu (nI s) t (nI no) K f (nI c) (nI (rws s c).length) g = K (nI (rws s no).length) g' := by
  intro j
  induction j with
  | zero =>
    intro c f g hc hf hR
    obtain ⟨f, rfl⟩ : ∃ g, f = g + 1 := ⟨f - 1, by omega⟩
    obtain rfl : c = no := by omega
    refine ⟨g, hR, ?_⟩
    rw [fX8_bestRow_L7, if_pos (Int32.le_refl _)]
  | succ j ih =>
    intro c f g hc hf hR
    obtain ⟨f, rfl⟩ : ∃ g, f = g + 1 := ⟨f - 1, by omega⟩
    have hl := rws_len s c
    rw [fX8_bestRow_L7, if_neg (nI_ge (by omega) (by omega)), q_bit0 s hs c (by omega)]
    by_cases e : s / 2 ^ c % 2 = 1
    · have e2 : rws s (c + 1) = rws s c ++ [c] := by rw [rws, if_pos e]
      have := ih (c + 1) f (upd g (rws s c).length (nI c)) (by omega) (by omega) (by rw [e2]; exact rowR_snoc hR (by omega))
      rw [e2, List.length_append] at this
      rw [if_pos (by rw [e]; decide)]
      simp only [if_pos (q_in (k := (rws s c).length) (n := 6) (by omega) (by omega)), q_cl (n := (rws s c).length) (by omega), q_1]
      exact this
    · have e2 : rws s (c + 1) = rws s c := by rw [rws, if_neg e]
      have := ih (c + 1) f g (by omega) (by omega) (by rw [e2]; exact hR)
      rw [e2] at this
      rw [if_neg (by rw [show s / 2 ^ c % 2 = 0 by omega]; decide), q_1]
      exact this
theorem rws_no : ∀ no, no < 7 → ∀ s, s < 2 ^ no → rws s 6 = rws s no := by decide +kernel
theorem rws_hz : ∀ no, no < 7 → ∀ s, s < 2 ^ no → ∀ c, c < 6 → s / 2 ^ c % 2 = 1 → c < no := by decide +kernel
/-- the rows are at an end within n -/
def stpL (m : Nat) (l : List Nat) : Option (List Nat) := match stp m (fun k => l.getD k 0) with
  | none => none
  | some r => some ((List.range m).map r)
def ends (m : Nat) : Nat → List Nat → Bool
  | 0, _ => false
  | n + 1, l => match stpL m l with
    | none => true
    | some l => ends m n l
theorem ends_all : ∀ s, s < 64 → ends (rws s 6).length 720 (rws s 6) = true := by decide +kernel
