/-! chancery: the text's tokens -/
def sk (b : Nat) : Nat := if 97 ≤ b ∧ b ≤ 122 then 1 else if 48 ≤ b ∧ b ≤ 57 then 2 else if b = 59 then 3 else 4
theorem x_sort0 : ∀ b, b < 256 → fX6_sortOf ((nI b).toInt8.toInt32) = some (nI (sk b)) := by decide +kernel
theorem x_sp0 : ∀ b, b < 256 → ((nI b).toInt8.toInt32 = 32 ↔ b = 32) := by decide +kernel
theorem m_let0 : ∀ b, b < 256 → fX8_in (nI b) 97 122 = some (if sk b = 1 then 1 else 0) := by decide +kernel
theorem m_dig0 : ∀ b, b < 256 → fX8_in (nI b) 48 57 = some (if sk b = 2 then 1 else 0) := by decide +kernel
theorem m_end0 : fX8_in (-1) 97 122 = some 0 ∧ fX8_in (-1) 48 57 = some 0 := by decide
theorem sk_pos (b : Nat) : 1 ≤ sk b ∧ sk b ≤ 4 := by unfold sk; split; · omega
                                                     split; · omega
                                                     split <;> omega
/-- the text: n bytes B, on either side -/
def txR (n : Nat) (B : Nat → Nat) (tb mt : Nat → Int32) : Prop := n ≤ 200 ∧ ∀ k, k < n → B k < 256 ∧ tb k = (nI (B k)).toInt8.toInt32 ∧ mt k = nI (B k)
theorem rT_B {n tl tb ty mt} (h : rT n tl tb ty mt) : ∃ B, txR n B tb mt := by
  have : ∀ k, ∃ b, k < n → b < 256 ∧ tb k = (nI b).toInt8.toInt32 ∧ mt k = nI b := by
    intro k
    by_cases hk : k < n
    · obtain ⟨b, b1, b2, b3⟩ := h.2.2.2 k hk
      exact ⟨b, fun _ => ⟨b1, b3, b2⟩⟩
    · exact ⟨0, fun q => absurd q hk⟩
  exact ⟨fun k => Classical.choose (this k), h.1, fun k hk => Classical.choose_spec (this k) hk⟩
def skp (n : Nat) (B : Nat → Nat) : Nat → Nat → Nat
  | 0, p => p
  | j + 1, p => if p < n ∧ B p = 32 then skp n B j (p + 1) else p
def run (n : Nat) (B : Nat → Nat) (s : Nat) : Nat → Nat → Nat
  | 0, p => p
  | j + 1, p => if p < n ∧ sk (B p) = s then run n B s j (p + 1) else p
theorem skp_le {n : Nat} {B : Nat → Nat} : ∀ j p, p ≤ n → p ≤ skp n B j p ∧ skp n B j p ≤ n
  | 0, p, h => ⟨Nat.le_refl _, h⟩
  | j + 1, p, h => by
    rw [skp]; split
    · have := skp_le (n := n) (B := B) j (p + 1) (by omega); omega
    · omega
theorem run_le {n : Nat} {B : Nat → Nat} {s : Nat} : ∀ j p, p ≤ n → p ≤ run n B s j p ∧ run n B s j p ≤ n ∧ ∀ k, p ≤ k → k < run n B s j p → sk (B k) = s
  | 0, p, h => ⟨Nat.le_refl _, h, fun k h1 h2 => absurd (Nat.lt_of_le_of_lt h1 h2) (Nat.lt_irrefl _)⟩
  | j + 1, p, h => by
    rw [run]; split
    · have := run_le (n := n) (B := B) (s := s) j (p + 1) (by omega)
      refine ⟨by omega, this.2.1, fun k h1 h2 => ?_⟩
      by_cases e : k = p
      · subst e; rename_i q; exact q.2
      · exact this.2.2 k (by omega) h2
    · exact ⟨Nat.le_refl _, h, fun k h1 h2 => absurd (Nat.lt_of_le_of_lt h1 h2) (Nat.lt_irrefl _)⟩
/-- a token from p on: its start, its sort, where it ends -/
def tS (n : Nat) (B : Nat → Nat) (p : Nat) : Nat := skp n B (n - p) p
def tK (n : Nat) (B : Nat → Nat) (p : Nat) : Nat := if tS n B p < n then sk (B (tS n B p)) else 0
def tN (n : Nat) (B : Nat → Nat) (p : Nat) : Nat := if tS n B p < n then (if sk (B (tS n B p)) = 1 ∨ sk (B (tS n B p)) = 2 then run n B (sk (B (tS n B p))) (n - (tS n B p + 1)) (tS n B p + 1) else tS n B p + 1) else tS n B p
theorem tS_le {n B p} (h : p ≤ n) : p ≤ tS n B p ∧ tS n B p ≤ n := skp_le _ _ h
theorem tN_le {n B p} (h : p ≤ n) : tS n B p ≤ tN n B p ∧ tN n B p ≤ n ∧ (tK n B p ≠ 0 → tS n B p < tN n B p ∧ tS n B p < n) := by
  have h1 := tS_le (B := B) h
  rw [tN, tK]
  by_cases c : tS n B p < n
  · rw [if_pos c, if_pos c]
    split
    · have := run_le (n := n) (B := B) (s := sk (B (tS n B p))) (n - (tS n B p + 1)) (tS n B p + 1) (by omega)
      exact ⟨by omega, by omega, fun _ => ⟨by omega, c⟩⟩
    · exact ⟨by omega, by omega, fun _ => ⟨by omega, c⟩⟩
  · rw [if_neg c, if_neg c]; exact ⟨Nat.le_refl _, h1.2, fun q => absurd rfl q⟩
theorem x_skp {n B tb mt} (h : txR n B tb mt) (fu : Nat) (K : Int32 → Option (Int32 × Int32 × Int32)) : ∀ (j p f : Nat), p + j = n → j < f → fX6_take_L0 fu (nI n) tb K f (nI p) = K (nI (skp n B j p)) := by
  intro j
  induction j with
  | zero =>
    intro p f hp hf
    obtain ⟨f, rfl⟩ : ∃ g, f = g + 1 := ⟨f - 1, by omega⟩
    rw [fX6_take_L0, show p = n by omega, if_pos (Int32.le_refl _)]; rfl
  | succ j ih =>
    intro p f hp hf
    obtain ⟨f, rfl⟩ : ∃ g, f = g + 1 := ⟨f - 1, by omega⟩
    have h1 := h.1
    obtain ⟨b1, b2, b3⟩ := h.2 p (by omega)
    rw [fX6_take_L0, if_neg (nI_ge (by omega) (by omega)), skp]
    simp only [if_pos (q_in (k := p) (n := 200) (by omega) (by omega)), q_cl (n := p) (by omega), b2, x_sp0 _ b1, q_1]
    by_cases c : B p = 32
    · rw [if_pos c, if_pos ⟨by omega, c⟩]; exact ih (p + 1) f (by omega) (by omega)
    · rw [if_neg c, if_neg (fun q => c q.2)]
theorem x_run {n B tb mt} (h : txR n B tb mt) {s : Nat} (hs : s ≤ 4) (fu : Nat) (K : Int32 → Option (Int32 × Int32 × Int32)) : ∀ (j p f : Nat), p + j = n → j < f → fX6_take_L92 fu (nI s) (nI n) tb K f (nI p) = K (nI (run n B s j p)) := by
  intro j
  induction j with
  | zero =>
    intro p f hp hf
    obtain ⟨f, rfl⟩ : ∃ g, f = g + 1 := ⟨f - 1, by omega⟩
    rw [fX6_take_L92, show p = n by omega, if_pos (Int32.le_refl _)]; rfl
  | succ j ih =>
    intro p f hp hf
    obtain ⟨f, rfl⟩ : ∃ g, f = g + 1 := ⟨f - 1, by omega⟩
    have h1 := h.1
    obtain ⟨b1, b2, b3⟩ := h.2 p (by omega)
    have hk := sk_pos (B p)
    rw [fX6_take_L92, if_neg (nI_ge (by omega) (by omega)), run]
    simp only [if_pos (q_in (k := p) (n := 200) (by omega) (by omega)), q_cl (n := p) (by omega), b2, x_sort0 _ b1, zb1_r, q_1, nI_eq (a := sk (B p)) (b := s) (by omega) (by omega)]
    by_cases c : sk (B p) = s
    · rw [if_pos c, if_pos ⟨by omega, c⟩]; exact ih (p + 1) f (by omega) (by omega)
    · rw [if_neg c, if_neg (fun q => c q.2)]
theorem x_take {n B tb mt} (h : txR n B tb mt) (fu : Nat) (hfu : 1000 ≤ fu) {p : Nat} (hp : p ≤ n) (st : Int32) : fX6_take fu (nI n) (nI p) st tb = some (nI (tK n B p), nI (tN n B p), nI (tS n B p)) := by
  have h1 := h.1
  have hS := tS_le (B := B) hp
  rw [fX6_take, x_skp h fu _ (n - p) p fu (by omega) (by omega), show skp n B (n - p) p = tS n B p from rfl, fX6_take_J38]
  by_cases c : tS n B p < n
  · obtain ⟨b1, b2, b3⟩ := h.2 (tS n B p) c
    have hk := sk_pos (B (tS n B p))
    rw [if_pos (nI_lt c (by omega)), tK, tN, if_pos c, if_pos c]
    simp only [if_pos (q_in (k := tS n B p) (n := 200) (by omega) (by omega)), q_cl (n := tS n B p) (by omega), b2, x_sort0 _ b1, zb1_r, q_1, x_run h (show sk (B (tS n B p)) ≤ 4 by omega) fu _ (n - (tS n B p + 1)) (tS n B p + 1) fu (by omega) (by omega)]
    by_cases c1 : sk (B (tS n B p)) = 1
    · rw [c1, if_pos (show nI 1 = (1 : Int32) from rfl), if_pos (Or.inl rfl)]
    · rw [if_neg (show ¬ nI (sk (B (tS n B p))) = (1 : Int32) from q_ne (b := 1) (by omega) (by omega) c1)]
      by_cases c2 : sk (B (tS n B p)) = 2
      · rw [c2, if_pos (show nI 2 = (2 : Int32) from rfl), if_pos (Or.inr rfl)]
      · rw [if_neg (show ¬ nI (sk (B (tS n B p))) = (2 : Int32) from q_ne (b := 2) (by omega) (by omega) c2), if_neg (fun q => q.elim c1 c2)]
  · rw [if_neg (nI_nlt (by omega) (by omega)), tK, tN, if_neg c, if_neg c]; rfl
theorem m_byte {n B tb mt} (h : txR n B tb mt) {p : Nat} (hp : p ≤ n) : (p < n → fX8_byteAt (nI n) mt (nI p) = some (nI (B p))) ∧ (p = n → fX8_byteAt (nI n) mt (nI p) = some (-1)) := by
  have h1 := h.1
  rw [fX8_byteAt]
  constructor
  · intro c
    obtain ⟨b1, b2, b3⟩ := h.2 p c
    rw [if_neg (nI_ge c (by omega))]
    simp only [if_pos (q_in (k := p) (n := 200) (by omega) (by omega)), q_cl (n := p) (by omega), b3]
  · intro c
    rw [c, if_pos (Int32.le_refl _)]
theorem m_skp {n B tb mt} (h : txR n B tb mt) (fu : Nat) (K : Int32 → Option (Int32 × Int32 × Int32 × Int32)) : ∀ (j p f : Nat), p + j = n → j < f → fX8_advances_L0 fu (nI n) mt K f (nI p) = K (nI (skp n B j p)) := by
  intro j
  induction j with
  | zero =>
    intro p f hp hf
    obtain ⟨f, rfl⟩ : ∃ g, f = g + 1 := ⟨f - 1, by omega⟩
    rw [fX8_advances_L0, (m_byte h (show p ≤ n by omega)).2 (by omega), zb1_r, if_neg (by decide)]; rfl
  | succ j ih =>
    intro p f hp hf
    obtain ⟨f, rfl⟩ : ∃ g, f = g + 1 := ⟨f - 1, by omega⟩
    have h1 := h.1
    obtain ⟨b1, b2, b3⟩ := h.2 p (by omega)
    rw [fX8_advances_L0, (m_byte h (show p ≤ n by omega)).1 (by omega), zb1_r, skp]
    simp only [q_1, show (nI (B p) = (32 : Int32)) = (B p = 32) from propext (nI_eq (b := 32) (by omega) (by omega))]
    by_cases c : B p = 32
    · rw [if_pos c, if_pos ⟨by omega, c⟩]; exact ih (p + 1) f (by omega) (by omega)
    · rw [if_neg c, if_neg (fun q => c q.2)]
/-- a number's value, digit by digit: from 100 on it stays -/
def nvF (B : Nat → Nat) (s : Nat) : Nat → Nat
  | 0 => 0
  | k + 1 => if nvF B s k ≤ 99 then 10 * nvF B s k + B (s + k) - 48 else nvF B s k
theorem nvF_lt {B : Nat → Nat} {s : Nat} : ∀ k, (∀ j, j < k → sk (B (s + j)) = 2) → nvF B s k < 1000
  | 0, _ => by rw [nvF]; omega
  | k + 1, h => by
    have := nvF_lt (B := B) (s := s) k (fun j hj => h j (by omega))
    have h2 := h k (by omega)
    have : B (s + k) ≤ 57 := by
      unfold sk at h2
      split at h2
      · omega
      · split at h2
        · omega
        · split at h2 <;> omega
    rw [nvF]; split <;> omega
theorem sk2 {b : Nat} : sk b = 2 ↔ 48 ≤ b ∧ b ≤ 57 := by
  unfold sk
  split
  · constructor <;> omega
  · split
    · constructor <;> omega
    · split <;> constructor <;> omega
theorem sk1 {b : Nat} : sk b = 1 ↔ 97 ≤ b ∧ b ≤ 122 := by
  unfold sk
  split
  · constructor <;> omega
  · split
    · constructor <;> omega
    · split <;> constructor <;> omega
theorem sk3 {b : Nat} : sk b = 3 ↔ b = 59 := by
  unfold sk
  split
  · constructor <;> omega
  · split
    · constructor <;> omega
    · split <;> constructor <;> omega
