/-! chancery: words and numbers -/
theorem q_cmp {a b : Nat} (ha : a < 2 ^ 63) (hb : b < 2 ^ 63) : lg_cmp (lN a) (lN b) = 0 ↔ a = b := by
  rw [lg_cmp]
  by_cases c : lN a > lN b
  · rw [if_pos c]
    constructor
    · intro h; exact absurd h (by decide)
    · intro h; subst h; exact absurd c (Int64.lt_irrefl)
  · rw [if_neg c]
    by_cases c2 : lN a = lN b
    · rw [if_pos c2]
      refine ⟨fun _ => ?_, fun _ => rfl⟩
      have h1 := (pk_lLE ha hb).mp (c2 ▸ Int64.le_refl _)
      have h2 := (pk_lLE hb ha).mp (c2 ▸ Int64.le_refl _)
      omega
    · rw [if_neg c2]
      constructor
      · intro h; exact absurd h (by decide)
      · intro h; subst h; exact absurd rfl c2
theorem q_i64 : ∀ b, b < 256 → (nI b).toInt64 = lN b := by decide +kernel
theorem m_num {n B tb mt} (h : txR n B tb mt) (fu : Nat) (y : Int32) (s : Nat) (K : Int32 → Int32 → Option (Int32 × Int32 × Int32 × Int32)) : ∀ (j k f : Nat), s + k + j = n → j < f → (∀ i, i < k → sk (B (s + i)) = 2) → fX8_advances_L175 fu y (nI n) mt K f (nI (s + k)) (nI (nvF B s k)) = K (nI (run n B 2 j (s + k))) (nI (nvF B s (run n B 2 j (s + k) - s))) := by
  intro j
  induction j with
  | zero =>
    intro k f hp hf hd
    obtain ⟨f, rfl⟩ : ∃ g, f = g + 1 := ⟨f - 1, by omega⟩
    rw [fX8_advances_L175, (m_byte h (show s + k ≤ n by omega)).2 (by omega), zb1_r, m_end0.2, zb1_r, if_pos rfl, run, show s + k - s = k by omega]
  | succ j ih =>
    intro k f hp hf hd
    obtain ⟨f, rfl⟩ : ∃ g, f = g + 1 := ⟨f - 1, by omega⟩
    have h1 := h.1
    obtain ⟨b1, b2, b3⟩ := h.2 (s + k) (by omega)
    have hv := nvF_lt k hd
    rw [fX8_advances_L175, (m_byte h (show s + k ≤ n by omega)).1 (by omega), zb1_r, m_dig0 _ b1, zb1_r, run]
    by_cases c : sk (B (s + k)) = 2
    · have hb := sk2.mp c
      have e := ih (k + 1) f (by omega) (by omega) (fun i hi => by
        by_cases e : i = k
        · rw [e]; exact c
        · exact hd i (by omega))
      rw [show s + (k + 1) = s + k + 1 by omega] at e
      rw [if_pos c, if_neg z10, if_pos (show s + k < n ∧ sk (B (s + k)) = 2 from ⟨by omega, c⟩), ← e, nvF]
      by_cases c2 : nvF B s k ≤ 99
      · rw [if_pos (show nI (nvF B s k) ≤ (99 : Int32) from nI_le (b := 99) c2 (by omega)), if_pos c2, zb1_r, fX8_advances_J229, q_1, show (10 : Int32) * nI (nvF B s k) = nI (10 * nvF B s k) from q_mul 10 _, nI_add, show nI (10 * nvF B s k + B (s + k)) - (48 : Int32) = nI (10 * nvF B s k + B (s + k) - 48) from q_sub (b := 48) (by omega)]
      · rw [if_neg (show ¬ nI (nvF B s k) ≤ (99 : Int32) from nI_ge (a := 99) (by omega) (by omega)), if_neg c2, fX8_advances_J229, q_1]
    · rw [if_neg c, if_pos rfl, if_neg (show ¬ (s + k < n ∧ sk (B (s + k)) = 2) from fun q => c q.2), show s + k - s = k by omega]
def hvF (B : Nat → Nat) (s : Nat) : Nat → Nat
  | 0 => 0
  | k + 1 => if k < 7 then 256 * hvF B s k + B (s + k) else hvF B s k
theorem hvF_lt {B : Nat → Nat} {s : Nat} : ∀ k, (∀ j, j < k → B (s + j) < 256) → hvF B s k < 256 ^ k ∧ hvF B s k < 256 ^ 7
  | 0, _ => by rw [hvF]; omega
  | k + 1, h => by
    have h1 := hvF_lt (B := B) (s := s) k (fun j hj => h j (by omega))
    have h2 := h k (by omega)
    have h3 : 256 ^ (k + 1) = 256 ^ k * 256 := Nat.pow_succ ..
    rw [hvF]; split
    · rename_i c
      have h4 : 256 ^ (k + 1) ≤ 256 ^ 7 := Nat.pow_le_pow_right (by omega) (by omega)
      omega
    · omega
theorem m_word {n B tb mt} (h : txR n B tb mt) (fu : Nat) (s : Nat) (K : Int64 → Int32 → Option (Int32 × Int32 × Int32 × Int32)) : ∀ (j k f : Nat), s + k + j = n → j < f → fX8_advances_L68 fu (nI n) (nI s) mt K f (lN (hvF B s k)) (nI (s + k)) = K (lN (hvF B s (run n B 1 j (s + k) - s))) (nI (run n B 1 j (s + k))) := by
  intro j
  induction j with
  | zero =>
    intro k f hp hf
    obtain ⟨f, rfl⟩ : ∃ g, f = g + 1 := ⟨f - 1, by omega⟩
    rw [fX8_advances_L68, (m_byte h (show s + k ≤ n by omega)).2 (by omega), zb1_r, m_end0.1, zb1_r, if_pos rfl, run, show s + k - s = k by omega]
  | succ j ih =>
    intro k f hp hf
    obtain ⟨f, rfl⟩ : ∃ g, f = g + 1 := ⟨f - 1, by omega⟩
    have h1 := h.1
    obtain ⟨b1, b2, b3⟩ := h.2 (s + k) (by omega)
    rw [fX8_advances_L68, (m_byte h (show s + k ≤ n by omega)).1 (by omega), zb1_r, m_let0 _ b1, zb1_r, run]
    by_cases c : sk (B (s + k)) = 1
    · have hb := sk1.mp c
      have e := ih (k + 1) f (by omega) (by omega)
      rw [show s + (k + 1) = s + k + 1 by omega] at e
      rw [if_pos c, if_neg z10, if_pos (show s + k < n ∧ sk (B (s + k)) = 1 from ⟨by omega, c⟩), ← e, hvF, show nI (s + k) - nI s = nI k from (q_sub (by omega)).trans (by congr 1; omega)]
      by_cases c2 : k < 7
      · rw [if_neg (show ¬ (7 : Int32) ≤ nI k from nI_ge (b := 7) c2 (by omega)), if_pos c2, zb1_r, fX8_add, if_neg (show ¬ nI (B (s + k)) = (0 : Int32) from q_ne (b := 0) (by omega) (by omega) (by omega)), zb1_r, fX8_advances_J116, q_1, q_i64 _ b1, show (256 : Int64) = lN 256 from rfl, lN_mul, lN_add]
      · rw [if_pos (show (7 : Int32) ≤ nI k from nI_le (a := 7) (by omega) (by omega)), if_neg c2, fX8_advances_J116, q_1]
    · rw [if_neg c, if_pos rfl, if_neg (show ¬ (s + k < n ∧ sk (B (s + k)) = 1) from fun q => c q.2), show s + k - s = k by omega]
def cC : Nat := 427020350059
def cL : Nat := 119183001281906
theorem m_cC : fX8_named 99 108 101 114 107 0 = some (lN cC) := by decide +kernel
theorem m_cL : fX8_named 108 101 116 116 101 114 = some (lN cL) := by decide +kernel
/-- the word of L letters from s on -/
def isC (B : Nat → Nat) (s L : Nat) : Prop := L = 5 ∧ B s = 99 ∧ B (s + 1) = 108 ∧ B (s + 2) = 101 ∧ B (s + 3) = 114 ∧ B (s + 4) = 107
def isT (B : Nat → Nat) (s L : Nat) : Prop := L = 6 ∧ B s = 108 ∧ B (s + 1) = 101 ∧ B (s + 2) = 116 ∧ B (s + 3) = 116 ∧ B (s + 4) = 101 ∧ B (s + 5) = 114

theorem hvF_7 {B : Nat → Nat} {s : Nat} : ∀ k, hvF B s (7 + k) = hvF B s 7
  | 0 => rfl
  | k + 1 => by rw [show 7 + (k + 1) = 7 + k + 1 by omega, hvF, if_neg (by omega), hvF_7 k]
theorem hv_isC {B : Nat → Nat} {s L : Nat} (h : ∀ j, j < L → 97 ≤ B (s + j) ∧ B (s + j) ≤ 122) (h0 : 0 < L) : (hvF B s L = cC ↔ isC B s L) ∧ (hvF B s L = cL ↔ isT B s L) := by
  unfold isC isT cC cL
  by_cases c : L < 7
  · have a0 : 97 ≤ B s ∧ B s ≤ 122 := h 0 h0
    have e1 : hvF B s 1 = B s := by simp [hvF]
    have e2 : hvF B s 2 = 256 * B s + B (s + 1) := by rw [hvF, if_pos (by omega), e1]
    have e3 : hvF B s 3 = 256 * (256 * B s + B (s + 1)) + B (s + 2) := by rw [hvF, if_pos (by omega), e2]
    have e4 : hvF B s 4 = 256 * (256 * (256 * B s + B (s + 1)) + B (s + 2)) + B (s + 3) := by rw [hvF, if_pos (by omega), e3]
    have e5 : hvF B s 5 = 256 * (256 * (256 * (256 * B s + B (s + 1)) + B (s + 2)) + B (s + 3)) + B (s + 4) := by rw [hvF, if_pos (by omega), e4]
    have e6 : hvF B s 6 = 256 * (256 * (256 * (256 * (256 * B s + B (s + 1)) + B (s + 2)) + B (s + 3)) + B (s + 4)) + B (s + 5) := by rw [hvF, if_pos (by omega), e5]
    match L, c, h with
    | 0, _, h => omega
    | 1, _, h => rw [e1]; constructor <;> constructor <;> omega
    | 2, _, h => have := h 1 (by omega); rw [e2]; constructor <;> constructor <;> omega
    | 3, _, h => have := h 1 (by omega); have := h 2 (by omega); rw [e3]; constructor <;> constructor <;> omega
    | 4, _, h => have := h 1 (by omega); have := h 2 (by omega); have := h 3 (by omega); rw [e4]; constructor <;> constructor <;> omega
    | 5, _, h => have := h 1 (by omega); have := h 2 (by omega); have := h 3 (by omega); have := h 4 (by omega); rw [e5]; constructor <;> constructor <;> omega
    | 6, _, h => have := h 1 (by omega); have := h 2 (by omega); have := h 3 (by omega); have := h 4 (by omega); have := h 5 (by omega); rw [e6]; constructor <;> constructor <;> omega
    | L + 7, c, h => omega
  · obtain ⟨k, rfl⟩ : ∃ k, L = 7 + k := ⟨L - 7, by omega⟩
    have a0 : 97 ≤ B s ∧ B s ≤ 122 := h 0 (by omega)
    have : 256 ^ 6 ≤ hvF B s 7 := by
      have g1 : 1 ≤ hvF B s 1 := by simp [hvF]; omega
      have g2 : 256 * 1 ≤ hvF B s 2 := by rw [hvF, if_pos (by omega)]; omega
      have g3 : 256 * 256 ≤ hvF B s 3 := by rw [hvF, if_pos (by omega)]; omega
      have g4 : 256 * 256 * 256 ≤ hvF B s 4 := by rw [hvF, if_pos (by omega)]; omega
      have g5 : 256 * 256 * 256 * 256 ≤ hvF B s 5 := by rw [hvF, if_pos (by omega)]; omega
      have g6 : 256 * 256 * 256 * 256 * 256 ≤ hvF B s 6 := by rw [hvF, if_pos (by omega)]; omega
      rw [hvF, if_pos (by omega)]; omega
    rw [hvF_7]
    constructor <;> constructor <;> omega
/-- what the reference makes of the token from p on -/
def wV (B : Nat → Nat) (s L : Nat) : Int32 := if hvF B s L = cC then 0 else if hvF B s L = cL then 1 else -9
def mT (n : Nat) (B : Nat → Nat) (p : Nat) : Nat := if tK n B p = 1 then (if wV B (tS n B p) (tN n B p - tS n B p) = -9 then 4 else 1) else if tK n B p = 2 then (if 99 < nvF B (tS n B p) (tN n B p - tS n B p) then 4 else if B (tS n B p) = 48 then (if tN n B p - tS n B p ≤ 1 then 2 else 4) else 2) else tK n B p
def mV (n : Nat) (B : Nat → Nat) (p : Nat) (v : Int32) : Int32 := if tK n B p = 1 then wV B (tS n B p) (tN n B p - tS n B p) else if tK n B p = 2 then nI (nvF B (tS n B p) (tN n B p - tS n B p)) else v
theorem m_wordOf {h : Nat} (hh : h < 2 ^ 63) : fX8_wordOf (lN h) = some (if h = cC then 0 else if h = cL then 1 else -9) := by
  rw [fX8_wordOf, m_cC, zb1_r, m_cL, zb1_r]
  simp only [show (lg_cmp (lN h) (lN cC) = 0) = (h = cC) from propext (q_cmp hh (by decide)), show (lg_cmp (lN h) (lN cL) = 0) = (h = cL) from propext (q_cmp hh (by decide))]
  by_cases c : h = cC
  · rw [if_pos c, if_pos c]
  · rw [if_neg c, if_neg c]
    by_cases c2 : h = cL
    · rw [if_pos c2, if_pos c2]
    · rw [if_neg c2, if_neg c2]
theorem m_adv {n B tb mt} (h : txR n B tb mt) (fu : Nat) (hfu : 1000 ≤ fu) {p : Nat} (hp : p ≤ n) (tok pl v : Int32) : fX8_advances fu (nI n) (nI p) tok pl v mt = some (nI (tN n B p), nI (mT n B p), nI (tS n B p), mV n B p v) := by
  have h1 := h.1
  have hS := tS_le (B := B) hp
  rw [fX8_advances, m_skp h fu _ (n - p) p fu (by omega) (by omega), show skp n B (n - p) p = tS n B p from rfl]
  by_cases c : tS n B p < n
  · obtain ⟨b1, b2, b3⟩ := h.2 (tS n B p) c
    have hk := sk_pos (B (tS n B p))
    have eK : tK n B p = sk (B (tS n B p)) := by rw [tK, if_pos c]
    rw [(m_byte h hS.2).1 c, zb1_r, if_pos (nI_pos' (by omega)), m_let0 _ b1, zb1_r, m_dig0 _ b1, zb1_r, mT, mV, eK]
    by_cases c1 : sk (B (tS n B p)) = 1
    · have eN : tN n B p = run n B 1 (n - tS n B p) (tS n B p) := by
        rw [tN, if_pos c, if_pos (Or.inl c1), c1, show n - tS n B p = n - (tS n B p + 1) + 1 by omega, run, if_pos ⟨c, c1⟩]
      have hr := run_le (n := n) (B := B) (s := 1) (n - tS n B p) (tS n B p) hS.2
      have hh := (hvF_lt (B := B) (s := tS n B p) (tN n B p - tS n B p) (fun j hj => by
        have := sk1.mp (hr.2.2 (tS n B p + j) (by omega) (by rw [eN] at hj; omega)); omega)).2
      have := m_word h fu (tS n B p) (fun (l2_68e : Int64) (v_next_68e) => (zb1 (fX8_wordOf l2_68e) (fun (y132) => (if y132 = ((-9 : Int32)) then (some (v_next_68e, (4 : Int32), nI (tS n B p), y132)) else (some (v_next_68e, (1 : Int32), nI (tS n B p), y132)))))) (n - tS n B p) 0 fu (by omega) (by omega)
      simp only [Nat.add_zero] at this
      rw [← eN, show lN (hvF B (tS n B p) 0) = 0 from rfl] at this
      rw [if_pos c1, if_neg z10, if_pos c1, if_pos c1, this, m_wordOf (Nat.lt_trans hh (by decide)), zb1_r]
      show (if wV B (tS n B p) (tN n B p - tS n B p) = -9 then _ else _) = _
      by_cases c2 : wV B (tS n B p) (tN n B p - tS n B p) = -9
      · rw [if_pos c2, if_pos c2]; rfl
      · rw [if_neg c2, if_neg c2]; rfl
    · rw [if_neg c1, if_pos rfl, if_neg c1, if_neg c1]
      by_cases c2 : sk (B (tS n B p)) = 2
      · have eN : tN n B p = run n B 2 (n - tS n B p) (tS n B p) := by
          rw [tN, if_pos c, if_pos (Or.inr c2), c2, show n - tS n B p = n - (tS n B p + 1) + 1 by omega, run, if_pos ⟨c, c2⟩]
        have hr := run_le (n := n) (B := B) (s := 2) (n - tS n B p) (tS n B p) hS.2
        have hh := nvF_lt (B := B) (s := tS n B p) (tN n B p - tS n B p) (fun j hj => hr.2.2 (tS n B p + j) (by omega) (by rw [eN] at hj; omega))
        have hNS := (tN_le (B := B) hp).1
        have hNn := (tN_le (B := B) hp).2.1
        have := m_num h fu (nI (B (tS n B p))) (tS n B p) (fun (v_next_175e) (v_value_175e) => (if (99 : Int32) < v_value_175e then (some (v_next_175e, (4 : Int32), nI (tS n B p), v_value_175e)) else (if nI (B (tS n B p)) = (48 : Int32) then (if (v_next_175e - nI (tS n B p)) ≤ (1 : Int32) then (some (v_next_175e, (2 : Int32), nI (tS n B p), v_value_175e)) else (some (v_next_175e, (4 : Int32), nI (tS n B p), v_value_175e))) else (some (v_next_175e, (2 : Int32), nI (tS n B p), v_value_175e))))) (n - tS n B p) 0 fu (by omega) (by omega) (fun i hi => absurd hi (Nat.not_lt_zero i))
        simp only [Nat.add_zero] at this
        rw [← eN, show nI (nvF B (tS n B p) 0) = 0 from rfl] at this
        rw [if_pos c2, if_neg z10, if_pos c2, if_pos c2, this, q_sub hNS]
        by_cases d1 : 99 < nvF B (tS n B p) (tN n B p - tS n B p)
        · rw [if_pos (show (99 : Int32) < nI (nvF B (tS n B p) (tN n B p - tS n B p)) from nI_lt (a := 99) d1 (by omega)), if_pos d1]; rfl
        · rw [if_neg (show ¬ (99 : Int32) < nI (nvF B (tS n B p) (tN n B p - tS n B p)) from nI_nlt (a := 99) (by omega) (by omega)), if_neg d1]
          by_cases d2 : B (tS n B p) = 48
          · rw [if_pos (show nI (B (tS n B p)) = (48 : Int32) by rw [d2]; rfl), if_pos d2]
            by_cases d3 : tN n B p - tS n B p ≤ 1
            · rw [if_pos (show nI (tN n B p - tS n B p) ≤ (1 : Int32) from nI_le (b := 1) d3 (by omega)), if_pos d3]; rfl
            · rw [if_neg (show ¬ nI (tN n B p - tS n B p) ≤ (1 : Int32) from nI_ge (a := 1) (by omega) (by omega)), if_neg d3]; rfl
          · rw [if_neg (show ¬ nI (B (tS n B p)) = (48 : Int32) from q_ne (b := 48) (by omega) (by omega) d2), if_neg d2]; rfl
      · rw [if_neg c2, if_pos rfl, if_neg c2, if_neg c2, tN, if_pos c, if_neg (show ¬ (sk (B (tS n B p)) = 1 ∨ sk (B (tS n B p)) = 2) from fun q => q.elim c1 c2), q_1]
        by_cases c3 : B (tS n B p) = 59
        · rw [if_pos (show nI (B (tS n B p)) = (59 : Int32) by rw [c3]; rfl), sk3.mpr c3]; rfl
        · have : sk (B (tS n B p)) ≠ 3 := fun q => c3 (sk3.mp q)
          rw [if_neg (show ¬ nI (B (tS n B p)) = (59 : Int32) from q_ne (b := 59) (by omega) (by omega) c3), show sk (B (tS n B p)) = 4 by omega]; rfl
  · have eK : tK n B p = 0 := by rw [tK, if_neg c]
    rw [(m_byte h hS.2).2 (by omega), zb1_r, if_neg (by decide), mT, mV, eK, tN, if_neg c]; rfl
