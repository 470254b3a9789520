/-! The mirrors' own sums: numbers, the relation between the class's cells and the reference's, the plain calls. -/
theorem q0 : (0 : Int32) = nI 0 := rfl
theorem q1 : (1 : Int32) = nI 1 := rfl
theorem q2 : (2 : Int32) = nI 2 := rfl
theorem q3 : (3 : Int32) = nI 3 := rfl
theorem q4 : (4 : Int32) = nI 4 := rfl
theorem q5 : (5 : Int32) = nI 5 := rfl
theorem q6 : (6 : Int32) = nI 6 := rfl
theorem q7 : (7 : Int32) = nI 7 := rfl
theorem q8 : (8 : Int32) = nI 8 := rfl
theorem q9 : (9 : Int32) = nI 9 := rfl
theorem q10 : (10 : Int32) = nI 10 := rfl
theorem q20 : (20 : Int32) = nI 20 := rfl
theorem q21 : (21 : Int32) = nI 21 := rfl
theorem q22 : (22 : Int32) = nI 22 := rfl
theorem q48 : (48 : Int32) = nI 48 := rfl
theorem q200 : (200 : Int32) = nI 200 := rfl
theorem q720 : (720 : Int32) = nI 720 := rfl
theorem zb1_r {α ω : Type} (a : α) (k : α → Option ω) : zb1 (some a) k = k a := rfl
theorem zb2_r {α1 α2 ω : Type} (a : α1) (b : α2) (k : α1 → α2 → Option ω) : zb2 (some (a, b)) k = k a b := rfl
theorem zb3_r {α1 α2 α3 ω : Type} (a : α1) (b : α2) (c : α3) (k : α1 → α2 → α3 → Option ω) : zb3 (some (a, b, c)) k = k a b c := rfl
theorem zb4_r {α1 α2 α3 α4 ω : Type} (a : α1) (b : α2) (c : α3) (d : α4) (k : α1 → α2 → α3 → α4 → Option ω) : zb4 (some (a, b, c, d)) k = k a b c d := rfl
theorem zb5_r {α1 α2 α3 α4 α5 ω : Type} (a : α1) (b : α2) (c : α3) (d : α4) (e : α5) (k : α1 → α2 → α3 → α4 → α5 → Option ω) : zb5 (some (a, b, c, d, e)) k = k a b c d e := rfl
theorem q_up {f : Nat → Int32} {k j : Nat} {x : Int32} : upd f k x j = if j = k then x else f j := rfl
/-- an index that is a small number -/
theorem q_in {k n : Nat} (h : k < n) (hn : n < 2 ^ 31) : zin (nI k) n := vp_in_nI h hn
theorem q_pred {n : Nat} (hn : n < 2 ^ 31) (x : Int32) : nI n - 1 < x ↔ nI n ≤ x := by
  cases n with
  | zero =>
    have e : nI 0 - 1 = -1 := by decide
    rw [e, Int32.lt_iff_toInt_lt, Int32.le_iff_toInt_le, nI_toInt (by omega)]
    have e2 : (-1 : Int32).toInt = -1 := by decide
    rw [e2]; omega
  | succ k =>
    rw [nI_pred, Int32.lt_iff_toInt_lt, Int32.le_iff_toInt_le, nI_toInt (by omega), nI_toInt hn]; omega
theorem q_0lt {x : Int32} : ¬ x < 0 ↔ 0 ≤ x := Int32.not_lt
theorem m_in1 {x a b : Int32} (h1 : ¬ x < a) (h2 : ¬ b < x) : fX8_in x a b = some 1 := by rw [fX8_in, if_neg h1, if_neg h2]
theorem m_in0 {x a b : Int32} (h : x < a ∨ b < x) : fX8_in x a b = some 0 := by
  rw [fX8_in]
  by_cases h1 : x < a
  · rw [if_pos h1]
  · rw [if_neg h1, if_pos (h.resolve_left h1)]
theorem m_inN {k a b : Nat} (h1 : a ≤ k) (h2 : k ≤ b) (hb : b < 2 ^ 31) : fX8_in (nI k) (nI a) (nI b) = some 1 := m_in1 (nI_nlt h1 (by omega)) (nI_nlt h2 hb)
theorem m_isClerk1 {n j : Nat} (hn : n ≤ 6) (hj : j < n) : fX8_isClerk (nI n) (nI j) = some 1 := by
  rw [fX8_isClerk, m_in1 (nI_pos (by omega)) (fun q => nI_ge hj (by omega) ((q_pred (by omega) _).mp q)), zb1_r]
  rfl
theorem m_isClerk0 {n : Nat} {x : Int32} (hn : n ≤ 6) (h : x < 0 ∨ nI n ≤ x) : fX8_isClerk (nI n) x = some 0 := by
  rw [fX8_isClerk, m_in0 (h.imp id (fun q => (q_pred (by omega) _).mpr q)), zb1_r]
  rfl
-- the relations
def rT (n : Nat) (tl : Int32) (tb : Nat → Int32) (ty : Int32) (mt : Nat → Int32) : Prop := n ≤ 200 ∧ tl = nI n ∧ ty = nI n ∧ ∀ k, k < n → ∃ b, b < 256 ∧ mt k = nI b ∧ tb k = (nI b).toInt8.toInt32
def rL (n : Nat) (ll lk : Int32) (lt lm lw : Nat → Int32) (s : Nat → Int32) (o : Nat) : Prop := 1 ≤ n ∧ n ≤ 10 ∧ ll = nI n ∧ s (o + 20) = nI n ∧ s (o + 21) = lk ∧ ∀ k, k < n → ∃ t g, t < 10 ∧ g < 8 ∧ lt k = nI t ∧ lm k = nI g ∧ s (o + 2 * k) = nI (t + 10 * g) ∧ s (o + 2 * k + 1) = lw k
def rI (j : Nat) (il ik : Int32) (it im iw : Nat → Int32) (kept isKept : Nat → Int32) : Prop := (isKept j = 0 ∧ il = 0) ∨ (isKept j = 1 ∧ ∃ n, rL n il ik it im iw kept (22 * j))
def rO (n : Nat) (oc : Int32) (le se dr ke : Nat → Int32) (clerks : Int32) (clerk : Nat → Int32) : Prop := n ≤ 6 ∧ oc = nI n ∧ clerks = nI n ∧ ∀ c, c < n → ∃ a b d k, a < 9 ∧ b < 8 ∧ d < 8 ∧ k < 11 ∧ le c = nI a ∧ se c = nI b ∧ dr c = nI d ∧ ke c = nI k ∧ clerk (4 * c) = nI a ∧ clerk (4 * c + 1) = nI b ∧ clerk (4 * c + 2) = nI d ∧ clerk (4 * c + 3) = nI k
def rS (n : Nat) (sc : Int32) (st sm tt tm : Nat → Int32) (sg : Int32) (sd : Nat → Int32) : Prop := n ≤ 8 ∧ sc = nI n ∧ sg = nI n ∧ ∀ k, k < n → ∃ t g t2 g2, t < 10 ∧ g < 8 ∧ t2 < 10 ∧ g2 < 8 ∧ st k = nI t ∧ sm k = nI g ∧ tt k = nI t2 ∧ tm k = nI g2 ∧ sd (2 * k) = nI (t + 10 * g) ∧ sd (2 * k + 1) = nI (t2 + 10 * g2)
def rC (n : Nat) (cc : Int32) (cs : Nat → Int32) (cp : Int32) (sl : Nat → Int32) : Prop := n ≤ 8 ∧ cc = nI n ∧ cp = nI n ∧ ∀ k, k < n → ∃ v, v < 256 ∧ cs k = nI v ∧ sl k = nI v
-- lines of a letter as numbers
theorem q_t {t g : Nat} (ht : t < 10) (hg : g < 8) : nI (t + 10 * g) - nI (t + 10 * g) / 10 * 10 = nI t := by
  rw [q10, pk_rem (by omega) (by omega) (by omega)]
  congr 1; omega
theorem q_g {t g : Nat} (ht : t < 10) (hg : g < 8) : nI (t + 10 * g) / 10 = nI g := by
  rw [q10, pk_div (by omega) (by omega) (by omega)]
  congr 1; omega
theorem q_line (t g : Nat) : nI t + 10 * nI g = nI (t + 10 * g) := by rw [q10, pk_mul, nI_add]
theorem q_line2 (t g : Nat) : nI t + nI g * 10 = nI (t + 10 * g) := by rw [q10, pk_mul, nI_add, Nat.mul_comm]
-- clear, forget, burn
theorem op_clear {n tl tb ty mt} (h : rT n tl tb ty mt) (th : Int32) : ∃ r, fX7_clear tl = some (r, 0) ∧ fX8_clear th ty = some (r, 0, 0) ∧ rT 0 0 tb 0 mt :=
  ⟨nI n, by rw [fX7_clear, h.2.1], by rw [fX8_clear, h.2.2.1], by omega, rfl, rfl, fun k hk => by omega⟩
theorem op_forget {n sc st sm tt tm sg sd} (h : rS n sc st sm tt tm sg sd) (th : Int32) : ∃ r, fX7_forget sc = some (r, 0) ∧ fX8_forget th sg = some (r, 0, 0) ∧ rS 0 0 st sm tt tm 0 sd :=
  ⟨nI n, by rw [fX7_forget, h.2.1], by rw [fX8_forget, h.2.2.1], by omega, rfl, rfl, fun k hk => by omega⟩
theorem op_burn {n cc cs cp sl} (h : rC n cc cs cp sl) (th : Int32) : ∃ r, fX7_burn cc = some (r, 0) ∧ fX8_burn th cp = some (r, 0, 0) ∧ rC 0 0 cs 0 sl :=
  ⟨nI n, by rw [fX7_burn, h.2.1], by rw [fX8_burn, h.2.2.1], by omega, rfl, rfl, fun k hk => by omega⟩
-- lot, trace, count
theorem op_lot {n ll lk lt lm lw s} (h : rL n ll lk lt lm lw s 0) (th x : Int32) : ∃ r, fX7_lot lk x = some (r, x) ∧ fX8_lot th s x = some (r, 0, upd s 21 x) ∧ rL n ll x lt lm lw (upd s 21 x) 0 := by
  obtain ⟨h1, h2, h3, h4, h5, h6⟩ := h
  refine ⟨lk, by rw [fX7_lot], by rw [fX8_lot, show s 21 = lk from h5], h1, h2, h3, ?_, ?_, fun k hk => ?_⟩
  · rw [q_up, if_neg (by omega)]; exact h4
  · rw [q_up, if_pos (by omega)]
  · obtain ⟨t, g, a1, a2, a3, a4, a5, a6⟩ := h6 k hk
    exact ⟨t, g, a1, a2, a3, a4, by rw [q_up, if_neg (by omega)]; exact a5, by rw [q_up, if_neg (by omega)]; exact a6⟩
theorem op_count {nt tl tb ty mt nl ll lk lt lm lw s ns sc st sm tt tm sg sd nc cc cs cp sl no oc le se dr ke cl ck} (hT : rT nt tl tb ty mt) (hL : rL nl ll lk lt lm lw s 0) (hS : rS ns sc st sm tt tm sg sd) (hC : rC nc cc cs cp sl) (hO : rO no oc le se dr ke cl ck) (th x : Int32) : ∃ r, fX7_count tl ll sc cc oc x = some r ∧ fX8_count th ty cl sg cp s x = some (r, 0) := by
  rw [fX7_count, fX8_count, hT.2.1, hT.2.2.1, hL.2.2.1, show s 20 = nI nl from hL.2.2.2.1, hS.2.1, hS.2.2.1, hC.2.1, hC.2.2.1, hO.2.1, hO.2.2.1]
  by_cases h0 : x = 0
  · exact ⟨_, by rw [if_pos h0], by rw [if_pos h0]⟩
  by_cases h1 : x = 1
  · exact ⟨_, by rw [if_neg h0, if_pos h1], by rw [if_neg h0, if_pos h1]⟩
  by_cases h2 : x = 2
  · exact ⟨_, by rw [if_neg h0, if_neg h1, if_pos h2], by rw [if_neg h0, if_neg h1, if_pos h2]⟩
  by_cases h3 : x = 3
  · exact ⟨_, by rw [if_neg h0, if_neg h1, if_neg h2, if_pos h3], by rw [if_neg h0, if_neg h1, if_neg h2, if_pos h3]⟩
  by_cases h4 : x = 4
  · exact ⟨_, by rw [if_neg h0, if_neg h1, if_neg h2, if_neg h3, if_pos h4], by rw [if_neg h0, if_neg h1, if_neg h2, if_neg h3, if_pos h4]⟩
  · exact ⟨_, by rw [if_neg h0, if_neg h1, if_neg h2, if_neg h3, if_neg h4], by rw [if_neg h0, if_neg h1, if_neg h2, if_neg h3, if_neg h4]⟩
theorem q_ne {a b : Nat} (ha : a < 2 ^ 31) (hb : b < 2 ^ 31) (h : a ≠ b) : ¬ nI a = nI b := fun q => h ((nI_eq ha hb).mp q)
theorem q_cl {n : Nat} (h : n < 2 ^ 31) : (nI n).toNatClampNeg = n := nI_clamp h
theorem q_mul (a b : Nat) : nI a * nI b = nI (a * b) := pk_mul a b
/-- 4 c + k as an index of the reference's clerks -/
theorem q_m4 (c : Nat) : (4 : Int32) * nI c = nI (4 * c) := by rw [q4, pk_mul]
theorem q_m4k (c k : Nat) : (4 : Int32) * nI c + nI k = nI (4 * c + k) := by rw [q_m4, nI_add]
theorem q_m2 (c : Nat) : (2 : Int32) * nI c = nI (2 * c) := by rw [q2, pk_mul]
theorem q_m2k (c k : Nat) : (2 : Int32) * nI c + nI k = nI (2 * c + k) := by rw [q_m2, nI_add]
/-- a choice of what: 0 .. or none -/
theorem q_what (x : Int32) (n : Nat) (hn : n < 1000) : (∃ j, j < n ∧ x = nI j) ∨ ((x < 0 ∨ nI n ≤ x) ∧ ∀ j, j < n → x ≠ nI j) := by
  rcases pk_ix x (n := n) (by omega) with h | h | h
  · exact Or.inr ⟨Or.inl h, fun j hj e => nI_pos (n := j) (by omega) (e ▸ h)⟩
  · exact Or.inr ⟨Or.inr h, fun j hj e => nI_ge hj (by omega) (e ▸ h)⟩
  · exact Or.inl h
/-- above n, out of 0 .. n -/
theorem q_above {x : Int32} {n : Nat} (hn : n < 1000) (h : x < 0 ∨ nI (n + 1) ≤ x) : x < 0 ∨ nI n < x := by
  refine h.imp id (fun q => ?_)
  rw [Int32.le_iff_toInt_le, nI_toInt (by omega)] at q
  rw [Int32.lt_iff_toInt_lt, nI_toInt (by omega)]
  omega
theorem m_in0N {x : Int32} {n : Nat} (hn : n < 1000) (h : x < 0 ∨ nI (n + 1) ≤ x) : fX8_in x 0 (nI n) = some 0 := m_in0 (q_above hn h)
theorem op_clerk {no oc le se dr ke cl ck} (hO : rO no oc le se dr ke cl ck) (th x1 x2 : Int32) : ∃ r, fX7_clerk oc le se dr ke x1 x2 = some r ∧ fX8_clerk th cl ck x1 x2 = some (r, 0) := by
  obtain ⟨h1, h2, h3, h4⟩ := hO
  subst h2; subst h3
  rcases q_what x1 no (by omega) with ⟨c, hc, rfl⟩ | ⟨hx, -⟩
  · obtain ⟨a, b, d, k, -, -, -, -, e1, e2, e3, e4, e5, e6, e7, e8⟩ := h4 c hc
    rw [fX7_clerk, fX8_clerk, m_isClerk1 h1 hc, zb1_r, if_neg (nI_pos (by omega)), if_neg (nI_ge hc (by omega)), if_pos (q_in (by omega) (by omega)), q_cl (by omega), e1, e2, e3, e4, if_neg (show ¬ (1 : Int32) = 0 by decide)]
    rcases q_what x2 4 (by omega) with ⟨w, hw, rfl⟩ | ⟨hy, hz⟩
    · have hin : fX8_in (nI w) 0 3 = some 1 := m_inN (a := 0) (b := 3) (by omega) (by omega) (by omega)
      rw [hin, zb1_r, if_neg (show ¬ (1 : Int32) = 0 by decide), q_m4k, if_pos (q_in (by omega) (by omega)), q_cl (by omega)]
      match w, hw with
      | 0, _ => exact ⟨nI a, rfl, by rw [show 4 * c + 0 = 4 * c from rfl, e5]⟩
      | 1, _ => exact ⟨nI b, rfl, by rw [e6]⟩
      | 2, _ => exact ⟨nI d, rfl, by rw [e7]⟩
      | 3, _ => exact ⟨nI k, rfl, by rw [e8]⟩
      | w + 4, hw => omega
    · have hin : fX8_in x2 0 3 = some 0 := m_in0N (n := 3) (by omega) hy
      rw [hin, zb1_r, if_pos rfl]
      exact ⟨-1, by rw [if_neg (show ¬ x2 = (0 : Int32) from hz 0 (by omega)), if_neg (show ¬ x2 = (1 : Int32) from hz 1 (by omega)), if_neg (show ¬ x2 = (2 : Int32) from hz 2 (by omega)), if_neg (show ¬ x2 = (3 : Int32) from hz 3 (by omega))], rfl⟩
  · rw [fX8_clerk, m_isClerk0 h1 hx, zb1_r, if_pos rfl, fX7_clerk]
    refine ⟨-1, ?_, rfl⟩
    rcases hx with h | h
    · rw [if_pos h]
    · by_cases h0 : x1 < 0
      · rw [if_pos h0]
      · rw [if_neg h0, if_pos h]
