/-! chancery: the class's words and numbers -/
theorem x_ch0 : ∀ i, i < 5 → fJ0_charAt_5068e 0 (nI i) = some (nI ([99, 108, 101, 114, 107].getD i 0)) := by decide +kernel
theorem x_ch1 : ∀ i, i < 6 → fJ0_charAt_5068e 1 (nI i) = some (nI ([108, 101, 116, 116, 101, 114].getD i 0)) := by decide +kernel
theorem x_chb : ∀ b, b < 256 → ∀ c, c < 128 → ((nI b).toInt8.toInt32 = nI c ↔ b = c) := by decide +kernel
def eqF (B : Nat → Nat) (w : List Nat) (s : Nat) : Nat → Nat → Bool
  | 0, _ => true
  | j + 1, i => if B (s + i) = w.getD i 0 then eqF B w s j (i + 1) else false
theorem x_wordL {n B tb mt} (h : txR n B tb mt) {w : List Nat} {si : Nat} (hl : fJ0_length_8abf5 si = some (nI w.length)) (hw : ∀ i, i < w.length → fJ0_charAt_5068e si (nI i) = some (nI (w.getD i 0)) ∧ w.getD i 0 < 128) (hlen : w.length < 100) (fu : Nat) {s : Nat} (hs : s + w.length ≤ n) : ∀ (j i f : Nat), i + j = w.length → j < f → fX6_tookWord_L20 fu si si (nI s) tb (some 1) f (nI i) = some (if eqF B w s j i = true then 1 else 0) := by
  intro j
  have h1 := h.1
  induction j with
  | zero =>
    intro i f hi hf
    obtain ⟨f, rfl⟩ : ∃ g, f = g + 1 := ⟨f - 1, by omega⟩
    rw [fX6_tookWord_L20, hl, zb1_r, show i = w.length by omega, if_pos (Int32.le_refl _)]; rfl
  | succ j ih =>
    intro i f hi hf
    obtain ⟨f, rfl⟩ : ∃ g, f = g + 1 := ⟨f - 1, by omega⟩
    obtain ⟨b1, b2, b3⟩ := h.2 (s + i) (by omega)
    obtain ⟨w1, w2⟩ := hw i (by omega)
    rw [fX6_tookWord_L20, hl, zb1_r, if_neg (nI_ge (by omega) (by omega)), nI_add, w1, zb1_r, q_1, eqF]
    simp only [if_pos (q_in (k := s + i) (n := 200) (by omega) (by omega)), q_cl (n := s + i) (by omega), b2, x_chb _ b1 _ w2]
    by_cases c : B (s + i) = w.getD i 0
    · rw [if_pos c, if_pos c]; exact ih (i + 1) f (by omega) (by omega)
    · rw [if_neg c, if_neg c]; rfl
theorem x_word {n B tb mt} (h : txR n B tb mt) {w : List Nat} {si : Nat} (hl : fJ0_length_8abf5 si = some (nI w.length)) (hw : ∀ i, i < w.length → fJ0_charAt_5068e si (nI i) = some (nI (w.getD i 0)) ∧ w.getD i 0 < 128) (hlen : w.length < 100) (fu : Nat) (hfu : 1000 ≤ fu) {s e : Nat} (hs : s ≤ e) (he : e ≤ n) : fX6_tookWord fu si (nI e) (nI s) tb = some (if e - s = w.length ∧ eqF B w s w.length 0 = true then 1 else 0) := by
  have h1 := h.1
  rw [fX6_tookWord, hl, zb1_r, q_sub hs]
  simp only [nI_eq (a := e - s) (b := w.length) (by omega) (by omega)]
  by_cases c : e - s = w.length
  · rw [if_pos c, show fX6_tookWord_L20 fu si si (nI s) tb (some 1) fu 0 = _ from x_wordL h hl hw hlen fu (by omega) w.length 0 fu (by omega) (by omega)]
    by_cases c2 : eqF B w s w.length 0 = true
    · rw [if_pos c2, if_pos ⟨c, c2⟩]
    · rw [if_neg c2, if_neg (fun q => c2 q.2)]
  · rw [if_neg c, if_neg (fun q => c q.1)]
theorem x_clerkW {n B tb mt} (h : txR n B tb mt) (fu : Nat) (hfu : 1000 ≤ fu) {s e : Nat} (hs : s ≤ e) (he : e ≤ n) : (isC B s (e - s) → fX6_tookWord fu 0 (nI e) (nI s) tb = some 1) ∧ (¬ isC B s (e - s) → fX6_tookWord fu 0 (nI e) (nI s) tb = some 0) := by
  have := x_word h (w := [99, 108, 101, 114, 107]) (si := 0) (by decide +kernel) (fun i hi => ⟨x_ch0 i hi, by match i, hi with
    | 0, _ => decide
    | 1, _ => decide
    | 2, _ => decide
    | 3, _ => decide
    | 4, _ => decide
    | i + 5, hi => simp at hi; omega⟩) (by decide) fu hfu hs he
  rw [this]
  have e : (e - s = [99, 108, 101, 114, 107].length ∧ eqF B [99, 108, 101, 114, 107] s [99, 108, 101, 114, 107].length 0 = true) ↔ isC B s (e - s) := by
    unfold isC
    simp [eqF, List.getD]
  constructor
  · intro c; rw [if_pos (e.mpr c)]
  · intro c; rw [if_neg (fun q => c (e.mp q))]
theorem x_letterW {n B tb mt} (h : txR n B tb mt) (fu : Nat) (hfu : 1000 ≤ fu) {s e : Nat} (hs : s ≤ e) (he : e ≤ n) : (isT B s (e - s) → fX6_tookWord fu 1 (nI e) (nI s) tb = some 1) ∧ (¬ isT B s (e - s) → fX6_tookWord fu 1 (nI e) (nI s) tb = some 0) := by
  have := x_word h (w := [108, 101, 116, 116, 101, 114]) (si := 1) (by decide +kernel) (fun i hi => ⟨x_ch1 i hi, by match i, hi with
    | 0, _ => decide
    | 1, _ => decide
    | 2, _ => decide
    | 3, _ => decide
    | 4, _ => decide
    | 5, _ => decide
    | i + 6, hi => simp at hi; omega⟩) (by decide) fu hfu hs he
  rw [this]
  have e : (e - s = [108, 101, 116, 116, 101, 114].length ∧ eqF B [108, 101, 116, 116, 101, 114] s [108, 101, 116, 116, 101, 114].length 0 = true) ↔ isT B s (e - s) := by
    unfold isT
    simp [eqF, List.getD]
  constructor
  · intro c; rw [if_pos (e.mpr c)]
  · intro c; rw [if_neg (fun q => c (e.mp q))]
theorem q_b7 : ∀ b, b < 128 → (nI b).toInt8.toInt32 = nI b := by decide +kernel
theorem nv_more {B : Nat → Nat} {s : Nat} {k : Nat} (h : 99 < nvF B s k) : ∀ j, 99 < nvF B s (k + j)
  | 0 => h
  | j + 1 => by
    have := nv_more h j
    rw [show k + (j + 1) = k + j + 1 by omega, nvF, if_neg (by omega)]; exact this
theorem nv_1 {B : Nat → Nat} {s : Nat} : nvF B s 1 = B s - 48 := by rw [nvF, nvF, if_pos (by omega)]; simp
theorem nv_2 {B : Nat → Nat} {s : Nat} (h : 48 ≤ B s ∧ B s ≤ 57) (h2 : 48 ≤ B (s + 1)) : nvF B s 2 = 10 * (B s - 48) + (B (s + 1) - 48) := by
  rw [nvF, nv_1, if_pos (by omega)]; omega
theorem nv_3 {B : Nat → Nat} {s : Nat} (h : 48 ≤ B s ∧ B s ≤ 57) (h2 : 48 ≤ B (s + 1) ∧ B (s + 1) ≤ 57) (h3 : 48 ≤ B (s + 2)) (h0 : B s ≠ 48) : 99 < nvF B s 3 := by
  have e2 : nvF B s 2 = 10 * (B s - 48) + (B (s + 1) - 48) := nv_2 h h2.1
  have e3 : nvF B s 3 = if nvF B s 2 ≤ 99 then 10 * nvF B s 2 + B (s + 2) - 48 else nvF B s 2 := rfl
  rw [e3]; split <;> omega
theorem x_numL {n B tb mt} (h : txR n B tb mt) (fu : Nat) (y : Int32) {s L : Nat} (hL : L ≤ 2) (hs : s + L ≤ n) (hd : ∀ i, i < L → sk (B (s + i)) = 2) (K : Int32 → Option (Int32 × Int32 × Int32 × Int32)) : ∀ (j k f : Nat), k + j = L → j < f → fX6_takeNumber_L33 fu y (nI (s + L)) tb K f (nI (s + k)) (nI (nvF B s k)) = K (nI (nvF B s L)) := by
  intro j
  have h1 := h.1
  induction j with
  | zero =>
    intro k f hk hf
    obtain ⟨f, rfl⟩ : ∃ g, f = g + 1 := ⟨f - 1, by omega⟩
    rw [fX6_takeNumber_L33, show k = L by omega, if_pos (Int32.le_refl _)]
  | succ j ih =>
    intro k f hk hf
    obtain ⟨f, rfl⟩ : ∃ g, f = g + 1 := ⟨f - 1, by omega⟩
    obtain ⟨b1, b2, b3⟩ := h.2 (s + k) (by omega)
    have hb := sk2.mp (hd k (by omega))
    have hv : nvF B s k ≤ 99 := by
      have : k = 0 ∨ k = 1 := by omega
      rcases this with rfl | rfl
      · rw [nvF]; omega
      · have := sk2.mp (hd 0 (by omega)); simp at this; rw [nv_1]; omega
    have e := ih (k + 1) f (by omega) (by omega)
    rw [nvF, if_pos hv] at e
    rw [fX6_takeNumber_L33, if_neg (nI_ge (by omega) (by omega))]
    simp only [if_pos (q_in (k := s + k) (n := 200) (by omega) (by omega)), q_cl (n := s + k) (by omega), b2, q_b7 (B (s + k)) (by omega), show (10 : Int32) * nI (nvF B s k) = nI (10 * nvF B s k) from q_mul 10 _, nI_add, q_1, show nI (10 * nvF B s k + B (s + k)) - (48 : Int32) = nI (10 * nvF B s k + B (s + k) - 48) from q_sub (b := 48) (by omega)]
    exact e
theorem x_takeNumber {n B tb mt} (h : txR n B tb mt) (fu : Nat) (hfu : 1000 ≤ fu) {p : Nat} (hp : p ≤ n) (st num : Int32) {most : Nat} (hm : most ≤ 10) : ((mT n B p = 2 ∧ nvF B (tS n B p) (tN n B p - tS n B p) ≤ most) → fX6_takeNumber fu (nI n) (nI p) st num tb (nI most) = some (1, nI (tN n B p), nI (tS n B p), nI (nvF B (tS n B p) (tN n B p - tS n B p)))) ∧ (¬ (mT n B p = 2 ∧ nvF B (tS n B p) (tN n B p - tS n B p) ≤ most) → ∃ num', fX6_takeNumber fu (nI n) (nI p) st num tb (nI most) = some (0, nI (tN n B p), nI (tS n B p), num')) := by
  have h1 := h.1
  have hS := tS_le (B := B) hp
  have hN := tN_le (B := B) hp
  rw [fX6_takeNumber, x_take h fu hfu hp, zb3_r, mT]
  by_cases k2 : tK n B p = 2
  · obtain ⟨g1, g2⟩ := hN.2.2 (by omega)
    have c2 : sk (B (tS n B p)) = 2 := by rw [tK, if_pos g2] at k2; exact k2
    have eN : tN n B p = run n B 2 (n - tS n B p) (tS n B p) := by
      rw [tN, if_pos g2, if_pos (Or.inr c2), c2, show n - tS n B p = n - (tS n B p + 1) + 1 by omega, run, if_pos ⟨g2, c2⟩]
    have hr := run_le (n := n) (B := B) (s := 2) (n - tS n B p) (tS n B p) hS.2
    rw [← eN] at hr
    have hd : ∀ i, i < tN n B p - tS n B p → sk (B (tS n B p + i)) = 2 := fun i hi => hr.2.2 _ (by omega) (by omega)
    have d0 := sk2.mp c2
    rw [k2, if_pos (show nI 2 = (2 : Int32) from rfl), if_neg (show ¬ (2 : Nat) = 1 by omega), if_pos rfl, q_sub hN.1]
    by_cases cL : tN n B p - tS n B p ≤ 2
    · rw [if_pos (show nI (tN n B p - tS n B p) ≤ (2 : Int32) from nI_le (b := 2) cL (by omega))]
      have hl := fun K => x_numL h fu (nI most) cL (show tS n B p + (tN n B p - tS n B p) ≤ n by omega) hd K (tN n B p - tS n B p) 0 fu (by omega) (by omega)
      rw [show tS n B p + (tN n B p - tS n B p) = tN n B p by omega] at hl
      simp only [Nat.add_zero, show nI (nvF B (tS n B p) 0) = (0 : Int32) from rfl] at hl
      rw [hl]
      have hJ : ∀ v, v < 100 → (v ≤ most → fX6_takeNumber_J95 fu (nI most) 0 (nI (tN n B p)) (nI (tS n B p)) (nI v) = some (1, nI (tN n B p), nI (tS n B p), nI v)) ∧ (¬ v ≤ most → fX6_takeNumber_J95 fu (nI most) 0 (nI (tN n B p)) (nI (tS n B p)) (nI v) = some (0, nI (tN n B p), nI (tS n B p), nI v)) := by
        intro v hv
        rw [fX6_takeNumber_J95, if_pos rfl]
        exact ⟨fun q => by rw [if_neg (nI_nlt q (by omega))], fun q => by rw [if_pos (nI_lt (by omega) (by omega))]⟩
      by_cases l2 : tN n B p - tS n B p = 2
      · have d1 := sk2.mp (hd 1 (by omega))
        have ev := nv_2 d0 d1.1
        rw [l2, if_pos (show nI 2 = (2 : Int32) from rfl), if_neg (show ¬ 99 < nvF B (tS n B p) 2 by omega)]
        by_cases z : B (tS n B p) = 48
        · rw [if_neg (show ¬ (10 : Int32) ≤ nI (nvF B (tS n B p) 2) from nI_ge (b := 10) (by omega) (by omega)), if_pos z, if_neg (show ¬ 2 ≤ 1 by omega)]
          exact ⟨fun q => absurd q.1 (by omega), fun _ => ⟨_, by rw [fX6_takeNumber_J95, if_neg z10]⟩⟩
        · rw [if_pos (show (10 : Int32) ≤ nI (nvF B (tS n B p) 2) from nI_le (a := 10) (by omega) (by omega)), if_neg z]
          obtain ⟨j1, j2⟩ := hJ (nvF B (tS n B p) 2) (by omega)
          exact ⟨fun q => j1 q.2, fun q => ⟨_, j2 (fun r => q ⟨rfl, r⟩)⟩⟩
      · have l1 : tN n B p - tS n B p = 1 := by omega
        have ev : nvF B (tS n B p) 1 = B (tS n B p) - 48 := nv_1
        rw [l1, if_neg (show ¬ nI 1 = (2 : Int32) by decide), if_neg (show ¬ 99 < nvF B (tS n B p) 1 by omega)]
        have e2 : (if B (tS n B p) = 48 then (if (1 : Nat) ≤ 1 then 2 else 4) else 2) = 2 := by split <;> simp
        rw [e2]
        obtain ⟨j1, j2⟩ := hJ (nvF B (tS n B p) 1) (by omega)
        exact ⟨fun q => j1 q.2, fun q => ⟨_, j2 (fun r => q ⟨rfl, r⟩)⟩⟩
    · rw [if_neg (show ¬ nI (tN n B p - tS n B p) ≤ (2 : Int32) from nI_ge (a := 2) (by omega) (by omega))]
      refine ⟨fun q => absurd q.1 ?_, fun _ => ⟨_, rfl⟩⟩
      by_cases z : B (tS n B p) = 48
      · rw [if_pos z, if_neg (show ¬ tN n B p - tS n B p ≤ 1 by omega)]; split <;> omega
      · have := nv_more (nv_3 d0 (sk2.mp (hd 1 (by omega))) (sk2.mp (hd 2 (by omega))).1 z) (tN n B p - tS n B p - 3)
        rw [show 3 + (tN n B p - tS n B p - 3) = tN n B p - tS n B p by omega] at this
        rw [if_pos this]; omega
  · have hkk : tK n B p < 100 := by
      have := sk_pos (B (tS n B p))
      rw [tK]
      by_cases c : tS n B p < n
      · rw [if_pos c]; omega
      · rw [if_neg c]; omega
    rw [if_neg (show ¬ nI (tK n B p) = (2 : Int32) from q_ne (b := 2) (by omega) (by omega) k2), if_neg k2]
    refine ⟨fun q => absurd q.1 ?_, fun _ => ⟨_, rfl⟩⟩
    by_cases c1 : tK n B p = 1
    · rw [if_pos c1]; split <;> omega
    · rw [if_neg c1]; exact k2
