/-! chancery: one item on either side -/
theorem zb6_r {α0 α1 α2 α3 α4 α5 ω : Type} (a0 : α0) (a1 : α1) (a2 : α2) (a3 : α3) (a4 : α4) (a5 : α5) (k : α0 → α1 → α2 → α3 → α4 → α5 → Option ω) : zb6 (some (a0, a1, a2, a3, a4, a5)) k = k a0 a1 a2 a3 a4 a5 := rfl
theorem zb7_r {α0 α1 α2 α3 α4 α5 α6 ω : Type} (a0 : α0) (a1 : α1) (a2 : α2) (a3 : α3) (a4 : α4) (a5 : α5) (a6 : α6) (k : α0 → α1 → α2 → α3 → α4 → α5 → α6 → Option ω) : zb7 (some (a0, a1, a2, a3, a4, a5, a6)) k = k a0 a1 a2 a3 a4 a5 a6 := rfl
theorem zb8_r {α0 α1 α2 α3 α4 α5 α6 α7 ω : Type} (a0 : α0) (a1 : α1) (a2 : α2) (a3 : α3) (a4 : α4) (a5 : α5) (a6 : α6) (a7 : α7) (k : α0 → α1 → α2 → α3 → α4 → α5 → α6 → α7 → Option ω) : zb8 (some (a0, a1, a2, a3, a4, a5, a6, a7)) k = k a0 a1 a2 a3 a4 a5 a6 a7 := rfl
theorem zb9_r {α0 α1 α2 α3 α4 α5 α6 α7 α8 ω : Type} (a0 : α0) (a1 : α1) (a2 : α2) (a3 : α3) (a4 : α4) (a5 : α5) (a6 : α6) (a7 : α7) (a8 : α8) (k : α0 → α1 → α2 → α3 → α4 → α5 → α6 → α7 → α8 → Option ω) : zb9 (some (a0, a1, a2, a3, a4, a5, a6, a7, a8)) k = k a0 a1 a2 a3 a4 a5 a6 a7 a8 := rfl
theorem zb12_r {α0 α1 α2 α3 α4 α5 α6 α7 α8 α9 α10 α11 ω : Type} (a0 : α0) (a1 : α1) (a2 : α2) (a3 : α3) (a4 : α4) (a5 : α5) (a6 : α6) (a7 : α7) (a8 : α8) (a9 : α9) (a10 : α10) (a11 : α11) (k : α0 → α1 → α2 → α3 → α4 → α5 → α6 → α7 → α8 → α9 → α10 → α11 → Option ω) : zb12 (some (a0, a1, a2, a3, a4, a5, a6, a7, a8, a9, a10, a11)) k = k a0 a1 a2 a3 a4 a5 a6 a7 a8 a9 a10 a11 := rfl
theorem zb16_r {α0 α1 α2 α3 α4 α5 α6 α7 α8 α9 α10 α11 α12 α13 α14 α15 ω : Type} (a0 : α0) (a1 : α1) (a2 : α2) (a3 : α3) (a4 : α4) (a5 : α5) (a6 : α6) (a7 : α7) (a8 : α8) (a9 : α9) (a10 : α10) (a11 : α11) (a12 : α12) (a13 : α13) (a14 : α14) (a15 : α15) (k : α0 → α1 → α2 → α3 → α4 → α5 → α6 → α7 → α8 → α9 → α10 → α11 → α12 → α13 → α14 → α15 → Option ω) : zb16 (some (a0, a1, a2, a3, a4, a5, a6, a7, a8, a9, a10, a11, a12, a13, a14, a15)) k = k a0 a1 a2 a3 a4 a5 a6 a7 a8 a9 a10 a11 a12 a13 a14 a15 := rfl
/-- the value that the reference holds beside the token from p on -/
def vaR (n : Nat) (B : Nat → Nat) (p : Nat) (va : Int32) : Prop := (mT n B p = 1 → va = wV B (tS n B p) (tN n B p - tS n B p)) ∧ (mT n B p = 2 → va = nI (nvF B (tS n B p) (tN n B p - tS n B p)))
theorem mT_12 {n B p} : (mT n B p = 1 → tK n B p = 1) ∧ (mT n B p = 2 → tK n B p = 2) := by
  rw [mT]
  by_cases c : tK n B p = 1
  · rw [if_pos c]
    by_cases d : wV B (tS n B p) (tN n B p - tS n B p) = -9
    · rw [if_pos d]; constructor <;> intro h <;> omega
    · rw [if_neg d]; constructor <;> intro h <;> omega
  · rw [if_neg c]
    by_cases d : tK n B p = 2
    · rw [if_pos d]
      refine ⟨fun h => ?_, fun _ => d⟩
      exfalso; revert h; split
      · omega
      · split
        · split <;> omega
        · omega
    · rw [if_neg d]; exact ⟨fun h => h, fun h => h⟩
theorem mT_3 {n B p} : mT n B p = 3 ↔ tK n B p = 3 := by
  rw [mT]
  by_cases c : tK n B p = 1
  · rw [if_pos c, c]
    split <;> constructor <;> intro h <;> omega
  · rw [if_neg c]
    by_cases d : tK n B p = 2
    · rw [if_pos d, d]
      constructor
      · intro h; exfalso; revert h; split
        · omega
        · split
          · split <;> omega
          · omega
      · intro h; omega
    · rw [if_neg d]
theorem vaR_mV (n : Nat) (B : Nat → Nat) (p : Nat) (v : Int32) : vaR n B p (mV n B p v) := by
  constructor
  · intro h; rw [mV, if_pos (mT_12.1 h)]
  · intro h
    have := mT_12.2 h
    rw [mV, if_neg (by omega), if_pos this]
theorem mT_lt (n : Nat) (B : Nat → Nat) (p : Nat) : mT n B p < 5 := by
  have := sk_pos (B (tS n B p))
  rw [mT]
  split
  · split <;> omega
  · split
    · split
      · omega
      · split
        · split <;> omega
        · omega
    · rw [tK]; split <;> omega
theorem m_well : fX8_isWell (-1) = some 1 := by decide
theorem m_ill {f : Nat} (hf : f < 1000) : fX8_isWell (nI f) = some 0 := by rw [fX8_isWell, if_pos (nI_pos' (by omega))]
theorem m_takes1 {n B tb mt} (h : txR n B tb mt) (fu : Nat) (hfu : 1000 ≤ fu) {p : Nat} (hp : p ≤ n) (tok pl va : Int32) : fX8_takes fu (nI n) (nI p) tok pl va (-1) mt 1 = some (va, nI (tN n B p), nI (mT n B p), nI (tS n B p), mV n B p va, -1) := by
  rw [fX8_takes, m_well, zb1_r, if_neg z10, if_neg z10, m_adv h fu hfu hp, zb4_r]
theorem m_takes0 (fu : Nat) (n nx tok pl va : Int32) (mt : Nat → Int32) : fX8_takes fu n nx tok pl va (-1) mt 0 = some (0, nx, tok, pl, va, pl) := by
  rw [fX8_takes, m_well, zb1_r, if_neg z10, if_pos rfl]
theorem m_takesF (fu : Nat) (n nx tok pl va : Int32) (mt : Nat → Int32) {f : Nat} (hf : f < 1000) (x : Int32) : fX8_takes fu n nx tok pl va (nI f) mt x = some (0, nx, tok, pl, va, nI f) := by
  rw [fX8_takes, m_ill hf, zb1_r, if_pos rfl]
theorem m_inT (x a b : Int32) : fX8_in x a b = some 0 ∨ fX8_in x a b = some 1 := by
  rw [fX8_in]
  by_cases c : x < a
  · rw [if_pos c]; exact Or.inl rfl
  · rw [if_neg c]
    by_cases d : b < x
    · rw [if_pos d]; exact Or.inl rfl
    · rw [if_neg d]; exact Or.inr rfl
theorem m_numF (fu : Nat) (n nx tok pl va : Int32) (mt : Nat → Int32) {f : Nat} (hf : f < 1000) (x y : Int32) : fX8_number fu n nx tok pl va (nI f) mt x y = some (0, nx, tok, pl, va, nI f) := by
  rw [fX8_number]
  by_cases c : tok = 2
  · rw [if_pos c]
    rcases m_inT va x y with e | e
    · rw [e, zb1_r, if_pos rfl, m_takesF fu n nx tok pl va mt hf, zb6_r]
    · rw [e, zb1_r, if_neg z10, m_takesF fu n nx tok pl va mt hf, zb6_r]
  · rw [if_neg c, m_takesF fu n nx tok pl va mt hf, zb6_r]
def okN (n : Nat) (B : Nat → Nat) (p most : Nat) : Prop := mT n B p = 2 ∧ nvF B (tS n B p) (tN n B p - tS n B p) ≤ most
theorem m_numT {n B tb mt} (h : txR n B tb mt) (fu : Nat) (hfu : 1000 ≤ fu) {p : Nat} (hp : p ≤ n) {va : Int32} (hv : vaR n B p va) {most : Nat} (hm : most ≤ 10) : (okN n B p most → fX8_number fu (nI n) (nI (tN n B p)) (nI (mT n B p)) (nI (tS n B p)) va (-1) mt 0 (nI most) = some (nI (nvF B (tS n B p) (tN n B p - tS n B p)), nI (tN n B (tN n B p)), nI (mT n B (tN n B p)), nI (tS n B (tN n B p)), mV n B (tN n B p) va, -1)) ∧ (¬ okN n B p most → fX8_number fu (nI n) (nI (tN n B p)) (nI (mT n B p)) (nI (tS n B p)) va (-1) mt 0 (nI most) = some (0, nI (tN n B p), nI (mT n B p), nI (tS n B p), va, nI (tS n B p))) := by
  have hT := mT_lt n B p
  have hN := (tN_le (B := B) hp).2.1
  rw [fX8_number]
  by_cases c : mT n B p = 2
  · rw [c, if_pos (show nI 2 = (2 : Int32) from rfl), hv.2 c]
    by_cases d : nvF B (tS n B p) (tN n B p - tS n B p) ≤ most
    · have e : fX8_in (nI (nvF B (tS n B p) (tN n B p - tS n B p))) 0 (nI most) = some 1 := m_inN (a := 0) (by omega) d (by omega)
      refine ⟨fun _ => ?_, fun q => absurd ⟨c, d⟩ q⟩
      rw [e, zb1_r, if_neg z10, m_takes1 h fu hfu hN, zb6_r]
    · have hlt : nvF B (tS n B p) (tN n B p - tS n B p) < 2 ^ 31 := by
        have k2 := mT_12.2 c
        have hN2 := (tN_le (B := B) hp).2.2 (by omega)
        have c2 : sk (B (tS n B p)) = 2 := by rw [tK, if_pos hN2.2] at k2; exact k2
        have eN : tN n B p = run n B 2 (n - tS n B p) (tS n B p) := by
          rw [tN, if_pos hN2.2, if_pos (Or.inr c2), c2, show n - tS n B p = n - (tS n B p + 1) + 1 by omega, run, if_pos ⟨hN2.2, c2⟩]
        have hr := run_le (n := n) (B := B) (s := 2) (n - tS n B p) (tS n B p) (tS_le hp).2
        rw [← eN] at hr
        have := nvF_lt (B := B) (s := tS n B p) (tN n B p - tS n B p) (fun j hj => hr.2.2 _ (by omega) (by omega))
        omega
      have e : fX8_in (nI (nvF B (tS n B p) (tN n B p - tS n B p))) 0 (nI most) = some 0 := m_in0 (Or.inr (nI_lt (by omega) hlt))
      refine ⟨fun q => absurd q.2 d, fun _ => ?_⟩
      rw [e, zb1_r, if_pos rfl, m_takes0, zb6_r]
  · refine ⟨fun q => absurd q.1 c, fun _ => ?_⟩
    rw [if_neg (show ¬ nI (mT n B p) = (2 : Int32) from q_ne (b := 2) (by omega) (by omega) c), m_takes0, zb6_r]
theorem m_J104F {B0 K : Int32 → Int32 → Int32 → Int32 → Int32 → Int32 → Int32 → Int32 → (Nat → Int32) → Option (Int32 × Int32 × Int32 × Int32 × Int32 × Int32 × Int32 × Int32 × Int32 × Int32 × Int32 × Int32 × Int32 × (Nat → Int32) × (Nat → Int32) × (Nat → Int32))} (fu : Nat) (n : Int32) (mt : Nat → Int32) (l nx tok pl va dc dl : Int32) (ck : Nat → Int32) {f : Nat} (hf : f < 1000) : fX8_chancery_J104 fu n mt K B0 l nx tok pl va (nI f) dc dl ck = B0 (l + 1) nx tok pl va (nI f) dc dl ck := by
  rw [fX8_chancery_J104]
  by_cases c : tok = 3
  · rw [if_pos c, m_takesF fu n nx tok pl va mt hf, zb6_r]
  · rw [if_neg c, m_takesF fu n nx tok pl va mt hf, zb6_r]
theorem m_J87F (fu : Nat) (n : Int32) (mt : Nat → Int32) {i : Nat} (hi : i + 3 < 48) (s3 nx tok pl va dc dl : Int32) (ck : Nat → Int32) {f : Nat} (hf : f < 1000) : fX8_readsItem_J87 fu n mt (nI i + 2) s3 (nI i) nx tok pl va (nI f) dc dl ck = some (nx, tok, pl, va, nI f, dc + 1, dl, upd (upd ck (i + 2) 0) (i + 3) 0) := by
  rw [fX8_readsItem_J87, m_takesF fu n nx tok pl va mt hf, zb6_r, m_numF fu n nx tok pl va mt hf, zb6_r]
  simp only [show nI i + (2 : Int32) = nI (i + 2) from nI_add _ _, show nI i + (3 : Int32) = nI (i + 3) from nI_add _ _, if_pos (q_in (k := i + 2) (n := 48) (by omega) (by omega)), if_pos (q_in (k := i + 3) (n := 48) (by omega) (by omega)), q_cl (n := i + 2) (by omega), q_cl (n := i + 3) (by omega)]
