/-! chancery changes the two offices' places, if and only if it answers no fault. -/
set_option maxHeartbeats 4000000 in
theorem chan_neg {fu ao ad : Nat} {tl tn ts tu : Int32} {tb : Nat → Int32} {ll : Int32} {lt lm lw : Nat → Int32} {i0 i1 sc cc dc dt df dm : Int32} {kl ks kd kk : Nat → Int32} {y : Int32} {ro rd : Nat} {z} (h : fX7_chancery fu ao ad tl tn ts tu tb ll lt lm lw i0 i1 sc cc dc dt df dm kl ks kd kk = some (y, ro, rd, z)) (hy : y < 0) : ro = ao ∧ rd = ad := by
  rw [fX7_chancery] at h
  obtain ⟨y8, b1, b2, b3, b4, b5, b6, b7, b8, b9, b10, b11, hc, h⟩ := zb12_e h
  by_cases c : (0 : Int32) ≤ y8
  · have h := zt c h
    obtain ⟨a1, a2, a3, a4, a5, a6, a7, a8, a9, hc2, h⟩ := zb9_e h
    simp only [Option.some.injEq, Prod.mk.injEq] at h
    obtain ⟨rfl, rfl, rfl, _⟩ := h
    exact absurd hy (Int32.not_lt.mpr c)
  · have h := zf c h
    simp only [Option.some.injEq, Prod.mk.injEq] at h
    obtain ⟨rfl, rfl, rfl, _⟩ := h
    exact ⟨rfl, rfl⟩
set_option maxHeartbeats 4000000 in
theorem chan_pos {fu ao ad : Nat} {tl tn ts tu : Int32} {tb : Nat → Int32} {ll : Int32} {lt lm lw : Nat → Int32} {i0 i1 sc cc dc dt df dm : Int32} {kl ks kd kk : Nat → Int32} {y : Int32} {ro rd : Nat} {z} (h : fX7_chancery fu ao ad tl tn ts tu tb ll lt lm lw i0 i1 sc cc dc dt df dm kl ks kd kk = some (y, ro, rd, z)) (hy : ¬ y < 0) : ro = ad ∧ rd = ao := by
  rw [fX7_chancery] at h
  obtain ⟨y8, b1, b2, b3, b4, b5, b6, b7, b8, b9, b10, b11, hc, h⟩ := zb12_e h
  by_cases c : (0 : Int32) ≤ y8
  · have h := zt c h
    obtain ⟨a1, a2, a3, a4, a5, a6, a7, a8, a9, hc2, h⟩ := zb9_e h
    simp only [Option.some.injEq, Prod.mk.injEq] at h
    obtain ⟨rfl, rfl, rfl, _⟩ := h
    exact ⟨rfl, rfl⟩
  · have h := zf c h
    simp only [Option.some.injEq, Prod.mk.injEq] at h
    obtain ⟨rfl, rfl, rfl, _⟩ := h
    exact absurd (Int32.not_lt.mp hy) c
