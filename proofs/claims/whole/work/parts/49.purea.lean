/-! type -/
theorem q_m255a : ∀ i, i < 8 → (255#64).getLsbD i = true := by decide
theorem q_byte (v za zl : Int64) (s : Nat) (hs : s ≤ 56) (h1 : za.toBitVec = v.toBitVec.sshiftRight s) (h2 : zl.toBitVec = v.toBitVec >>> s) : ∃ b, b < 256 ∧ (za &&& (255 : Int64)).toInt32 = nI b ∧ (zl.toInt32).toInt8.toInt32 = (nI b).toInt8.toInt32 := by
  have e255 : (255 : Int64).toBitVec = 255#64 := rfl
  refine ⟨(za.toBitVec &&& 255#64).toNat, ?_, ?_, ?_⟩
  · rw [BitVec.toNat_and]; exact Nat.lt_of_le_of_lt Nat.and_le_right (by decide)
  · apply Int32.toBitVec_inj.mp
    show ((za &&& (255 : Int64)).toBitVec).signExtend 32 = BitVec.ofNat 32 _
    rw [Int64.toBitVec_and, e255]
    apply BitVec.eq_of_getLsbD_eq
    intro i hi
    rw [BitVec.getLsbD_signExtend, BitVec.getLsbD_ofNat]
    simp [hi, BitVec.getLsbD]; omega
  · congr 1
    apply Int8.toBitVec_inj.mp
    show ((zl.toBitVec).signExtend 32).signExtend 8 = (BitVec.ofNat 32 _).signExtend 8
    apply BitVec.eq_of_getLsbD_eq
    intro i hi
    rw [BitVec.getLsbD_signExtend, BitVec.getLsbD_signExtend, BitVec.getLsbD_signExtend, BitVec.getLsbD_ofNat, h2, h1]
    have q : ((v.toBitVec.sshiftRight s &&& 255#64).toNat).testBit i = (v.toBitVec.sshiftRight s &&& 255#64).getLsbD i := rfl
    rw [q, BitVec.getLsbD_and, q_m255a i hi, BitVec.getLsbD_sshiftRight, BitVec.getLsbD_ushiftRight]
    have a1 : i < 32 := by omega
    have a2 : s + i < 64 := by omega
    have a3 : ¬ 64 ≤ i := by omega
    simp [hi, a1, a2, a3]
theorem q_sh (v : Int64) : ∀ k, k < 8 → ∃ b, b < 256 ∧ ((v >>> ((((8 : Int32) * nI k)).toInt64 &&& 63)) &&& (255 : Int64)).toInt32 = nI b ∧ (((((v).toUInt64 >>> ((((8 : Int32) * nI k)).toInt64.toUInt64 &&& Int64.toUInt64 63)).toInt64)).toInt32).toInt8.toInt32 = (nI b).toInt8.toInt32
  | 0, _ => q_byte v _ _ 0 (by omega) rfl rfl
  | 1, _ => q_byte v _ _ 8 (by omega) rfl rfl
  | 2, _ => q_byte v _ _ 16 (by omega) rfl rfl
  | 3, _ => q_byte v _ _ 24 (by omega) rfl rfl
  | 4, _ => q_byte v _ _ 32 (by omega) rfl rfl
  | 5, _ => q_byte v _ _ 40 (by omega) rfl rfl
  | 6, _ => q_byte v _ _ 48 (by omega) rfl rfl
  | 7, _ => q_byte v _ _ 56 (by omega) rfl rfl
  | k + 8, h => by omega
theorem rT_add {n tl tb ty mt} (h : rT n tl tb ty mt) (hn : n < 200) {b : Nat} (hb : b < 256) {x : Int32} (hx : x = (nI b).toInt8.toInt32) : rT (n + 1) (nI (n + 1)) (upd tb n x) (nI (n + 1)) (upd mt n (nI b)) := by
  refine ⟨by omega, rfl, rfl, fun k hk => ?_⟩
  by_cases e : k = n
  · subst e
    exact ⟨b, hb, by rw [q_up, if_pos rfl], by rw [q_up, if_pos rfl]; exact hx⟩
  · obtain ⟨c, c1, c2, c3⟩ := h.2.2.2 k (by omega)
    exact ⟨c, c1, by rw [q_up, if_neg e]; exact c2, by rw [q_up, if_neg e]; exact c3⟩
theorem type_L (v : Int64) (fu : Nat) : ∀ (j n f : Nat) (tb mt : Nat → Int32), j ≤ 8 → n + j ≤ 200 → j < f → rT n (nI n) tb (nI n) mt → ∃ tb' mt', fX6_append_L5 fu v (fun a b => some (a, b)) f (nI j - 1) (nI n) tb = some (nI (n + j), tb') ∧ fX8_type_L37 fu v (fun a b => some (a, 0, a, b)) f (nI j - 1) (nI n) mt = some (nI (n + j), 0, nI (n + j), mt') ∧ rT (n + j) (nI (n + j)) tb' (nI (n + j)) mt' := by
  intro j
  induction j with
  | zero =>
    intro n f tb mt hj hn hf hT
    obtain ⟨f, rfl⟩ : ∃ g, f = g + 1 := ⟨f - 1, by omega⟩
    rw [fX6_append_L5, fX8_type_L37, if_pos (by decide), if_pos (by decide)]
    exact ⟨tb, mt, rfl, rfl, hT⟩
  | succ j ih =>
    intro n f tb mt hj hn hf hT
    obtain ⟨f, rfl⟩ : ∃ g, f = g + 1 := ⟨f - 1, by omega⟩
    obtain ⟨b, b1, b2, b3⟩ := q_sh v j (by omega)
    rw [nI_pred, fX6_append_L5, fX8_type_L37, if_neg (nI_pos (by omega)), if_neg (nI_pos (by omega)), if_neg (show ¬ (200 : Int32) ≤ nI n from nI_ge (b := 200) (by omega) (by omega)), b2, show nI j + (-1 : Int32) = nI j - 1 from (Int32.sub_eq_add_neg _ _).symm]
    simp only [if_pos (q_in (k := n) (n := 200) (by omega) (by omega)), q_cl (n := n) (by omega), q_1]
    obtain ⟨tb', mt', r1, r2, r3⟩ := ih (n + 1) f _ _ (by omega) (by omega) (by omega) (rT_add hT (by omega) b1 b3)
    rw [show n + 1 + j = n + (j + 1) by omega] at r1 r2 r3
    exact ⟨tb', mt', r1, r2, r3⟩
theorem op_type {n tl tb ty mt} (h : rT n tl tb ty mt) (fu : Nat) (hfu : 100 ≤ fu) (th : Int32) (v : Int64) (x : Int32) : ∃ r n' tl' tb' ty' mt', fX7_type fu tl tb v x = some (r, tl', tb') ∧ fX8_type fu th ty mt v x = some (r, 0, ty', mt') ∧ rT n' tl' tb' ty' mt' := by
  have H := h
  obtain ⟨h1, h2, h3, h6⟩ := h
  subst h2; subst h3
  rw [fX7_type, fX8_type]
  rcases q_what x 9 (by omega) with ⟨q, hq, rfl⟩ | ⟨hx, -⟩
  · by_cases q0 : q = 0
    · subst q0
      rw [if_pos (by decide), show fX8_in (nI 0) 1 8 = some 0 from rfl, zb1_r, if_pos rfl]
      exact ⟨_, _, _, _, _, _, rfl, rfl, H⟩
    · have hin : fX8_in (nI q) 1 8 = some 1 := m_inN (a := 1) (b := 8) (by omega) (by omega) (by omega)
      rw [hin, zb1_r, if_neg z10, if_neg (show ¬ nI q < (1 : Int32) from nI_nlt (b := 1) (by omega) (by omega)), if_pos (show nI q ≤ (8 : Int32) from nI_le (b := 8) (by omega) (by omega)), show (200 : Int32) - nI n = nI (200 - n) from q_sub (a := 200) (by omega), nI_add]
      by_cases c : n + q ≤ 200
      · rw [if_pos (nI_le (by omega) (by omega)), if_pos (show nI (n + q) ≤ (200 : Int32) from nI_le (b := 200) c (by omega)), fX6_append]
        obtain ⟨tb', mt', r1, r2, r3⟩ := type_L v fu q n fu tb mt (by omega) c (by omega) H
        rw [r1, r2, zb2_r]
        exact ⟨_, _, _, _, _, _, rfl, rfl, r3⟩
      · rw [if_neg (nI_ge (by omega) (by omega)), if_neg (show ¬ nI (n + q) ≤ (200 : Int32) from nI_ge (a := 200) (by omega) (by omega))]
        exact ⟨_, _, _, _, _, _, rfl, rfl, H⟩
  · have hin : fX8_in x 1 8 = some 0 := m_in0 ((q_above (n := 8) (by omega) hx).imp (fun q => Int32.lt_trans q (by decide)) id)
    rw [hin, zb1_r, if_pos rfl]
    refine ⟨-1, n, nI n, tb, nI n, mt, ?_, rfl, H⟩
    rcases q_above (n := 8) (by omega) hx with h | h
    · rw [if_pos (Int32.lt_trans h (by decide))]
    · by_cases c : x < 1
      · rw [if_pos c]
      · rw [if_neg c, if_neg (show ¬ x ≤ (8 : Int32) from Int32.not_le.mpr h)]
