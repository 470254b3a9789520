/-! the law answers 1 -/
theorem zb11_r {α0 α1 α2 α3 α4 α5 α6 α7 α8 α9 α10 ω : Type} (a0 : α0) (a1 : α1) (a2 : α2) (a3 : α3) (a4 : α4) (a5 : α5) (a6 : α6) (a7 : α7) (a8 : α8) (a9 : α9) (a10 : α10) (k : α0 → α1 → α2 → α3 → α4 → α5 → α6 → α7 → α8 → α9 → α10 → Option ω) : zb11 (some (a0, a1, a2, a3, a4, a5, a6, a7, a8, a9, a10)) k = k a0 a1 a2 a3 a4 a5 a6 a7 a8 a9 a10 := rfl
theorem zb23_r {α0 α1 α2 α3 α4 α5 α6 α7 α8 α9 α10 α11 α12 α13 α14 α15 α16 α17 α18 α19 α20 α21 α22 ω : Type} (a0 : α0) (a1 : α1) (a2 : α2) (a3 : α3) (a4 : α4) (a5 : α5) (a6 : α6) (a7 : α7) (a8 : α8) (a9 : α9) (a10 : α10) (a11 : α11) (a12 : α12) (a13 : α13) (a14 : α14) (a15 : α15) (a16 : α16) (a17 : α17) (a18 : α18) (a19 : α19) (a20 : α20) (a21 : α21) (a22 : α22) (k : α0 → α1 → α2 → α3 → α4 → α5 → α6 → α7 → α8 → α9 → α10 → α11 → α12 → α13 → α14 → α15 → α16 → α17 → α18 → α19 → α20 → α21 → α22 → Option ω) : zb23 (some (a0, a1, a2, a3, a4, a5, a6, a7, a8, a9, a10, a11, a12, a13, a14, a15, a16, a17, a18, a19, a20, a21, a22)) k = k a0 a1 a2 a3 a4 a5 a6 a7 a8 a9 a10 a11 a12 a13 a14 a15 a16 a17 a18 a19 a20 a21 a22 := rfl
theorem rT_0 (tb mt : Nat → Int32) : rT 0 0 tb 0 mt := ⟨by omega, rfl, rfl, fun k hk => absurd hk (Nat.not_lt_zero k)⟩
theorem rS_0 (a b c d e : Nat → Int32) : rS 0 0 a b c d 0 e := ⟨by omega, rfl, rfl, fun k hk => absurd hk (Nat.not_lt_zero k)⟩
theorem rC_0 (a b : Nat → Int32) : rC 0 0 a 0 b := ⟨by omega, rfl, rfl, fun k hk => absurd hk (Nat.not_lt_zero k)⟩
theorem rO_same {no oc le se dr ke cl ck ck'} (h : rO no oc le se dr ke cl ck) (e : ∀ j, j < 24 → ck' j = ck j) : rO no oc le se dr ke cl ck' := by
  refine ⟨h.1, h.2.1, h.2.2.1, fun c hc => ?_⟩
  have h1 := h.1
  obtain ⟨a2, b2, e2, k2, r1, r2, r3, r4, r5, r6, r7, r8, r9, r10, r11, r12⟩ := h.2.2.2 c hc
  exact ⟨a2, b2, e2, k2, r1, r2, r3, r4, r5, r6, r7, r8, (e _ (by omega)).trans r9, (e _ (by omega)).trans r10, (e _ (by omega)).trans r11, (e _ (by omega)).trans r12⟩
theorem q_self (T : Int64) : lg_cmp T T = 0 := by
  rw [lg_cmp, if_neg (fun q => Int64.lt_irrefl q), if_pos rfl]
theorem q_stop {L q : Nat} (hL : L < 2 ^ 30) (hq : q < 2 ^ 30) : (q + 5 ≤ L → ¬ (Int32.ofNat L) - (5 : Int32) < nI q) ∧ (¬ q + 5 ≤ L → (Int32.ofNat L) - (5 : Int32) < nI q) := by
  have e : (Int32.ofNat L) = nI L := rfl
  rw [e]
  constructor
  · intro h
    rw [show nI L - (5 : Int32) = nI (L - 5) from q_sub (b := 5) (by omega)]
    exact nI_nlt (by omega) (by omega)
  · intro h
    by_cases c : 5 ≤ L
    · rw [show nI L - (5 : Int32) = nI (L - 5) from q_sub (b := 5) c]
      exact nI_lt (by omega) (by omega)
    · exact Int32.lt_of_lt_of_le (pk_sneg (a := L) (b := 5) (by omega) (by omega)) (nI_pos' (by omega))
set_option maxHeartbeats 16000000 in
set_option maxRecDepth 100000 in
theorem law_pure (fu L : Nat) (xs : Nat → Int32) (hfu : 1000 ≤ fu) (hL30 : L < 2 ^ 30) : ∀ (n q nt nl no ns nc : Nat) (a_x_office : Nat) (a_x_draft : Nat) (v_x_traced : Int64) (v_x_text_length : Int32) (v_x_text_next : Int32) (v_x_text_start : Int32) (v_x_text_number : Int32) (f_x_text_bytes : Nat → Int32) (v_x_letter_lines : Int32) (v_x_letter_luck : Int32) (f_x_letter_tones : Nat → Int32) (f_x_letter_marks : Nat → Int32) (f_x_letter_writers : Nat → Int32) (v_x_images0_lines : Int32) (v_x_images0_luck : Int32) (f_x_images0_tones : Nat → Int32) (f_x_images0_marks : Nat → Int32) (f_x_images0_writers : Nat → Int32) (v_x_images1_lines : Int32) (v_x_images1_luck : Int32) (f_x_images1_tones : Nat → Int32) (f_x_images1_marks : Nat → Int32) (f_x_images1_writers : Nat → Int32) (v_x_samples_count : Int32) (f_x_samples_tones : Nat → Int32) (f_x_samples_marks : Nat → Int32) (f_x_samples_thenTones : Nat → Int32) (f_x_samples_thenMarks : Nat → Int32) (v_x_copies_count : Int32) (f_x_copies_slips : Nat → Int32) (v_x_orders_size : Int32) (v_x_orders_least : Int32) (f_x_orders_row : Nat → Int32) (f_x_orders_best : Nat → Int32) (v_x_office_count : Int32) (v_x_office_letterTold : Int32) (v_x_office_firstTone : Int32) (v_x_office_firstMarks : Int32) (v_x_draft_count : Int32) (v_x_draft_letterTold : Int32) (v_x_draft_firstTone : Int32) (v_x_draft_firstMarks : Int32) (v_m_thrown : Int32) (v_m_trace : Int64) (v_m_typed : Int32) (v_m_next : Int32) (v_m_token : Int32) (v_m_place : Int32) (v_m_value : Int32) (v_m_fault : Int32) (v_m_clerks : Int32) (v_m_draftClerks : Int32) (v_m_draftLine : Int32) (v_m_signMany : Int32) (v_m_copies : Int32) (v_m_rowMany : Int32) (f_m_text : Nat → Int32) (f_m_clerk : Nat → Int32) (f_m_s : Nat → Int32) (f_m_kept : Nat → Int32) (f_m_isKept : Nat → Int32) (f_m_signed : Nat → Int32) (f_m_slips : Nat → Int32) (f_m_row : Nat → Int32) (f_m_best : Nat → Int32) (k_x_office_lean : Nat → Int32) (k_x_office_sets : Nat → Int32) (k_x_office_drops : Nat → Int32) (k_x_office_keeps : Nat → Int32) (k_x_draft_lean : Nat → Int32) (k_x_draft_sets : Nat → Int32) (k_x_draft_drops : Nat → Int32) (k_x_draft_keeps : Nat → Int32), q ≤ L ∧ L < q + 5 * n → rT nt v_x_text_length f_x_text_bytes v_m_typed f_m_text → rL nl v_x_letter_lines v_x_letter_luck f_x_letter_tones f_x_letter_marks f_x_letter_writers f_m_s 0 → rI 0 v_x_images0_lines v_x_images0_luck f_x_images0_tones f_x_images0_marks f_x_images0_writers f_m_kept f_m_isKept → rI 1 v_x_images1_lines v_x_images1_luck f_x_images1_tones f_x_images1_marks f_x_images1_writers f_m_kept f_m_isKept → rO no v_x_office_count k_x_office_lean k_x_office_sets k_x_office_drops k_x_office_keeps v_m_clerks f_m_clerk → rS ns v_x_samples_count f_x_samples_tones f_x_samples_marks f_x_samples_thenTones f_x_samples_thenMarks v_m_signMany f_m_signed → rC nc v_x_copies_count f_x_copies_slips v_m_copies f_m_slips → v_x_traced = v_m_trace → fL_law fu L xs n (nI q) a_x_office a_x_draft v_x_traced v_x_text_length v_x_text_next v_x_text_start v_x_text_number f_x_text_bytes v_x_letter_lines v_x_letter_luck f_x_letter_tones f_x_letter_marks f_x_letter_writers v_x_images0_lines v_x_images0_luck f_x_images0_tones f_x_images0_marks f_x_images0_writers v_x_images1_lines v_x_images1_luck f_x_images1_tones f_x_images1_marks f_x_images1_writers v_x_samples_count f_x_samples_tones f_x_samples_marks f_x_samples_thenTones f_x_samples_thenMarks v_x_copies_count f_x_copies_slips v_x_orders_size v_x_orders_least f_x_orders_row f_x_orders_best v_x_office_count v_x_office_letterTold v_x_office_firstTone v_x_office_firstMarks v_x_draft_count v_x_draft_letterTold v_x_draft_firstTone v_x_draft_firstMarks v_m_thrown v_m_trace v_m_typed v_m_next v_m_token v_m_place v_m_value v_m_fault v_m_clerks v_m_draftClerks v_m_draftLine v_m_signMany v_m_copies v_m_rowMany f_m_text f_m_clerk f_m_s f_m_kept f_m_isKept f_m_signed f_m_slips f_m_row f_m_best k_x_office_lean k_x_office_sets k_x_office_drops k_x_office_keeps k_x_draft_lean k_x_draft_sets k_x_draft_drops k_x_draft_keeps = some 1 := by
  intro n
  induction n with
  | zero => intro q nt nl no ns nc a_x_office a_x_draft v_x_traced v_x_text_length v_x_text_next v_x_text_start v_x_text_number f_x_text_bytes v_x_letter_lines v_x_letter_luck f_x_letter_tones f_x_letter_marks f_x_letter_writers v_x_images0_lines v_x_images0_luck f_x_images0_tones f_x_images0_marks f_x_images0_writers v_x_images1_lines v_x_images1_luck f_x_images1_tones f_x_images1_marks f_x_images1_writers v_x_samples_count f_x_samples_tones f_x_samples_marks f_x_samples_thenTones f_x_samples_thenMarks v_x_copies_count f_x_copies_slips v_x_orders_size v_x_orders_least f_x_orders_row f_x_orders_best v_x_office_count v_x_office_letterTold v_x_office_firstTone v_x_office_firstMarks v_x_draft_count v_x_draft_letterTold v_x_draft_firstTone v_x_draft_firstMarks v_m_thrown v_m_trace v_m_typed v_m_next v_m_token v_m_place v_m_value v_m_fault v_m_clerks v_m_draftClerks v_m_draftLine v_m_signMany v_m_copies v_m_rowMany f_m_text f_m_clerk f_m_s f_m_kept f_m_isKept f_m_signed f_m_slips f_m_row f_m_best k_x_office_lean k_x_office_sets k_x_office_drops k_x_office_keeps k_x_draft_lean k_x_draft_sets k_x_draft_drops k_x_draft_keeps hq; omega
  | succ n ih =>
    intro q nt nl no ns nc a_x_office a_x_draft v_x_traced v_x_text_length v_x_text_next v_x_text_start v_x_text_number f_x_text_bytes v_x_letter_lines v_x_letter_luck f_x_letter_tones f_x_letter_marks f_x_letter_writers v_x_images0_lines v_x_images0_luck f_x_images0_tones f_x_images0_marks f_x_images0_writers v_x_images1_lines v_x_images1_luck f_x_images1_tones f_x_images1_marks f_x_images1_writers v_x_samples_count f_x_samples_tones f_x_samples_marks f_x_samples_thenTones f_x_samples_thenMarks v_x_copies_count f_x_copies_slips v_x_orders_size v_x_orders_least f_x_orders_row f_x_orders_best v_x_office_count v_x_office_letterTold v_x_office_firstTone v_x_office_firstMarks v_x_draft_count v_x_draft_letterTold v_x_draft_firstTone v_x_draft_firstMarks v_m_thrown v_m_trace v_m_typed v_m_next v_m_token v_m_place v_m_value v_m_fault v_m_clerks v_m_draftClerks v_m_draftLine v_m_signMany v_m_copies v_m_rowMany f_m_text f_m_clerk f_m_s f_m_kept f_m_isKept f_m_signed f_m_slips f_m_row f_m_best k_x_office_lean k_x_office_sets k_x_office_drops k_x_office_keeps k_x_draft_lean k_x_draft_sets k_x_draft_drops k_x_draft_keeps hq hT hL hI0 hI1 hO hS hC hE
    obtain ⟨s1, s2⟩ := q_stop hL30 (show q < 2 ^ 30 by omega)
    rw [fL_law]
    by_cases c : q + 5 ≤ L
    case neg => rw [if_pos (s2 c)]
    have z0 : zin (nI q) L := q_in (by omega) (by omega)
    have z1 : zin (nI q + (1 : Int32)) L := by rw [show nI q + (1 : Int32) = nI (q + 1) from nI_add q 1]; exact q_in (by omega) (by omega)
    have z2 : zin (nI q + (2 : Int32)) L := by rw [show nI q + (2 : Int32) = nI (q + 2) from nI_add q 2]; exact q_in (by omega) (by omega)
    have z3 : zin (nI q + (3 : Int32)) L := by rw [show nI q + (3 : Int32) = nI (q + 3) from nI_add q 3]; exact q_in (by omega) (by omega)
    have z4 : zin (nI q + (4 : Int32)) L := by rw [show nI q + (4 : Int32) = nI (q + 4) from nI_add q 4]; exact q_in (by omega) (by omega)
    have e5 : nI q + (5 : Int32) = nI (q + 5) := nI_add q 5
    rw [if_neg (s1 c), if_pos z0]
    by_cases c0 : (xs (nI q).toNatClampNeg &&& (31 : Int32)) = (0 : Int32)
    · rw [if_pos c0, if_pos z1, if_pos z2, if_pos z3]
      obtain ⟨r, n2, t1, t2, t3, t4, e1, e2, hT⟩ := op_type hT fu (by omega) v_m_thrown (((((xs ((nI q + (1 : Int32))).toNatClampNeg)).toInt64) <<< (((32 : Int32)).toInt64 &&& 63)) ||| ((((xs ((nI q + (2 : Int32))).toNatClampNeg)).toInt64) &&& (4294967295 : Int64))) (xs ((nI q + (3 : Int32))).toNatClampNeg)
      rw [e1, zb3_r, e2, zb4_r, if_pos rfl, e5]
      exact ih (q + 5) _ _ _ _ _ _ _ _ _ _ _ _ _ _ _ _ _ _ _ _ _ _ _ _ _ _ _ _ _ _ _ _ _ _ _ _ _ _ _ _ _ _ _ _ _ _ _ _ _ _ _ _ _ _ _ _ _ _ _ _ _ _ _ _ _ _ _ _ _ _ _ _ _ _ _ _ _ _ (by omega) hT hL hI0 hI1 hO hS hC hE
    rw [if_neg c0]
    by_cases c1 : (xs (nI q).toNatClampNeg &&& (31 : Int32)) = (1 : Int32)
    · rw [if_pos c1]
      obtain ⟨r, e1, e2, hT⟩ := op_clear hT v_m_thrown
      rw [e1, zb2_r, e2, zb3_r, if_pos rfl, e5]
      exact ih (q + 5) _ _ _ _ _ _ _ _ _ _ _ _ _ _ _ _ _ _ _ _ _ _ _ _ _ _ _ _ _ _ _ _ _ _ _ _ _ _ _ _ _ _ _ _ _ _ _ _ _ _ _ _ _ _ _ _ _ _ _ _ _ _ _ _ _ _ _ _ _ _ _ _ _ _ _ _ _ _ (by omega) hT hL hI0 hI1 hO hS hC hE
    rw [if_neg c1]
    by_cases c2 : (xs (nI q).toNatClampNeg &&& (31 : Int32)) = (2 : Int32)
    · rw [if_pos c2]
      obtain ⟨y, ro, rd, tl2, tn2, ts2, tu2, ll2, lt2, lm2, lw2, j0, j1, sc2, cc2, dc2, dt2, df2, dm2, kl2, ks2, kd2, kk2, ty2, nx2, tk2, pl2, va2, fa2, cl2, dcl2, dln2, sg2, cp2, ck2, sN, isK2, e1, e2, H⟩ := op_chancery hT hL.2.2.2.2.1 fu hfu a_x_office a_x_draft v_x_text_next v_x_text_start v_x_text_number v_x_letter_lines v_x_images0_lines v_x_images1_lines v_x_samples_count v_x_copies_count v_x_draft_count v_x_draft_letterTold v_x_draft_firstTone v_x_draft_firstMarks f_x_letter_tones f_x_letter_marks f_x_letter_writers k_x_draft_lean k_x_draft_sets k_x_draft_drops k_x_draft_keeps v_m_thrown v_m_next v_m_token v_m_place v_m_value v_m_fault v_m_clerks v_m_draftClerks v_m_draftLine v_m_signMany v_m_copies f_m_clerk f_m_isKept
      rw [e1, zb23_r, e2, zb16_r, if_pos rfl, e5]
      rcases H with ⟨hy, a1, a2, a3, ⟨no2, a4⟩, a5, a6, a7, a8, a9, a10, a11, a12⟩ | ⟨hy, a1, a2, a3, a4, a5, a6, a7, a8, a9, a10, a11, a12, a13, a14, a15, a16⟩
      · rw [if_neg hy]
        subst a1 a2 a5 a6 a9 a10 a11 a12
        exact ih (q + 5) _ _ _ _ _ _ _ _ _ _ _ _ _ _ _ _ _ _ _ _ _ _ _ _ _ _ _ _ _ _ _ _ _ _ _ _ _ _ _ _ _ _ _ _ _ _ _ _ _ _ _ _ _ _ _ _ _ _ _ _ _ _ _ _ _ _ _ _ _ _ _ _ _ _ _ _ _ _ (by omega) (rT_0 _ _) a3 (Or.inl ⟨a7, rfl⟩) (Or.inl ⟨a8, rfl⟩) a4 (rS_0 _ _ _ _ _) (rC_0 _ _) hE
      · rw [if_pos hy]
        rw [a1, a2, a3, a4, a5, a6, a7, a8, a9, a10, a11, a12, a13, a14, a15]
        exact ih (q + 5) _ _ _ _ _ _ _ _ _ _ _ _ _ _ _ _ _ _ _ _ _ _ _ _ _ _ _ _ _ _ _ _ _ _ _ _ _ _ _ _ _ _ _ _ _ _ _ _ _ _ _ _ _ _ _ _ _ _ _ _ _ _ _ _ _ _ _ _ _ _ _ _ _ _ _ _ _ _ (by omega) hT hL hI0 hI1 (rO_same hO a16) hS hC hE
    rw [if_neg c2]
    by_cases c3 : (xs (nI q).toNatClampNeg &&& (31 : Int32)) = (3 : Int32)
    · rw [if_pos c3, if_pos z1, if_pos z2]
      obtain ⟨r, e1, e2⟩ := op_clerk hO v_m_thrown (xs ((nI q + (1 : Int32))).toNatClampNeg) (xs ((nI q + (2 : Int32))).toNatClampNeg)
      rw [e1, zb1_r, e2, zb2_r, if_pos rfl, e5]
      exact ih (q + 5) _ _ _ _ _ _ _ _ _ _ _ _ _ _ _ _ _ _ _ _ _ _ _ _ _ _ _ _ _ _ _ _ _ _ _ _ _ _ _ _ _ _ _ _ _ _ _ _ _ _ _ _ _ _ _ _ _ _ _ _ _ _ _ _ _ _ _ _ _ _ _ _ _ _ _ _ _ _ (by omega) hT hL hI0 hI1 hO hS hC hE
    rw [if_neg c3]
    by_cases c4 : (xs (nI q).toNatClampNeg &&& (31 : Int32)) = (4 : Int32)
    · rw [if_pos c4, if_pos z1, if_pos z2]
      obtain ⟨r, e1, e2⟩ := op_line hL v_m_thrown (xs ((nI q + (1 : Int32))).toNatClampNeg) (xs ((nI q + (2 : Int32))).toNatClampNeg)
      rw [e1, zb1_r, e2, zb2_r, if_pos rfl, e5]
      exact ih (q + 5) _ _ _ _ _ _ _ _ _ _ _ _ _ _ _ _ _ _ _ _ _ _ _ _ _ _ _ _ _ _ _ _ _ _ _ _ _ _ _ _ _ _ _ _ _ _ _ _ _ _ _ _ _ _ _ _ _ _ _ _ _ _ _ _ _ _ _ _ _ _ _ _ _ _ _ _ _ _ (by omega) hT hL hI0 hI1 hO hS hC hE
    rw [if_neg c4]
    by_cases c5 : (xs (nI q).toNatClampNeg &&& (31 : Int32)) = (5 : Int32)
    · rw [if_pos c5, if_pos z1, if_pos z2, if_pos z3]
      obtain ⟨r, e1, e2⟩ := op_makes hO v_m_thrown (xs ((nI q + (1 : Int32))).toNatClampNeg) (xs ((nI q + (2 : Int32))).toNatClampNeg) (xs ((nI q + (3 : Int32))).toNatClampNeg)
      rw [e1, zb1_r, e2, zb2_r, if_pos rfl, e5]
      exact ih (q + 5) _ _ _ _ _ _ _ _ _ _ _ _ _ _ _ _ _ _ _ _ _ _ _ _ _ _ _ _ _ _ _ _ _ _ _ _ _ _ _ _ _ _ _ _ _ _ _ _ _ _ _ _ _ _ _ _ _ _ _ _ _ _ _ _ _ _ _ _ _ _ _ _ _ _ _ _ _ _ (by omega) hT hL hI0 hI1 hO hS hC hE
    rw [if_neg c5]
    by_cases c6 : (xs (nI q).toNatClampNeg &&& (31 : Int32)) = (6 : Int32)
    · rw [if_pos c6, if_pos z1]
      obtain ⟨r, n2, t1, t2, t3, t4, t5, t6, e1, e2, hL⟩ := op_write hL hO v_m_thrown (xs ((nI q + (1 : Int32))).toNatClampNeg)
      rw [e1, zb6_r, e2, zb3_r, if_pos rfl, e5]
      exact ih (q + 5) _ _ _ _ _ _ _ _ _ _ _ _ _ _ _ _ _ _ _ _ _ _ _ _ _ _ _ _ _ _ _ _ _ _ _ _ _ _ _ _ _ _ _ _ _ _ _ _ _ _ _ _ _ _ _ _ _ _ _ _ _ _ _ _ _ _ _ _ _ _ _ _ _ _ _ _ _ _ (by omega) hT hL hI0 hI1 hO hS hC hE
    rw [if_neg c6]
    by_cases c7 : (xs (nI q).toNatClampNeg &&& (31 : Int32)) = (7 : Int32)
    · rw [if_pos c7, if_pos z1, if_pos z2]
      obtain ⟨r, n2, t1, t2, t3, t4, t5, e1, e2, hL⟩ := op_forge hL v_m_thrown (xs ((nI q + (1 : Int32))).toNatClampNeg) (xs ((nI q + (2 : Int32))).toNatClampNeg)
      rw [e1, zb5_r, e2, zb3_r, if_pos rfl, e5]
      exact ih (q + 5) _ _ _ _ _ _ _ _ _ _ _ _ _ _ _ _ _ _ _ _ _ _ _ _ _ _ _ _ _ _ _ _ _ _ _ _ _ _ _ _ _ _ _ _ _ _ _ _ _ _ _ _ _ _ _ _ _ _ _ _ _ _ _ _ _ _ _ _ _ _ _ _ _ _ _ _ _ _ (by omega) hT hL hI0 hI1 hO hS hC hE
    rw [if_neg c7]
    by_cases c8 : (xs (nI q).toNatClampNeg &&& (31 : Int32)) = (8 : Int32)
    · rw [if_pos c8]
      obtain ⟨r, n2, t1, t2, e1, e2, hL⟩ := op_undo hL v_m_thrown
      rw [e1, zb2_r, e2, zb3_r, if_pos rfl, e5]
      exact ih (q + 5) _ _ _ _ _ _ _ _ _ _ _ _ _ _ _ _ _ _ _ _ _ _ _ _ _ _ _ _ _ _ _ _ _ _ _ _ _ _ _ _ _ _ _ _ _ _ _ _ _ _ _ _ _ _ _ _ _ _ _ _ _ _ _ _ _ _ _ _ _ _ _ _ _ _ _ _ _ _ (by omega) hT hL hI0 hI1 hO hS hC hE
    rw [if_neg c8]
    by_cases c9 : (xs (nI q).toNatClampNeg &&& (31 : Int32)) = (9 : Int32)
    · rw [if_pos c9, if_pos z1]
      obtain ⟨r, e1, e2, hL⟩ := op_lot hL v_m_thrown (xs ((nI q + (1 : Int32))).toNatClampNeg)
      rw [e1, zb2_r, e2, zb3_r, if_pos rfl, e5]
      exact ih (q + 5) _ _ _ _ _ _ _ _ _ _ _ _ _ _ _ _ _ _ _ _ _ _ _ _ _ _ _ _ _ _ _ _ _ _ _ _ _ _ _ _ _ _ _ _ _ _ _ _ _ _ _ _ _ _ _ _ _ _ _ _ _ _ _ _ _ _ _ _ _ _ _ _ _ _ _ _ _ _ (by omega) hT hL hI0 hI1 hO hS hC hE
    rw [if_neg c9]
    by_cases c10 : (xs (nI q).toNatClampNeg &&& (31 : Int32)) = (10 : Int32)
    · rw [if_pos c10]
      obtain ⟨r, e1, e2⟩ := op_turned hL fu (by omega) v_m_thrown
      rw [e1, zb1_r, e2, zb2_r, if_pos rfl, e5]
      exact ih (q + 5) _ _ _ _ _ _ _ _ _ _ _ _ _ _ _ _ _ _ _ _ _ _ _ _ _ _ _ _ _ _ _ _ _ _ _ _ _ _ _ _ _ _ _ _ _ _ _ _ _ _ _ _ _ _ _ _ _ _ _ _ _ _ _ _ _ _ _ _ _ _ _ _ _ _ _ _ _ _ (by omega) hT hL hI0 hI1 hO hS hC hE
    rw [if_neg c10]
    by_cases c11 : (xs (nI q).toNatClampNeg &&& (31 : Int32)) = (11 : Int32)
    · rw [if_pos c11, if_pos z1, if_pos z2]
      obtain ⟨r, e1, e2⟩ := op_who hL hO fu (by omega) v_m_thrown (xs ((nI q + (1 : Int32))).toNatClampNeg) (xs ((nI q + (2 : Int32))).toNatClampNeg)
      rw [e1, zb1_r, e2, zb2_r, if_pos rfl, e5]
      exact ih (q + 5) _ _ _ _ _ _ _ _ _ _ _ _ _ _ _ _ _ _ _ _ _ _ _ _ _ _ _ _ _ _ _ _ _ _ _ _ _ _ _ _ _ _ _ _ _ _ _ _ _ _ _ _ _ _ _ _ _ _ _ _ _ _ _ _ _ _ _ _ _ _ _ _ _ _ _ _ _ _ (by omega) hT hL hI0 hI1 hO hS hC hE
    rw [if_neg c11]
    by_cases c12 : (xs (nI q).toNatClampNeg &&& (31 : Int32)) = (12 : Int32)
    · rw [if_pos c12]
      obtain ⟨r, e1, e2⟩ := op_rows hL hO fu (by omega) v_m_thrown
      rw [e1, zb1_r, e2, zb2_r, if_pos rfl, e5]
      exact ih (q + 5) _ _ _ _ _ _ _ _ _ _ _ _ _ _ _ _ _ _ _ _ _ _ _ _ _ _ _ _ _ _ _ _ _ _ _ _ _ _ _ _ _ _ _ _ _ _ _ _ _ _ _ _ _ _ _ _ _ _ _ _ _ _ _ _ _ _ _ _ _ _ _ _ _ _ _ _ _ _ (by omega) hT hL hI0 hI1 hO hS hC hE
    rw [if_neg c12]
    by_cases c13 : (xs (nI q).toNatClampNeg &&& (31 : Int32)) = (13 : Int32)
    · rw [if_pos c13, if_pos z1, if_pos z2, if_pos z3]
      obtain ⟨r, e1, e2⟩ := op_odds hL hO fu (by omega) v_m_thrown (xs ((nI q + (1 : Int32))).toNatClampNeg) (xs ((nI q + (2 : Int32))).toNatClampNeg) (xs ((nI q + (3 : Int32))).toNatClampNeg)
      rw [e1, zb1_r, e2, zb2_r, if_pos rfl, e5]
      exact ih (q + 5) _ _ _ _ _ _ _ _ _ _ _ _ _ _ _ _ _ _ _ _ _ _ _ _ _ _ _ _ _ _ _ _ _ _ _ _ _ _ _ _ _ _ _ _ _ _ _ _ _ _ _ _ _ _ _ _ _ _ _ _ _ _ _ _ _ _ _ _ _ _ _ _ _ _ _ _ _ _ (by omega) hT hL hI0 hI1 hO hS hC hE
    rw [if_neg c13]
    by_cases c14 : (xs (nI q).toNatClampNeg &&& (31 : Int32)) = (14 : Int32)
    · rw [if_pos c14, if_pos z1, if_pos z2, if_pos z3]
      obtain ⟨r, t1, t2, t3, t4, t5, t6, t7, e1, e2⟩ := op_order hL hO fu hfu v_m_thrown v_x_orders_size v_x_orders_least v_m_rowMany f_x_orders_row f_x_orders_best f_m_row f_m_best (xs ((nI q + (1 : Int32))).toNatClampNeg) (xs ((nI q + (2 : Int32))).toNatClampNeg) (xs ((nI q + (3 : Int32))).toNatClampNeg)
      rw [e1, zb5_r, e2, zb5_r, if_pos rfl, e5]
      exact ih (q + 5) _ _ _ _ _ _ _ _ _ _ _ _ _ _ _ _ _ _ _ _ _ _ _ _ _ _ _ _ _ _ _ _ _ _ _ _ _ _ _ _ _ _ _ _ _ _ _ _ _ _ _ _ _ _ _ _ _ _ _ _ _ _ _ _ _ _ _ _ _ _ _ _ _ _ _ _ _ _ (by omega) hT hL hI0 hI1 hO hS hC hE
    rw [if_neg c14]
    by_cases c15 : (xs (nI q).toNatClampNeg &&& (31 : Int32)) = (15 : Int32)
    · rw [if_pos c15, if_pos z1, if_pos z2]
      obtain ⟨r, t1, t2, t3, t4, t5, t6, t7, e1, e2⟩ := op_drift hL hO fu hfu v_m_thrown v_x_orders_size v_x_orders_least v_m_rowMany f_x_orders_row f_x_orders_best f_m_row f_m_best (xs ((nI q + (1 : Int32))).toNatClampNeg) (xs ((nI q + (2 : Int32))).toNatClampNeg)
      rw [e1, zb5_r, e2, zb5_r, if_pos rfl, e5]
      exact ih (q + 5) _ _ _ _ _ _ _ _ _ _ _ _ _ _ _ _ _ _ _ _ _ _ _ _ _ _ _ _ _ _ _ _ _ _ _ _ _ _ _ _ _ _ _ _ _ _ _ _ _ _ _ _ _ _ _ _ _ _ _ _ _ _ _ _ _ _ _ _ _ _ _ _ _ _ _ _ _ _ (by omega) hT hL hI0 hI1 hO hS hC hE
    rw [if_neg c15]
    by_cases c16 : (xs (nI q).toNatClampNeg &&& (31 : Int32)) = (16 : Int32)
    · rw [if_pos c16, if_pos z1, if_pos z2, if_pos z3, if_pos z4]
      obtain ⟨r, n2, t1, t2, t3, t4, t5, t6, t7, e1, e2, hS⟩ := op_sign hS v_m_thrown (xs ((nI q + (1 : Int32))).toNatClampNeg) (xs ((nI q + (2 : Int32))).toNatClampNeg) (xs ((nI q + (3 : Int32))).toNatClampNeg) (xs ((nI q + (4 : Int32))).toNatClampNeg)
      rw [e1, zb6_r, e2, zb4_r, if_pos rfl, e5]
      exact ih (q + 5) _ _ _ _ _ _ _ _ _ _ _ _ _ _ _ _ _ _ _ _ _ _ _ _ _ _ _ _ _ _ _ _ _ _ _ _ _ _ _ _ _ _ _ _ _ _ _ _ _ _ _ _ _ _ _ _ _ _ _ _ _ _ _ _ _ _ _ _ _ _ _ _ _ _ _ _ _ _ (by omega) hT hL hI0 hI1 hO hS hC hE
    rw [if_neg c16]
    by_cases c17 : (xs (nI q).toNatClampNeg &&& (31 : Int32)) = (17 : Int32)
    · rw [if_pos c17, if_pos z1]
      obtain ⟨r, e1, e2⟩ := op_learnt hS fu (by omega) v_m_thrown (xs ((nI q + (1 : Int32))).toNatClampNeg)
      rw [e1, zb1_r, e2, zb2_r, if_pos rfl, e5]
      exact ih (q + 5) _ _ _ _ _ _ _ _ _ _ _ _ _ _ _ _ _ _ _ _ _ _ _ _ _ _ _ _ _ _ _ _ _ _ _ _ _ _ _ _ _ _ _ _ _ _ _ _ _ _ _ _ _ _ _ _ _ _ _ _ _ _ _ _ _ _ _ _ _ _ _ _ _ _ _ _ _ _ (by omega) hT hL hI0 hI1 hO hS hC hE
    rw [if_neg c17]
    by_cases c18 : (xs (nI q).toNatClampNeg &&& (31 : Int32)) = (18 : Int32)
    · rw [if_pos c18]
      obtain ⟨r, e1, e2, hS⟩ := op_forget hS v_m_thrown
      rw [e1, zb2_r, e2, zb3_r, if_pos rfl, e5]
      exact ih (q + 5) _ _ _ _ _ _ _ _ _ _ _ _ _ _ _ _ _ _ _ _ _ _ _ _ _ _ _ _ _ _ _ _ _ _ _ _ _ _ _ _ _ _ _ _ _ _ _ _ _ _ _ _ _ _ _ _ _ _ _ _ _ _ _ _ _ _ _ _ _ _ _ _ _ _ _ _ _ _ (by omega) hT hL hI0 hI1 hO hS hC hE
    rw [if_neg c18]
    by_cases c19 : (xs (nI q).toNatClampNeg &&& (31 : Int32)) = (19 : Int32)
    · rw [if_pos c19, if_pos z1]
      obtain ⟨r, n2, t1, t2, t3, t4, e1, e2, hC⟩ := op_copy hC v_m_thrown (xs ((nI q + (1 : Int32))).toNatClampNeg)
      rw [e1, zb3_r, e2, zb4_r, if_pos rfl, e5]
      exact ih (q + 5) _ _ _ _ _ _ _ _ _ _ _ _ _ _ _ _ _ _ _ _ _ _ _ _ _ _ _ _ _ _ _ _ _ _ _ _ _ _ _ _ _ _ _ _ _ _ _ _ _ _ _ _ _ _ _ _ _ _ _ _ _ _ _ _ _ _ _ _ _ _ _ _ _ _ _ _ _ _ (by omega) hT hL hI0 hI1 hO hS hC hE
    rw [if_neg c19]
    by_cases c20 : (xs (nI q).toNatClampNeg &&& (31 : Int32)) = (20 : Int32)
    · rw [if_pos c20, if_pos z1, if_pos z2]
      obtain ⟨r, e1, e2⟩ := op_came hC fu (by omega) v_m_thrown (xs ((nI q + (1 : Int32))).toNatClampNeg) (xs ((nI q + (2 : Int32))).toNatClampNeg)
      rw [e1, zb1_r, e2, zb2_r, if_pos rfl, e5]
      exact ih (q + 5) _ _ _ _ _ _ _ _ _ _ _ _ _ _ _ _ _ _ _ _ _ _ _ _ _ _ _ _ _ _ _ _ _ _ _ _ _ _ _ _ _ _ _ _ _ _ _ _ _ _ _ _ _ _ _ _ _ _ _ _ _ _ _ _ _ _ _ _ _ _ _ _ _ _ _ _ _ _ (by omega) hT hL hI0 hI1 hO hS hC hE
    rw [if_neg c20]
    by_cases c21 : (xs (nI q).toNatClampNeg &&& (31 : Int32)) = (21 : Int32)
    · rw [if_pos c21]
      obtain ⟨r, e1, e2⟩ := op_firsts hC fu (by omega) v_m_thrown
      rw [e1, zb1_r, e2, zb2_r, if_pos rfl, e5]
      exact ih (q + 5) _ _ _ _ _ _ _ _ _ _ _ _ _ _ _ _ _ _ _ _ _ _ _ _ _ _ _ _ _ _ _ _ _ _ _ _ _ _ _ _ _ _ _ _ _ _ _ _ _ _ _ _ _ _ _ _ _ _ _ _ _ _ _ _ _ _ _ _ _ _ _ _ _ _ _ _ _ _ (by omega) hT hL hI0 hI1 hO hS hC hE
    rw [if_neg c21]
    by_cases c22 : (xs (nI q).toNatClampNeg &&& (31 : Int32)) = (22 : Int32)
    · rw [if_pos c22]
      obtain ⟨r, e1, e2, hC⟩ := op_burn hC v_m_thrown
      rw [e1, zb2_r, e2, zb3_r, if_pos rfl, e5]
      exact ih (q + 5) _ _ _ _ _ _ _ _ _ _ _ _ _ _ _ _ _ _ _ _ _ _ _ _ _ _ _ _ _ _ _ _ _ _ _ _ _ _ _ _ _ _ _ _ _ _ _ _ _ _ _ _ _ _ _ _ _ _ _ _ _ _ _ _ _ _ _ _ _ _ _ _ _ _ _ _ _ _ (by omega) hT hL hI0 hI1 hO hS hC hE
    rw [if_neg c22]
    by_cases c23 : (xs (nI q).toNatClampNeg &&& (31 : Int32)) = (23 : Int32)
    · rw [if_pos c23, if_pos z1, if_pos z2]
      subst hE
      obtain ⟨r, t1, e1, e2⟩ := op_rate hO fu (by omega) v_m_thrown (xs ((nI q + (1 : Int32))).toNatClampNeg) (xs ((nI q + (2 : Int32))).toNatClampNeg) v_x_traced
      rw [e1, zb2_r, e2, zb3_r, if_pos rfl, e5]
      exact ih (q + 5) _ _ _ _ _ _ _ _ _ _ _ _ _ _ _ _ _ _ _ _ _ _ _ _ _ _ _ _ _ _ _ _ _ _ _ _ _ _ _ _ _ _ _ _ _ _ _ _ _ _ _ _ _ _ _ _ _ _ _ _ _ _ _ _ _ _ _ _ _ _ _ _ _ _ _ _ _ _ (by omega) hT hL hI0 hI1 hO hS hC rfl
    rw [if_neg c23]
    by_cases c24 : (xs (nI q).toNatClampNeg &&& (31 : Int32)) = (24 : Int32)
    · rw [if_pos c24, if_pos z1]
      obtain ⟨r, t1, t2, t3, t4, t5, t6, t7, t8, t9, t10, t11, t12, e1, e2, hI0, hI1⟩ := op_keep hL hI0 hI1 fu (by omega) v_m_thrown (xs ((nI q + (1 : Int32))).toNatClampNeg)
      rw [e1, zb11_r, e2, zb4_r, if_pos rfl, e5]
      exact ih (q + 5) _ _ _ _ _ _ _ _ _ _ _ _ _ _ _ _ _ _ _ _ _ _ _ _ _ _ _ _ _ _ _ _ _ _ _ _ _ _ _ _ _ _ _ _ _ _ _ _ _ _ _ _ _ _ _ _ _ _ _ _ _ _ _ _ _ _ _ _ _ _ _ _ _ _ _ _ _ _ (by omega) hT hL hI0 hI1 hO hS hC hE
    rw [if_neg c24]
    by_cases c25 : (xs (nI q).toNatClampNeg &&& (31 : Int32)) = (25 : Int32)
    · rw [if_pos c25, if_pos z1]
      obtain ⟨r, n2, t1, t2, t3, t4, t5, t6, e1, e2, hL⟩ := op_back hL hI0 hI1 fu (by omega) v_m_thrown (xs ((nI q + (1 : Int32))).toNatClampNeg)
      rw [e1, zb6_r, e2, zb3_r, if_pos rfl, e5]
      exact ih (q + 5) _ _ _ _ _ _ _ _ _ _ _ _ _ _ _ _ _ _ _ _ _ _ _ _ _ _ _ _ _ _ _ _ _ _ _ _ _ _ _ _ _ _ _ _ _ _ _ _ _ _ _ _ _ _ _ _ _ _ _ _ _ _ _ _ _ _ _ _ _ _ _ _ _ _ _ _ _ _ (by omega) hT hL hI0 hI1 hO hS hC hE
    rw [if_neg c25]
    by_cases c26 : (xs (nI q).toNatClampNeg &&& (31 : Int32)) = (26 : Int32)
    · rw [if_pos c26, if_pos z1]
      obtain ⟨r, e1, e2⟩ := op_count hT hL hS hC hO v_m_thrown (xs ((nI q + (1 : Int32))).toNatClampNeg)
      rw [e1, zb1_r, e2, zb2_r, if_pos rfl, e5]
      exact ih (q + 5) _ _ _ _ _ _ _ _ _ _ _ _ _ _ _ _ _ _ _ _ _ _ _ _ _ _ _ _ _ _ _ _ _ _ _ _ _ _ _ _ _ _ _ _ _ _ _ _ _ _ _ _ _ _ _ _ _ _ _ _ _ _ _ _ _ _ _ _ _ _ _ _ _ _ _ _ _ _ (by omega) hT hL hI0 hI1 hO hS hC hE
    rw [if_neg c26]
    by_cases c27 : (xs (nI q).toNatClampNeg &&& (31 : Int32)) = (27 : Int32)
    · rw [if_pos c27]
      rw [fX7_trace, fX8_trace, zb1_r, zb2_r, hE, q_self, if_pos rfl, e5]
      exact ih (q + 5) _ _ _ _ _ _ _ _ _ _ _ _ _ _ _ _ _ _ _ _ _ _ _ _ _ _ _ _ _ _ _ _ _ _ _ _ _ _ _ _ _ _ _ _ _ _ _ _ _ _ _ _ _ _ _ _ _ _ _ _ _ _ _ _ _ _ _ _ _ _ _ _ _ _ _ _ _ _ (by omega) hT hL hI0 hI1 hO hS hC rfl
    rw [if_neg c27]
    rw [e5]
    exact ih (q + 5) _ _ _ _ _ _ _ _ _ _ _ _ _ _ _ _ _ _ _ _ _ _ _ _ _ _ _ _ _ _ _ _ _ _ _ _ _ _ _ _ _ _ _ _ _ _ _ _ _ _ _ _ _ _ _ _ _ _ _ _ _ _ _ _ _ _ _ _ _ _ _ _ _ _ _ _ _ _ (by omega) hT hL hI0 hI1 hO hS hC hE
