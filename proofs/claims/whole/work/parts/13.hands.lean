abbrev w_X7_type (G : zG) (a : Nat) (a_text : Nat) (a_text_bytes : Nat) (a_letter : Nat) (a_images : Nat) (a_samples : Nat) (a_copies : Nat) (a_orders : Nat) (a_office : Nat) (a_draft : Nat) (r_office : Nat) (r_draft : Nat) (v_traced : Int64) (v_text_length : Int32) (v_text_next : Int32) (v_text_start : Int32) (v_text_number : Int32) (f_text_bytes : (Nat → Int32)) : va_W := [(a, .inr (7, [.ref a_text, .ref a_letter, .ref a_images, .ref a_samples, .ref a_copies, .ref a_orders, .ref r_office, .ref r_draft, .long v_traced])), (a_text, .inr (6, [.ref a_text_bytes, .int v_text_length, .int v_text_next, .int v_text_start, .int v_text_number])), (a_text_bytes, .inl (zCB G, 200, .inl f_text_bytes))]
theorem in_X7_type_X6 : ∀ w ∈ wsX60, w ∈ wsX7_type := by decide +kernel
theorem in_X7_type_X7 : ∀ w ∈ wsX70, w ∈ wsX7_type := by decide +kernel
set_option maxHeartbeats 4000000 in
set_option maxRecDepth 100000 in
theorem c_X7_type (l : Launch) (G : zG) (fu : Nat) (a : Nat) (a_text : Nat) (a_text_bytes : Nat) (a_letter : Nat) (a_images : Nat) (a_samples : Nat) (a_copies : Nat) (a_orders : Nat) (a_office : Nat) (a_draft : Nat) (v_traced : Int64) (v_text_length : Int32) (v_text_next : Int32) (v_text_start : Int32) (v_text_number : Int32) (f_text_bytes : (Nat → Int32)) (x1 : Int64) (x2 : Int32) (rv : Int32) (ov_text_length : Int32) (of_text_bytes : (Nat → Int32)) (h : fX7_type fu v_text_length f_text_bytes x1 x2 = some (rv, ov_text_length, of_text_bytes)) : zC l yX7_type wsX7_type 1 24 G [.ref a, .long x1, .int x2] (w_X7_type G a a_text a_text_bytes a_letter a_images a_samples a_copies a_orders a_office a_draft a_office a_draft v_traced v_text_length v_text_next v_text_start v_text_number f_text_bytes) (some (.int rv)) (w_X7_type G a a_text a_text_bytes a_letter a_images a_samples a_copies a_orders a_office a_draft a_office a_draft v_traced ov_text_length v_text_next v_text_start v_text_number of_text_bytes) := by
  refine fun sz => Met.ofW (cc := cX7_type) (maxL := 4) (ret := (some .int)) (by decide) rfl ?_
  intro p e s m args below meth c s₁ B hml hv
  obtain ⟨rfl, hsz, hP, hK, hD0, hE⟩ := hv
  have hx := B.exec
  have hb := B.bytes
  have hr := B.returns
  have hts := atoms_spec (ws := wsX7_type) B.pre
  have hown : s.vm.findClass RX7 = some m.cls := findClass_of_methodNamed B.named
  have hlocks := B.notSynchronized
  subst hsz
  have hD := hD0.self (sz := s.heap.size)
  generalize hAe : va_A (w_X7_type G a a_text a_text_bytes a_letter a_images a_samples a_copies a_orders a_office a_draft a_office a_draft v_traced v_text_length v_text_next v_text_start v_text_number f_text_bytes) s.heap.size = A at hD hE ⊢
  have hA : ∀ q : Nat, s.heap.size ≤ q → A q := fun q h => by rw [← hAe]; exact Or.inr h
  have hS : va_S A s.heap s.heap [] := va_S.rf
  have hl := lv_entry ([.ref a, .long x1, .int x2]) (n := 4) (Nat.le_of_ble_eq_true rfl)
  rw [lg_entry_eq]
  generalize (lg_sl ([.ref a, .long x1, .int x2]) ++ List.replicate (4 - (lg_sl ([.ref a, .long x1, .int x2])).length) Slot.unset).toArray = ls at hl ⊢
  have hl : lv_has ls 4 [(0, .ref a), (1, .long x1), (3, .int x2)] := hl
  have hP : va_P G.1 vwCl (w_X7_type G a a_text a_text_bytes a_letter a_images a_samples a_copies a_orders a_office a_draft a_office a_draft v_traced v_text_length v_text_next v_text_start v_text_number f_text_bytes) s.heap := hP
  rw [fX7_type] at h
  refine lv_iload_n hx hb dX7_type_0 rfl (lv_at hl 2 rfl) ?_
  refine lv_iconst (v := (1 : Int32)) hx hb dX7_type_1 (by decide) ?_
  refine lv_icmp_lt (tgt := 11) hx hb dX7_type_2 (by decide) (fun c2 => ?_) (fun c2 => ?_)
  · have h := zt c2 h
    refine lv_iconst (v := ((-1) : Int32)) hx hb dX7_type_11 (by decide) ?_
    cases h
    exact W.iret hx hb hr (fun t9 ht9 _ => zend hP hD hS ht9) hS.2.2 dX7_type_12
  · have h := zf c2 h
    refine lv_iload_n hx hb dX7_type_5 rfl (lv_at hl 2 rfl) ?_
    refine lv_bipush (v := (8 : Int32)) hx hb dX7_type_6 (by decide) ?_
    refine lv_icmp_le (tgt := 13) hx hb dX7_type_8 (by decide) (fun c8 => ?_) (fun c8 => ?_)
    · have h := zt c8 h
      refine lv_iload_n hx hb dX7_type_13 rfl (lv_at hl 2 rfl) ?_
      refine lv_sipush (v := (200 : Int32)) hx hb dX7_type_14 (by decide) ?_
      refine lv_aload_n hx hb dX7_type_17 rfl (lv_at hl 0 rfl) ?_
      refine va_get (D := G.1) (ci := 7) (v := .ref a_text) (C := RX7) (T := TX7) (N := 9) hx hb hts in_X7_type_X7 hown hK.1 hP 0 rfl rfl 0 (by decide) (hts (.fieldLink RX7 10 "NineHands" "text" "LNineHands$Text;") (by decide +kernel)) (fun _ h9 => h9) rfl dX7_type_18 ?_
      refine va_getN (D := G.1) (ci := 6) (v := .int v_text_length) (C := RX6) (T := TX6) (N := 5) hx hb hts in_X7_type_X6 hown hK.1 hP 1 rfl rfl 1 (by decide) (va_Nw.use rfl (hK.2.1.1 ("NineHands", 73, "NineHands$Text", "length", "I", "NineHands") (by decide +kernel))) (fun _ h9 => h9) rfl dX7_type_21 ?_
      refine lv_isub hx hb dX7_type_24 ?_
      refine lv_icmp_le (tgt := 31) hx hb dX7_type_25 (by decide) (fun c25 => ?_) (fun c25 => ?_)
      · have h := zt c25 h
        refine lv_aload_n hx hb dX7_type_31 rfl (lv_at hl 0 rfl) ?_
        refine va_get (D := G.1) (ci := 7) (v := .ref a_text) (C := RX7) (T := TX7) (N := 9) hx hb hts in_X7_type_X7 hown hK.1 hP 0 rfl rfl 0 (by decide) (hts (.fieldLink RX7 10 "NineHands" "text" "LNineHands$Text;") (by decide +kernel)) (fun _ h9 => h9) rfl dX7_type_32 ?_
        refine lv_lload_n hx hb dX7_type_35 rfl (lv_at hl 1 rfl) ?_
        refine lv_iload_n hx hb dX7_type_36 rfl (lv_at hl 2 rfl) ?_
        obtain ⟨y37_v_length, y37_f_bytes, hc37, h⟩ := zb2_e h
        refine zcV (As := [.long x1, .int x2]) (rest := []) (ws' := (w_X7_type G a a_text a_text_bytes a_letter a_images a_samples a_copies a_orders a_office a_draft a_office a_draft v_traced y37_v_length v_text_next v_text_start v_text_number y37_f_bytes)) (st1 := []) ⟨hx, hb, hml, hown, hts⟩ (c_X6_append l G fu a_text a_text_bytes v_text_length v_text_next v_text_start v_text_number f_text_bytes x1 x2 y37_v_length y37_f_bytes hc37) (cwV 2 hts gX7_type_X6_append rfl rfl rfl (by decide +kernel) ⟨Nat.le_of_ble_eq_true rfl, Nat.le_of_ble_eq_true rfl⟩) hK hE hP hD hS hA [1, 2] rfl rfl 0 6 rfl rfl rfl rfl rfl rfl hl.1 rfl (Nat.le_of_ble_eq_true rfl) dX7_type_37 (Nat.zero_le _) (Nat.zero_le _) rfl (fun H locs hP hD hS => ?_)
        refine lv_aload_n hx hb dX7_type_40 rfl (lv_at hl 0 rfl) ?_
        refine va_get (D := G.1) (ci := 7) (v := .ref a_text) (C := RX7) (T := TX7) (N := 9) hx hb hts in_X7_type_X7 hown hK.1 hP 0 rfl rfl 0 (by decide) (hts (.fieldLink RX7 10 "NineHands" "text" "LNineHands$Text;") (by decide +kernel)) (fun _ h9 => h9) rfl dX7_type_41 ?_
        refine va_getN (D := G.1) (ci := 6) (v := .int y37_v_length) (C := RX6) (T := TX6) (N := 5) hx hb hts in_X7_type_X6 hown hK.1 hP 1 rfl rfl 1 (by decide) (va_Nw.use rfl (hK.2.1.1 ("NineHands", 73, "NineHands$Text", "length", "I", "NineHands") (by decide +kernel))) (fun _ h9 => h9) rfl dX7_type_44 ?_
        cases h
        exact W.iret hx hb hr (fun t9 ht9 _ => zend hP hD hS ht9) hS.2.2 dX7_type_47
      · have h := zf c25 h
        refine lv_bipush (v := ((-3) : Int32)) hx hb dX7_type_28 (by decide) ?_
        cases h
        exact W.iret hx hb hr (fun t9 ht9 _ => zend hP hD hS ht9) hS.2.2 dX7_type_30
    · have h := zf c8 h
      refine lv_iconst (v := ((-1) : Int32)) hx hb dX7_type_11 (by decide) ?_
      cases h
      exact W.iret hx hb hr (fun t9 ht9 _ => zend hP hD hS ht9) hS.2.2 dX7_type_12
abbrev w_X7_clear (G : zG) (a : Nat) (a_text : Nat) (a_text_bytes : Nat) (a_letter : Nat) (a_images : Nat) (a_samples : Nat) (a_copies : Nat) (a_orders : Nat) (a_office : Nat) (a_draft : Nat) (r_office : Nat) (r_draft : Nat) (v_traced : Int64) (v_text_length : Int32) (v_text_next : Int32) (v_text_start : Int32) (v_text_number : Int32) : va_W := [(a, .inr (7, [.ref a_text, .ref a_letter, .ref a_images, .ref a_samples, .ref a_copies, .ref a_orders, .ref r_office, .ref r_draft, .long v_traced])), (a_text, .inr (6, [.ref a_text_bytes, .int v_text_length, .int v_text_next, .int v_text_start, .int v_text_number]))]
theorem in_X7_clear_X6 : ∀ w ∈ wsX60, w ∈ wsX7_clear := by decide +kernel
theorem in_X7_clear_X7 : ∀ w ∈ wsX70, w ∈ wsX7_clear := by decide +kernel
set_option maxHeartbeats 4000000 in
set_option maxRecDepth 100000 in
theorem c_X7_clear (l : Launch) (G : zG) (a : Nat) (a_text : Nat) (a_text_bytes : Nat) (a_letter : Nat) (a_images : Nat) (a_samples : Nat) (a_copies : Nat) (a_orders : Nat) (a_office : Nat) (a_draft : Nat) (v_traced : Int64) (v_text_length : Int32) (v_text_next : Int32) (v_text_start : Int32) (v_text_number : Int32) (rv : Int32) (ov_text_length : Int32) (h : fX7_clear v_text_length = some (rv, ov_text_length)) : zC l yX7_clear wsX7_clear 0 0 G [.ref a] (w_X7_clear G a a_text a_text_bytes a_letter a_images a_samples a_copies a_orders a_office a_draft a_office a_draft v_traced v_text_length v_text_next v_text_start v_text_number) (some (.int rv)) (w_X7_clear G a a_text a_text_bytes a_letter a_images a_samples a_copies a_orders a_office a_draft a_office a_draft v_traced ov_text_length v_text_next v_text_start v_text_number) := by
  refine fun sz => Met.ofW (cc := cX7_clear) (maxL := 2) (ret := (some .int)) (by decide) rfl ?_
  intro p e s m args below meth c s₁ B hml hv
  obtain ⟨rfl, hsz, hP, hK, hD0, hE⟩ := hv
  have hx := B.exec
  have hb := B.bytes
  have hr := B.returns
  have hts := atoms_spec (ws := wsX7_clear) B.pre
  have hown : s.vm.findClass RX7 = some m.cls := findClass_of_methodNamed B.named
  have hlocks := B.notSynchronized
  subst hsz
  have hD := hD0.self (sz := s.heap.size)
  generalize hAe : va_A (w_X7_clear G a a_text a_text_bytes a_letter a_images a_samples a_copies a_orders a_office a_draft a_office a_draft v_traced v_text_length v_text_next v_text_start v_text_number) s.heap.size = A at hD hE ⊢
  have hA : ∀ q : Nat, s.heap.size ≤ q → A q := fun q h => by rw [← hAe]; exact Or.inr h
  have hS : va_S A s.heap s.heap [] := va_S.rf
  have hl := lv_entry ([.ref a]) (n := 2) (Nat.le_of_ble_eq_true rfl)
  rw [lg_entry_eq]
  generalize (lg_sl ([.ref a]) ++ List.replicate (2 - (lg_sl ([.ref a])).length) Slot.unset).toArray = ls at hl ⊢
  have hl : lv_has ls 2 [(0, .ref a)] := hl
  have hP : va_P G.1 vwCl (w_X7_clear G a a_text a_text_bytes a_letter a_images a_samples a_copies a_orders a_office a_draft a_office a_draft v_traced v_text_length v_text_next v_text_start v_text_number) s.heap := hP
  rw [fX7_clear] at h
  refine lv_aload_n hx hb dX7_clear_0 rfl (lv_at hl 0 rfl) ?_
  refine va_get (D := G.1) (ci := 7) (v := .ref a_text) (C := RX7) (T := TX7) (N := 9) hx hb hts in_X7_clear_X7 hown hK.1 hP 0 rfl rfl 0 (by decide) (hts (.fieldLink RX7 10 "NineHands" "text" "LNineHands$Text;") (by decide +kernel)) (fun _ h9 => h9) rfl dX7_clear_1 ?_
  refine va_getN (D := G.1) (ci := 6) (v := .int v_text_length) (C := RX6) (T := TX6) (N := 5) hx hb hts in_X7_clear_X6 hown hK.1 hP 1 rfl rfl 1 (by decide) (va_Nw.use rfl (hK.2.1.1 ("NineHands", 73, "NineHands$Text", "length", "I", "NineHands") (by decide +kernel))) (fun _ h9 => h9) rfl dX7_clear_4 ?_
  refine lv_istore_n (lv' := [(1, .int v_text_length), (0, .ref a)]) hx hb dX7_clear_7 rfl hl (by decide) rfl (fun ls hl => ?_)
  refine lv_aload_n hx hb dX7_clear_8 rfl (lv_at hl 1 rfl) ?_
  refine va_get (D := G.1) (ci := 7) (v := .ref a_text) (C := RX7) (T := TX7) (N := 9) hx hb hts in_X7_clear_X7 hown hK.1 hP 0 rfl rfl 0 (by decide) (hts (.fieldLink RX7 10 "NineHands" "text" "LNineHands$Text;") (by decide +kernel)) (fun _ h9 => h9) rfl dX7_clear_9 ?_
  refine lv_iconst (v := (0 : Int32)) hx hb dX7_clear_12 (by decide) ?_
  refine zputN (D := G.1) (ci := 6) (C := RX6) (T := TX6) (N := 5) (ty := .int) (ws' := (w_X7_clear G a a_text a_text_bytes a_letter a_images a_samples a_copies a_orders a_office a_draft a_office a_draft v_traced (0 : Int32) v_text_next v_text_start v_text_number)) hx hb hts in_X7_clear_X6 tyX6 tyX6_ok nmX6 hown hK.1 hP hD hS 1 rfl rfl 1 (by decide) (va_Nw.use rfl (hK.2.1.1 ("NineHands", 73, "NineHands$Text", "length", "I", "NineHands") (by decide +kernel))) (fun _ h9 => h9) rfl (by decide +kernel) rfl rfl (Nat.le_of_ble_eq_true rfl) rfl dX7_clear_13 (fun H locs hP hD hS => ?_)
  refine lv_iload_n hx hb dX7_clear_16 rfl (lv_at hl 0 rfl) ?_
  cases h
  exact W.iret hx hb hr (fun t9 ht9 _ => zend hP hD hS ht9) hS.2.2 dX7_clear_17
abbrev w_X7_beginAnew (G : zG) (a : Nat) (a_text : Nat) (a_text_bytes : Nat) (a_letter : Nat) (a_letter_tones : Nat) (a_letter_marks : Nat) (a_letter_writers : Nat) (a_images : Nat) (a_images0 : Nat) (a_images0_tones : Nat) (a_images0_marks : Nat) (a_images0_writers : Nat) (a_images1 : Nat) (a_images1_tones : Nat) (a_images1_marks : Nat) (a_images1_writers : Nat) (a_samples : Nat) (a_samples_tones : Nat) (a_samples_marks : Nat) (a_samples_thenTones : Nat) (a_samples_thenMarks : Nat) (a_copies : Nat) (a_copies_slips : Nat) (a_orders : Nat) (a_office : Nat) (a_office_clerks : Nat) (a_draft : Nat) (r_office : Nat) (r_draft : Nat) (v_traced : Int64) (v_text_length : Int32) (v_text_next : Int32) (v_text_start : Int32) (v_text_number : Int32) (v_letter_lines : Int32) (v_letter_luck : Int32) (f_letter_tones : (Nat → Int32)) (f_letter_marks : (Nat → Int32)) (f_letter_writers : (Nat → Int32)) (v_images0_lines : Int32) (v_images0_luck : Int32) (v_images1_lines : Int32) (v_images1_luck : Int32) (v_samples_count : Int32) (v_copies_count : Int32) (v_office_count : Int32) (v_office_letterTold : Int32) (v_office_firstTone : Int32) (v_office_firstMarks : Int32) : va_W := [(a, .inr (7, [.ref a_text, .ref a_letter, .ref a_images, .ref a_samples, .ref a_copies, .ref a_orders, .ref r_office, .ref r_draft, .long v_traced])), (a_text, .inr (6, [.ref a_text_bytes, .int v_text_length, .int v_text_next, .int v_text_start, .int v_text_number])), (a_letter, .inr (2, [.ref a_letter_tones, .ref a_letter_marks, .ref a_letter_writers, .int v_letter_lines, .int v_letter_luck])), (a_letter_tones, .inl (zCI G, 10, .inl f_letter_tones)), (a_letter_marks, .inl (zCI G, 10, .inl f_letter_marks)), (a_letter_writers, .inl (zCI G, 10, .inl f_letter_writers)), (a_images, .inl (zCL G, 2, .inr (.inr (.inr (.inr (zim a_images0 a_images1)))))), (a_images0, .inr (2, [.ref a_images0_tones, .ref a_images0_marks, .ref a_images0_writers, .int v_images0_lines, .int v_images0_luck])), (a_images1, .inr (2, [.ref a_images1_tones, .ref a_images1_marks, .ref a_images1_writers, .int v_images1_lines, .int v_images1_luck])), (a_samples, .inr (5, [.ref a_samples_tones, .ref a_samples_marks, .ref a_samples_thenTones, .ref a_samples_thenMarks, .int v_samples_count])), (a_copies, .inr (1, [.ref a_copies_slips, .int v_copies_count])), (a_office, .inr (3, [.ref a_office_clerks, .int v_office_count, .int v_office_letterTold, .int v_office_firstTone, .int v_office_firstMarks]))]
theorem in_X7_beginAnew_X1 : ∀ w ∈ wsX10, w ∈ wsX7_beginAnew := by decide +kernel
theorem in_X7_beginAnew_X2 : ∀ w ∈ wsX20, w ∈ wsX7_beginAnew := by decide +kernel
theorem in_X7_beginAnew_X3 : ∀ w ∈ wsX30, w ∈ wsX7_beginAnew := by decide +kernel
theorem in_X7_beginAnew_X5 : ∀ w ∈ wsX50, w ∈ wsX7_beginAnew := by decide +kernel
theorem in_X7_beginAnew_X6 : ∀ w ∈ wsX60, w ∈ wsX7_beginAnew := by decide +kernel
theorem in_X7_beginAnew_X7 : ∀ w ∈ wsX70, w ∈ wsX7_beginAnew := by decide +kernel
set_option maxHeartbeats 4000000 in
set_option maxRecDepth 100000 in
theorem c_X7_beginAnew (l : Launch) (G : zG) (fu : Nat) (a : Nat) (a_text : Nat) (a_text_bytes : Nat) (a_letter : Nat) (a_letter_tones : Nat) (a_letter_marks : Nat) (a_letter_writers : Nat) (a_images : Nat) (a_images0 : Nat) (a_images0_tones : Nat) (a_images0_marks : Nat) (a_images0_writers : Nat) (a_images1 : Nat) (a_images1_tones : Nat) (a_images1_marks : Nat) (a_images1_writers : Nat) (a_samples : Nat) (a_samples_tones : Nat) (a_samples_marks : Nat) (a_samples_thenTones : Nat) (a_samples_thenMarks : Nat) (a_copies : Nat) (a_copies_slips : Nat) (a_orders : Nat) (a_office : Nat) (a_office_clerks : Nat) (a_draft : Nat) (v_traced : Int64) (v_text_length : Int32) (v_text_next : Int32) (v_text_start : Int32) (v_text_number : Int32) (v_letter_lines : Int32) (v_letter_luck : Int32) (f_letter_tones : (Nat → Int32)) (f_letter_marks : (Nat → Int32)) (f_letter_writers : (Nat → Int32)) (v_images0_lines : Int32) (v_images0_luck : Int32) (v_images1_lines : Int32) (v_images1_luck : Int32) (v_samples_count : Int32) (v_copies_count : Int32) (v_office_count : Int32) (v_office_letterTold : Int32) (v_office_firstTone : Int32) (v_office_firstMarks : Int32) (ov_text_length : Int32) (ov_letter_lines : Int32) (of_letter_tones : (Nat → Int32)) (of_letter_marks : (Nat → Int32)) (of_letter_writers : (Nat → Int32)) (ov_images0_lines : Int32) (ov_images1_lines : Int32) (ov_samples_count : Int32) (ov_copies_count : Int32) (h : fX7_beginAnew fu v_text_length v_letter_lines f_letter_tones f_letter_marks f_letter_writers v_images0_lines v_images1_lines v_samples_count v_copies_count v_office_firstTone v_office_firstMarks = some (ov_text_length, ov_letter_lines, of_letter_tones, of_letter_marks, of_letter_writers, ov_images0_lines, ov_images1_lines, ov_samples_count, ov_copies_count)) : zC l yX7_beginAnew wsX7_beginAnew 3 65 G [.ref a] (w_X7_beginAnew G a a_text a_text_bytes a_letter a_letter_tones a_letter_marks a_letter_writers a_images a_images0 a_images0_tones a_images0_marks a_images0_writers a_images1 a_images1_tones a_images1_marks a_images1_writers a_samples a_samples_tones a_samples_marks a_samples_thenTones a_samples_thenMarks a_copies a_copies_slips a_orders a_office a_office_clerks a_draft a_office a_draft v_traced v_text_length v_text_next v_text_start v_text_number v_letter_lines v_letter_luck f_letter_tones f_letter_marks f_letter_writers v_images0_lines v_images0_luck v_images1_lines v_images1_luck v_samples_count v_copies_count v_office_count v_office_letterTold v_office_firstTone v_office_firstMarks) none (w_X7_beginAnew G a a_text a_text_bytes a_letter a_letter_tones a_letter_marks a_letter_writers a_images a_images0 a_images0_tones a_images0_marks a_images0_writers a_images1 a_images1_tones a_images1_marks a_images1_writers a_samples a_samples_tones a_samples_marks a_samples_thenTones a_samples_thenMarks a_copies a_copies_slips a_orders a_office a_office_clerks a_draft a_office a_draft v_traced ov_text_length v_text_next v_text_start v_text_number ov_letter_lines v_letter_luck of_letter_tones of_letter_marks of_letter_writers ov_images0_lines v_images0_luck ov_images1_lines v_images1_luck ov_samples_count ov_copies_count v_office_count v_office_letterTold v_office_firstTone v_office_firstMarks) := by
  refine fun sz => Met.ofW (cc := cX7_beginAnew) (maxL := 2) (ret := none) (by decide) rfl ?_
  intro p e s m args below meth c s₁ B hml hv
  obtain ⟨rfl, hsz, hP, hK, hD0, hE⟩ := hv
  have hx := B.exec
  have hb := B.bytes
  have hr := B.returns
  have hts := atoms_spec (ws := wsX7_beginAnew) B.pre
  have hown : s.vm.findClass RX7 = some m.cls := findClass_of_methodNamed B.named
  have hlocks := B.notSynchronized
  subst hsz
  have hD := hD0.self (sz := s.heap.size)
  generalize hAe : va_A (w_X7_beginAnew G a a_text a_text_bytes a_letter a_letter_tones a_letter_marks a_letter_writers a_images a_images0 a_images0_tones a_images0_marks a_images0_writers a_images1 a_images1_tones a_images1_marks a_images1_writers a_samples a_samples_tones a_samples_marks a_samples_thenTones a_samples_thenMarks a_copies a_copies_slips a_orders a_office a_office_clerks a_draft a_office a_draft v_traced v_text_length v_text_next v_text_start v_text_number v_letter_lines v_letter_luck f_letter_tones f_letter_marks f_letter_writers v_images0_lines v_images0_luck v_images1_lines v_images1_luck v_samples_count v_copies_count v_office_count v_office_letterTold v_office_firstTone v_office_firstMarks) s.heap.size = A at hD hE ⊢
  have hA : ∀ q : Nat, s.heap.size ≤ q → A q := fun q h => by rw [← hAe]; exact Or.inr h
  have hS : va_S A s.heap s.heap [] := va_S.rf
  have hl := lv_entry ([.ref a]) (n := 2) (Nat.le_of_ble_eq_true rfl)
  rw [lg_entry_eq]
  generalize (lg_sl ([.ref a]) ++ List.replicate (2 - (lg_sl ([.ref a])).length) Slot.unset).toArray = ls at hl ⊢
  have hl : lv_has ls 2 [(0, .ref a)] := hl
  have hP : va_P G.1 vwCl (w_X7_beginAnew G a a_text a_text_bytes a_letter a_letter_tones a_letter_marks a_letter_writers a_images a_images0 a_images0_tones a_images0_marks a_images0_writers a_images1 a_images1_tones a_images1_marks a_images1_writers a_samples a_samples_tones a_samples_marks a_samples_thenTones a_samples_thenMarks a_copies a_copies_slips a_orders a_office a_office_clerks a_draft a_office a_draft v_traced v_text_length v_text_next v_text_start v_text_number v_letter_lines v_letter_luck f_letter_tones f_letter_marks f_letter_writers v_images0_lines v_images0_luck v_images1_lines v_images1_luck v_samples_count v_copies_count v_office_count v_office_letterTold v_office_firstTone v_office_firstMarks) s.heap := hP
  rw [fX7_beginAnew] at h
  refine lv_aload_n hx hb dX7_beginAnew_0 rfl (lv_at hl 0 rfl) ?_
  refine va_get (D := G.1) (ci := 7) (v := .ref a_text) (C := RX7) (T := TX7) (N := 9) hx hb hts in_X7_beginAnew_X7 hown hK.1 hP 0 rfl rfl 0 (by decide) (hts (.fieldLink RX7 10 "NineHands" "text" "LNineHands$Text;") (by decide +kernel)) (fun _ h9 => h9) rfl dX7_beginAnew_1 ?_
  refine lv_iconst (v := (0 : Int32)) hx hb dX7_beginAnew_4 (by decide) ?_
  refine zputN (D := G.1) (ci := 6) (C := RX6) (T := TX6) (N := 5) (ty := .int) (ws' := (w_X7_beginAnew G a a_text a_text_bytes a_letter a_letter_tones a_letter_marks a_letter_writers a_images a_images0 a_images0_tones a_images0_marks a_images0_writers a_images1 a_images1_tones a_images1_marks a_images1_writers a_samples a_samples_tones a_samples_marks a_samples_thenTones a_samples_thenMarks a_copies a_copies_slips a_orders a_office a_office_clerks a_draft a_office a_draft v_traced (0 : Int32) v_text_next v_text_start v_text_number v_letter_lines v_letter_luck f_letter_tones f_letter_marks f_letter_writers v_images0_lines v_images0_luck v_images1_lines v_images1_luck v_samples_count v_copies_count v_office_count v_office_letterTold v_office_firstTone v_office_firstMarks)) hx hb hts in_X7_beginAnew_X6 tyX6 tyX6_ok nmX6 hown hK.1 hP hD hS 1 rfl rfl 1 (by decide) (va_Nw.use rfl (hK.2.1.1 ("NineHands", 73, "NineHands$Text", "length", "I", "NineHands") (by decide +kernel))) (fun _ h9 => h9) rfl (by decide +kernel) rfl rfl (Nat.le_of_ble_eq_true rfl) rfl dX7_beginAnew_5 (fun H locs hP hD hS => ?_)
  refine lv_aload_n hx hb dX7_beginAnew_8 rfl (lv_at hl 0 rfl) ?_
  refine va_get (D := G.1) (ci := 7) (v := .ref a_letter) (C := RX7) (T := TX7) (N := 9) hx hb hts in_X7_beginAnew_X7 hown hK.1 hP 0 rfl rfl 1 (by decide) (hts (.fieldLink RX7 19 "NineHands" "letter" "LNineHands$Letter;") (by decide +kernel)) (fun _ h9 => h9) rfl dX7_beginAnew_9 ?_
  refine lv_aload_n hx hb dX7_beginAnew_12 rfl (lv_at hl 0 rfl) ?_
  refine va_get (D := G.1) (ci := 7) (v := .ref a_office) (C := RX7) (T := TX7) (N := 9) hx hb hts in_X7_beginAnew_X7 hown hK.1 hP 0 rfl rfl 6 (by decide) (hts (.fieldLink RX7 51 "NineHands" "office" "LNineHands$Office;") (by decide +kernel)) (fun _ h9 => h9) rfl dX7_beginAnew_13 ?_
  refine va_getN (D := G.1) (ci := 3) (v := .int v_office_firstTone) (C := RX3) (T := TX3) (N := 5) hx hb hts in_X7_beginAnew_X3 hown hK.1 hP 11 rfl rfl 3 (by decide) (va_Nw.use rfl (hK.2.1.1 ("NineHands", 62, "NineHands$Office", "firstTone", "I", "NineHands") (by decide +kernel))) (fun _ h9 => h9) rfl dX7_beginAnew_16 ?_
  refine lv_aload_n hx hb dX7_beginAnew_19 rfl (lv_at hl 0 rfl) ?_
  refine va_get (D := G.1) (ci := 7) (v := .ref a_office) (C := RX7) (T := TX7) (N := 9) hx hb hts in_X7_beginAnew_X7 hown hK.1 hP 0 rfl rfl 6 (by decide) (hts (.fieldLink RX7 51 "NineHands" "office" "LNineHands$Office;") (by decide +kernel)) (fun _ h9 => h9) rfl dX7_beginAnew_20 ?_
  refine va_getN (D := G.1) (ci := 3) (v := .int v_office_firstMarks) (C := RX3) (T := TX3) (N := 5) hx hb hts in_X7_beginAnew_X3 hown hK.1 hP 11 rfl rfl 4 (by decide) (va_Nw.use rfl (hK.2.1.1 ("NineHands", 66, "NineHands$Office", "firstMarks", "I", "NineHands") (by decide +kernel))) (fun _ h9 => h9) rfl dX7_beginAnew_23 ?_
  obtain ⟨y26_v_lines, y26_f_tones, y26_f_marks, y26_f_writers, hc26, h⟩ := zb4_e h
  refine zcV (As := [.int v_office_firstTone, .int v_office_firstMarks]) (rest := []) (ws' := (w_X7_beginAnew G a a_text a_text_bytes a_letter a_letter_tones a_letter_marks a_letter_writers a_images a_images0 a_images0_tones a_images0_marks a_images0_writers a_images1 a_images1_tones a_images1_marks a_images1_writers a_samples a_samples_tones a_samples_marks a_samples_thenTones a_samples_thenMarks a_copies a_copies_slips a_orders a_office a_office_clerks a_draft a_office a_draft v_traced (0 : Int32) v_text_next v_text_start v_text_number y26_v_lines v_letter_luck y26_f_tones y26_f_marks y26_f_writers v_images0_lines v_images0_luck v_images1_lines v_images1_luck v_samples_count v_copies_count v_office_count v_office_letterTold v_office_firstTone v_office_firstMarks)) (st1 := []) ⟨hx, hb, hml, hown, hts⟩ (c_X2_begin l G a_letter a_letter_tones a_letter_marks a_letter_writers v_letter_lines v_letter_luck f_letter_tones f_letter_marks f_letter_writers v_office_firstTone v_office_firstMarks y26_v_lines y26_f_tones y26_f_marks y26_f_writers hc26) (cwV 2 hts gX7_beginAnew_X2_begin rfl rfl rfl (by decide +kernel) ⟨Nat.le_of_ble_eq_true rfl, Nat.le_of_ble_eq_true rfl⟩) hK hE hP hD hS hA [2, 3, 4, 5] rfl rfl 0 2 rfl rfl rfl rfl rfl rfl hl.1 rfl (Nat.le_of_ble_eq_true rfl) dX7_beginAnew_26 (Nat.zero_le _) (Nat.zero_le _) rfl (fun H locs hP hD hS => ?_)
  refine lv_aload_n hx hb dX7_beginAnew_29 rfl (lv_at hl 0 rfl) ?_
  refine va_get (D := G.1) (ci := 7) (v := .ref a_samples) (C := RX7) (T := TX7) (N := 9) hx hb hts in_X7_beginAnew_X7 hown hK.1 hP 0 rfl rfl 3 (by decide) (hts (.fieldLink RX7 30 "NineHands" "samples" "LNineHands$Samples;") (by decide +kernel)) (fun _ h9 => h9) rfl dX7_beginAnew_30 ?_
  refine lv_iconst (v := (0 : Int32)) hx hb dX7_beginAnew_33 (by decide) ?_
  refine zputN (D := G.1) (ci := 5) (C := RX5) (T := TX5) (N := 5) (ty := .int) (ws' := (w_X7_beginAnew G a a_text a_text_bytes a_letter a_letter_tones a_letter_marks a_letter_writers a_images a_images0 a_images0_tones a_images0_marks a_images0_writers a_images1 a_images1_tones a_images1_marks a_images1_writers a_samples a_samples_tones a_samples_marks a_samples_thenTones a_samples_thenMarks a_copies a_copies_slips a_orders a_office a_office_clerks a_draft a_office a_draft v_traced (0 : Int32) v_text_next v_text_start v_text_number y26_v_lines v_letter_luck y26_f_tones y26_f_marks y26_f_writers v_images0_lines v_images0_luck v_images1_lines v_images1_luck (0 : Int32) v_copies_count v_office_count v_office_letterTold v_office_firstTone v_office_firstMarks)) hx hb hts in_X7_beginAnew_X5 tyX5 tyX5_ok nmX5 hown hK.1 hP hD hS 9 rfl rfl 4 (by decide) (va_Nw.use rfl (hK.2.1.1 ("NineHands", 198, "NineHands$Samples", "count", "I", "NineHands") (by decide +kernel))) (fun _ h9 => h9) rfl (by decide +kernel) rfl rfl (Nat.le_of_ble_eq_true rfl) rfl dX7_beginAnew_34 (fun H locs hP hD hS => ?_)
  refine lv_aload_n hx hb dX7_beginAnew_37 rfl (lv_at hl 0 rfl) ?_
  refine va_get (D := G.1) (ci := 7) (v := .ref a_copies) (C := RX7) (T := TX7) (N := 9) hx hb hts in_X7_beginAnew_X7 hown hK.1 hP 0 rfl rfl 4 (by decide) (hts (.fieldLink RX7 37 "NineHands" "copies" "LNineHands$Copies;") (by decide +kernel)) (fun _ h9 => h9) rfl dX7_beginAnew_38 ?_
  refine lv_iconst (v := (0 : Int32)) hx hb dX7_beginAnew_41 (by decide) ?_
  refine zputN (D := G.1) (ci := 1) (C := RX1) (T := TX1) (N := 2) (ty := .int) (ws' := (w_X7_beginAnew G a a_text a_text_bytes a_letter a_letter_tones a_letter_marks a_letter_writers a_images a_images0 a_images0_tones a_images0_marks a_images0_writers a_images1 a_images1_tones a_images1_marks a_images1_writers a_samples a_samples_tones a_samples_marks a_samples_thenTones a_samples_thenMarks a_copies a_copies_slips a_orders a_office a_office_clerks a_draft a_office a_draft v_traced (0 : Int32) v_text_next v_text_start v_text_number y26_v_lines v_letter_luck y26_f_tones y26_f_marks y26_f_writers v_images0_lines v_images0_luck v_images1_lines v_images1_luck (0 : Int32) (0 : Int32) v_office_count v_office_letterTold v_office_firstTone v_office_firstMarks)) hx hb hts in_X7_beginAnew_X1 tyX1 tyX1_ok nmX1 hown hK.1 hP hD hS 10 rfl rfl 1 (by decide) (va_Nw.use rfl (hK.2.1.1 ("NineHands", 226, "NineHands$Copies", "count", "I", "NineHands") (by decide +kernel))) (fun _ h9 => h9) rfl (by decide +kernel) rfl rfl (Nat.le_of_ble_eq_true rfl) rfl dX7_beginAnew_42 (fun H locs hP hD hS => ?_)
  refine lv_iconst (v := (0 : Int32)) hx hb dX7_beginAnew_45 (by decide) ?_
  refine lv_istore_n (lv' := [(1, .int (0 : Int32)), (0, .ref a)]) hx hb dX7_beginAnew_46 rfl hl (by decide) rfl (fun ls hl => ?_)
  have loop_47 : ∀ (n : Nat) (K : Int32 → Int32 → Option (Int32 × Int32 × (Nat → Int32) × (Nat → Int32) × (Nat → Int32) × Int32 × Int32 × Int32 × Int32)) (l1_47 : Int32) (v_images0_lines_47 : Int32) (v_images1_lines_47 : Int32) (H : Heap) (locs : List Loc) (ls : Array Slot), fX7_beginAnew_L47 fu K n l1_47 v_images0_lines_47 v_images1_lines_47 = some (ov_text_length, ov_letter_lines, of_letter_tones, of_letter_marks, of_letter_writers, ov_images0_lines, ov_images1_lines, ov_samples_count, ov_copies_count) → (∀ (v_images0_lines_47e : Int32) (v_images1_lines_47e : Int32) (H : Heap) (locs : List Loc) (ls : Array Slot), K v_images0_lines_47e v_images1_lines_47e = some (ov_text_length, ov_letter_lines, of_letter_tones, of_letter_marks, of_letter_writers, ov_images0_lines, ov_images1_lines, ov_samples_count, ov_copies_count) → va_P G.1 vwCl (w_X7_beginAnew G a a_text a_text_bytes a_letter a_letter_tones a_letter_marks a_letter_writers a_images a_images0 a_images0_tones a_images0_marks a_images0_writers a_images1 a_images1_tones a_images1_marks a_images1_writers a_samples a_samples_tones a_samples_marks a_samples_thenTones a_samples_thenMarks a_copies a_copies_slips a_orders a_office a_office_clerks a_draft a_office a_draft v_traced (0 : Int32) v_text_next v_text_start v_text_number y26_v_lines v_letter_luck y26_f_tones y26_f_marks y26_f_writers v_images0_lines_47e v_images0_luck v_images1_lines_47e v_images1_luck (0 : Int32) (0 : Int32) v_office_count v_office_letterTold v_office_firstTone v_office_firstMarks) H → va_D A (w_X7_beginAnew G a a_text a_text_bytes a_letter a_letter_tones a_letter_marks a_letter_writers a_images a_images0 a_images0_tones a_images0_marks a_images0_writers a_images1 a_images1_tones a_images1_marks a_images1_writers a_samples a_samples_tones a_samples_marks a_samples_thenTones a_samples_thenMarks a_copies a_copies_slips a_orders a_office a_office_clerks a_draft a_office a_draft v_traced (0 : Int32) v_text_next v_text_start v_text_number y26_v_lines v_letter_luck y26_f_tones y26_f_marks y26_f_writers v_images0_lines_47e v_images0_luck v_images1_lines_47e v_images1_luck (0 : Int32) (0 : Int32) v_office_count v_office_letterTold v_office_firstTone v_office_firstMarks) → va_S A s.heap H locs → lv_has ls 2 [] → W p l e (headSpec wsX7_beginAnew { frames := 3, cells := 0, slots := 0, locals := 65 }).room s m ([.ref a] : List Value).toArray below meth c H locs 0 0 (MQ below (zQ none G (w_X7_beginAnew G a a_text a_text_bytes a_letter a_letter_tones a_letter_marks a_letter_writers a_images a_images0 a_images0_tones a_images0_marks a_images0_writers a_images1 a_images1_tones a_images1_marks a_images1_writers a_samples a_samples_tones a_samples_marks a_samples_thenTones a_samples_thenMarks a_copies a_copies_slips a_orders a_office a_office_clerks a_draft a_office a_draft v_traced ov_text_length v_text_next v_text_start v_text_number ov_letter_lines v_letter_luck of_letter_tones of_letter_marks of_letter_writers ov_images0_lines v_images0_luck ov_images1_lines v_images1_luck ov_samples_count ov_copies_count v_office_count v_office_letterTold v_office_firstTone v_office_firstMarks) A) ([.ref a] : List Value).toArray s 0 0 A) (F0 m 68 ls [])) → va_P G.1 vwCl (w_X7_beginAnew G a a_text a_text_bytes a_letter a_letter_tones a_letter_marks a_letter_writers a_images a_images0 a_images0_tones a_images0_marks a_images0_writers a_images1 a_images1_tones a_images1_marks a_images1_writers a_samples a_samples_tones a_samples_marks a_samples_thenTones a_samples_thenMarks a_copies a_copies_slips a_orders a_office a_office_clerks a_draft a_office a_draft v_traced (0 : Int32) v_text_next v_text_start v_text_number y26_v_lines v_letter_luck y26_f_tones y26_f_marks y26_f_writers v_images0_lines_47 v_images0_luck v_images1_lines_47 v_images1_luck (0 : Int32) (0 : Int32) v_office_count v_office_letterTold v_office_firstTone v_office_firstMarks) H → va_D A (w_X7_beginAnew G a a_text a_text_bytes a_letter a_letter_tones a_letter_marks a_letter_writers a_images a_images0 a_images0_tones a_images0_marks a_images0_writers a_images1 a_images1_tones a_images1_marks a_images1_writers a_samples a_samples_tones a_samples_marks a_samples_thenTones a_samples_thenMarks a_copies a_copies_slips a_orders a_office a_office_clerks a_draft a_office a_draft v_traced (0 : Int32) v_text_next v_text_start v_text_number y26_v_lines v_letter_luck y26_f_tones y26_f_marks y26_f_writers v_images0_lines_47 v_images0_luck v_images1_lines_47 v_images1_luck (0 : Int32) (0 : Int32) v_office_count v_office_letterTold v_office_firstTone v_office_firstMarks) → va_S A s.heap H locs → lv_has ls 2 [(0, .ref a), (1, .int l1_47)] → W p l e (headSpec wsX7_beginAnew { frames := 3, cells := 0, slots := 0, locals := 65 }).room s m ([.ref a] : List Value).toArray below meth c H locs 0 0 (MQ below (zQ none G (w_X7_beginAnew G a a_text a_text_bytes a_letter a_letter_tones a_letter_marks a_letter_writers a_images a_images0 a_images0_tones a_images0_marks a_images0_writers a_images1 a_images1_tones a_images1_marks a_images1_writers a_samples a_samples_tones a_samples_marks a_samples_thenTones a_samples_thenMarks a_copies a_copies_slips a_orders a_office a_office_clerks a_draft a_office a_draft v_traced ov_text_length v_text_next v_text_start v_text_number ov_letter_lines v_letter_luck of_letter_tones of_letter_marks of_letter_writers ov_images0_lines v_images0_luck ov_images1_lines v_images1_luck ov_samples_count ov_copies_count v_office_count v_office_letterTold v_office_firstTone v_office_firstMarks) A) ([.ref a] : List Value).toArray s 0 0 A) (F0 m 47 ls []) := by
    intro n
    induction n with
    | zero => intro K l1_47 v_images0_lines_47 v_images1_lines_47 H locs ls h; rw [fX7_beginAnew_L47] at h; cases h
    | succ n ih =>
      intro K l1_47 v_images0_lines_47 v_images1_lines_47 H locs ls h hk hP hD hS hl
      rw [fX7_beginAnew_L47] at h
      refine lv_iload_n hx hb dX7_beginAnew_47 rfl (lv_at hl 1 rfl) ?_
      refine lv_iconst (v := (2 : Int32)) hx hb dX7_beginAnew_48 (by decide) ?_
      refine lv_icmp_ge (tgt := 68) hx hb dX7_beginAnew_49 (by decide) (fun c49 => ?_) (fun c49 => ?_)
      · have h := zt c49 h
        exact hk _ _ _ _ _ h hP hD hS (lv_sub hl [] rfl)
      · have h := zf c49 h
        refine lv_aload_n hx hb dX7_beginAnew_52 rfl (lv_at hl 0 rfl) ?_
        refine va_get (D := G.1) (ci := 7) (v := .ref a_images) (C := RX7) (T := TX7) (N := 9) hx hb hts in_X7_beginAnew_X7 hown hK.1 hP 0 rfl rfl 2 (by decide) (hts (.fieldLink RX7 23 "NineHands" "images" "[LNineHands$Letter;") (by decide +kernel)) (fun _ h9 => h9) rfl dX7_beginAnew_53 ?_
        refine lv_iload_n hx hb dX7_beginAnew_56 rfl (lv_at hl 1 rfl) ?_
        by_cases c57_0 : l1_47 = (0 : Int32)
        · have h := zt c57_0 h
          refine zaldq hx hb hK.1 hP 6 4 rfl rfl (by rw [c57_0]; exact (show ¬ ((0 : Int32) < 0 ∨ 2 ≤ ((0 : Int32)).toNatClampNeg) by decide)) (q := a_images0) (by rw [c57_0]; rfl) dX7_beginAnew_57 ?_
          refine lv_iconst (v := (0 : Int32)) hx hb dX7_beginAnew_58 (by decide) ?_
          refine zputN (D := G.1) (ci := 2) (C := RX2) (T := TX2) (N := 5) (ty := .int) (ws' := (w_X7_beginAnew G a a_text a_text_bytes a_letter a_letter_tones a_letter_marks a_letter_writers a_images a_images0 a_images0_tones a_images0_marks a_images0_writers a_images1 a_images1_tones a_images1_marks a_images1_writers a_samples a_samples_tones a_samples_marks a_samples_thenTones a_samples_thenMarks a_copies a_copies_slips a_orders a_office a_office_clerks a_draft a_office a_draft v_traced (0 : Int32) v_text_next v_text_start v_text_number y26_v_lines v_letter_luck y26_f_tones y26_f_marks y26_f_writers (0 : Int32) v_images0_luck v_images1_lines_47 v_images1_luck (0 : Int32) (0 : Int32) v_office_count v_office_letterTold v_office_firstTone v_office_firstMarks)) hx hb hts in_X7_beginAnew_X2 tyX2 tyX2_ok nmX2 hown hK.1 hP hD hS 7 rfl rfl 3 (by decide) (va_Nw.use rfl (hK.2.1.1 ("NineHands", 105, "NineHands$Letter", "lines", "I", "NineHands") (by decide +kernel))) (fun _ h9 => h9) rfl (by decide +kernel) rfl rfl (Nat.le_of_ble_eq_true rfl) rfl dX7_beginAnew_59 (fun H locs hP hD hS => ?_)
          refine lv_iinc (v := (l1_47 + (1 : Int32))) (lv' := [(1, .int (l1_47 + (1 : Int32))), (0, .ref a)]) hx hb dX7_beginAnew_62 hl (k := 1) rfl rfl (by decide) rfl (fun ls hl => ?_)
          refine lv_goto (tgt := 47) hx hb dX7_beginAnew_65 (by decide) ?_
          exact ih K _ _ _ _ _ _ h hk hP hD hS (lv_sub hl [1, 0] rfl)
        have h := zf c57_0 h
        by_cases c57_1 : l1_47 = (1 : Int32)
        · have h := zt c57_1 h
          refine zaldq hx hb hK.1 hP 6 4 rfl rfl (by rw [c57_1]; exact (show ¬ ((1 : Int32) < 0 ∨ 2 ≤ ((1 : Int32)).toNatClampNeg) by decide)) (q := a_images1) (by rw [c57_1]; rfl) dX7_beginAnew_57 ?_
          refine lv_iconst (v := (0 : Int32)) hx hb dX7_beginAnew_58 (by decide) ?_
          refine zputN (D := G.1) (ci := 2) (C := RX2) (T := TX2) (N := 5) (ty := .int) (ws' := (w_X7_beginAnew G a a_text a_text_bytes a_letter a_letter_tones a_letter_marks a_letter_writers a_images a_images0 a_images0_tones a_images0_marks a_images0_writers a_images1 a_images1_tones a_images1_marks a_images1_writers a_samples a_samples_tones a_samples_marks a_samples_thenTones a_samples_thenMarks a_copies a_copies_slips a_orders a_office a_office_clerks a_draft a_office a_draft v_traced (0 : Int32) v_text_next v_text_start v_text_number y26_v_lines v_letter_luck y26_f_tones y26_f_marks y26_f_writers v_images0_lines_47 v_images0_luck (0 : Int32) v_images1_luck (0 : Int32) (0 : Int32) v_office_count v_office_letterTold v_office_firstTone v_office_firstMarks)) hx hb hts in_X7_beginAnew_X2 tyX2 tyX2_ok nmX2 hown hK.1 hP hD hS 8 rfl rfl 3 (by decide) (va_Nw.use rfl (hK.2.1.1 ("NineHands", 105, "NineHands$Letter", "lines", "I", "NineHands") (by decide +kernel))) (fun _ h9 => h9) rfl (by decide +kernel) rfl rfl (Nat.le_of_ble_eq_true rfl) rfl dX7_beginAnew_59 (fun H locs hP hD hS => ?_)
          refine lv_iinc (v := (l1_47 + (1 : Int32))) (lv' := [(1, .int (l1_47 + (1 : Int32))), (0, .ref a)]) hx hb dX7_beginAnew_62 hl (k := 1) rfl rfl (by decide) rfl (fun ls hl => ?_)
          refine lv_goto (tgt := 47) hx hb dX7_beginAnew_65 (by decide) ?_
          exact ih K _ _ _ _ _ _ h hk hP hD hS (lv_sub hl [1, 0] rfl)
        have h := zf c57_1 h
        cases h
  refine loop_47 fu _ _ _ _ _ _ _ h (fun v_images0_lines_47e v_images1_lines_47e H locs ls h hP hD hS hl => ?_) hP hD hS (lv_sub hl [1, 0] rfl)
  simp only [Option.some.injEq, Prod.mk.injEq] at h
  obtain ⟨rfl, rfl, rfl, rfl, rfl, rfl, rfl, rfl, rfl⟩ := h
  exact W.vret hx hb hr (fun t9 ht9 _ => zend hP hD hS ht9) hS.2.2 dX7_beginAnew_68
abbrev w_X7_chancery (G : zG) (a : Nat) (a_text : Nat) (a_text_bytes : Nat) (a_letter : Nat) (a_letter_tones : Nat) (a_letter_marks : Nat) (a_letter_writers : Nat) (a_images : Nat) (a_images0 : Nat) (a_images0_tones : Nat) (a_images0_marks : Nat) (a_images0_writers : Nat) (a_images1 : Nat) (a_images1_tones : Nat) (a_images1_marks : Nat) (a_images1_writers : Nat) (a_samples : Nat) (a_samples_tones : Nat) (a_samples_marks : Nat) (a_samples_thenTones : Nat) (a_samples_thenMarks : Nat) (a_copies : Nat) (a_copies_slips : Nat) (a_orders : Nat) (a_office : Nat) (a_draft : Nat) (a_draft_clerks : Nat) (ca_draft_clk : Nat → Nat) (r_office : Nat) (r_draft : Nat) (v_traced : Int64) (v_text_length : Int32) (v_text_next : Int32) (v_text_start : Int32) (v_text_number : Int32) (f_text_bytes : (Nat → Int32)) (v_letter_lines : Int32) (v_letter_luck : Int32) (f_letter_tones : (Nat → Int32)) (f_letter_marks : (Nat → Int32)) (f_letter_writers : (Nat → Int32)) (v_images0_lines : Int32) (v_images0_luck : Int32) (v_images1_lines : Int32) (v_images1_luck : Int32) (v_samples_count : Int32) (v_copies_count : Int32) (v_draft_count : Int32) (v_draft_letterTold : Int32) (v_draft_firstTone : Int32) (v_draft_firstMarks : Int32) (k_draft_lean : (Nat → Int32)) (k_draft_sets : (Nat → Int32)) (k_draft_drops : (Nat → Int32)) (k_draft_keeps : (Nat → Int32)) : va_W := [(a, .inr (7, [.ref a_text, .ref a_letter, .ref a_images, .ref a_samples, .ref a_copies, .ref a_orders, .ref r_office, .ref r_draft, .long v_traced])), (a_text, .inr (6, [.ref a_text_bytes, .int v_text_length, .int v_text_next, .int v_text_start, .int v_text_number])), (a_text_bytes, .inl (zCB G, 200, .inl f_text_bytes)), (a_letter, .inr (2, [.ref a_letter_tones, .ref a_letter_marks, .ref a_letter_writers, .int v_letter_lines, .int v_letter_luck])), (a_letter_tones, .inl (zCI G, 10, .inl f_letter_tones)), (a_letter_marks, .inl (zCI G, 10, .inl f_letter_marks)), (a_letter_writers, .inl (zCI G, 10, .inl f_letter_writers)), (a_images, .inl (zCL G, 2, .inr (.inr (.inr (.inr (zim a_images0 a_images1)))))), (a_images0, .inr (2, [.ref a_images0_tones, .ref a_images0_marks, .ref a_images0_writers, .int v_images0_lines, .int v_images0_luck])), (a_images1, .inr (2, [.ref a_images1_tones, .ref a_images1_marks, .ref a_images1_writers, .int v_images1_lines, .int v_images1_luck])), (a_samples, .inr (5, [.ref a_samples_tones, .ref a_samples_marks, .ref a_samples_thenTones, .ref a_samples_thenMarks, .int v_samples_count])), (a_copies, .inr (1, [.ref a_copies_slips, .int v_copies_count])), (a_draft, .inr (3, [.ref a_draft_clerks, .int v_draft_count, .int v_draft_letterTold, .int v_draft_firstTone, .int v_draft_firstMarks])), (a_draft_clerks, .inl (zCC G, 6, .inr (.inr (.inr (.inr (fun k => some (ca_draft_clk k)))))))] ++ zclks ca_draft_clk k_draft_lean k_draft_sets k_draft_drops k_draft_keeps
theorem in_X7_chancery_X7 : ∀ w ∈ wsX70, w ∈ wsX7_chancery := by decide +kernel
set_option maxHeartbeats 4000000 in
set_option maxRecDepth 100000 in
theorem c_X7_chancery (l : Launch) (G : zG) (fu : Nat) (a : Nat) (a_text : Nat) (a_text_bytes : Nat) (a_letter : Nat) (a_letter_tones : Nat) (a_letter_marks : Nat) (a_letter_writers : Nat) (a_images : Nat) (a_images0 : Nat) (a_images0_tones : Nat) (a_images0_marks : Nat) (a_images0_writers : Nat) (a_images1 : Nat) (a_images1_tones : Nat) (a_images1_marks : Nat) (a_images1_writers : Nat) (a_samples : Nat) (a_samples_tones : Nat) (a_samples_marks : Nat) (a_samples_thenTones : Nat) (a_samples_thenMarks : Nat) (a_copies : Nat) (a_copies_slips : Nat) (a_orders : Nat) (a_office : Nat) (a_draft : Nat) (a_draft_clerks : Nat) (ca_draft_clk : Nat → Nat) (v_traced : Int64) (v_text_length : Int32) (v_text_next : Int32) (v_text_start : Int32) (v_text_number : Int32) (f_text_bytes : (Nat → Int32)) (v_letter_lines : Int32) (v_letter_luck : Int32) (f_letter_tones : (Nat → Int32)) (f_letter_marks : (Nat → Int32)) (f_letter_writers : (Nat → Int32)) (v_images0_lines : Int32) (v_images0_luck : Int32) (v_images1_lines : Int32) (v_images1_luck : Int32) (v_samples_count : Int32) (v_copies_count : Int32) (v_draft_count : Int32) (v_draft_letterTold : Int32) (v_draft_firstTone : Int32) (v_draft_firstMarks : Int32) (k_draft_lean : (Nat → Int32)) (k_draft_sets : (Nat → Int32)) (k_draft_drops : (Nat → Int32)) (k_draft_keeps : (Nat → Int32)) (rv : Int32) (or_office : Nat) (or_draft : Nat) (ov_text_length : Int32) (ov_text_next : Int32) (ov_text_start : Int32) (ov_text_number : Int32) (ov_letter_lines : Int32) (of_letter_tones : (Nat → Int32)) (of_letter_marks : (Nat → Int32)) (of_letter_writers : (Nat → Int32)) (ov_images0_lines : Int32) (ov_images1_lines : Int32) (ov_samples_count : Int32) (ov_copies_count : Int32) (ov_draft_count : Int32) (ov_draft_letterTold : Int32) (ov_draft_firstTone : Int32) (ov_draft_firstMarks : Int32) (ok_draft_lean : (Nat → Int32)) (ok_draft_sets : (Nat → Int32)) (ok_draft_drops : (Nat → Int32)) (ok_draft_keeps : (Nat → Int32)) (h : fX7_chancery fu a_office a_draft v_text_length v_text_next v_text_start v_text_number f_text_bytes v_letter_lines f_letter_tones f_letter_marks f_letter_writers v_images0_lines v_images1_lines v_samples_count v_copies_count v_draft_count v_draft_letterTold v_draft_firstTone v_draft_firstMarks k_draft_lean k_draft_sets k_draft_drops k_draft_keeps = some (rv, or_office, or_draft, ov_text_length, ov_text_next, ov_text_start, ov_text_number, ov_letter_lines, of_letter_tones, of_letter_marks, of_letter_writers, ov_images0_lines, ov_images1_lines, ov_samples_count, ov_copies_count, ov_draft_count, ov_draft_letterTold, ov_draft_firstTone, ov_draft_firstMarks, ok_draft_lean, ok_draft_sets, ok_draft_drops, ok_draft_keeps)) : zC l yX7_chancery wsX7_chancery 7 151 G [.ref a] (w_X7_chancery G a a_text a_text_bytes a_letter a_letter_tones a_letter_marks a_letter_writers a_images a_images0 a_images0_tones a_images0_marks a_images0_writers a_images1 a_images1_tones a_images1_marks a_images1_writers a_samples a_samples_tones a_samples_marks a_samples_thenTones a_samples_thenMarks a_copies a_copies_slips a_orders a_office a_draft a_draft_clerks ca_draft_clk a_office a_draft v_traced v_text_length v_text_next v_text_start v_text_number f_text_bytes v_letter_lines v_letter_luck f_letter_tones f_letter_marks f_letter_writers v_images0_lines v_images0_luck v_images1_lines v_images1_luck v_samples_count v_copies_count v_draft_count v_draft_letterTold v_draft_firstTone v_draft_firstMarks k_draft_lean k_draft_sets k_draft_drops k_draft_keeps) (some (.int rv)) (w_X7_chancery G a a_text a_text_bytes a_letter a_letter_tones a_letter_marks a_letter_writers a_images a_images0 a_images0_tones a_images0_marks a_images0_writers a_images1 a_images1_tones a_images1_marks a_images1_writers a_samples a_samples_tones a_samples_marks a_samples_thenTones a_samples_thenMarks a_copies a_copies_slips a_orders a_office a_draft a_draft_clerks ca_draft_clk or_office or_draft v_traced ov_text_length ov_text_next ov_text_start ov_text_number f_text_bytes ov_letter_lines v_letter_luck of_letter_tones of_letter_marks of_letter_writers ov_images0_lines v_images0_luck ov_images1_lines v_images1_luck ov_samples_count ov_copies_count ov_draft_count ov_draft_letterTold ov_draft_firstTone ov_draft_firstMarks ok_draft_lean ok_draft_sets ok_draft_drops ok_draft_keeps) := by
  refine fun sz => Met.ofW (cc := cX7_chancery) (maxL := 3) (ret := (some .int)) (by decide) rfl ?_
  intro p e s m args below meth c s₁ B hml hv
  obtain ⟨rfl, hsz, hP, hK, hD0, hE⟩ := hv
  have hx := B.exec
  have hb := B.bytes
  have hr := B.returns
  have hts := atoms_spec (ws := wsX7_chancery) B.pre
  have hown : s.vm.findClass RX7 = some m.cls := findClass_of_methodNamed B.named
  have hlocks := B.notSynchronized
  subst hsz
  have hD := hD0.self (sz := s.heap.size)
  generalize hAe : va_A (w_X7_chancery G a a_text a_text_bytes a_letter a_letter_tones a_letter_marks a_letter_writers a_images a_images0 a_images0_tones a_images0_marks a_images0_writers a_images1 a_images1_tones a_images1_marks a_images1_writers a_samples a_samples_tones a_samples_marks a_samples_thenTones a_samples_thenMarks a_copies a_copies_slips a_orders a_office a_draft a_draft_clerks ca_draft_clk a_office a_draft v_traced v_text_length v_text_next v_text_start v_text_number f_text_bytes v_letter_lines v_letter_luck f_letter_tones f_letter_marks f_letter_writers v_images0_lines v_images0_luck v_images1_lines v_images1_luck v_samples_count v_copies_count v_draft_count v_draft_letterTold v_draft_firstTone v_draft_firstMarks k_draft_lean k_draft_sets k_draft_drops k_draft_keeps) s.heap.size = A at hD hE ⊢
  have hA : ∀ q : Nat, s.heap.size ≤ q → A q := fun q h => by rw [← hAe]; exact Or.inr h
  have hS : va_S A s.heap s.heap [] := va_S.rf
  have hl := lv_entry ([.ref a]) (n := 3) (Nat.le_of_ble_eq_true rfl)
  rw [lg_entry_eq]
  generalize (lg_sl ([.ref a]) ++ List.replicate (3 - (lg_sl ([.ref a])).length) Slot.unset).toArray = ls at hl ⊢
  have hl : lv_has ls 3 [(0, .ref a)] := hl
  have hP : va_P G.1 vwCl (w_X7_chancery G a a_text a_text_bytes a_letter a_letter_tones a_letter_marks a_letter_writers a_images a_images0 a_images0_tones a_images0_marks a_images0_writers a_images1 a_images1_tones a_images1_marks a_images1_writers a_samples a_samples_tones a_samples_marks a_samples_thenTones a_samples_thenMarks a_copies a_copies_slips a_orders a_office a_draft a_draft_clerks ca_draft_clk a_office a_draft v_traced v_text_length v_text_next v_text_start v_text_number f_text_bytes v_letter_lines v_letter_luck f_letter_tones f_letter_marks f_letter_writers v_images0_lines v_images0_luck v_images1_lines v_images1_luck v_samples_count v_copies_count v_draft_count v_draft_letterTold v_draft_firstTone v_draft_firstMarks k_draft_lean k_draft_sets k_draft_drops k_draft_keeps) s.heap := hP
  rw [fX7_chancery] at h
  refine lv_aload_n hx hb dX7_chancery_0 rfl (lv_at hl 0 rfl) ?_
  refine va_get (D := G.1) (ci := 7) (v := .ref a_text) (C := RX7) (T := TX7) (N := 9) hx hb hts in_X7_chancery_X7 hown hK.1 hP 0 rfl rfl 0 (by decide) (hts (.fieldLink RX7 10 "NineHands" "text" "LNineHands$Text;") (by decide +kernel)) (fun _ h9 => h9) rfl dX7_chancery_1 ?_
  refine lv_aload_n hx hb dX7_chancery_4 rfl (lv_at hl 0 rfl) ?_
  refine va_get (D := G.1) (ci := 7) (v := .ref a_draft) (C := RX7) (T := TX7) (N := 9) hx hb hts in_X7_chancery_X7 hown hK.1 hP 0 rfl rfl 7 (by decide) (hts (.fieldLink RX7 55 "NineHands" "draft" "LNineHands$Office;") (by decide +kernel)) (fun _ h9 => h9) rfl dX7_chancery_5 ?_
  obtain ⟨y8, y8_v_next, y8_v_start, y8_v_number, y8_v_p0_count, y8_v_p0_letterTold, y8_v_p0_firstTone, y8_v_p0_firstMarks, y8_k_p0_lean, y8_k_p0_sets, y8_k_p0_drops, y8_k_p0_keeps, hc8, h⟩ := zb12_e h
  refine zcV (As := [.ref a_draft]) (rest := []) (ws' := (w_X7_chancery G a a_text a_text_bytes a_letter a_letter_tones a_letter_marks a_letter_writers a_images a_images0 a_images0_tones a_images0_marks a_images0_writers a_images1 a_images1_tones a_images1_marks a_images1_writers a_samples a_samples_tones a_samples_marks a_samples_thenTones a_samples_thenMarks a_copies a_copies_slips a_orders a_office a_draft a_draft_clerks ca_draft_clk a_office a_draft v_traced v_text_length y8_v_next y8_v_start y8_v_number f_text_bytes v_letter_lines v_letter_luck f_letter_tones f_letter_marks f_letter_writers v_images0_lines v_images0_luck v_images1_lines v_images1_luck v_samples_count v_copies_count y8_v_p0_count y8_v_p0_letterTold y8_v_p0_firstTone y8_v_p0_firstMarks y8_k_p0_lean y8_k_p0_sets y8_k_p0_drops y8_k_p0_keeps)) (st1 := [.int y8]) ⟨hx, hb, hml, hown, hts⟩ (c_X6_readInto l G fu a_text a_text_bytes a_draft a_draft_clerks ca_draft_clk v_text_length v_text_next v_text_start v_text_number f_text_bytes v_draft_count v_draft_letterTold v_draft_firstTone v_draft_firstMarks k_draft_lean k_draft_sets k_draft_drops k_draft_keeps y8 y8_v_next y8_v_start y8_v_number y8_v_p0_count y8_v_p0_letterTold y8_v_p0_firstTone y8_v_p0_firstMarks y8_k_p0_lean y8_k_p0_sets y8_k_p0_drops y8_k_p0_keeps hc8) (cwV 1 hts gX7_chancery_X6_readInto rfl rfl rfl (by decide +kernel) ⟨Nat.le_of_ble_eq_true rfl, Nat.le_of_ble_eq_true rfl⟩) hK hE hP hD hS hA [1, 2, 12, 13, 14, 15, 16, 17, 18, 19] rfl rfl 0 6 rfl rfl rfl rfl rfl rfl hl.1 rfl (Nat.le_of_ble_eq_true rfl) dX7_chancery_8 (Nat.zero_le _) (Nat.zero_le _) rfl (fun H locs hP hD hS => ?_)
  refine lv_istore_n (lv' := [(1, .int y8), (0, .ref a)]) hx hb dX7_chancery_11 rfl hl (by decide) rfl (fun ls hl => ?_)
  refine lv_iload_n hx hb dX7_chancery_12 rfl (lv_at hl 0 rfl) ?_
  refine lv_if_ge (tgt := 18) hx hb dX7_chancery_13 (by decide) (fun c13 => ?_) (fun c13 => ?_)
  · have h := zt c13 h
    refine lv_aload_n hx hb dX7_chancery_18 rfl (lv_at hl 1 rfl) ?_
    refine va_get (D := G.1) (ci := 7) (v := .ref a_office) (C := RX7) (T := TX7) (N := 9) hx hb hts in_X7_chancery_X7 hown hK.1 hP 0 rfl rfl 6 (by decide) (hts (.fieldLink RX7 51 "NineHands" "office" "LNineHands$Office;") (by decide +kernel)) (fun _ h9 => h9) rfl dX7_chancery_19 ?_
    refine lv_astore_n (lv' := [(2, .ref a_office), (1, .int y8), (0, .ref a)]) hx hb dX7_chancery_22 rfl hl (by decide) rfl (fun ls hl => ?_)
    refine lv_aload_n hx hb dX7_chancery_23 rfl (lv_at hl 2 rfl) ?_
    refine lv_aload_n hx hb dX7_chancery_24 rfl (lv_at hl 2 rfl) ?_
    refine va_get (D := G.1) (ci := 7) (v := .ref a_draft) (C := RX7) (T := TX7) (N := 9) hx hb hts in_X7_chancery_X7 hown hK.1 hP 0 rfl rfl 7 (by decide) (hts (.fieldLink RX7 55 "NineHands" "draft" "LNineHands$Office;") (by decide +kernel)) (fun _ h9 => h9) rfl dX7_chancery_25 ?_
    refine zput1 (D := G.1) (ci := 7) (C := RX7) (T := TX7) (N := 9) (ty := .object "NineHands$Office") (ws' := (w_X7_chancery G a a_text a_text_bytes a_letter a_letter_tones a_letter_marks a_letter_writers a_images a_images0 a_images0_tones a_images0_marks a_images0_writers a_images1 a_images1_tones a_images1_marks a_images1_writers a_samples a_samples_tones a_samples_marks a_samples_thenTones a_samples_thenMarks a_copies a_copies_slips a_orders a_office a_draft a_draft_clerks ca_draft_clk a_draft a_draft v_traced v_text_length y8_v_next y8_v_start y8_v_number f_text_bytes v_letter_lines v_letter_luck f_letter_tones f_letter_marks f_letter_writers v_images0_lines v_images0_luck v_images1_lines v_images1_luck v_samples_count v_copies_count y8_v_p0_count y8_v_p0_letterTold y8_v_p0_firstTone y8_v_p0_firstMarks y8_k_p0_lean y8_k_p0_sets y8_k_p0_drops y8_k_p0_keeps)) hx hb hts in_X7_chancery_X7 tyX7 tyX7_ok nmX7 hown hK.1 hP hD hS 0 rfl rfl 6 (by decide) (hts (.fieldLink RX7 51 "NineHands" "office" "LNineHands$Office;") (by decide +kernel)) (fun _ h9 => h9) rfl (by decide +kernel) rfl rfl (Nat.le_of_ble_eq_true rfl) rfl dX7_chancery_28 (fun H locs hP hD hS => ?_)
    refine lv_aload_n hx hb dX7_chancery_31 rfl (lv_at hl 2 rfl) ?_
    refine lv_aload_n hx hb dX7_chancery_32 rfl (lv_at hl 0 rfl) ?_
    refine zput1 (D := G.1) (ci := 7) (C := RX7) (T := TX7) (N := 9) (ty := .object "NineHands$Office") (ws' := (w_X7_chancery G a a_text a_text_bytes a_letter a_letter_tones a_letter_marks a_letter_writers a_images a_images0 a_images0_tones a_images0_marks a_images0_writers a_images1 a_images1_tones a_images1_marks a_images1_writers a_samples a_samples_tones a_samples_marks a_samples_thenTones a_samples_thenMarks a_copies a_copies_slips a_orders a_office a_draft a_draft_clerks ca_draft_clk a_draft a_office v_traced v_text_length y8_v_next y8_v_start y8_v_number f_text_bytes v_letter_lines v_letter_luck f_letter_tones f_letter_marks f_letter_writers v_images0_lines v_images0_luck v_images1_lines v_images1_luck v_samples_count v_copies_count y8_v_p0_count y8_v_p0_letterTold y8_v_p0_firstTone y8_v_p0_firstMarks y8_k_p0_lean y8_k_p0_sets y8_k_p0_drops y8_k_p0_keeps)) hx hb hts in_X7_chancery_X7 tyX7 tyX7_ok nmX7 hown hK.1 hP hD hS 0 rfl rfl 7 (by decide) (hts (.fieldLink RX7 55 "NineHands" "draft" "LNineHands$Office;") (by decide +kernel)) (fun _ h9 => h9) rfl (by decide +kernel) rfl rfl (Nat.le_of_ble_eq_true rfl) rfl dX7_chancery_33 (fun H locs hP hD hS => ?_)
    refine lv_aload_n hx hb dX7_chancery_36 rfl (lv_at hl 2 rfl) ?_
    obtain ⟨y37_v_text_length, y37_v_letter_lines, y37_f_letter_tones, y37_f_letter_marks, y37_f_letter_writers, y37_v_images0_lines, y37_v_images1_lines, y37_v_samples_count, y37_v_copies_count, hc37, h⟩ := zb9_e h
    refine zcV (As := []) (rest := []) (ws' := (w_X7_chancery G a a_text a_text_bytes a_letter a_letter_tones a_letter_marks a_letter_writers a_images a_images0 a_images0_tones a_images0_marks a_images0_writers a_images1 a_images1_tones a_images1_marks a_images1_writers a_samples a_samples_tones a_samples_marks a_samples_thenTones a_samples_thenMarks a_copies a_copies_slips a_orders a_office a_draft a_draft_clerks ca_draft_clk a_draft a_office v_traced y37_v_text_length y8_v_next y8_v_start y8_v_number f_text_bytes y37_v_letter_lines v_letter_luck y37_f_letter_tones y37_f_letter_marks y37_f_letter_writers y37_v_images0_lines v_images0_luck y37_v_images1_lines v_images1_luck y37_v_samples_count y37_v_copies_count y8_v_p0_count y8_v_p0_letterTold y8_v_p0_firstTone y8_v_p0_firstMarks y8_k_p0_lean y8_k_p0_sets y8_k_p0_drops y8_k_p0_keeps)) (st1 := []) ⟨hx, hb, hml, hown, hts⟩ (c_X7_beginAnew l G fu a a_text a_text_bytes a_letter a_letter_tones a_letter_marks a_letter_writers a_images a_images0 a_images0_tones a_images0_marks a_images0_writers a_images1 a_images1_tones a_images1_marks a_images1_writers a_samples a_samples_tones a_samples_marks a_samples_thenTones a_samples_thenMarks a_copies a_copies_slips a_orders a_draft a_draft_clerks a_office v_traced v_text_length y8_v_next y8_v_start y8_v_number v_letter_lines v_letter_luck f_letter_tones f_letter_marks f_letter_writers v_images0_lines v_images0_luck v_images1_lines v_images1_luck v_samples_count v_copies_count y8_v_p0_count y8_v_p0_letterTold y8_v_p0_firstTone y8_v_p0_firstMarks y37_v_text_length y37_v_letter_lines y37_f_letter_tones y37_f_letter_marks y37_f_letter_writers y37_v_images0_lines y37_v_images1_lines y37_v_samples_count y37_v_copies_count hc37) (cwV 0 hts gX7_chancery_X7_beginAnew rfl rfl rfl (by decide +kernel) ⟨Nat.le_of_ble_eq_true rfl, Nat.le_of_ble_eq_true rfl⟩) hK hE hP hD hS hA [0, 1, 3, 4, 5, 6, 7, 8, 9, 10, 11, 12] rfl rfl 0 7 rfl rfl rfl rfl rfl rfl hl.1 rfl (Nat.le_of_ble_eq_true rfl) dX7_chancery_37 (Nat.zero_le _) (Nat.zero_le _) rfl (fun H locs hP hD hS => ?_)
    refine lv_iload_n hx hb dX7_chancery_40 rfl (lv_at hl 1 rfl) ?_
    simp only [Option.some.injEq, Prod.mk.injEq] at h
    obtain ⟨rfl, rfl, rfl, rfl, rfl, rfl, rfl, rfl, rfl, rfl, rfl, rfl, rfl, rfl, rfl, rfl, rfl, rfl, rfl, rfl, rfl, rfl, rfl⟩ := h
    exact W.iret hx hb hr (fun t9 ht9 _ => zend hP hD hS ht9) hS.2.2 dX7_chancery_41
  · have h := zf c13 h
    refine lv_iload_n hx hb dX7_chancery_16 rfl (lv_at hl 0 rfl) ?_
    simp only [Option.some.injEq, Prod.mk.injEq] at h
    obtain ⟨rfl, rfl, rfl, rfl, rfl, rfl, rfl, rfl, rfl, rfl, rfl, rfl, rfl, rfl, rfl, rfl, rfl, rfl, rfl, rfl, rfl, rfl, rfl⟩ := h
    exact W.iret hx hb hr (fun t9 ht9 _ => zend hP hD hS ht9) hS.2.2 dX7_chancery_17
abbrev w_X7_clerk (G : zG) (a : Nat) (a_text : Nat) (a_letter : Nat) (a_images : Nat) (a_samples : Nat) (a_copies : Nat) (a_orders : Nat) (a_office : Nat) (a_office_clerks : Nat) (ca_office_clk : Nat → Nat) (a_draft : Nat) (r_office : Nat) (r_draft : Nat) (v_traced : Int64) (v_office_count : Int32) (v_office_letterTold : Int32) (v_office_firstTone : Int32) (v_office_firstMarks : Int32) (k_office_lean : (Nat → Int32)) (k_office_sets : (Nat → Int32)) (k_office_drops : (Nat → Int32)) (k_office_keeps : (Nat → Int32)) : va_W := [(a, .inr (7, [.ref a_text, .ref a_letter, .ref a_images, .ref a_samples, .ref a_copies, .ref a_orders, .ref r_office, .ref r_draft, .long v_traced])), (a_office, .inr (3, [.ref a_office_clerks, .int v_office_count, .int v_office_letterTold, .int v_office_firstTone, .int v_office_firstMarks])), (a_office_clerks, .inl (zCC G, 6, .inr (.inr (.inr (.inr (fun k => some (ca_office_clk k)))))))] ++ zclks ca_office_clk k_office_lean k_office_sets k_office_drops k_office_keeps
theorem in_X7_clerk_X0 : ∀ w ∈ wsX00, w ∈ wsX7_clerk := by decide +kernel
theorem in_X7_clerk_X7 : ∀ w ∈ wsX70, w ∈ wsX7_clerk := by decide +kernel
set_option maxHeartbeats 4000000 in
set_option maxRecDepth 100000 in
theorem c_X7_clerk (l : Launch) (G : zG) (a : Nat) (a_text : Nat) (a_letter : Nat) (a_images : Nat) (a_samples : Nat) (a_copies : Nat) (a_orders : Nat) (a_office : Nat) (a_office_clerks : Nat) (ca_office_clk : Nat → Nat) (a_draft : Nat) (v_traced : Int64) (v_office_count : Int32) (v_office_letterTold : Int32) (v_office_firstTone : Int32) (v_office_firstMarks : Int32) (k_office_lean : (Nat → Int32)) (k_office_sets : (Nat → Int32)) (k_office_drops : (Nat → Int32)) (k_office_keeps : (Nat → Int32)) (x1 : Int32) (x2 : Int32) (rv : Int32) (h : fX7_clerk v_office_count k_office_lean k_office_sets k_office_drops k_office_keeps x1 x2 = some rv) : zC l yX7_clerk wsX7_clerk 1 21 G [.ref a, .int x1, .int x2] (w_X7_clerk G a a_text a_letter a_images a_samples a_copies a_orders a_office a_office_clerks ca_office_clk a_draft a_office a_draft v_traced v_office_count v_office_letterTold v_office_firstTone v_office_firstMarks k_office_lean k_office_sets k_office_drops k_office_keeps) (some (.int rv)) (w_X7_clerk G a a_text a_letter a_images a_samples a_copies a_orders a_office a_office_clerks ca_office_clk a_draft a_office a_draft v_traced v_office_count v_office_letterTold v_office_firstTone v_office_firstMarks k_office_lean k_office_sets k_office_drops k_office_keeps) := by
  refine fun sz => Met.ofW (cc := cX7_clerk) (maxL := 4) (ret := (some .int)) (by decide) rfl ?_
  intro p e s m args below meth c s₁ B hml hv
  obtain ⟨rfl, hsz, hP, hK, hD0, hE⟩ := hv
  have hx := B.exec
  have hb := B.bytes
  have hr := B.returns
  have hts := atoms_spec (ws := wsX7_clerk) B.pre
  have hown : s.vm.findClass RX7 = some m.cls := findClass_of_methodNamed B.named
  have hlocks := B.notSynchronized
  subst hsz
  have hD := hD0.self (sz := s.heap.size)
  generalize hAe : va_A (w_X7_clerk G a a_text a_letter a_images a_samples a_copies a_orders a_office a_office_clerks ca_office_clk a_draft a_office a_draft v_traced v_office_count v_office_letterTold v_office_firstTone v_office_firstMarks k_office_lean k_office_sets k_office_drops k_office_keeps) s.heap.size = A at hD hE ⊢
  have hA : ∀ q : Nat, s.heap.size ≤ q → A q := fun q h => by rw [← hAe]; exact Or.inr h
  have hS : va_S A s.heap s.heap [] := va_S.rf
  have hl := lv_entry ([.ref a, .int x1, .int x2]) (n := 4) (Nat.le_of_ble_eq_true rfl)
  rw [lg_entry_eq]
  generalize (lg_sl ([.ref a, .int x1, .int x2]) ++ List.replicate (4 - (lg_sl ([.ref a, .int x1, .int x2])).length) Slot.unset).toArray = ls at hl ⊢
  have hl : lv_has ls 4 [(0, .ref a), (1, .int x1), (2, .int x2)] := hl
  have hP : va_P G.1 vwCl (w_X7_clerk G a a_text a_letter a_images a_samples a_copies a_orders a_office a_office_clerks ca_office_clk a_draft a_office a_draft v_traced v_office_count v_office_letterTold v_office_firstTone v_office_firstMarks k_office_lean k_office_sets k_office_drops k_office_keeps) s.heap := hP
  rw [fX7_clerk] at h
  refine lv_aload_n hx hb dX7_clerk_0 rfl (lv_at hl 0 rfl) ?_
  refine va_get (D := G.1) (ci := 7) (v := .ref a_office) (C := RX7) (T := TX7) (N := 9) hx hb hts in_X7_clerk_X7 hown hK.1 hP 0 rfl rfl 6 (by decide) (hts (.fieldLink RX7 51 "NineHands" "office" "LNineHands$Office;") (by decide +kernel)) (fun _ h9 => h9) rfl dX7_clerk_1 ?_
  refine lv_iload_n hx hb dX7_clerk_4 rfl (lv_at hl 1 rfl) ?_
  by_cases c5a : x1 < 0
  · have h := zt c5a h
    refine zcV (As := [.int x1]) (rest := []) (ws' := (w_X7_clerk G a a_text a_letter a_images a_samples a_copies a_orders a_office a_office_clerks ca_office_clk a_draft a_office a_draft v_traced v_office_count v_office_letterTold v_office_firstTone v_office_firstMarks k_office_lean k_office_sets k_office_drops k_office_keeps)) (st1 := [.null]) ⟨hx, hb, hml, hown, hts⟩ (c_X3_find l G a_office a_office_clerks ca_office_clk v_office_count v_office_letterTold v_office_firstTone v_office_firstMarks x1 none (by rw [fX3_find, if_pos c5a])) (cwV 1 hts gX7_clerk_X3_find rfl rfl rfl (by decide +kernel) ⟨Nat.le_of_ble_eq_true rfl, Nat.le_of_ble_eq_true rfl⟩) hK hE hP hD hS hA [1, 2] rfl rfl 0 3 rfl rfl rfl rfl rfl rfl hl.1 rfl (Nat.le_of_ble_eq_true rfl) dX7_clerk_5 (Nat.zero_le _) (Nat.zero_le _) rfl (fun H locs hP hD hS => ?_)
    refine lv_astore_nN (lv' := [(3, .null), (0, .ref a), (1, .int x1), (2, .int x2)]) hx hb dX7_clerk_8 rfl hl (by decide) rfl (fun ls hl => ?_)
    refine lv_aload_nN hx hb dX7_clerk_9 rfl (lv_at hl 0 rfl) ?_
    refine lv_ifnonnullN hx hb dX7_clerk_10 ?_
    refine lv_iconst (v := ((-1) : Int32)) hx hb dX7_clerk_13 (by decide) ?_
    cases h
    exact W.iret hx hb hr (fun t9 ht9 _ => zend hP hD hS ht9) hS.2.2 dX7_clerk_14
  have h := zf c5a h
  by_cases c5b : v_office_count ≤ x1
  · have h := zt c5b h
    refine zcV (As := [.int x1]) (rest := []) (ws' := (w_X7_clerk G a a_text a_letter a_images a_samples a_copies a_orders a_office a_office_clerks ca_office_clk a_draft a_office a_draft v_traced v_office_count v_office_letterTold v_office_firstTone v_office_firstMarks k_office_lean k_office_sets k_office_drops k_office_keeps)) (st1 := [.null]) ⟨hx, hb, hml, hown, hts⟩ (c_X3_find l G a_office a_office_clerks ca_office_clk v_office_count v_office_letterTold v_office_firstTone v_office_firstMarks x1 none (by rw [fX3_find, if_neg c5a, if_pos c5b])) (cwV 1 hts gX7_clerk_X3_find rfl rfl rfl (by decide +kernel) ⟨Nat.le_of_ble_eq_true rfl, Nat.le_of_ble_eq_true rfl⟩) hK hE hP hD hS hA [1, 2] rfl rfl 0 3 rfl rfl rfl rfl rfl rfl hl.1 rfl (Nat.le_of_ble_eq_true rfl) dX7_clerk_5 (Nat.zero_le _) (Nat.zero_le _) rfl (fun H locs hP hD hS => ?_)
    refine lv_astore_nN (lv' := [(3, .null), (0, .ref a), (1, .int x1), (2, .int x2)]) hx hb dX7_clerk_8 rfl hl (by decide) rfl (fun ls hl => ?_)
    refine lv_aload_nN hx hb dX7_clerk_9 rfl (lv_at hl 0 rfl) ?_
    refine lv_ifnonnullN hx hb dX7_clerk_10 ?_
    refine lv_iconst (v := ((-1) : Int32)) hx hb dX7_clerk_13 (by decide) ?_
    cases h
    exact W.iret hx hb hr (fun t9 ht9 _ => zend hP hD hS ht9) hS.2.2 dX7_clerk_14
  have h := zf c5b h
  obtain ⟨g5, h⟩ := zg h
  refine zcV (As := [.int x1]) (rest := []) (ws' := (w_X7_clerk G a a_text a_letter a_images a_samples a_copies a_orders a_office a_office_clerks ca_office_clk a_draft a_office a_draft v_traced v_office_count v_office_letterTold v_office_firstTone v_office_firstMarks k_office_lean k_office_sets k_office_drops k_office_keeps)) (st1 := [.ref (ca_office_clk (x1).toNatClampNeg)]) ⟨hx, hb, hml, hown, hts⟩ (c_X3_find l G a_office a_office_clerks ca_office_clk v_office_count v_office_letterTold v_office_firstTone v_office_firstMarks x1 (some (ca_office_clk (x1).toNatClampNeg)) (by rw [fX3_find, if_neg c5a, if_neg c5b, if_pos g5])) (cwV 1 hts gX7_clerk_X3_find rfl rfl rfl (by decide +kernel) ⟨Nat.le_of_ble_eq_true rfl, Nat.le_of_ble_eq_true rfl⟩) hK hE hP hD hS hA [1, 2] rfl rfl 0 3 rfl rfl rfl rfl rfl rfl hl.1 rfl (Nat.le_of_ble_eq_true rfl) dX7_clerk_5 (Nat.zero_le _) (Nat.zero_le _) rfl (fun H locs hP hD hS => ?_)
  refine lv_astore_n (lv' := [(3, .ref (ca_office_clk (x1).toNatClampNeg)), (0, .ref a), (1, .int x1), (2, .int x2)]) hx hb dX7_clerk_8 rfl hl (by decide) rfl (fun ls hl => ?_)
  refine lv_aload_n hx hb dX7_clerk_9 rfl (lv_at hl 0 rfl) ?_
  refine lv_ifnonnull (tgt := 15) hx hb dX7_clerk_10 (by decide) ?_
  refine lv_iload_n hx hb dX7_clerk_15 rfl (lv_at hl 3 rfl) ?_
  by_cases c16_0 : x2 = (0 : Int32)
  · have h := zt c16_0 h
    refine lv_tableIn (off := 32) (tgt := 48) hx hb dX7_clerk_16 (by rw [c16_0]; decide) (by rw [c16_0]; decide) (by rw [c16_0]; rfl) (by decide) ?_
    refine lv_aload_n hx hb dX7_clerk_48 rfl (lv_at hl 0 rfl) ?_
    refine va_getN (D := G.1) (ci := 0) (v := .int (k_office_lean (x1).toNatClampNeg)) (C := RX0) (T := TX0) (N := 4) hx hb hts in_X7_clerk_X0 hown hK.1 hP (3 + (x1).toNatClampNeg) (zclks_in (by rfl) (zin_lt g5)) rfl 0 (by decide) (va_Nw.use rfl (hK.2.1.1 ("NineHands", 91, "NineHands$Clerk", "lean", "I", "NineHands") (by decide +kernel))) (fun _ h9 => h9) rfl dX7_clerk_49 ?_
    cases h
    exact W.iret hx hb hr (fun t9 ht9 _ => zend hP hD hS ht9) hS.2.2 dX7_clerk_52
  have h := zf c16_0 h
  by_cases c16_1 : x2 = (1 : Int32)
  · have h := zt c16_1 h
    refine lv_tableIn (off := 37) (tgt := 53) hx hb dX7_clerk_16 (by rw [c16_1]; decide) (by rw [c16_1]; decide) (by rw [c16_1]; rfl) (by decide) ?_
    refine lv_aload_n hx hb dX7_clerk_53 rfl (lv_at hl 0 rfl) ?_
    refine va_getN (D := G.1) (ci := 0) (v := .int (k_office_sets (x1).toNatClampNeg)) (C := RX0) (T := TX0) (N := 4) hx hb hts in_X7_clerk_X0 hown hK.1 hP (3 + (x1).toNatClampNeg) (zclks_in (by rfl) (zin_lt g5)) rfl 1 (by decide) (va_Nw.use rfl (hK.2.1.1 ("NineHands", 96, "NineHands$Clerk", "sets", "I", "NineHands") (by decide +kernel))) (fun _ h9 => h9) rfl dX7_clerk_54 ?_
    cases h
    exact W.iret hx hb hr (fun t9 ht9 _ => zend hP hD hS ht9) hS.2.2 dX7_clerk_57
  have h := zf c16_1 h
  by_cases c16_2 : x2 = (2 : Int32)
  · have h := zt c16_2 h
    refine lv_tableIn (off := 42) (tgt := 58) hx hb dX7_clerk_16 (by rw [c16_2]; decide) (by rw [c16_2]; decide) (by rw [c16_2]; rfl) (by decide) ?_
    refine lv_aload_n hx hb dX7_clerk_58 rfl (lv_at hl 0 rfl) ?_
    refine va_getN (D := G.1) (ci := 0) (v := .int (k_office_drops (x1).toNatClampNeg)) (C := RX0) (T := TX0) (N := 4) hx hb hts in_X7_clerk_X0 hown hK.1 hP (3 + (x1).toNatClampNeg) (zclks_in (by rfl) (zin_lt g5)) rfl 2 (by decide) (va_Nw.use rfl (hK.2.1.1 ("NineHands", 99, "NineHands$Clerk", "drops", "I", "NineHands") (by decide +kernel))) (fun _ h9 => h9) rfl dX7_clerk_59 ?_
    cases h
    exact W.iret hx hb hr (fun t9 ht9 _ => zend hP hD hS ht9) hS.2.2 dX7_clerk_62
  have h := zf c16_2 h
  by_cases c16_3 : x2 = (3 : Int32)
  · have h := zt c16_3 h
    refine lv_tableIn (off := 47) (tgt := 63) hx hb dX7_clerk_16 (by rw [c16_3]; decide) (by rw [c16_3]; decide) (by rw [c16_3]; rfl) (by decide) ?_
    refine lv_aload_n hx hb dX7_clerk_63 rfl (lv_at hl 0 rfl) ?_
    refine va_getN (D := G.1) (ci := 0) (v := .int (k_office_keeps (x1).toNatClampNeg)) (C := RX0) (T := TX0) (N := 4) hx hb hts in_X7_clerk_X0 hown hK.1 hP (3 + (x1).toNatClampNeg) (zclks_in (by rfl) (zin_lt g5)) rfl 3 (by decide) (va_Nw.use rfl (hK.2.1.1 ("NineHands", 102, "NineHands$Clerk", "keeps", "I", "NineHands") (by decide +kernel))) (fun _ h9 => h9) rfl dX7_clerk_64 ?_
    cases h
    exact W.iret hx hb hr (fun t9 ht9 _ => zend hP hD hS ht9) hS.2.2 dX7_clerk_67
  have h := zf c16_3 h
  refine lv_tableOut (tgt := 68) hx hb dX7_clerk_16 (by have e0 := lv_neT c16_0 (a := 0) (by decide); have e1 := lv_neT c16_1 (a := 1) (by decide); have e2 := lv_neT c16_2 (a := 2) (by decide); have e3 := lv_neT c16_3 (a := 3) (by decide); omega) (by decide) ?_
  refine lv_iconst (v := ((-1) : Int32)) hx hb dX7_clerk_68 (by decide) ?_
  cases h
  exact W.iret hx hb hr (fun t9 ht9 _ => zend hP hD hS ht9) hS.2.2 dX7_clerk_69
abbrev w_X7_line (G : zG) (a : Nat) (a_text : Nat) (a_letter : Nat) (a_letter_tones : Nat) (a_letter_marks : Nat) (a_letter_writers : Nat) (a_images : Nat) (a_samples : Nat) (a_copies : Nat) (a_orders : Nat) (a_office : Nat) (a_draft : Nat) (r_office : Nat) (r_draft : Nat) (v_traced : Int64) (v_letter_lines : Int32) (v_letter_luck : Int32) (f_letter_tones : (Nat → Int32)) (f_letter_marks : (Nat → Int32)) (f_letter_writers : (Nat → Int32)) : va_W := [(a, .inr (7, [.ref a_text, .ref a_letter, .ref a_images, .ref a_samples, .ref a_copies, .ref a_orders, .ref r_office, .ref r_draft, .long v_traced])), (a_letter, .inr (2, [.ref a_letter_tones, .ref a_letter_marks, .ref a_letter_writers, .int v_letter_lines, .int v_letter_luck])), (a_letter_tones, .inl (zCI G, 10, .inl f_letter_tones)), (a_letter_marks, .inl (zCI G, 10, .inl f_letter_marks)), (a_letter_writers, .inl (zCI G, 10, .inl f_letter_writers))]
theorem in_X7_line_X2 : ∀ w ∈ wsX20, w ∈ wsX7_line := by decide +kernel
theorem in_X7_line_X7 : ∀ w ∈ wsX70, w ∈ wsX7_line := by decide +kernel
set_option maxHeartbeats 4000000 in
set_option maxRecDepth 100000 in
theorem c_X7_line (l : Launch) (G : zG) (a : Nat) (a_text : Nat) (a_letter : Nat) (a_letter_tones : Nat) (a_letter_marks : Nat) (a_letter_writers : Nat) (a_images : Nat) (a_samples : Nat) (a_copies : Nat) (a_orders : Nat) (a_office : Nat) (a_draft : Nat) (v_traced : Int64) (v_letter_lines : Int32) (v_letter_luck : Int32) (f_letter_tones : (Nat → Int32)) (f_letter_marks : (Nat → Int32)) (f_letter_writers : (Nat → Int32)) (x1 : Int32) (x2 : Int32) (rv : Int32) (h : fX7_line v_letter_lines f_letter_tones f_letter_marks f_letter_writers x1 x2 = some rv) : zC l yX7_line wsX7_line 0 0 G [.ref a, .int x1, .int x2] (w_X7_line G a a_text a_letter a_letter_tones a_letter_marks a_letter_writers a_images a_samples a_copies a_orders a_office a_draft a_office a_draft v_traced v_letter_lines v_letter_luck f_letter_tones f_letter_marks f_letter_writers) (some (.int rv)) (w_X7_line G a a_text a_letter a_letter_tones a_letter_marks a_letter_writers a_images a_samples a_copies a_orders a_office a_draft a_office a_draft v_traced v_letter_lines v_letter_luck f_letter_tones f_letter_marks f_letter_writers) := by
  refine fun sz => Met.ofW (cc := cX7_line) (maxL := 3) (ret := (some .int)) (by decide) rfl ?_
  intro p e s m args below meth c s₁ B hml hv
  obtain ⟨rfl, hsz, hP, hK, hD0, hE⟩ := hv
  have hx := B.exec
  have hb := B.bytes
  have hr := B.returns
  have hts := atoms_spec (ws := wsX7_line) B.pre
  have hown : s.vm.findClass RX7 = some m.cls := findClass_of_methodNamed B.named
  have hlocks := B.notSynchronized
  subst hsz
  have hD := hD0.self (sz := s.heap.size)
  generalize hAe : va_A (w_X7_line G a a_text a_letter a_letter_tones a_letter_marks a_letter_writers a_images a_samples a_copies a_orders a_office a_draft a_office a_draft v_traced v_letter_lines v_letter_luck f_letter_tones f_letter_marks f_letter_writers) s.heap.size = A at hD hE ⊢
  have hA : ∀ q : Nat, s.heap.size ≤ q → A q := fun q h => by rw [← hAe]; exact Or.inr h
  have hS : va_S A s.heap s.heap [] := va_S.rf
  have hl := lv_entry ([.ref a, .int x1, .int x2]) (n := 3) (Nat.le_of_ble_eq_true rfl)
  rw [lg_entry_eq]
  generalize (lg_sl ([.ref a, .int x1, .int x2]) ++ List.replicate (3 - (lg_sl ([.ref a, .int x1, .int x2])).length) Slot.unset).toArray = ls at hl ⊢
  have hl : lv_has ls 3 [(0, .ref a), (1, .int x1), (2, .int x2)] := hl
  have hP : va_P G.1 vwCl (w_X7_line G a a_text a_letter a_letter_tones a_letter_marks a_letter_writers a_images a_samples a_copies a_orders a_office a_draft a_office a_draft v_traced v_letter_lines v_letter_luck f_letter_tones f_letter_marks f_letter_writers) s.heap := hP
  rw [fX7_line] at h
  refine lv_iload_n hx hb dX7_line_0 rfl (lv_at hl 1 rfl) ?_
  refine lv_if_lt (tgt := 15) hx hb dX7_line_1 (by decide) (fun c1 => ?_) (fun c1 => ?_)
  · have h := zt c1 h
    refine lv_iconst (v := ((-1) : Int32)) hx hb dX7_line_15 (by decide) ?_
    cases h
    exact W.iret hx hb hr (fun t9 ht9 _ => zend hP hD hS ht9) hS.2.2 dX7_line_16
  · have h := zf c1 h
    refine lv_iload_n hx hb dX7_line_4 rfl (lv_at hl 1 rfl) ?_
    refine lv_aload_n hx hb dX7_line_5 rfl (lv_at hl 0 rfl) ?_
    refine va_get (D := G.1) (ci := 7) (v := .ref a_letter) (C := RX7) (T := TX7) (N := 9) hx hb hts in_X7_line_X7 hown hK.1 hP 0 rfl rfl 1 (by decide) (hts (.fieldLink RX7 19 "NineHands" "letter" "LNineHands$Letter;") (by decide +kernel)) (fun _ h9 => h9) rfl dX7_line_6 ?_
    refine va_getN (D := G.1) (ci := 2) (v := .int v_letter_lines) (C := RX2) (T := TX2) (N := 5) hx hb hts in_X7_line_X2 hown hK.1 hP 1 rfl rfl 3 (by decide) (va_Nw.use rfl (hK.2.1.1 ("NineHands", 105, "NineHands$Letter", "lines", "I", "NineHands") (by decide +kernel))) (fun _ h9 => h9) rfl dX7_line_9 ?_
    refine lv_icmp_lt (tgt := 17) hx hb dX7_line_12 (by decide) (fun c12 => ?_) (fun c12 => ?_)
    · have h := zt c12 h
      refine lv_iload_n hx hb dX7_line_17 rfl (lv_at hl 2 rfl) ?_
      by_cases c18_0 : x2 = (0 : Int32)
      · have h := zt c18_0 h
        refine lv_tableIn (off := 26) (tgt := 44) hx hb dX7_line_18 (by rw [c18_0]; decide) (by rw [c18_0]; decide) (by rw [c18_0]; rfl) (by decide) ?_
        refine lv_aload_n hx hb dX7_line_44 rfl (lv_at hl 0 rfl) ?_
        refine va_get (D := G.1) (ci := 7) (v := .ref a_letter) (C := RX7) (T := TX7) (N := 9) hx hb hts in_X7_line_X7 hown hK.1 hP 0 rfl rfl 1 (by decide) (hts (.fieldLink RX7 19 "NineHands" "letter" "LNineHands$Letter;") (by decide +kernel)) (fun _ h9 => h9) rfl dX7_line_45 ?_
        refine va_getN (D := G.1) (ci := 2) (v := .ref a_letter_tones) (C := RX2) (T := TX2) (N := 5) hx hb hts in_X7_line_X2 hown hK.1 hP 1 rfl rfl 0 (by decide) (va_Nw.use rfl (hK.2.1.1 ("NineHands", 108, "NineHands$Letter", "tones", "[I", "NineHands") (by decide +kernel))) (fun _ h9 => h9) rfl dX7_line_48 ?_
        refine lv_iload_n hx hb dX7_line_51 rfl (lv_at hl 1 rfl) ?_
        obtain ⟨g52, h⟩ := zg h
        refine zald hx hb hK.1 hP 2 0 rfl rfl g52 (j := (x1).toNatClampNeg) rfl dX7_line_52 ?_
        cases h
        exact W.iret hx hb hr (fun t9 ht9 _ => zend hP hD hS ht9) hS.2.2 dX7_line_53
      have h := zf c18_0 h
      by_cases c18_1 : x2 = (1 : Int32)
      · have h := zt c18_1 h
        refine lv_tableIn (off := 36) (tgt := 54) hx hb dX7_line_18 (by rw [c18_1]; decide) (by rw [c18_1]; decide) (by rw [c18_1]; rfl) (by decide) ?_
        refine lv_aload_n hx hb dX7_line_54 rfl (lv_at hl 0 rfl) ?_
        refine va_get (D := G.1) (ci := 7) (v := .ref a_letter) (C := RX7) (T := TX7) (N := 9) hx hb hts in_X7_line_X7 hown hK.1 hP 0 rfl rfl 1 (by decide) (hts (.fieldLink RX7 19 "NineHands" "letter" "LNineHands$Letter;") (by decide +kernel)) (fun _ h9 => h9) rfl dX7_line_55 ?_
        refine va_getN (D := G.1) (ci := 2) (v := .ref a_letter_marks) (C := RX2) (T := TX2) (N := 5) hx hb hts in_X7_line_X2 hown hK.1 hP 1 rfl rfl 1 (by decide) (va_Nw.use rfl (hK.2.1.1 ("NineHands", 112, "NineHands$Letter", "marks", "[I", "NineHands") (by decide +kernel))) (fun _ h9 => h9) rfl dX7_line_58 ?_
        refine lv_iload_n hx hb dX7_line_61 rfl (lv_at hl 1 rfl) ?_
        obtain ⟨g62, h⟩ := zg h
        refine zald hx hb hK.1 hP 3 0 rfl rfl g62 (j := (x1).toNatClampNeg) rfl dX7_line_62 ?_
        cases h
        exact W.iret hx hb hr (fun t9 ht9 _ => zend hP hD hS ht9) hS.2.2 dX7_line_63
      have h := zf c18_1 h
      by_cases c18_2 : x2 = (2 : Int32)
      · have h := zt c18_2 h
        refine lv_tableIn (off := 46) (tgt := 64) hx hb dX7_line_18 (by rw [c18_2]; decide) (by rw [c18_2]; decide) (by rw [c18_2]; rfl) (by decide) ?_
        refine lv_aload_n hx hb dX7_line_64 rfl (lv_at hl 0 rfl) ?_
        refine va_get (D := G.1) (ci := 7) (v := .ref a_letter) (C := RX7) (T := TX7) (N := 9) hx hb hts in_X7_line_X7 hown hK.1 hP 0 rfl rfl 1 (by decide) (hts (.fieldLink RX7 19 "NineHands" "letter" "LNineHands$Letter;") (by decide +kernel)) (fun _ h9 => h9) rfl dX7_line_65 ?_
        refine va_getN (D := G.1) (ci := 2) (v := .ref a_letter_writers) (C := RX2) (T := TX2) (N := 5) hx hb hts in_X7_line_X2 hown hK.1 hP 1 rfl rfl 2 (by decide) (va_Nw.use rfl (hK.2.1.1 ("NineHands", 115, "NineHands$Letter", "writers", "[I", "NineHands") (by decide +kernel))) (fun _ h9 => h9) rfl dX7_line_68 ?_
        refine lv_iload_n hx hb dX7_line_71 rfl (lv_at hl 1 rfl) ?_
        obtain ⟨g72, h⟩ := zg h
        refine zald hx hb hK.1 hP 4 0 rfl rfl g72 (j := (x1).toNatClampNeg) rfl dX7_line_72 ?_
        cases h
        exact W.iret hx hb hr (fun t9 ht9 _ => zend hP hD hS ht9) hS.2.2 dX7_line_73
      have h := zf c18_2 h
      refine lv_tableOut (tgt := 74) hx hb dX7_line_18 (by have e0 := lv_neT c18_0 (a := 0) (by decide); have e1 := lv_neT c18_1 (a := 1) (by decide); have e2 := lv_neT c18_2 (a := 2) (by decide); omega) (by decide) ?_
      refine lv_iconst (v := ((-1) : Int32)) hx hb dX7_line_74 (by decide) ?_
      cases h
      exact W.iret hx hb hr (fun t9 ht9 _ => zend hP hD hS ht9) hS.2.2 dX7_line_75
    · have h := zf c12 h
      refine lv_iconst (v := ((-1) : Int32)) hx hb dX7_line_15 (by decide) ?_
      cases h
      exact W.iret hx hb hr (fun t9 ht9 _ => zend hP hD hS ht9) hS.2.2 dX7_line_16
abbrev w_X7_makes (G : zG) (a : Nat) (a_text : Nat) (a_letter : Nat) (a_images : Nat) (a_samples : Nat) (a_copies : Nat) (a_orders : Nat) (a_office : Nat) (a_office_clerks : Nat) (ca_office_clk : Nat → Nat) (a_draft : Nat) (r_office : Nat) (r_draft : Nat) (v_traced : Int64) (v_office_count : Int32) (v_office_letterTold : Int32) (v_office_firstTone : Int32) (v_office_firstMarks : Int32) (k_office_lean : (Nat → Int32)) (k_office_sets : (Nat → Int32)) (k_office_drops : (Nat → Int32)) (k_office_keeps : (Nat → Int32)) : va_W := [(a, .inr (7, [.ref a_text, .ref a_letter, .ref a_images, .ref a_samples, .ref a_copies, .ref a_orders, .ref r_office, .ref r_draft, .long v_traced])), (a_office, .inr (3, [.ref a_office_clerks, .int v_office_count, .int v_office_letterTold, .int v_office_firstTone, .int v_office_firstMarks])), (a_office_clerks, .inl (zCC G, 6, .inr (.inr (.inr (.inr (fun k => some (ca_office_clk k)))))))] ++ zclks ca_office_clk k_office_lean k_office_sets k_office_drops k_office_keeps
theorem in_X7_makes_X7 : ∀ w ∈ wsX70, w ∈ wsX7_makes := by decide +kernel
set_option maxHeartbeats 4000000 in
set_option maxRecDepth 100000 in
theorem c_X7_makes (l : Launch) (G : zG) (a : Nat) (a_text : Nat) (a_letter : Nat) (a_images : Nat) (a_samples : Nat) (a_copies : Nat) (a_orders : Nat) (a_office : Nat) (a_office_clerks : Nat) (ca_office_clk : Nat → Nat) (a_draft : Nat) (v_traced : Int64) (v_office_count : Int32) (v_office_letterTold : Int32) (v_office_firstTone : Int32) (v_office_firstMarks : Int32) (k_office_lean : (Nat → Int32)) (k_office_sets : (Nat → Int32)) (k_office_drops : (Nat → Int32)) (k_office_keeps : (Nat → Int32)) (x1 : Int32) (x2 : Int32) (x3 : Int32) (rv : Int32) (h : fX7_makes v_office_count k_office_lean k_office_sets k_office_drops x1 x2 x3 = some rv) : zC l yX7_makes wsX7_makes 3 66 G [.ref a, .int x1, .int x2, .int x3] (w_X7_makes G a a_text a_letter a_images a_samples a_copies a_orders a_office a_office_clerks ca_office_clk a_draft a_office a_draft v_traced v_office_count v_office_letterTold v_office_firstTone v_office_firstMarks k_office_lean k_office_sets k_office_drops k_office_keeps) (some (.int rv)) (w_X7_makes G a a_text a_letter a_images a_samples a_copies a_orders a_office a_office_clerks ca_office_clk a_draft a_office a_draft v_traced v_office_count v_office_letterTold v_office_firstTone v_office_firstMarks k_office_lean k_office_sets k_office_drops k_office_keeps) := by
  refine fun sz => Met.ofW (cc := cX7_makes) (maxL := 5) (ret := (some .int)) (by decide) rfl ?_
  intro p e s m args below meth c s₁ B hml hv
  obtain ⟨rfl, hsz, hP, hK, hD0, hE⟩ := hv
  have hx := B.exec
  have hb := B.bytes
  have hr := B.returns
  have hts := atoms_spec (ws := wsX7_makes) B.pre
  have hown : s.vm.findClass RX7 = some m.cls := findClass_of_methodNamed B.named
  have hlocks := B.notSynchronized
  subst hsz
  have hD := hD0.self (sz := s.heap.size)
  generalize hAe : va_A (w_X7_makes G a a_text a_letter a_images a_samples a_copies a_orders a_office a_office_clerks ca_office_clk a_draft a_office a_draft v_traced v_office_count v_office_letterTold v_office_firstTone v_office_firstMarks k_office_lean k_office_sets k_office_drops k_office_keeps) s.heap.size = A at hD hE ⊢
  have hA : ∀ q : Nat, s.heap.size ≤ q → A q := fun q h => by rw [← hAe]; exact Or.inr h
  have hS : va_S A s.heap s.heap [] := va_S.rf
  have hl := lv_entry ([.ref a, .int x1, .int x2, .int x3]) (n := 5) (Nat.le_of_ble_eq_true rfl)
  rw [lg_entry_eq]
  generalize (lg_sl ([.ref a, .int x1, .int x2, .int x3]) ++ List.replicate (5 - (lg_sl ([.ref a, .int x1, .int x2, .int x3])).length) Slot.unset).toArray = ls at hl ⊢
  have hl : lv_has ls 5 [(0, .ref a), (1, .int x1), (2, .int x2), (3, .int x3)] := hl
  have hP : va_P G.1 vwCl (w_X7_makes G a a_text a_letter a_images a_samples a_copies a_orders a_office a_office_clerks ca_office_clk a_draft a_office a_draft v_traced v_office_count v_office_letterTold v_office_firstTone v_office_firstMarks k_office_lean k_office_sets k_office_drops k_office_keeps) s.heap := hP
  rw [fX7_makes] at h
  refine lv_aload_n hx hb dX7_makes_0 rfl (lv_at hl 0 rfl) ?_
  refine va_get (D := G.1) (ci := 7) (v := .ref a_office) (C := RX7) (T := TX7) (N := 9) hx hb hts in_X7_makes_X7 hown hK.1 hP 0 rfl rfl 6 (by decide) (hts (.fieldLink RX7 51 "NineHands" "office" "LNineHands$Office;") (by decide +kernel)) (fun _ h9 => h9) rfl dX7_makes_1 ?_
  refine lv_iload_n hx hb dX7_makes_4 rfl (lv_at hl 1 rfl) ?_
  by_cases c5a : x1 < 0
  · have h := zt c5a h
    refine zcV (As := [.int x1]) (rest := []) (ws' := (w_X7_makes G a a_text a_letter a_images a_samples a_copies a_orders a_office a_office_clerks ca_office_clk a_draft a_office a_draft v_traced v_office_count v_office_letterTold v_office_firstTone v_office_firstMarks k_office_lean k_office_sets k_office_drops k_office_keeps)) (st1 := [.null]) ⟨hx, hb, hml, hown, hts⟩ (c_X3_find l G a_office a_office_clerks ca_office_clk v_office_count v_office_letterTold v_office_firstTone v_office_firstMarks x1 none (by rw [fX3_find, if_pos c5a])) (cwV 1 hts gX7_makes_X3_find rfl rfl rfl (by decide +kernel) ⟨Nat.le_of_ble_eq_true rfl, Nat.le_of_ble_eq_true rfl⟩) hK hE hP hD hS hA [1, 2] rfl rfl 0 3 rfl rfl rfl rfl rfl rfl hl.1 rfl (Nat.le_of_ble_eq_true rfl) dX7_makes_5 (Nat.zero_le _) (Nat.zero_le _) rfl (fun H locs hP hD hS => ?_)
    refine lv_astoreN (lv' := [(4, .null), (0, .ref a), (1, .int x1), (2, .int x2), (3, .int x3)]) hx hb dX7_makes_8 hl (by decide) rfl (fun ls hl => ?_)
    refine lv_aloadN hx hb dX7_makes_10 (lv_at hl 0 rfl) ?_
    refine lv_ifnullN (tgt := 23) hx hb dX7_makes_12 (by decide) ?_
    refine lv_iconst (v := ((-1) : Int32)) hx hb dX7_makes_23 (by decide) ?_
    cases h
    exact W.iret hx hb hr (fun t9 ht9 _ => zend hP hD hS ht9) hS.2.2 dX7_makes_24
  have h := zf c5a h
  by_cases c5b : v_office_count ≤ x1
  · have h := zt c5b h
    refine zcV (As := [.int x1]) (rest := []) (ws' := (w_X7_makes G a a_text a_letter a_images a_samples a_copies a_orders a_office a_office_clerks ca_office_clk a_draft a_office a_draft v_traced v_office_count v_office_letterTold v_office_firstTone v_office_firstMarks k_office_lean k_office_sets k_office_drops k_office_keeps)) (st1 := [.null]) ⟨hx, hb, hml, hown, hts⟩ (c_X3_find l G a_office a_office_clerks ca_office_clk v_office_count v_office_letterTold v_office_firstTone v_office_firstMarks x1 none (by rw [fX3_find, if_neg c5a, if_pos c5b])) (cwV 1 hts gX7_makes_X3_find rfl rfl rfl (by decide +kernel) ⟨Nat.le_of_ble_eq_true rfl, Nat.le_of_ble_eq_true rfl⟩) hK hE hP hD hS hA [1, 2] rfl rfl 0 3 rfl rfl rfl rfl rfl rfl hl.1 rfl (Nat.le_of_ble_eq_true rfl) dX7_makes_5 (Nat.zero_le _) (Nat.zero_le _) rfl (fun H locs hP hD hS => ?_)
    refine lv_astoreN (lv' := [(4, .null), (0, .ref a), (1, .int x1), (2, .int x2), (3, .int x3)]) hx hb dX7_makes_8 hl (by decide) rfl (fun ls hl => ?_)
    refine lv_aloadN hx hb dX7_makes_10 (lv_at hl 0 rfl) ?_
    refine lv_ifnullN (tgt := 23) hx hb dX7_makes_12 (by decide) ?_
    refine lv_iconst (v := ((-1) : Int32)) hx hb dX7_makes_23 (by decide) ?_
    cases h
    exact W.iret hx hb hr (fun t9 ht9 _ => zend hP hD hS ht9) hS.2.2 dX7_makes_24
  have h := zf c5b h
  obtain ⟨g5, h⟩ := zg h
  refine zcV (As := [.int x1]) (rest := []) (ws' := (w_X7_makes G a a_text a_letter a_images a_samples a_copies a_orders a_office a_office_clerks ca_office_clk a_draft a_office a_draft v_traced v_office_count v_office_letterTold v_office_firstTone v_office_firstMarks k_office_lean k_office_sets k_office_drops k_office_keeps)) (st1 := [.ref (ca_office_clk (x1).toNatClampNeg)]) ⟨hx, hb, hml, hown, hts⟩ (c_X3_find l G a_office a_office_clerks ca_office_clk v_office_count v_office_letterTold v_office_firstTone v_office_firstMarks x1 (some (ca_office_clk (x1).toNatClampNeg)) (by rw [fX3_find, if_neg c5a, if_neg c5b, if_pos g5])) (cwV 1 hts gX7_makes_X3_find rfl rfl rfl (by decide +kernel) ⟨Nat.le_of_ble_eq_true rfl, Nat.le_of_ble_eq_true rfl⟩) hK hE hP hD hS hA [1, 2] rfl rfl 0 3 rfl rfl rfl rfl rfl rfl hl.1 rfl (Nat.le_of_ble_eq_true rfl) dX7_makes_5 (Nat.zero_le _) (Nat.zero_le _) rfl (fun H locs hP hD hS => ?_)
  refine lv_astore (lv' := [(4, .ref (ca_office_clk (x1).toNatClampNeg)), (0, .ref a), (1, .int x1), (2, .int x2), (3, .int x3)]) hx hb dX7_makes_8 hl (by decide) rfl (fun ls hl => ?_)
  refine lv_aload hx hb dX7_makes_10 (lv_at hl 0 rfl) ?_
  refine lv_ifnull hx hb dX7_makes_12 ?_
  refine lv_iload_n hx hb dX7_makes_15 rfl (lv_at hl 3 rfl) ?_
  refine lv_iload_n hx hb dX7_makes_16 rfl (lv_at hl 4 rfl) ?_
  obtain ⟨y17, hc17, h⟩ := zb1_e h
  refine zcS (As := [.int x2, .int x3]) (rest := []) (ws' := (w_X7_makes G a a_text a_letter a_images a_samples a_copies a_orders a_office a_office_clerks ca_office_clk a_draft a_office a_draft v_traced v_office_count v_office_letterTold v_office_firstTone v_office_firstMarks k_office_lean k_office_sets k_office_drops k_office_keeps)) (st1 := [.int y17]) ⟨hx, hb, hml, hown, hts⟩ (c_X7_isLine l G x2 x3 y17 hc17) (va_cwS 2 hts gX7_makes_X7_isLine rfl rfl rfl (by decide +kernel) ⟨Nat.le_of_ble_eq_true rfl, Nat.le_of_ble_eq_true rfl⟩) hK hE hP hD hS hA [] rfl rfl rfl rfl rfl hl.1 rfl (Nat.le_of_ble_eq_true rfl) dX7_makes_17 (Nat.zero_le _) (Nat.zero_le _) rfl (fun H locs hP hD hS => ?_)
  refine lv_if_ne (tgt := 25) hx hb dX7_makes_20 (by decide) (fun c20 => ?_) (fun c20 => ?_)
  · have h := zf c20 h
    refine lv_aload hx hb dX7_makes_25 (lv_at hl 0 rfl) ?_
    refine lv_iload_n hx hb dX7_makes_27 rfl (lv_at hl 3 rfl) ?_
    obtain ⟨y28, hc28, h⟩ := zb1_e h
    refine zcV (As := [.int x2]) (rest := []) (ws' := (w_X7_makes G a a_text a_letter a_images a_samples a_copies a_orders a_office a_office_clerks ca_office_clk a_draft a_office a_draft v_traced v_office_count v_office_letterTold v_office_firstTone v_office_firstMarks k_office_lean k_office_sets k_office_drops k_office_keeps)) (st1 := [.int y28]) ⟨hx, hb, hml, hown, hts⟩ (c_X0_toneBehind l G (ca_office_clk (x1).toNatClampNeg) (k_office_lean (x1).toNatClampNeg) (k_office_sets (x1).toNatClampNeg) (k_office_drops (x1).toNatClampNeg) (k_office_keeps (x1).toNatClampNeg) x2 y28 hc28) (cwV 1 hts gX7_makes_X0_toneBehind rfl rfl rfl (by decide +kernel) ⟨Nat.le_of_ble_eq_true rfl, Nat.le_of_ble_eq_true rfl⟩) hK hE hP hD hS hA [3 + (x1).toNatClampNeg] rfl (zclks_map (by rfl) (zin_lt g5)) 0 0 rfl rfl rfl rfl (zclks_put (by rfl) (zin_lt g5)) rfl hl.1 rfl (Nat.le_of_ble_eq_true rfl) dX7_makes_28 (Nat.zero_le _) (Nat.zero_le _) rfl (fun H locs hP hD hS => ?_)
    refine lv_aload hx hb dX7_makes_31 (lv_at hl 0 rfl) ?_
    refine lv_iload_n hx hb dX7_makes_33 rfl (lv_at hl 4 rfl) ?_
    obtain ⟨y34, hc34, h⟩ := zb1_e h
    refine zcV (As := [.int x3]) (rest := [.int y28]) (ws' := (w_X7_makes G a a_text a_letter a_images a_samples a_copies a_orders a_office a_office_clerks ca_office_clk a_draft a_office a_draft v_traced v_office_count v_office_letterTold v_office_firstTone v_office_firstMarks k_office_lean k_office_sets k_office_drops k_office_keeps)) (st1 := [.int y34, .int y28]) ⟨hx, hb, hml, hown, hts⟩ (c_X0_marksBehind l G (ca_office_clk (x1).toNatClampNeg) (k_office_lean (x1).toNatClampNeg) (k_office_sets (x1).toNatClampNeg) (k_office_drops (x1).toNatClampNeg) (k_office_keeps (x1).toNatClampNeg) x3 y34 hc34) (cwV 1 hts gX7_makes_X0_marksBehind rfl rfl rfl (by decide +kernel) ⟨Nat.le_of_ble_eq_true rfl, Nat.le_of_ble_eq_true rfl⟩) hK hE hP hD hS hA [3 + (x1).toNatClampNeg] rfl (zclks_map (by rfl) (zin_lt g5)) 0 0 rfl rfl rfl rfl (zclks_put (by rfl) (zin_lt g5)) rfl hl.1 rfl (Nat.le_of_ble_eq_true rfl) dX7_makes_34 (Nat.zero_le _) (Nat.zero_le _) rfl (fun H locs hP hD hS => ?_)
    obtain ⟨y37, hc37, h⟩ := zb1_e h
    refine zcS (As := [.int y28, .int y34]) (rest := []) (ws' := (w_X7_makes G a a_text a_letter a_images a_samples a_copies a_orders a_office a_office_clerks ca_office_clk a_draft a_office a_draft v_traced v_office_count v_office_letterTold v_office_firstTone v_office_firstMarks k_office_lean k_office_sets k_office_drops k_office_keeps)) (st1 := [.int y37]) ⟨hx, hb, hml, hown, hts⟩ (c_X7_told l G y28 y34 y37 hc37) (va_cwS 2 hts gX7_makes_X7_told rfl rfl rfl (by decide +kernel) ⟨Nat.le_of_ble_eq_true rfl, Nat.le_of_ble_eq_true rfl⟩) hK hE hP hD hS hA [] rfl rfl rfl rfl rfl hl.1 rfl (Nat.le_of_ble_eq_true rfl) dX7_makes_37 (Nat.zero_le _) (Nat.zero_le _) rfl (fun H locs hP hD hS => ?_)
    cases h
    exact W.iret hx hb hr (fun t9 ht9 _ => zend hP hD hS ht9) hS.2.2 dX7_makes_40
  · have h := zt c20 h
    refine lv_iconst (v := ((-1) : Int32)) hx hb dX7_makes_23 (by decide) ?_
    cases h
    exact W.iret hx hb hr (fun t9 ht9 _ => zend hP hD hS ht9) hS.2.2 dX7_makes_24
abbrev w_X7_write (G : zG) (a : Nat) (a_text : Nat) (a_letter : Nat) (a_letter_tones : Nat) (a_letter_marks : Nat) (a_letter_writers : Nat) (a_images : Nat) (a_samples : Nat) (a_copies : Nat) (a_orders : Nat) (a_office : Nat) (a_office_clerks : Nat) (ca_office_clk : Nat → Nat) (a_draft : Nat) (r_office : Nat) (r_draft : Nat) (v_traced : Int64) (v_letter_lines : Int32) (v_letter_luck : Int32) (f_letter_tones : (Nat → Int32)) (f_letter_marks : (Nat → Int32)) (f_letter_writers : (Nat → Int32)) (v_office_count : Int32) (v_office_letterTold : Int32) (v_office_firstTone : Int32) (v_office_firstMarks : Int32) (k_office_lean : (Nat → Int32)) (k_office_sets : (Nat → Int32)) (k_office_drops : (Nat → Int32)) (k_office_keeps : (Nat → Int32)) : va_W := [(a, .inr (7, [.ref a_text, .ref a_letter, .ref a_images, .ref a_samples, .ref a_copies, .ref a_orders, .ref r_office, .ref r_draft, .long v_traced])), (a_letter, .inr (2, [.ref a_letter_tones, .ref a_letter_marks, .ref a_letter_writers, .int v_letter_lines, .int v_letter_luck])), (a_letter_tones, .inl (zCI G, 10, .inl f_letter_tones)), (a_letter_marks, .inl (zCI G, 10, .inl f_letter_marks)), (a_letter_writers, .inl (zCI G, 10, .inl f_letter_writers)), (a_office, .inr (3, [.ref a_office_clerks, .int v_office_count, .int v_office_letterTold, .int v_office_firstTone, .int v_office_firstMarks])), (a_office_clerks, .inl (zCC G, 6, .inr (.inr (.inr (.inr (fun k => some (ca_office_clk k)))))))] ++ zclks ca_office_clk k_office_lean k_office_sets k_office_drops k_office_keeps
theorem in_X7_write_X0 : ∀ w ∈ wsX00, w ∈ wsX7_write := by decide +kernel
theorem in_X7_write_X7 : ∀ w ∈ wsX70, w ∈ wsX7_write := by decide +kernel
set_option maxHeartbeats 4000000 in
set_option maxRecDepth 100000 in
theorem c_X7_write (l : Launch) (G : zG) (a : Nat) (a_text : Nat) (a_letter : Nat) (a_letter_tones : Nat) (a_letter_marks : Nat) (a_letter_writers : Nat) (a_images : Nat) (a_samples : Nat) (a_copies : Nat) (a_orders : Nat) (a_office : Nat) (a_office_clerks : Nat) (ca_office_clk : Nat → Nat) (a_draft : Nat) (v_traced : Int64) (v_letter_lines : Int32) (v_letter_luck : Int32) (f_letter_tones : (Nat → Int32)) (f_letter_marks : (Nat → Int32)) (f_letter_writers : (Nat → Int32)) (v_office_count : Int32) (v_office_letterTold : Int32) (v_office_firstTone : Int32) (v_office_firstMarks : Int32) (k_office_lean : (Nat → Int32)) (k_office_sets : (Nat → Int32)) (k_office_drops : (Nat → Int32)) (k_office_keeps : (Nat → Int32)) (x1 : Int32) (rv : Int32) (ov_letter_lines : Int32) (ov_letter_luck : Int32) (of_letter_tones : (Nat → Int32)) (of_letter_marks : (Nat → Int32)) (of_letter_writers : (Nat → Int32)) (h : fX7_write v_letter_lines v_letter_luck f_letter_tones f_letter_marks f_letter_writers v_office_count k_office_lean k_office_sets k_office_drops k_office_keeps x1 = some (rv, ov_letter_lines, ov_letter_luck, of_letter_tones, of_letter_marks, of_letter_writers)) : zC l yX7_write wsX7_write 3 66 G [.ref a, .int x1] (w_X7_write G a a_text a_letter a_letter_tones a_letter_marks a_letter_writers a_images a_samples a_copies a_orders a_office a_office_clerks ca_office_clk a_draft a_office a_draft v_traced v_letter_lines v_letter_luck f_letter_tones f_letter_marks f_letter_writers v_office_count v_office_letterTold v_office_firstTone v_office_firstMarks k_office_lean k_office_sets k_office_drops k_office_keeps) (some (.int rv)) (w_X7_write G a a_text a_letter a_letter_tones a_letter_marks a_letter_writers a_images a_samples a_copies a_orders a_office a_office_clerks ca_office_clk a_draft a_office a_draft v_traced ov_letter_lines ov_letter_luck of_letter_tones of_letter_marks of_letter_writers v_office_count v_office_letterTold v_office_firstTone v_office_firstMarks k_office_lean k_office_sets k_office_drops k_office_keeps) := by
  refine fun sz => Met.ofW (cc := cX7_write) (maxL := 5) (ret := (some .int)) (by decide) rfl ?_
  intro p e s m args below meth c s₁ B hml hv
  obtain ⟨rfl, hsz, hP, hK, hD0, hE⟩ := hv
  have hx := B.exec
  have hb := B.bytes
  have hr := B.returns
  have hts := atoms_spec (ws := wsX7_write) B.pre
  have hown : s.vm.findClass RX7 = some m.cls := findClass_of_methodNamed B.named
  have hlocks := B.notSynchronized
  subst hsz
  have hD := hD0.self (sz := s.heap.size)
  generalize hAe : va_A (w_X7_write G a a_text a_letter a_letter_tones a_letter_marks a_letter_writers a_images a_samples a_copies a_orders a_office a_office_clerks ca_office_clk a_draft a_office a_draft v_traced v_letter_lines v_letter_luck f_letter_tones f_letter_marks f_letter_writers v_office_count v_office_letterTold v_office_firstTone v_office_firstMarks k_office_lean k_office_sets k_office_drops k_office_keeps) s.heap.size = A at hD hE ⊢
  have hA : ∀ q : Nat, s.heap.size ≤ q → A q := fun q h => by rw [← hAe]; exact Or.inr h
  have hS : va_S A s.heap s.heap [] := va_S.rf
  have hl := lv_entry ([.ref a, .int x1]) (n := 5) (Nat.le_of_ble_eq_true rfl)
  rw [lg_entry_eq]
  generalize (lg_sl ([.ref a, .int x1]) ++ List.replicate (5 - (lg_sl ([.ref a, .int x1])).length) Slot.unset).toArray = ls at hl ⊢
  have hl : lv_has ls 5 [(0, .ref a), (1, .int x1)] := hl
  have hP : va_P G.1 vwCl (w_X7_write G a a_text a_letter a_letter_tones a_letter_marks a_letter_writers a_images a_samples a_copies a_orders a_office a_office_clerks ca_office_clk a_draft a_office a_draft v_traced v_letter_lines v_letter_luck f_letter_tones f_letter_marks f_letter_writers v_office_count v_office_letterTold v_office_firstTone v_office_firstMarks k_office_lean k_office_sets k_office_drops k_office_keeps) s.heap := hP
  rw [fX7_write] at h
  have join_73 : ∀ (l3_73 : Int32) (l4_73 : Int32) (v_letter_lines_73 : Int32) (v_letter_luck_73 : Int32) (f_letter_tones_73 : (Nat → Int32)) (f_letter_marks_73 : (Nat → Int32)) (f_letter_writers_73 : (Nat → Int32)) (H : Heap) (locs : List Loc) (ls : Array Slot), fX7_write_J73 x1 l3_73 l4_73 v_letter_lines_73 v_letter_luck_73 f_letter_tones_73 f_letter_marks_73 f_letter_writers_73 = some (rv, ov_letter_lines, ov_letter_luck, of_letter_tones, of_letter_marks, of_letter_writers) → va_P G.1 vwCl (w_X7_write G a a_text a_letter a_letter_tones a_letter_marks a_letter_writers a_images a_samples a_copies a_orders a_office a_office_clerks ca_office_clk a_draft a_office a_draft v_traced v_letter_lines_73 v_letter_luck_73 f_letter_tones_73 f_letter_marks_73 f_letter_writers_73 v_office_count v_office_letterTold v_office_firstTone v_office_firstMarks k_office_lean k_office_sets k_office_drops k_office_keeps) H → va_D A (w_X7_write G a a_text a_letter a_letter_tones a_letter_marks a_letter_writers a_images a_samples a_copies a_orders a_office a_office_clerks ca_office_clk a_draft a_office a_draft v_traced v_letter_lines_73 v_letter_luck_73 f_letter_tones_73 f_letter_marks_73 f_letter_writers_73 v_office_count v_office_letterTold v_office_firstTone v_office_firstMarks k_office_lean k_office_sets k_office_drops k_office_keeps) → va_S A s.heap H locs → lv_has ls 5 [(0, .ref a), (1, .int x1), (3, .int l3_73), (4, .int l4_73)] → W p l e (headSpec wsX7_write { frames := 3, cells := 0, slots := 0, locals := 66 }).room s m ([.ref a, .int x1] : List Value).toArray below meth c H locs 0 0 (MQ below (zQ (some (.int rv)) G (w_X7_write G a a_text a_letter a_letter_tones a_letter_marks a_letter_writers a_images a_samples a_copies a_orders a_office a_office_clerks ca_office_clk a_draft a_office a_draft v_traced ov_letter_lines ov_letter_luck of_letter_tones of_letter_marks of_letter_writers v_office_count v_office_letterTold v_office_firstTone v_office_firstMarks k_office_lean k_office_sets k_office_drops k_office_keeps) A) ([.ref a, .int x1] : List Value).toArray s 0 0 A) (F0 m 73 ls []) := by
    intro l3_73 l4_73 v_letter_lines_73 v_letter_luck_73 f_letter_tones_73 f_letter_marks_73 f_letter_writers_73 H locs ls h hP hD hS hl
    rw [fX7_write_J73] at h
    refine lv_aload_n hx hb dX7_write_73 rfl (lv_at hl 0 rfl) ?_
    refine va_get (D := G.1) (ci := 7) (v := .ref a_letter) (C := RX7) (T := TX7) (N := 9) hx hb hts in_X7_write_X7 hown hK.1 hP 0 rfl rfl 1 (by decide) (hts (.fieldLink RX7 19 "NineHands" "letter" "LNineHands$Letter;") (by decide +kernel)) (fun _ h9 => h9) rfl dX7_write_74 ?_
    refine lv_iload_n hx hb dX7_write_77 rfl (lv_at hl 2 rfl) ?_
    refine lv_iload hx hb dX7_write_78 (lv_at hl 3 rfl) ?_
    refine lv_iload_n hx hb dX7_write_80 rfl (lv_at hl 1 rfl) ?_
    obtain ⟨y81_v_lines, y81_f_tones, y81_f_marks, y81_f_writers, hc81, h⟩ := zb4_e h
    refine zcV (As := [.int l3_73, .int l4_73, .int x1]) (rest := []) (ws' := (w_X7_write G a a_text a_letter a_letter_tones a_letter_marks a_letter_writers a_images a_samples a_copies a_orders a_office a_office_clerks ca_office_clk a_draft a_office a_draft v_traced y81_v_lines v_letter_luck_73 y81_f_tones y81_f_marks y81_f_writers v_office_count v_office_letterTold v_office_firstTone v_office_firstMarks k_office_lean k_office_sets k_office_drops k_office_keeps)) (st1 := []) ⟨hx, hb, hml, hown, hts⟩ (c_X2_add l G a_letter a_letter_tones a_letter_marks a_letter_writers v_letter_lines_73 v_letter_luck_73 f_letter_tones_73 f_letter_marks_73 f_letter_writers_73 l3_73 l4_73 x1 y81_v_lines y81_f_tones y81_f_marks y81_f_writers hc81) (cwV 3 hts gX7_write_X2_add rfl rfl rfl (by decide +kernel) ⟨Nat.le_of_ble_eq_true rfl, Nat.le_of_ble_eq_true rfl⟩) hK hE hP hD hS hA [1, 2, 3, 4] rfl rfl 0 2 rfl rfl rfl rfl rfl rfl hl.1 rfl (Nat.le_of_ble_eq_true rfl) dX7_write_81 (Nat.zero_le _) (Nat.zero_le _) rfl (fun H locs hP hD hS => ?_)
    refine lv_iload_n hx hb dX7_write_84 rfl (lv_at hl 2 rfl) ?_
    refine lv_iload hx hb dX7_write_85 (lv_at hl 3 rfl) ?_
    obtain ⟨y87, hc87, h⟩ := zb1_e h
    refine zcS (As := [.int l3_73, .int l4_73]) (rest := []) (ws' := (w_X7_write G a a_text a_letter a_letter_tones a_letter_marks a_letter_writers a_images a_samples a_copies a_orders a_office a_office_clerks ca_office_clk a_draft a_office a_draft v_traced y81_v_lines v_letter_luck_73 y81_f_tones y81_f_marks y81_f_writers v_office_count v_office_letterTold v_office_firstTone v_office_firstMarks k_office_lean k_office_sets k_office_drops k_office_keeps)) (st1 := [.int y87]) ⟨hx, hb, hml, hown, hts⟩ (c_X7_told l G l3_73 l4_73 y87 hc87) (va_cwS 2 hts gX7_write_X7_told rfl rfl rfl (by decide +kernel) ⟨Nat.le_of_ble_eq_true rfl, Nat.le_of_ble_eq_true rfl⟩) hK hE hP hD hS hA [] rfl rfl rfl rfl rfl hl.1 rfl (Nat.le_of_ble_eq_true rfl) dX7_write_87 (Nat.zero_le _) (Nat.zero_le _) rfl (fun H locs hP hD hS => ?_)
    cases h
    exact W.iret hx hb hr (fun t9 ht9 _ => zend hP hD hS ht9) hS.2.2 dX7_write_90
  refine lv_aload_n hx hb dX7_write_0 rfl (lv_at hl 0 rfl) ?_
  refine va_get (D := G.1) (ci := 7) (v := .ref a_office) (C := RX7) (T := TX7) (N := 9) hx hb hts in_X7_write_X7 hown hK.1 hP 0 rfl rfl 6 (by decide) (hts (.fieldLink RX7 51 "NineHands" "office" "LNineHands$Office;") (by decide +kernel)) (fun _ h9 => h9) rfl dX7_write_1 ?_
  refine lv_iload_n hx hb dX7_write_4 rfl (lv_at hl 1 rfl) ?_
  by_cases c5a : x1 < 0
  · have h := zt c5a h
    refine zcV (As := [.int x1]) (rest := []) (ws' := (w_X7_write G a a_text a_letter a_letter_tones a_letter_marks a_letter_writers a_images a_samples a_copies a_orders a_office a_office_clerks ca_office_clk a_draft a_office a_draft v_traced v_letter_lines v_letter_luck f_letter_tones f_letter_marks f_letter_writers v_office_count v_office_letterTold v_office_firstTone v_office_firstMarks k_office_lean k_office_sets k_office_drops k_office_keeps)) (st1 := [.null]) ⟨hx, hb, hml, hown, hts⟩ (c_X3_find l G a_office a_office_clerks ca_office_clk v_office_count v_office_letterTold v_office_firstTone v_office_firstMarks x1 none (by rw [fX3_find, if_pos c5a])) (cwV 1 hts gX7_write_X3_find rfl rfl rfl (by decide +kernel) ⟨Nat.le_of_ble_eq_true rfl, Nat.le_of_ble_eq_true rfl⟩) hK hE hP hD hS hA [5, 6] rfl rfl 0 3 rfl rfl rfl rfl rfl rfl hl.1 rfl (Nat.le_of_ble_eq_true rfl) dX7_write_5 (Nat.zero_le _) (Nat.zero_le _) rfl (fun H locs hP hD hS => ?_)
    refine lv_astore_nN (lv' := [(2, .null), (0, .ref a), (1, .int x1)]) hx hb dX7_write_8 rfl hl (by decide) rfl (fun ls hl => ?_)
    refine lv_aload_nN hx hb dX7_write_9 rfl (lv_at hl 0 rfl) ?_
    refine lv_ifnonnullN hx hb dX7_write_10 ?_
    refine lv_iconst (v := ((-1) : Int32)) hx hb dX7_write_13 (by decide) ?_
    cases h
    exact W.iret hx hb hr (fun t9 ht9 _ => zend hP hD hS ht9) hS.2.2 dX7_write_14
  have h := zf c5a h
  by_cases c5b : v_office_count ≤ x1
  · have h := zt c5b h
    refine zcV (As := [.int x1]) (rest := []) (ws' := (w_X7_write G a a_text a_letter a_letter_tones a_letter_marks a_letter_writers a_images a_samples a_copies a_orders a_office a_office_clerks ca_office_clk a_draft a_office a_draft v_traced v_letter_lines v_letter_luck f_letter_tones f_letter_marks f_letter_writers v_office_count v_office_letterTold v_office_firstTone v_office_firstMarks k_office_lean k_office_sets k_office_drops k_office_keeps)) (st1 := [.null]) ⟨hx, hb, hml, hown, hts⟩ (c_X3_find l G a_office a_office_clerks ca_office_clk v_office_count v_office_letterTold v_office_firstTone v_office_firstMarks x1 none (by rw [fX3_find, if_neg c5a, if_pos c5b])) (cwV 1 hts gX7_write_X3_find rfl rfl rfl (by decide +kernel) ⟨Nat.le_of_ble_eq_true rfl, Nat.le_of_ble_eq_true rfl⟩) hK hE hP hD hS hA [5, 6] rfl rfl 0 3 rfl rfl rfl rfl rfl rfl hl.1 rfl (Nat.le_of_ble_eq_true rfl) dX7_write_5 (Nat.zero_le _) (Nat.zero_le _) rfl (fun H locs hP hD hS => ?_)
    refine lv_astore_nN (lv' := [(2, .null), (0, .ref a), (1, .int x1)]) hx hb dX7_write_8 rfl hl (by decide) rfl (fun ls hl => ?_)
    refine lv_aload_nN hx hb dX7_write_9 rfl (lv_at hl 0 rfl) ?_
    refine lv_ifnonnullN hx hb dX7_write_10 ?_
    refine lv_iconst (v := ((-1) : Int32)) hx hb dX7_write_13 (by decide) ?_
    cases h
    exact W.iret hx hb hr (fun t9 ht9 _ => zend hP hD hS ht9) hS.2.2 dX7_write_14
  have h := zf c5b h
  obtain ⟨g5, h⟩ := zg h
  refine zcV (As := [.int x1]) (rest := []) (ws' := (w_X7_write G a a_text a_letter a_letter_tones a_letter_marks a_letter_writers a_images a_samples a_copies a_orders a_office a_office_clerks ca_office_clk a_draft a_office a_draft v_traced v_letter_lines v_letter_luck f_letter_tones f_letter_marks f_letter_writers v_office_count v_office_letterTold v_office_firstTone v_office_firstMarks k_office_lean k_office_sets k_office_drops k_office_keeps)) (st1 := [.ref (ca_office_clk (x1).toNatClampNeg)]) ⟨hx, hb, hml, hown, hts⟩ (c_X3_find l G a_office a_office_clerks ca_office_clk v_office_count v_office_letterTold v_office_firstTone v_office_firstMarks x1 (some (ca_office_clk (x1).toNatClampNeg)) (by rw [fX3_find, if_neg c5a, if_neg c5b, if_pos g5])) (cwV 1 hts gX7_write_X3_find rfl rfl rfl (by decide +kernel) ⟨Nat.le_of_ble_eq_true rfl, Nat.le_of_ble_eq_true rfl⟩) hK hE hP hD hS hA [5, 6] rfl rfl 0 3 rfl rfl rfl rfl rfl rfl hl.1 rfl (Nat.le_of_ble_eq_true rfl) dX7_write_5 (Nat.zero_le _) (Nat.zero_le _) rfl (fun H locs hP hD hS => ?_)
  refine lv_astore_n (lv' := [(2, .ref (ca_office_clk (x1).toNatClampNeg)), (0, .ref a), (1, .int x1)]) hx hb dX7_write_8 rfl hl (by decide) rfl (fun ls hl => ?_)
  refine lv_aload_n hx hb dX7_write_9 rfl (lv_at hl 0 rfl) ?_
  refine lv_ifnonnull (tgt := 15) hx hb dX7_write_10 (by decide) ?_
  refine lv_aload_n hx hb dX7_write_15 rfl (lv_at hl 1 rfl) ?_
  refine va_get (D := G.1) (ci := 7) (v := .ref a_letter) (C := RX7) (T := TX7) (N := 9) hx hb hts in_X7_write_X7 hown hK.1 hP 0 rfl rfl 1 (by decide) (hts (.fieldLink RX7 19 "NineHands" "letter" "LNineHands$Letter;") (by decide +kernel)) (fun _ h9 => h9) rfl dX7_write_16 ?_
  obtain ⟨y19, hc19, h⟩ := zb1_e h
  refine zcV (As := []) (rest := []) (ws' := (w_X7_write G a a_text a_letter a_letter_tones a_letter_marks a_letter_writers a_images a_samples a_copies a_orders a_office a_office_clerks ca_office_clk a_draft a_office a_draft v_traced v_letter_lines v_letter_luck f_letter_tones f_letter_marks f_letter_writers v_office_count v_office_letterTold v_office_firstTone v_office_firstMarks k_office_lean k_office_sets k_office_drops k_office_keeps)) (st1 := [.int y19]) ⟨hx, hb, hml, hown, hts⟩ (c_X2_isFull l G a_letter a_letter_tones a_letter_marks a_letter_writers v_letter_lines v_letter_luck y19 hc19) (cwV 0 hts gX7_write_X2_isFull rfl rfl rfl (by decide +kernel) ⟨Nat.le_of_ble_eq_true rfl, Nat.le_of_ble_eq_true rfl⟩) hK hE hP hD hS hA [1] rfl rfl 0 2 rfl rfl rfl rfl rfl rfl hl.1 rfl (Nat.le_of_ble_eq_true rfl) dX7_write_19 (Nat.zero_le _) (Nat.zero_le _) rfl (fun H locs hP hD hS => ?_)
  refine lv_if_eq (tgt := 28) hx hb dX7_write_22 (by decide) (fun c22 => ?_) (fun c22 => ?_)
  · have h := zt c22 h
    refine lv_aload_n hx hb dX7_write_28 rfl (lv_at hl 1 rfl) ?_
    refine va_get (D := G.1) (ci := 7) (v := .ref a_letter) (C := RX7) (T := TX7) (N := 9) hx hb hts in_X7_write_X7 hown hK.1 hP 0 rfl rfl 1 (by decide) (hts (.fieldLink RX7 19 "NineHands" "letter" "LNineHands$Letter;") (by decide +kernel)) (fun _ h9 => h9) rfl dX7_write_29 ?_
    obtain ⟨y32, hc32, h⟩ := zb1_e h
    refine zcV (As := []) (rest := []) (ws' := (w_X7_write G a a_text a_letter a_letter_tones a_letter_marks a_letter_writers a_images a_samples a_copies a_orders a_office a_office_clerks ca_office_clk a_draft a_office a_draft v_traced v_letter_lines v_letter_luck f_letter_tones f_letter_marks f_letter_writers v_office_count v_office_letterTold v_office_firstTone v_office_firstMarks k_office_lean k_office_sets k_office_drops k_office_keeps)) (st1 := [.int y32]) ⟨hx, hb, hml, hown, hts⟩ (c_X2_lastTone l G a_letter a_letter_tones a_letter_marks a_letter_writers v_letter_lines v_letter_luck f_letter_tones y32 hc32) (cwV 0 hts gX7_write_X2_lastTone rfl rfl rfl (by decide +kernel) ⟨Nat.le_of_ble_eq_true rfl, Nat.le_of_ble_eq_true rfl⟩) hK hE hP hD hS hA [1, 2] rfl rfl 0 2 rfl rfl rfl rfl rfl rfl hl.1 rfl (Nat.le_of_ble_eq_true rfl) dX7_write_32 (Nat.zero_le _) (Nat.zero_le _) rfl (fun H locs hP hD hS => ?_)
    refine lv_istore_n (lv' := [(3, .int y32), (2, .ref (ca_office_clk (x1).toNatClampNeg)), (0, .ref a), (1, .int x1)]) hx hb dX7_write_35 rfl hl (by decide) rfl (fun ls hl => ?_)
    refine lv_aload_n hx hb dX7_write_36 rfl (lv_at hl 2 rfl) ?_
    refine va_get (D := G.1) (ci := 7) (v := .ref a_letter) (C := RX7) (T := TX7) (N := 9) hx hb hts in_X7_write_X7 hown hK.1 hP 0 rfl rfl 1 (by decide) (hts (.fieldLink RX7 19 "NineHands" "letter" "LNineHands$Letter;") (by decide +kernel)) (fun _ h9 => h9) rfl dX7_write_37 ?_
    obtain ⟨y40, hc40, h⟩ := zb1_e h
    refine zcV (As := []) (rest := []) (ws' := (w_X7_write G a a_text a_letter a_letter_tones a_letter_marks a_letter_writers a_images a_samples a_copies a_orders a_office a_office_clerks ca_office_clk a_draft a_office a_draft v_traced v_letter_lines v_letter_luck f_letter_tones f_letter_marks f_letter_writers v_office_count v_office_letterTold v_office_firstTone v_office_firstMarks k_office_lean k_office_sets k_office_drops k_office_keeps)) (st1 := [.int y40]) ⟨hx, hb, hml, hown, hts⟩ (c_X2_lastMarks l G a_letter a_letter_tones a_letter_marks a_letter_writers v_letter_lines v_letter_luck f_letter_marks y40 hc40) (cwV 0 hts gX7_write_X2_lastMarks rfl rfl rfl (by decide +kernel) ⟨Nat.le_of_ble_eq_true rfl, Nat.le_of_ble_eq_true rfl⟩) hK hE hP hD hS hA [1, 3] rfl rfl 0 2 rfl rfl rfl rfl rfl rfl hl.1 rfl (Nat.le_of_ble_eq_true rfl) dX7_write_40 (Nat.zero_le _) (Nat.zero_le _) rfl (fun H locs hP hD hS => ?_)
    refine lv_istore (lv' := [(4, .int y40), (3, .int y32), (2, .ref (ca_office_clk (x1).toNatClampNeg)), (0, .ref a), (1, .int x1)]) hx hb dX7_write_43 hl (by decide) rfl (fun ls hl => ?_)
    refine lv_aload_n hx hb dX7_write_45 rfl (lv_at hl 3 rfl) ?_
    refine va_get (D := G.1) (ci := 7) (v := .ref a_letter) (C := RX7) (T := TX7) (N := 9) hx hb hts in_X7_write_X7 hown hK.1 hP 0 rfl rfl 1 (by decide) (hts (.fieldLink RX7 19 "NineHands" "letter" "LNineHands$Letter;") (by decide +kernel)) (fun _ h9 => h9) rfl dX7_write_46 ?_
    obtain ⟨y49, y49_v_luck, hc49, h⟩ := zb2_e h
    refine zcV (As := []) (rest := []) (ws' := (w_X7_write G a a_text a_letter a_letter_tones a_letter_marks a_letter_writers a_images a_samples a_copies a_orders a_office a_office_clerks ca_office_clk a_draft a_office a_draft v_traced v_letter_lines y49_v_luck f_letter_tones f_letter_marks f_letter_writers v_office_count v_office_letterTold v_office_firstTone v_office_firstMarks k_office_lean k_office_sets k_office_drops k_office_keeps)) (st1 := [.int y49]) ⟨hx, hb, hml, hown, hts⟩ (c_X2_draw l G a_letter a_letter_tones a_letter_marks a_letter_writers v_letter_lines v_letter_luck y49 y49_v_luck hc49) (cwV 0 hts gX7_write_X2_draw rfl rfl rfl (by decide +kernel) ⟨Nat.le_of_ble_eq_true rfl, Nat.le_of_ble_eq_true rfl⟩) hK hE hP hD hS hA [1] rfl rfl 0 2 rfl rfl rfl rfl rfl rfl hl.1 rfl (Nat.le_of_ble_eq_true rfl) dX7_write_49 (Nat.zero_le _) (Nat.zero_le _) rfl (fun H locs hP hD hS => ?_)
    refine lv_aload_n hx hb dX7_write_52 rfl (lv_at hl 2 rfl) ?_
    refine va_getN (D := G.1) (ci := 0) (v := .int (k_office_keeps (x1).toNatClampNeg)) (C := RX0) (T := TX0) (N := 4) hx hb hts in_X7_write_X0 hown hK.1 hP (7 + (x1).toNatClampNeg) (zclks_in (by rfl) (zin_lt g5)) rfl 3 (by decide) (va_Nw.use rfl (hK.2.1.1 ("NineHands", 102, "NineHands$Clerk", "keeps", "I", "NineHands") (by decide +kernel))) (fun _ h9 => h9) rfl dX7_write_53 ?_
    refine lv_icmp_ge (tgt := 73) hx hb dX7_write_56 (by decide) (fun c56 => ?_) (fun c56 => ?_)
    · have h := zt c56 h
      exact join_73 _ _ _ _ _ _ _ _ _ _ h hP hD hS (lv_sub hl [3, 4, 1, 0] rfl)
    · have h := zf c56 h
      refine lv_aload_n hx hb dX7_write_59 rfl (lv_at hl 2 rfl) ?_
      refine lv_iload_n hx hb dX7_write_60 rfl (lv_at hl 1 rfl) ?_
      obtain ⟨y61, hc61, h⟩ := zb1_e h
      refine zcV (As := [.int y32]) (rest := []) (ws' := (w_X7_write G a a_text a_letter a_letter_tones a_letter_marks a_letter_writers a_images a_samples a_copies a_orders a_office a_office_clerks ca_office_clk a_draft a_office a_draft v_traced v_letter_lines y49_v_luck f_letter_tones f_letter_marks f_letter_writers v_office_count v_office_letterTold v_office_firstTone v_office_firstMarks k_office_lean k_office_sets k_office_drops k_office_keeps)) (st1 := [.int y61]) ⟨hx, hb, hml, hown, hts⟩ (c_X0_toneBehind l G (ca_office_clk (x1).toNatClampNeg) (k_office_lean (x1).toNatClampNeg) (k_office_sets (x1).toNatClampNeg) (k_office_drops (x1).toNatClampNeg) (k_office_keeps (x1).toNatClampNeg) y32 y61 hc61) (cwV 1 hts gX7_write_X0_toneBehind rfl rfl rfl (by decide +kernel) ⟨Nat.le_of_ble_eq_true rfl, Nat.le_of_ble_eq_true rfl⟩) hK hE hP hD hS hA [7 + (x1).toNatClampNeg] rfl (zclks_map (by rfl) (zin_lt g5)) 0 0 rfl rfl rfl rfl (zclks_put (by rfl) (zin_lt g5)) rfl hl.1 rfl (Nat.le_of_ble_eq_true rfl) dX7_write_61 (Nat.zero_le _) (Nat.zero_le _) rfl (fun H locs hP hD hS => ?_)
      refine lv_istore_n (lv' := [(3, .int y61), (4, .int y40), (2, .ref (ca_office_clk (x1).toNatClampNeg)), (0, .ref a), (1, .int x1)]) hx hb dX7_write_64 rfl hl (by decide) rfl (fun ls hl => ?_)
      refine lv_aload_n hx hb dX7_write_65 rfl (lv_at hl 2 rfl) ?_
      refine lv_iload hx hb dX7_write_66 (lv_at hl 1 rfl) ?_
      obtain ⟨y68, hc68, h⟩ := zb1_e h
      refine zcV (As := [.int y40]) (rest := []) (ws' := (w_X7_write G a a_text a_letter a_letter_tones a_letter_marks a_letter_writers a_images a_samples a_copies a_orders a_office a_office_clerks ca_office_clk a_draft a_office a_draft v_traced v_letter_lines y49_v_luck f_letter_tones f_letter_marks f_letter_writers v_office_count v_office_letterTold v_office_firstTone v_office_firstMarks k_office_lean k_office_sets k_office_drops k_office_keeps)) (st1 := [.int y68]) ⟨hx, hb, hml, hown, hts⟩ (c_X0_marksBehind l G (ca_office_clk (x1).toNatClampNeg) (k_office_lean (x1).toNatClampNeg) (k_office_sets (x1).toNatClampNeg) (k_office_drops (x1).toNatClampNeg) (k_office_keeps (x1).toNatClampNeg) y40 y68 hc68) (cwV 1 hts gX7_write_X0_marksBehind rfl rfl rfl (by decide +kernel) ⟨Nat.le_of_ble_eq_true rfl, Nat.le_of_ble_eq_true rfl⟩) hK hE hP hD hS hA [7 + (x1).toNatClampNeg] rfl (zclks_map (by rfl) (zin_lt g5)) 0 0 rfl rfl rfl rfl (zclks_put (by rfl) (zin_lt g5)) rfl hl.1 rfl (Nat.le_of_ble_eq_true rfl) dX7_write_68 (Nat.zero_le _) (Nat.zero_le _) rfl (fun H locs hP hD hS => ?_)
      refine lv_istore (lv' := [(4, .int y68), (3, .int y61), (2, .ref (ca_office_clk (x1).toNatClampNeg)), (0, .ref a), (1, .int x1)]) hx hb dX7_write_71 hl (by decide) rfl (fun ls hl => ?_)
      exact join_73 _ _ _ _ _ _ _ _ _ _ h hP hD hS (lv_sub hl [3, 4, 1, 0] rfl)
  · have h := zf c22 h
    refine lv_bipush (v := ((-3) : Int32)) hx hb dX7_write_25 (by decide) ?_
    cases h
    exact W.iret hx hb hr (fun t9 ht9 _ => zend hP hD hS ht9) hS.2.2 dX7_write_27
abbrev w_X7_forge (G : zG) (a : Nat) (a_text : Nat) (a_letter : Nat) (a_letter_tones : Nat) (a_letter_marks : Nat) (a_letter_writers : Nat) (a_images : Nat) (a_samples : Nat) (a_copies : Nat) (a_orders : Nat) (a_office : Nat) (a_draft : Nat) (r_office : Nat) (r_draft : Nat) (v_traced : Int64) (v_letter_lines : Int32) (v_letter_luck : Int32) (f_letter_tones : (Nat → Int32)) (f_letter_marks : (Nat → Int32)) (f_letter_writers : (Nat → Int32)) : va_W := [(a, .inr (7, [.ref a_text, .ref a_letter, .ref a_images, .ref a_samples, .ref a_copies, .ref a_orders, .ref r_office, .ref r_draft, .long v_traced])), (a_letter, .inr (2, [.ref a_letter_tones, .ref a_letter_marks, .ref a_letter_writers, .int v_letter_lines, .int v_letter_luck])), (a_letter_tones, .inl (zCI G, 10, .inl f_letter_tones)), (a_letter_marks, .inl (zCI G, 10, .inl f_letter_marks)), (a_letter_writers, .inl (zCI G, 10, .inl f_letter_writers))]
theorem in_X7_forge_X2 : ∀ w ∈ wsX20, w ∈ wsX7_forge := by decide +kernel
theorem in_X7_forge_X7 : ∀ w ∈ wsX70, w ∈ wsX7_forge := by decide +kernel
set_option maxHeartbeats 4000000 in
set_option maxRecDepth 100000 in
theorem c_X7_forge (l : Launch) (G : zG) (a : Nat) (a_text : Nat) (a_letter : Nat) (a_letter_tones : Nat) (a_letter_marks : Nat) (a_letter_writers : Nat) (a_images : Nat) (a_samples : Nat) (a_copies : Nat) (a_orders : Nat) (a_office : Nat) (a_draft : Nat) (v_traced : Int64) (v_letter_lines : Int32) (v_letter_luck : Int32) (f_letter_tones : (Nat → Int32)) (f_letter_marks : (Nat → Int32)) (f_letter_writers : (Nat → Int32)) (x1 : Int32) (x2 : Int32) (rv : Int32) (ov_letter_lines : Int32) (of_letter_tones : (Nat → Int32)) (of_letter_marks : (Nat → Int32)) (of_letter_writers : (Nat → Int32)) (h : fX7_forge v_letter_lines f_letter_tones f_letter_marks f_letter_writers x1 x2 = some (rv, ov_letter_lines, of_letter_tones, of_letter_marks, of_letter_writers)) : zC l yX7_forge wsX7_forge 2 43 G [.ref a, .int x1, .int x2] (w_X7_forge G a a_text a_letter a_letter_tones a_letter_marks a_letter_writers a_images a_samples a_copies a_orders a_office a_draft a_office a_draft v_traced v_letter_lines v_letter_luck f_letter_tones f_letter_marks f_letter_writers) (some (.int rv)) (w_X7_forge G a a_text a_letter a_letter_tones a_letter_marks a_letter_writers a_images a_samples a_copies a_orders a_office a_draft a_office a_draft v_traced ov_letter_lines v_letter_luck of_letter_tones of_letter_marks of_letter_writers) := by
  refine fun sz => Met.ofW (cc := cX7_forge) (maxL := 3) (ret := (some .int)) (by decide) rfl ?_
  intro p e s m args below meth c s₁ B hml hv
  obtain ⟨rfl, hsz, hP, hK, hD0, hE⟩ := hv
  have hx := B.exec
  have hb := B.bytes
  have hr := B.returns
  have hts := atoms_spec (ws := wsX7_forge) B.pre
  have hown : s.vm.findClass RX7 = some m.cls := findClass_of_methodNamed B.named
  have hlocks := B.notSynchronized
  subst hsz
  have hD := hD0.self (sz := s.heap.size)
  generalize hAe : va_A (w_X7_forge G a a_text a_letter a_letter_tones a_letter_marks a_letter_writers a_images a_samples a_copies a_orders a_office a_draft a_office a_draft v_traced v_letter_lines v_letter_luck f_letter_tones f_letter_marks f_letter_writers) s.heap.size = A at hD hE ⊢
  have hA : ∀ q : Nat, s.heap.size ≤ q → A q := fun q h => by rw [← hAe]; exact Or.inr h
  have hS : va_S A s.heap s.heap [] := va_S.rf
  have hl := lv_entry ([.ref a, .int x1, .int x2]) (n := 3) (Nat.le_of_ble_eq_true rfl)
  rw [lg_entry_eq]
  generalize (lg_sl ([.ref a, .int x1, .int x2]) ++ List.replicate (3 - (lg_sl ([.ref a, .int x1, .int x2])).length) Slot.unset).toArray = ls at hl ⊢
  have hl : lv_has ls 3 [(0, .ref a), (1, .int x1), (2, .int x2)] := hl
  have hP : va_P G.1 vwCl (w_X7_forge G a a_text a_letter a_letter_tones a_letter_marks a_letter_writers a_images a_samples a_copies a_orders a_office a_draft a_office a_draft v_traced v_letter_lines v_letter_luck f_letter_tones f_letter_marks f_letter_writers) s.heap := hP
  rw [fX7_forge] at h
  refine lv_iload_n hx hb dX7_forge_0 rfl (lv_at hl 1 rfl) ?_
  refine lv_iload_n hx hb dX7_forge_1 rfl (lv_at hl 2 rfl) ?_
  obtain ⟨y2, hc2, h⟩ := zb1_e h
  refine zcS (As := [.int x1, .int x2]) (rest := []) (ws' := (w_X7_forge G a a_text a_letter a_letter_tones a_letter_marks a_letter_writers a_images a_samples a_copies a_orders a_office a_draft a_office a_draft v_traced v_letter_lines v_letter_luck f_letter_tones f_letter_marks f_letter_writers)) (st1 := [.int y2]) ⟨hx, hb, hml, hown, hts⟩ (c_X7_isLine l G x1 x2 y2 hc2) (va_cwS 2 hts gX7_forge_X7_isLine rfl rfl rfl (by decide +kernel) ⟨Nat.le_of_ble_eq_true rfl, Nat.le_of_ble_eq_true rfl⟩) hK hE hP hD hS hA [] rfl rfl rfl rfl rfl hl.1 rfl (Nat.le_of_ble_eq_true rfl) dX7_forge_2 (Nat.zero_le _) (Nat.zero_le _) rfl (fun H locs hP hD hS => ?_)
  refine lv_if_ne (tgt := 10) hx hb dX7_forge_5 (by decide) (fun c5 => ?_) (fun c5 => ?_)
  · have h := zf c5 h
    refine lv_aload_n hx hb dX7_forge_10 rfl (lv_at hl 0 rfl) ?_
    refine va_get (D := G.1) (ci := 7) (v := .ref a_letter) (C := RX7) (T := TX7) (N := 9) hx hb hts in_X7_forge_X7 hown hK.1 hP 0 rfl rfl 1 (by decide) (hts (.fieldLink RX7 19 "NineHands" "letter" "LNineHands$Letter;") (by decide +kernel)) (fun _ h9 => h9) rfl dX7_forge_11 ?_
    obtain ⟨y14, hc14, h⟩ := zb1_e h
    refine zcV (As := []) (rest := []) (ws' := (w_X7_forge G a a_text a_letter a_letter_tones a_letter_marks a_letter_writers a_images a_samples a_copies a_orders a_office a_draft a_office a_draft v_traced v_letter_lines v_letter_luck f_letter_tones f_letter_marks f_letter_writers)) (st1 := [.int y14]) ⟨hx, hb, hml, hown, hts⟩ (c_X2_isFull l G a_letter a_letter_tones a_letter_marks a_letter_writers v_letter_lines v_letter_luck y14 hc14) (cwV 0 hts gX7_forge_X2_isFull rfl rfl rfl (by decide +kernel) ⟨Nat.le_of_ble_eq_true rfl, Nat.le_of_ble_eq_true rfl⟩) hK hE hP hD hS hA [1] rfl rfl 0 2 rfl rfl rfl rfl rfl rfl hl.1 rfl (Nat.le_of_ble_eq_true rfl) dX7_forge_14 (Nat.zero_le _) (Nat.zero_le _) rfl (fun H locs hP hD hS => ?_)
    refine lv_if_eq (tgt := 23) hx hb dX7_forge_17 (by decide) (fun c17 => ?_) (fun c17 => ?_)
    · have h := zt c17 h
      refine lv_aload_n hx hb dX7_forge_23 rfl (lv_at hl 0 rfl) ?_
      refine va_get (D := G.1) (ci := 7) (v := .ref a_letter) (C := RX7) (T := TX7) (N := 9) hx hb hts in_X7_forge_X7 hown hK.1 hP 0 rfl rfl 1 (by decide) (hts (.fieldLink RX7 19 "NineHands" "letter" "LNineHands$Letter;") (by decide +kernel)) (fun _ h9 => h9) rfl dX7_forge_24 ?_
      refine lv_iload_n hx hb dX7_forge_27 rfl (lv_at hl 1 rfl) ?_
      refine lv_iload_n hx hb dX7_forge_28 rfl (lv_at hl 2 rfl) ?_
      refine lv_bipush (v := ((-9) : Int32)) hx hb dX7_forge_29 (by decide) ?_
      obtain ⟨y31_v_lines, y31_f_tones, y31_f_marks, y31_f_writers, hc31, h⟩ := zb4_e h
      refine zcV (As := [.int x1, .int x2, .int ((-9) : Int32)]) (rest := []) (ws' := (w_X7_forge G a a_text a_letter a_letter_tones a_letter_marks a_letter_writers a_images a_samples a_copies a_orders a_office a_draft a_office a_draft v_traced y31_v_lines v_letter_luck y31_f_tones y31_f_marks y31_f_writers)) (st1 := []) ⟨hx, hb, hml, hown, hts⟩ (c_X2_add l G a_letter a_letter_tones a_letter_marks a_letter_writers v_letter_lines v_letter_luck f_letter_tones f_letter_marks f_letter_writers x1 x2 ((-9) : Int32) y31_v_lines y31_f_tones y31_f_marks y31_f_writers hc31) (cwV 3 hts gX7_forge_X2_add rfl rfl rfl (by decide +kernel) ⟨Nat.le_of_ble_eq_true rfl, Nat.le_of_ble_eq_true rfl⟩) hK hE hP hD hS hA [1, 2, 3, 4] rfl rfl 0 2 rfl rfl rfl rfl rfl rfl hl.1 rfl (Nat.le_of_ble_eq_true rfl) dX7_forge_31 (Nat.zero_le _) (Nat.zero_le _) rfl (fun H locs hP hD hS => ?_)
      refine lv_aload_n hx hb dX7_forge_34 rfl (lv_at hl 0 rfl) ?_
      refine va_get (D := G.1) (ci := 7) (v := .ref a_letter) (C := RX7) (T := TX7) (N := 9) hx hb hts in_X7_forge_X7 hown hK.1 hP 0 rfl rfl 1 (by decide) (hts (.fieldLink RX7 19 "NineHands" "letter" "LNineHands$Letter;") (by decide +kernel)) (fun _ h9 => h9) rfl dX7_forge_35 ?_
      refine va_getN (D := G.1) (ci := 2) (v := .int y31_v_lines) (C := RX2) (T := TX2) (N := 5) hx hb hts in_X7_forge_X2 hown hK.1 hP 1 rfl rfl 3 (by decide) (va_Nw.use rfl (hK.2.1.1 ("NineHands", 105, "NineHands$Letter", "lines", "I", "NineHands") (by decide +kernel))) (fun _ h9 => h9) rfl dX7_forge_38 ?_
      cases h
      exact W.iret hx hb hr (fun t9 ht9 _ => zend hP hD hS ht9) hS.2.2 dX7_forge_41
    · have h := zf c17 h
      refine lv_bipush (v := ((-3) : Int32)) hx hb dX7_forge_20 (by decide) ?_
      cases h
      exact W.iret hx hb hr (fun t9 ht9 _ => zend hP hD hS ht9) hS.2.2 dX7_forge_22
  · have h := zt c5 h
    refine lv_iconst (v := ((-1) : Int32)) hx hb dX7_forge_8 (by decide) ?_
    cases h
    exact W.iret hx hb hr (fun t9 ht9 _ => zend hP hD hS ht9) hS.2.2 dX7_forge_9
abbrev w_X7_undo (G : zG) (a : Nat) (a_text : Nat) (a_letter : Nat) (a_letter_tones : Nat) (a_letter_marks : Nat) (a_letter_writers : Nat) (a_images : Nat) (a_samples : Nat) (a_copies : Nat) (a_orders : Nat) (a_office : Nat) (a_draft : Nat) (r_office : Nat) (r_draft : Nat) (v_traced : Int64) (v_letter_lines : Int32) (v_letter_luck : Int32) : va_W := [(a, .inr (7, [.ref a_text, .ref a_letter, .ref a_images, .ref a_samples, .ref a_copies, .ref a_orders, .ref r_office, .ref r_draft, .long v_traced])), (a_letter, .inr (2, [.ref a_letter_tones, .ref a_letter_marks, .ref a_letter_writers, .int v_letter_lines, .int v_letter_luck]))]
theorem in_X7_undo_X2 : ∀ w ∈ wsX20, w ∈ wsX7_undo := by decide +kernel
theorem in_X7_undo_X7 : ∀ w ∈ wsX70, w ∈ wsX7_undo := by decide +kernel
set_option maxHeartbeats 4000000 in
set_option maxRecDepth 100000 in
theorem c_X7_undo (l : Launch) (G : zG) (a : Nat) (a_text : Nat) (a_letter : Nat) (a_letter_tones : Nat) (a_letter_marks : Nat) (a_letter_writers : Nat) (a_images : Nat) (a_samples : Nat) (a_copies : Nat) (a_orders : Nat) (a_office : Nat) (a_draft : Nat) (v_traced : Int64) (v_letter_lines : Int32) (v_letter_luck : Int32) (rv : Int32) (ov_letter_lines : Int32) (h : fX7_undo v_letter_lines = some (rv, ov_letter_lines)) : zC l yX7_undo wsX7_undo 0 0 G [.ref a] (w_X7_undo G a a_text a_letter a_letter_tones a_letter_marks a_letter_writers a_images a_samples a_copies a_orders a_office a_draft a_office a_draft v_traced v_letter_lines v_letter_luck) (some (.int rv)) (w_X7_undo G a a_text a_letter a_letter_tones a_letter_marks a_letter_writers a_images a_samples a_copies a_orders a_office a_draft a_office a_draft v_traced ov_letter_lines v_letter_luck) := by
  refine fun sz => Met.ofW (cc := cX7_undo) (maxL := 1) (ret := (some .int)) (by decide) rfl ?_
  intro p e s m args below meth c s₁ B hml hv
  obtain ⟨rfl, hsz, hP, hK, hD0, hE⟩ := hv
  have hx := B.exec
  have hb := B.bytes
  have hr := B.returns
  have hts := atoms_spec (ws := wsX7_undo) B.pre
  have hown : s.vm.findClass RX7 = some m.cls := findClass_of_methodNamed B.named
  have hlocks := B.notSynchronized
  subst hsz
  have hD := hD0.self (sz := s.heap.size)
  generalize hAe : va_A (w_X7_undo G a a_text a_letter a_letter_tones a_letter_marks a_letter_writers a_images a_samples a_copies a_orders a_office a_draft a_office a_draft v_traced v_letter_lines v_letter_luck) s.heap.size = A at hD hE ⊢
  have hA : ∀ q : Nat, s.heap.size ≤ q → A q := fun q h => by rw [← hAe]; exact Or.inr h
  have hS : va_S A s.heap s.heap [] := va_S.rf
  have hl := lv_entry ([.ref a]) (n := 1) (Nat.le_of_ble_eq_true rfl)
  rw [lg_entry_eq]
  generalize (lg_sl ([.ref a]) ++ List.replicate (1 - (lg_sl ([.ref a])).length) Slot.unset).toArray = ls at hl ⊢
  have hl : lv_has ls 1 [(0, .ref a)] := hl
  have hP : va_P G.1 vwCl (w_X7_undo G a a_text a_letter a_letter_tones a_letter_marks a_letter_writers a_images a_samples a_copies a_orders a_office a_draft a_office a_draft v_traced v_letter_lines v_letter_luck) s.heap := hP
  rw [fX7_undo] at h
  refine lv_aload_n hx hb dX7_undo_0 rfl (lv_at hl 0 rfl) ?_
  refine va_get (D := G.1) (ci := 7) (v := .ref a_letter) (C := RX7) (T := TX7) (N := 9) hx hb hts in_X7_undo_X7 hown hK.1 hP 0 rfl rfl 1 (by decide) (hts (.fieldLink RX7 19 "NineHands" "letter" "LNineHands$Letter;") (by decide +kernel)) (fun _ h9 => h9) rfl dX7_undo_1 ?_
  refine va_getN (D := G.1) (ci := 2) (v := .int v_letter_lines) (C := RX2) (T := TX2) (N := 5) hx hb hts in_X7_undo_X2 hown hK.1 hP 1 rfl rfl 3 (by decide) (va_Nw.use rfl (hK.2.1.1 ("NineHands", 105, "NineHands$Letter", "lines", "I", "NineHands") (by decide +kernel))) (fun _ h9 => h9) rfl dX7_undo_4 ?_
  refine lv_iconst (v := (1 : Int32)) hx hb dX7_undo_7 (by decide) ?_
  refine lv_icmp_gt (tgt := 14) hx hb dX7_undo_8 (by decide) (fun c8 => ?_) (fun c8 => ?_)
  · have h := zt c8 h
    refine lv_aload_n hx hb dX7_undo_14 rfl (lv_at hl 0 rfl) ?_
    refine va_get (D := G.1) (ci := 7) (v := .ref a_letter) (C := RX7) (T := TX7) (N := 9) hx hb hts in_X7_undo_X7 hown hK.1 hP 0 rfl rfl 1 (by decide) (hts (.fieldLink RX7 19 "NineHands" "letter" "LNineHands$Letter;") (by decide +kernel)) (fun _ h9 => h9) rfl dX7_undo_15 ?_
    refine lv_dup hx hb dX7_undo_18 rfl ?_
    refine va_getN (D := G.1) (ci := 2) (v := .int v_letter_lines) (C := RX2) (T := TX2) (N := 5) hx hb hts in_X7_undo_X2 hown hK.1 hP 1 rfl rfl 3 (by decide) (va_Nw.use rfl (hK.2.1.1 ("NineHands", 105, "NineHands$Letter", "lines", "I", "NineHands") (by decide +kernel))) (fun _ h9 => h9) rfl dX7_undo_19 ?_
    refine lv_iconst (v := (1 : Int32)) hx hb dX7_undo_22 (by decide) ?_
    refine lv_isub hx hb dX7_undo_23 ?_
    refine zputN (D := G.1) (ci := 2) (C := RX2) (T := TX2) (N := 5) (ty := .int) (ws' := (w_X7_undo G a a_text a_letter a_letter_tones a_letter_marks a_letter_writers a_images a_samples a_copies a_orders a_office a_draft a_office a_draft v_traced (v_letter_lines - (1 : Int32)) v_letter_luck)) hx hb hts in_X7_undo_X2 tyX2 tyX2_ok nmX2 hown hK.1 hP hD hS 1 rfl rfl 3 (by decide) (va_Nw.use rfl (hK.2.1.1 ("NineHands", 105, "NineHands$Letter", "lines", "I", "NineHands") (by decide +kernel))) (fun _ h9 => h9) rfl (by decide +kernel) rfl rfl (Nat.le_of_ble_eq_true rfl) rfl dX7_undo_24 (fun H locs hP hD hS => ?_)
    refine lv_aload_n hx hb dX7_undo_27 rfl (lv_at hl 0 rfl) ?_
    refine va_get (D := G.1) (ci := 7) (v := .ref a_letter) (C := RX7) (T := TX7) (N := 9) hx hb hts in_X7_undo_X7 hown hK.1 hP 0 rfl rfl 1 (by decide) (hts (.fieldLink RX7 19 "NineHands" "letter" "LNineHands$Letter;") (by decide +kernel)) (fun _ h9 => h9) rfl dX7_undo_28 ?_
    refine va_getN (D := G.1) (ci := 2) (v := .int (v_letter_lines - (1 : Int32))) (C := RX2) (T := TX2) (N := 5) hx hb hts in_X7_undo_X2 hown hK.1 hP 1 rfl rfl 3 (by decide) (va_Nw.use rfl (hK.2.1.1 ("NineHands", 105, "NineHands$Letter", "lines", "I", "NineHands") (by decide +kernel))) (fun _ h9 => h9) rfl dX7_undo_31 ?_
    cases h
    exact W.iret hx hb hr (fun t9 ht9 _ => zend hP hD hS ht9) hS.2.2 dX7_undo_34
  · have h := zf c8 h
    refine lv_bipush (v := ((-2) : Int32)) hx hb dX7_undo_11 (by decide) ?_
    cases h
    exact W.iret hx hb hr (fun t9 ht9 _ => zend hP hD hS ht9) hS.2.2 dX7_undo_13
abbrev w_X7_lot (G : zG) (a : Nat) (a_text : Nat) (a_letter : Nat) (a_letter_tones : Nat) (a_letter_marks : Nat) (a_letter_writers : Nat) (a_images : Nat) (a_samples : Nat) (a_copies : Nat) (a_orders : Nat) (a_office : Nat) (a_draft : Nat) (r_office : Nat) (r_draft : Nat) (v_traced : Int64) (v_letter_lines : Int32) (v_letter_luck : Int32) : va_W := [(a, .inr (7, [.ref a_text, .ref a_letter, .ref a_images, .ref a_samples, .ref a_copies, .ref a_orders, .ref r_office, .ref r_draft, .long v_traced])), (a_letter, .inr (2, [.ref a_letter_tones, .ref a_letter_marks, .ref a_letter_writers, .int v_letter_lines, .int v_letter_luck]))]
theorem in_X7_lot_X2 : ∀ w ∈ wsX20, w ∈ wsX7_lot := by decide +kernel
theorem in_X7_lot_X7 : ∀ w ∈ wsX70, w ∈ wsX7_lot := by decide +kernel
set_option maxHeartbeats 4000000 in
set_option maxRecDepth 100000 in
theorem c_X7_lot (l : Launch) (G : zG) (a : Nat) (a_text : Nat) (a_letter : Nat) (a_letter_tones : Nat) (a_letter_marks : Nat) (a_letter_writers : Nat) (a_images : Nat) (a_samples : Nat) (a_copies : Nat) (a_orders : Nat) (a_office : Nat) (a_draft : Nat) (v_traced : Int64) (v_letter_lines : Int32) (v_letter_luck : Int32) (x1 : Int32) (rv : Int32) (ov_letter_luck : Int32) (h : fX7_lot v_letter_luck x1 = some (rv, ov_letter_luck)) : zC l yX7_lot wsX7_lot 0 0 G [.ref a, .int x1] (w_X7_lot G a a_text a_letter a_letter_tones a_letter_marks a_letter_writers a_images a_samples a_copies a_orders a_office a_draft a_office a_draft v_traced v_letter_lines v_letter_luck) (some (.int rv)) (w_X7_lot G a a_text a_letter a_letter_tones a_letter_marks a_letter_writers a_images a_samples a_copies a_orders a_office a_draft a_office a_draft v_traced v_letter_lines ov_letter_luck) := by
  refine fun sz => Met.ofW (cc := cX7_lot) (maxL := 3) (ret := (some .int)) (by decide) rfl ?_
  intro p e s m args below meth c s₁ B hml hv
  obtain ⟨rfl, hsz, hP, hK, hD0, hE⟩ := hv
  have hx := B.exec
  have hb := B.bytes
  have hr := B.returns
  have hts := atoms_spec (ws := wsX7_lot) B.pre
  have hown : s.vm.findClass RX7 = some m.cls := findClass_of_methodNamed B.named
  have hlocks := B.notSynchronized
  subst hsz
  have hD := hD0.self (sz := s.heap.size)
  generalize hAe : va_A (w_X7_lot G a a_text a_letter a_letter_tones a_letter_marks a_letter_writers a_images a_samples a_copies a_orders a_office a_draft a_office a_draft v_traced v_letter_lines v_letter_luck) s.heap.size = A at hD hE ⊢
  have hA : ∀ q : Nat, s.heap.size ≤ q → A q := fun q h => by rw [← hAe]; exact Or.inr h
  have hS : va_S A s.heap s.heap [] := va_S.rf
  have hl := lv_entry ([.ref a, .int x1]) (n := 3) (Nat.le_of_ble_eq_true rfl)
  rw [lg_entry_eq]
  generalize (lg_sl ([.ref a, .int x1]) ++ List.replicate (3 - (lg_sl ([.ref a, .int x1])).length) Slot.unset).toArray = ls at hl ⊢
  have hl : lv_has ls 3 [(0, .ref a), (1, .int x1)] := hl
  have hP : va_P G.1 vwCl (w_X7_lot G a a_text a_letter a_letter_tones a_letter_marks a_letter_writers a_images a_samples a_copies a_orders a_office a_draft a_office a_draft v_traced v_letter_lines v_letter_luck) s.heap := hP
  rw [fX7_lot] at h
  refine lv_aload_n hx hb dX7_lot_0 rfl (lv_at hl 0 rfl) ?_
  refine va_get (D := G.1) (ci := 7) (v := .ref a_letter) (C := RX7) (T := TX7) (N := 9) hx hb hts in_X7_lot_X7 hown hK.1 hP 0 rfl rfl 1 (by decide) (hts (.fieldLink RX7 19 "NineHands" "letter" "LNineHands$Letter;") (by decide +kernel)) (fun _ h9 => h9) rfl dX7_lot_1 ?_
  refine va_getN (D := G.1) (ci := 2) (v := .int v_letter_luck) (C := RX2) (T := TX2) (N := 5) hx hb hts in_X7_lot_X2 hown hK.1 hP 1 rfl rfl 4 (by decide) (va_Nw.use rfl (hK.2.1.1 ("NineHands", 151, "NineHands$Letter", "luck", "I", "NineHands") (by decide +kernel))) (fun _ h9 => h9) rfl dX7_lot_4 ?_
  refine lv_istore_n (lv' := [(2, .int v_letter_luck), (0, .ref a), (1, .int x1)]) hx hb dX7_lot_7 rfl hl (by decide) rfl (fun ls hl => ?_)
  refine lv_aload_n hx hb dX7_lot_8 rfl (lv_at hl 1 rfl) ?_
  refine va_get (D := G.1) (ci := 7) (v := .ref a_letter) (C := RX7) (T := TX7) (N := 9) hx hb hts in_X7_lot_X7 hown hK.1 hP 0 rfl rfl 1 (by decide) (hts (.fieldLink RX7 19 "NineHands" "letter" "LNineHands$Letter;") (by decide +kernel)) (fun _ h9 => h9) rfl dX7_lot_9 ?_
  refine lv_iload_n hx hb dX7_lot_12 rfl (lv_at hl 2 rfl) ?_
  refine zputN (D := G.1) (ci := 2) (C := RX2) (T := TX2) (N := 5) (ty := .int) (ws' := (w_X7_lot G a a_text a_letter a_letter_tones a_letter_marks a_letter_writers a_images a_samples a_copies a_orders a_office a_draft a_office a_draft v_traced v_letter_lines x1)) hx hb hts in_X7_lot_X2 tyX2 tyX2_ok nmX2 hown hK.1 hP hD hS 1 rfl rfl 4 (by decide) (va_Nw.use rfl (hK.2.1.1 ("NineHands", 151, "NineHands$Letter", "luck", "I", "NineHands") (by decide +kernel))) (fun _ h9 => h9) rfl (by decide +kernel) rfl rfl (Nat.le_of_ble_eq_true rfl) rfl dX7_lot_13 (fun H locs hP hD hS => ?_)
  refine lv_iload_n hx hb dX7_lot_16 rfl (lv_at hl 0 rfl) ?_
  cases h
  exact W.iret hx hb hr (fun t9 ht9 _ => zend hP hD hS ht9) hS.2.2 dX7_lot_17
abbrev w_X7_turned (G : zG) (a : Nat) (a_text : Nat) (a_letter : Nat) (a_letter_tones : Nat) (a_letter_marks : Nat) (a_letter_writers : Nat) (a_images : Nat) (a_samples : Nat) (a_copies : Nat) (a_orders : Nat) (a_office : Nat) (a_draft : Nat) (r_office : Nat) (r_draft : Nat) (v_traced : Int64) (v_letter_lines : Int32) (v_letter_luck : Int32) (f_letter_tones : (Nat → Int32)) : va_W := [(a, .inr (7, [.ref a_text, .ref a_letter, .ref a_images, .ref a_samples, .ref a_copies, .ref a_orders, .ref r_office, .ref r_draft, .long v_traced])), (a_letter, .inr (2, [.ref a_letter_tones, .ref a_letter_marks, .ref a_letter_writers, .int v_letter_lines, .int v_letter_luck])), (a_letter_tones, .inl (zCI G, 10, .inl f_letter_tones))]
theorem in_X7_turned_X2 : ∀ w ∈ wsX20, w ∈ wsX7_turned := by decide +kernel
theorem in_X7_turned_X7 : ∀ w ∈ wsX70, w ∈ wsX7_turned := by decide +kernel
set_option maxHeartbeats 4000000 in
set_option maxRecDepth 100000 in
theorem c_X7_turned (l : Launch) (G : zG) (fu : Nat) (a : Nat) (a_text : Nat) (a_letter : Nat) (a_letter_tones : Nat) (a_letter_marks : Nat) (a_letter_writers : Nat) (a_images : Nat) (a_samples : Nat) (a_copies : Nat) (a_orders : Nat) (a_office : Nat) (a_draft : Nat) (v_traced : Int64) (v_letter_lines : Int32) (v_letter_luck : Int32) (f_letter_tones : (Nat → Int32)) (rv : Int32) (h : fX7_turned fu v_letter_lines f_letter_tones = some rv) : zC l yX7_turned wsX7_turned 1 20 G [.ref a] (w_X7_turned G a a_text a_letter a_letter_tones a_letter_marks a_letter_writers a_images a_samples a_copies a_orders a_office a_draft a_office a_draft v_traced v_letter_lines v_letter_luck f_letter_tones) (some (.int rv)) (w_X7_turned G a a_text a_letter a_letter_tones a_letter_marks a_letter_writers a_images a_samples a_copies a_orders a_office a_draft a_office a_draft v_traced v_letter_lines v_letter_luck f_letter_tones) := by
  refine fun sz => Met.ofW (cc := cX7_turned) (maxL := 3) (ret := (some .int)) (by decide) rfl ?_
  intro p e s m args below meth c s₁ B hml hv
  obtain ⟨rfl, hsz, hP, hK, hD0, hE⟩ := hv
  have hx := B.exec
  have hb := B.bytes
  have hr := B.returns
  have hts := atoms_spec (ws := wsX7_turned) B.pre
  have hown : s.vm.findClass RX7 = some m.cls := findClass_of_methodNamed B.named
  have hlocks := B.notSynchronized
  subst hsz
  have hD := hD0.self (sz := s.heap.size)
  generalize hAe : va_A (w_X7_turned G a a_text a_letter a_letter_tones a_letter_marks a_letter_writers a_images a_samples a_copies a_orders a_office a_draft a_office a_draft v_traced v_letter_lines v_letter_luck f_letter_tones) s.heap.size = A at hD hE ⊢
  have hA : ∀ q : Nat, s.heap.size ≤ q → A q := fun q h => by rw [← hAe]; exact Or.inr h
  have hS : va_S A s.heap s.heap [] := va_S.rf
  have hl := lv_entry ([.ref a]) (n := 3) (Nat.le_of_ble_eq_true rfl)
  rw [lg_entry_eq]
  generalize (lg_sl ([.ref a]) ++ List.replicate (3 - (lg_sl ([.ref a])).length) Slot.unset).toArray = ls at hl ⊢
  have hl : lv_has ls 3 [(0, .ref a)] := hl
  have hP : va_P G.1 vwCl (w_X7_turned G a a_text a_letter a_letter_tones a_letter_marks a_letter_writers a_images a_samples a_copies a_orders a_office a_draft a_office a_draft v_traced v_letter_lines v_letter_luck f_letter_tones) s.heap := hP
  rw [fX7_turned] at h
  refine lv_aload_n hx hb dX7_turned_0 rfl (lv_at hl 0 rfl) ?_
  refine va_get (D := G.1) (ci := 7) (v := .ref a_letter) (C := RX7) (T := TX7) (N := 9) hx hb hts in_X7_turned_X7 hown hK.1 hP 0 rfl rfl 1 (by decide) (hts (.fieldLink RX7 19 "NineHands" "letter" "LNineHands$Letter;") (by decide +kernel)) (fun _ h9 => h9) rfl dX7_turned_1 ?_
  refine va_getN (D := G.1) (ci := 2) (v := .ref a_letter_tones) (C := RX2) (T := TX2) (N := 5) hx hb hts in_X7_turned_X2 hown hK.1 hP 1 rfl rfl 0 (by decide) (va_Nw.use rfl (hK.2.1.1 ("NineHands", 108, "NineHands$Letter", "tones", "[I", "NineHands") (by decide +kernel))) (fun _ h9 => h9) rfl dX7_turned_4 ?_
  refine lv_iconst (v := (0 : Int32)) hx hb dX7_turned_7 (by decide) ?_
  refine zald hx hb hK.1 hP 2 0 rfl rfl (show ¬ ((0 : Int32) < 0 ∨ 10 ≤ ((0 : Int32)).toNatClampNeg) by decide) (j := 0) (by decide) dX7_turned_8 ?_
  obtain ⟨y9, hc9, h⟩ := zb1_e h
  refine zcS (As := [.int (f_letter_tones 0)]) (rest := []) (ws' := (w_X7_turned G a a_text a_letter a_letter_tones a_letter_marks a_letter_writers a_images a_samples a_copies a_orders a_office a_draft a_office a_draft v_traced v_letter_lines v_letter_luck f_letter_tones)) (st1 := [.int y9]) ⟨hx, hb, hml, hown, hts⟩ (c_X7_isWarm l G (f_letter_tones 0) y9 hc9) (va_cwS 1 hts gX7_turned_X7_isWarm rfl rfl rfl (by decide +kernel) ⟨Nat.le_of_ble_eq_true rfl, Nat.le_of_ble_eq_true rfl⟩) hK hE hP hD hS hA [] rfl rfl rfl rfl rfl hl.1 rfl (Nat.le_of_ble_eq_true rfl) dX7_turned_9 (Nat.zero_le _) (Nat.zero_le _) rfl (fun H locs hP hD hS => ?_)
  refine lv_istore_n (lv' := [(1, .int y9), (0, .ref a)]) hx hb dX7_turned_12 rfl hl (by decide) rfl (fun ls hl => ?_)
  refine lv_iconst (v := (1 : Int32)) hx hb dX7_turned_13 (by decide) ?_
  refine lv_istore_n (lv' := [(2, .int (1 : Int32)), (1, .int y9), (0, .ref a)]) hx hb dX7_turned_14 rfl hl (by decide) rfl (fun ls hl => ?_)
  have loop_15 : ∀ (n : Nat) (K : Option Int32) (l2_15 : Int32) (H : Heap) (locs : List Loc) (ls : Array Slot), fX7_turned_L15 fu y9 v_letter_lines f_letter_tones K n l2_15 = some rv → (∀ (H : Heap) (locs : List Loc) (ls : Array Slot), K  = some rv → va_P G.1 vwCl (w_X7_turned G a a_text a_letter a_letter_tones a_letter_marks a_letter_writers a_images a_samples a_copies a_orders a_office a_draft a_office a_draft v_traced v_letter_lines v_letter_luck f_letter_tones) H → va_D A (w_X7_turned G a a_text a_letter a_letter_tones a_letter_marks a_letter_writers a_images a_samples a_copies a_orders a_office a_draft a_office a_draft v_traced v_letter_lines v_letter_luck f_letter_tones) → va_S A s.heap H locs → lv_has ls 3 [] → W p l e (headSpec wsX7_turned { frames := 1, cells := 0, slots := 0, locals := 20 }).room s m ([.ref a] : List Value).toArray below meth c H locs 0 0 (MQ below (zQ (some (.int rv)) G (w_X7_turned G a a_text a_letter a_letter_tones a_letter_marks a_letter_writers a_images a_samples a_copies a_orders a_office a_draft a_office a_draft v_traced v_letter_lines v_letter_luck f_letter_tones) A) ([.ref a] : List Value).toArray s 0 0 A) (F0 m 50 ls [])) → va_P G.1 vwCl (w_X7_turned G a a_text a_letter a_letter_tones a_letter_marks a_letter_writers a_images a_samples a_copies a_orders a_office a_draft a_office a_draft v_traced v_letter_lines v_letter_luck f_letter_tones) H → va_D A (w_X7_turned G a a_text a_letter a_letter_tones a_letter_marks a_letter_writers a_images a_samples a_copies a_orders a_office a_draft a_office a_draft v_traced v_letter_lines v_letter_luck f_letter_tones) → va_S A s.heap H locs → lv_has ls 3 [(0, .ref a), (1, .int y9), (2, .int l2_15)] → W p l e (headSpec wsX7_turned { frames := 1, cells := 0, slots := 0, locals := 20 }).room s m ([.ref a] : List Value).toArray below meth c H locs 0 0 (MQ below (zQ (some (.int rv)) G (w_X7_turned G a a_text a_letter a_letter_tones a_letter_marks a_letter_writers a_images a_samples a_copies a_orders a_office a_draft a_office a_draft v_traced v_letter_lines v_letter_luck f_letter_tones) A) ([.ref a] : List Value).toArray s 0 0 A) (F0 m 15 ls []) := by
    intro n
    induction n with
    | zero => intro K l2_15 H locs ls h; rw [fX7_turned_L15] at h; cases h
    | succ n ih =>
      intro K l2_15 H locs ls h hk hP hD hS hl
      rw [fX7_turned_L15] at h
      refine lv_iload_n hx hb dX7_turned_15 rfl (lv_at hl 2 rfl) ?_
      refine lv_aload_n hx hb dX7_turned_16 rfl (lv_at hl 0 rfl) ?_
      refine va_get (D := G.1) (ci := 7) (v := .ref a_letter) (C := RX7) (T := TX7) (N := 9) hx hb hts in_X7_turned_X7 hown hK.1 hP 0 rfl rfl 1 (by decide) (hts (.fieldLink RX7 19 "NineHands" "letter" "LNineHands$Letter;") (by decide +kernel)) (fun _ h9 => h9) rfl dX7_turned_17 ?_
      refine va_getN (D := G.1) (ci := 2) (v := .int v_letter_lines) (C := RX2) (T := TX2) (N := 5) hx hb hts in_X7_turned_X2 hown hK.1 hP 1 rfl rfl 3 (by decide) (va_Nw.use rfl (hK.2.1.1 ("NineHands", 105, "NineHands$Letter", "lines", "I", "NineHands") (by decide +kernel))) (fun _ h9 => h9) rfl dX7_turned_20 ?_
      refine lv_icmp_ge (tgt := 50) hx hb dX7_turned_23 (by decide) (fun c23 => ?_) (fun c23 => ?_)
      · have h := zt c23 h
        exact hk  _ _ _ h hP hD hS (lv_sub hl [] rfl)
      · have h := zf c23 h
        refine lv_aload_n hx hb dX7_turned_26 rfl (lv_at hl 0 rfl) ?_
        refine va_get (D := G.1) (ci := 7) (v := .ref a_letter) (C := RX7) (T := TX7) (N := 9) hx hb hts in_X7_turned_X7 hown hK.1 hP 0 rfl rfl 1 (by decide) (hts (.fieldLink RX7 19 "NineHands" "letter" "LNineHands$Letter;") (by decide +kernel)) (fun _ h9 => h9) rfl dX7_turned_27 ?_
        refine va_getN (D := G.1) (ci := 2) (v := .ref a_letter_tones) (C := RX2) (T := TX2) (N := 5) hx hb hts in_X7_turned_X2 hown hK.1 hP 1 rfl rfl 0 (by decide) (va_Nw.use rfl (hK.2.1.1 ("NineHands", 108, "NineHands$Letter", "tones", "[I", "NineHands") (by decide +kernel))) (fun _ h9 => h9) rfl dX7_turned_30 ?_
        refine lv_iload_n hx hb dX7_turned_33 rfl (lv_at hl 2 rfl) ?_
        obtain ⟨g34, h⟩ := zg h
        refine zald hx hb hK.1 hP 2 0 rfl rfl g34 (j := (l2_15).toNatClampNeg) rfl dX7_turned_34 ?_
        obtain ⟨y35, hc35, h⟩ := zb1_e h
        refine zcS (As := [.int (f_letter_tones (l2_15).toNatClampNeg)]) (rest := []) (ws' := (w_X7_turned G a a_text a_letter a_letter_tones a_letter_marks a_letter_writers a_images a_samples a_copies a_orders a_office a_draft a_office a_draft v_traced v_letter_lines v_letter_luck f_letter_tones)) (st1 := [.int y35]) ⟨hx, hb, hml, hown, hts⟩ (c_X7_isWarm l G (f_letter_tones (l2_15).toNatClampNeg) y35 hc35) (va_cwS 1 hts gX7_turned_X7_isWarm rfl rfl rfl (by decide +kernel) ⟨Nat.le_of_ble_eq_true rfl, Nat.le_of_ble_eq_true rfl⟩) hK hE hP hD hS hA [] rfl rfl rfl rfl rfl hl.1 rfl (Nat.le_of_ble_eq_true rfl) dX7_turned_35 (Nat.zero_le _) (Nat.zero_le _) rfl (fun H locs hP hD hS => ?_)
        refine lv_iload_n hx hb dX7_turned_38 rfl (lv_at hl 1 rfl) ?_
        refine lv_icmp_eq (tgt := 44) hx hb dX7_turned_39 (by decide) (fun c39 => ?_) (fun c39 => ?_)
        · have h := zt c39 h
          refine lv_iinc (v := (l2_15 + (1 : Int32))) (lv' := [(2, .int (l2_15 + (1 : Int32))), (0, .ref a), (1, .int y9)]) hx hb dX7_turned_44 hl (k := 2) rfl rfl (by decide) rfl (fun ls hl => ?_)
          refine lv_goto (tgt := 15) hx hb dX7_turned_47 (by decide) ?_
          exact ih K _ _ _ _ h hk hP hD hS (lv_sub hl [1, 2, 0] rfl)
        · have h := zf c39 h
          refine lv_iload_n hx hb dX7_turned_42 rfl (lv_at hl 2 rfl) ?_
          cases h
          exact W.iret hx hb hr (fun t9 ht9 _ => zend hP hD hS ht9) hS.2.2 dX7_turned_43
  refine loop_15 fu _ _ _ _ _ h (fun  H locs ls h hP hD hS hl => ?_) hP hD hS (lv_sub hl [2, 1, 0] rfl)
  refine lv_bipush (v := ((-9) : Int32)) hx hb dX7_turned_50 (by decide) ?_
  cases h
  exact W.iret hx hb hr (fun t9 ht9 _ => zend hP hD hS ht9) hS.2.2 dX7_turned_52
abbrev w_X7_hasLineAhead (G : zG) (a : Nat) (a_text : Nat) (a_letter : Nat) (a_letter_tones : Nat) (a_letter_marks : Nat) (a_letter_writers : Nat) (a_images : Nat) (a_samples : Nat) (a_copies : Nat) (a_orders : Nat) (a_office : Nat) (a_draft : Nat) (r_office : Nat) (r_draft : Nat) (v_traced : Int64) (v_letter_lines : Int32) (v_letter_luck : Int32) : va_W := [(a, .inr (7, [.ref a_text, .ref a_letter, .ref a_images, .ref a_samples, .ref a_copies, .ref a_orders, .ref r_office, .ref r_draft, .long v_traced])), (a_letter, .inr (2, [.ref a_letter_tones, .ref a_letter_marks, .ref a_letter_writers, .int v_letter_lines, .int v_letter_luck]))]
theorem in_X7_hasLineAhead_X2 : ∀ w ∈ wsX20, w ∈ wsX7_hasLineAhead := by decide +kernel
theorem in_X7_hasLineAhead_X7 : ∀ w ∈ wsX70, w ∈ wsX7_hasLineAhead := by decide +kernel
set_option maxHeartbeats 4000000 in
set_option maxRecDepth 100000 in
theorem c_X7_hasLineAhead (l : Launch) (G : zG) (a : Nat) (a_text : Nat) (a_letter : Nat) (a_letter_tones : Nat) (a_letter_marks : Nat) (a_letter_writers : Nat) (a_images : Nat) (a_samples : Nat) (a_copies : Nat) (a_orders : Nat) (a_office : Nat) (a_draft : Nat) (v_traced : Int64) (v_letter_lines : Int32) (v_letter_luck : Int32) (x1 : Int32) (rv : Int32) (h : fX7_hasLineAhead v_letter_lines x1 = some rv) : zC l yX7_hasLineAhead wsX7_hasLineAhead 0 0 G [.ref a, .int x1] (w_X7_hasLineAhead G a a_text a_letter a_letter_tones a_letter_marks a_letter_writers a_images a_samples a_copies a_orders a_office a_draft a_office a_draft v_traced v_letter_lines v_letter_luck) (some (.int rv)) (w_X7_hasLineAhead G a a_text a_letter a_letter_tones a_letter_marks a_letter_writers a_images a_samples a_copies a_orders a_office a_draft a_office a_draft v_traced v_letter_lines v_letter_luck) := by
  refine fun sz => Met.ofW (cc := cX7_hasLineAhead) (maxL := 2) (ret := (some .boolean)) (by decide) rfl ?_
  intro p e s m args below meth c s₁ B hml hv
  obtain ⟨rfl, hsz, hP, hK, hD0, hE⟩ := hv
  have hx := B.exec
  have hb := B.bytes
  have hr := B.returns
  have hts := atoms_spec (ws := wsX7_hasLineAhead) B.pre
  have hown : s.vm.findClass RX7 = some m.cls := findClass_of_methodNamed B.named
  have hlocks := B.notSynchronized
  subst hsz
  have hD := hD0.self (sz := s.heap.size)
  generalize hAe : va_A (w_X7_hasLineAhead G a a_text a_letter a_letter_tones a_letter_marks a_letter_writers a_images a_samples a_copies a_orders a_office a_draft a_office a_draft v_traced v_letter_lines v_letter_luck) s.heap.size = A at hD hE ⊢
  have hA : ∀ q : Nat, s.heap.size ≤ q → A q := fun q h => by rw [← hAe]; exact Or.inr h
  have hS : va_S A s.heap s.heap [] := va_S.rf
  have hl := lv_entry ([.ref a, .int x1]) (n := 2) (Nat.le_of_ble_eq_true rfl)
  rw [lg_entry_eq]
  generalize (lg_sl ([.ref a, .int x1]) ++ List.replicate (2 - (lg_sl ([.ref a, .int x1])).length) Slot.unset).toArray = ls at hl ⊢
  have hl : lv_has ls 2 [(0, .ref a), (1, .int x1)] := hl
  have hP : va_P G.1 vwCl (w_X7_hasLineAhead G a a_text a_letter a_letter_tones a_letter_marks a_letter_writers a_images a_samples a_copies a_orders a_office a_draft a_office a_draft v_traced v_letter_lines v_letter_luck) s.heap := hP
  rw [fX7_hasLineAhead] at h
  refine lv_iload_n hx hb dX7_hasLineAhead_0 rfl (lv_at hl 1 rfl) ?_
  refine lv_iconst (v := (1 : Int32)) hx hb dX7_hasLineAhead_1 (by decide) ?_
  refine lv_icmp_lt (tgt := 20) hx hb dX7_hasLineAhead_2 (by decide) (fun c2 => ?_) (fun c2 => ?_)
  · have h := zt c2 h
    refine lv_iconst (v := (0 : Int32)) hx hb dX7_hasLineAhead_20 (by decide) ?_
    cases h
    exact W.zret (ty := .boolean) hx hb hr rfl (fun t9 ht9 _ => zend hP hD hS ht9) hS.2.2 dX7_hasLineAhead_21
  · have h := zf c2 h
    refine lv_iload_n hx hb dX7_hasLineAhead_5 rfl (lv_at hl 1 rfl) ?_
    refine lv_aload_n hx hb dX7_hasLineAhead_6 rfl (lv_at hl 0 rfl) ?_
    refine va_get (D := G.1) (ci := 7) (v := .ref a_letter) (C := RX7) (T := TX7) (N := 9) hx hb hts in_X7_hasLineAhead_X7 hown hK.1 hP 0 rfl rfl 1 (by decide) (hts (.fieldLink RX7 19 "NineHands" "letter" "LNineHands$Letter;") (by decide +kernel)) (fun _ h9 => h9) rfl dX7_hasLineAhead_7 ?_
    refine va_getN (D := G.1) (ci := 2) (v := .int v_letter_lines) (C := RX2) (T := TX2) (N := 5) hx hb hts in_X7_hasLineAhead_X2 hown hK.1 hP 1 rfl rfl 3 (by decide) (va_Nw.use rfl (hK.2.1.1 ("NineHands", 105, "NineHands$Letter", "lines", "I", "NineHands") (by decide +kernel))) (fun _ h9 => h9) rfl dX7_hasLineAhead_10 ?_
    refine lv_icmp_ge (tgt := 20) hx hb dX7_hasLineAhead_13 (by decide) (fun c13 => ?_) (fun c13 => ?_)
    · have h := zt c13 h
      refine lv_iconst (v := (0 : Int32)) hx hb dX7_hasLineAhead_20 (by decide) ?_
      cases h
      exact W.zret (ty := .boolean) hx hb hr rfl (fun t9 ht9 _ => zend hP hD hS ht9) hS.2.2 dX7_hasLineAhead_21
    · have h := zf c13 h
      refine lv_iconst (v := (1 : Int32)) hx hb dX7_hasLineAhead_16 (by decide) ?_
      refine lv_goto (tgt := 21) hx hb dX7_hasLineAhead_17 (by decide) ?_
      cases h
      exact W.zret (ty := .boolean) hx hb hr rfl (fun t9 ht9 _ => zend hP hD hS ht9) hS.2.2 dX7_hasLineAhead_21
abbrev w_X7_waysOf (G : zG) (a : Nat) (a_text : Nat) (a_letter : Nat) (a_letter_tones : Nat) (a_letter_marks : Nat) (a_letter_writers : Nat) (a_images : Nat) (a_samples : Nat) (a_copies : Nat) (a_orders : Nat) (a_office : Nat) (a_office_clerks : Nat) (ca_office_clk : Nat → Nat) (a_draft : Nat) (r_office : Nat) (r_draft : Nat) (v_traced : Int64) (v_letter_lines : Int32) (v_letter_luck : Int32) (f_letter_tones : (Nat → Int32)) (f_letter_marks : (Nat → Int32)) (v_office_count : Int32) (v_office_letterTold : Int32) (v_office_firstTone : Int32) (v_office_firstMarks : Int32) (k_office_lean : (Nat → Int32)) (k_office_sets : (Nat → Int32)) (k_office_drops : (Nat → Int32)) (k_office_keeps : (Nat → Int32)) : va_W := [(a, .inr (7, [.ref a_text, .ref a_letter, .ref a_images, .ref a_samples, .ref a_copies, .ref a_orders, .ref r_office, .ref r_draft, .long v_traced])), (a_letter, .inr (2, [.ref a_letter_tones, .ref a_letter_marks, .ref a_letter_writers, .int v_letter_lines, .int v_letter_luck])), (a_letter_tones, .inl (zCI G, 10, .inl f_letter_tones)), (a_letter_marks, .inl (zCI G, 10, .inl f_letter_marks)), (a_office, .inr (3, [.ref a_office_clerks, .int v_office_count, .int v_office_letterTold, .int v_office_firstTone, .int v_office_firstMarks])), (a_office_clerks, .inl (zCC G, 6, .inr (.inr (.inr (.inr (fun k => some (ca_office_clk k)))))))] ++ zclks ca_office_clk k_office_lean k_office_sets k_office_drops k_office_keeps
theorem in_X7_waysOf_X2 : ∀ w ∈ wsX20, w ∈ wsX7_waysOf := by decide +kernel
theorem in_X7_waysOf_X7 : ∀ w ∈ wsX70, w ∈ wsX7_waysOf := by decide +kernel
set_option maxHeartbeats 4000000 in
set_option maxRecDepth 100000 in
theorem c_X7_waysOf (l : Launch) (G : zG) (a : Nat) (a_text : Nat) (a_letter : Nat) (a_letter_tones : Nat) (a_letter_marks : Nat) (a_letter_writers : Nat) (a_images : Nat) (a_samples : Nat) (a_copies : Nat) (a_orders : Nat) (a_office : Nat) (a_office_clerks : Nat) (ca_office_clk : Nat → Nat) (a_draft : Nat) (v_traced : Int64) (v_letter_lines : Int32) (v_letter_luck : Int32) (f_letter_tones : (Nat → Int32)) (f_letter_marks : (Nat → Int32)) (v_office_count : Int32) (v_office_letterTold : Int32) (v_office_firstTone : Int32) (v_office_firstMarks : Int32) (k_office_lean : (Nat → Int32)) (k_office_sets : (Nat → Int32)) (k_office_drops : (Nat → Int32)) (k_office_keeps : (Nat → Int32)) (x1 : Int32) (x2 : Int32) (rv : Int32) (h : fX7_waysOf v_letter_lines f_letter_tones f_letter_marks v_office_count k_office_lean k_office_sets k_office_drops k_office_keeps x1 x2 = some rv) : zC l yX7_waysOf wsX7_waysOf 4 91 G [.ref a, .int x1, .int x2] (w_X7_waysOf G a a_text a_letter a_letter_tones a_letter_marks a_letter_writers a_images a_samples a_copies a_orders a_office a_office_clerks ca_office_clk a_draft a_office a_draft v_traced v_letter_lines v_letter_luck f_letter_tones f_letter_marks v_office_count v_office_letterTold v_office_firstTone v_office_firstMarks k_office_lean k_office_sets k_office_drops k_office_keeps) (some (.int rv)) (w_X7_waysOf G a a_text a_letter a_letter_tones a_letter_marks a_letter_writers a_images a_samples a_copies a_orders a_office a_office_clerks ca_office_clk a_draft a_office a_draft v_traced v_letter_lines v_letter_luck f_letter_tones f_letter_marks v_office_count v_office_letterTold v_office_firstTone v_office_firstMarks k_office_lean k_office_sets k_office_drops k_office_keeps) := by
  refine fun sz => Met.ofW (cc := cX7_waysOf) (maxL := 6) (ret := (some .int)) (by decide) rfl ?_
  intro p e s m args below meth c s₁ B hml hv
  obtain ⟨rfl, hsz, hP, hK, hD0, hE⟩ := hv
  have hx := B.exec
  have hb := B.bytes
  have hr := B.returns
  have hts := atoms_spec (ws := wsX7_waysOf) B.pre
  have hown : s.vm.findClass RX7 = some m.cls := findClass_of_methodNamed B.named
  have hlocks := B.notSynchronized
  subst hsz
  have hD := hD0.self (sz := s.heap.size)
  generalize hAe : va_A (w_X7_waysOf G a a_text a_letter a_letter_tones a_letter_marks a_letter_writers a_images a_samples a_copies a_orders a_office a_office_clerks ca_office_clk a_draft a_office a_draft v_traced v_letter_lines v_letter_luck f_letter_tones f_letter_marks v_office_count v_office_letterTold v_office_firstTone v_office_firstMarks k_office_lean k_office_sets k_office_drops k_office_keeps) s.heap.size = A at hD hE ⊢
  have hA : ∀ q : Nat, s.heap.size ≤ q → A q := fun q h => by rw [← hAe]; exact Or.inr h
  have hS : va_S A s.heap s.heap [] := va_S.rf
  have hl := lv_entry ([.ref a, .int x1, .int x2]) (n := 6) (Nat.le_of_ble_eq_true rfl)
  rw [lg_entry_eq]
  generalize (lg_sl ([.ref a, .int x1, .int x2]) ++ List.replicate (6 - (lg_sl ([.ref a, .int x1, .int x2])).length) Slot.unset).toArray = ls at hl ⊢
  have hl : lv_has ls 6 [(0, .ref a), (1, .int x1), (2, .int x2)] := hl
  have hP : va_P G.1 vwCl (w_X7_waysOf G a a_text a_letter a_letter_tones a_letter_marks a_letter_writers a_images a_samples a_copies a_orders a_office a_office_clerks ca_office_clk a_draft a_office a_draft v_traced v_letter_lines v_letter_luck f_letter_tones f_letter_marks v_office_count v_office_letterTold v_office_firstTone v_office_firstMarks k_office_lean k_office_sets k_office_drops k_office_keeps) s.heap := hP
  rw [fX7_waysOf] at h
  refine lv_aload_n hx hb dX7_waysOf_0 rfl (lv_at hl 0 rfl) ?_
  refine va_get (D := G.1) (ci := 7) (v := .ref a_office) (C := RX7) (T := TX7) (N := 9) hx hb hts in_X7_waysOf_X7 hown hK.1 hP 0 rfl rfl 6 (by decide) (hts (.fieldLink RX7 51 "NineHands" "office" "LNineHands$Office;") (by decide +kernel)) (fun _ h9 => h9) rfl dX7_waysOf_1 ?_
  refine lv_iload_n hx hb dX7_waysOf_4 rfl (lv_at hl 1 rfl) ?_
  by_cases c5a : x1 < 0
  · have h := zt c5a h
    refine zcV (As := [.int x1]) (rest := []) (ws' := (w_X7_waysOf G a a_text a_letter a_letter_tones a_letter_marks a_letter_writers a_images a_samples a_copies a_orders a_office a_office_clerks ca_office_clk a_draft a_office a_draft v_traced v_letter_lines v_letter_luck f_letter_tones f_letter_marks v_office_count v_office_letterTold v_office_firstTone v_office_firstMarks k_office_lean k_office_sets k_office_drops k_office_keeps)) (st1 := [.null]) ⟨hx, hb, hml, hown, hts⟩ (c_X3_find l G a_office a_office_clerks ca_office_clk v_office_count v_office_letterTold v_office_firstTone v_office_firstMarks x1 none (by rw [fX3_find, if_pos c5a])) (cwV 1 hts gX7_waysOf_X3_find rfl rfl rfl (by decide +kernel) ⟨Nat.le_of_ble_eq_true rfl, Nat.le_of_ble_eq_true rfl⟩) hK hE hP hD hS hA [4, 5] rfl rfl 0 3 rfl rfl rfl rfl rfl rfl hl.1 rfl (Nat.le_of_ble_eq_true rfl) dX7_waysOf_5 (Nat.zero_le _) (Nat.zero_le _) rfl (fun H locs hP hD hS => ?_)
    refine lv_astore_nN (lv' := [(3, .null), (0, .ref a), (1, .int x1), (2, .int x2)]) hx hb dX7_waysOf_8 rfl hl (by decide) rfl (fun ls hl => ?_)
    refine lv_aload_nN hx hb dX7_waysOf_9 rfl (lv_at hl 0 rfl) ?_
    refine lv_ifnullN (tgt := 21) hx hb dX7_waysOf_10 (by decide) ?_
    refine lv_iconst (v := (0 : Int32)) hx hb dX7_waysOf_21 (by decide) ?_
    cases h
    exact W.iret hx hb hr (fun t9 ht9 _ => zend hP hD hS ht9) hS.2.2 dX7_waysOf_22
  have h := zf c5a h
  by_cases c5b : v_office_count ≤ x1
  · have h := zt c5b h
    refine zcV (As := [.int x1]) (rest := []) (ws' := (w_X7_waysOf G a a_text a_letter a_letter_tones a_letter_marks a_letter_writers a_images a_samples a_copies a_orders a_office a_office_clerks ca_office_clk a_draft a_office a_draft v_traced v_letter_lines v_letter_luck f_letter_tones f_letter_marks v_office_count v_office_letterTold v_office_firstTone v_office_firstMarks k_office_lean k_office_sets k_office_drops k_office_keeps)) (st1 := [.null]) ⟨hx, hb, hml, hown, hts⟩ (c_X3_find l G a_office a_office_clerks ca_office_clk v_office_count v_office_letterTold v_office_firstTone v_office_firstMarks x1 none (by rw [fX3_find, if_neg c5a, if_pos c5b])) (cwV 1 hts gX7_waysOf_X3_find rfl rfl rfl (by decide +kernel) ⟨Nat.le_of_ble_eq_true rfl, Nat.le_of_ble_eq_true rfl⟩) hK hE hP hD hS hA [4, 5] rfl rfl 0 3 rfl rfl rfl rfl rfl rfl hl.1 rfl (Nat.le_of_ble_eq_true rfl) dX7_waysOf_5 (Nat.zero_le _) (Nat.zero_le _) rfl (fun H locs hP hD hS => ?_)
    refine lv_astore_nN (lv' := [(3, .null), (0, .ref a), (1, .int x1), (2, .int x2)]) hx hb dX7_waysOf_8 rfl hl (by decide) rfl (fun ls hl => ?_)
    refine lv_aload_nN hx hb dX7_waysOf_9 rfl (lv_at hl 0 rfl) ?_
    refine lv_ifnullN (tgt := 21) hx hb dX7_waysOf_10 (by decide) ?_
    refine lv_iconst (v := (0 : Int32)) hx hb dX7_waysOf_21 (by decide) ?_
    cases h
    exact W.iret hx hb hr (fun t9 ht9 _ => zend hP hD hS ht9) hS.2.2 dX7_waysOf_22
  have h := zf c5b h
  obtain ⟨g5, h⟩ := zg h
  refine zcV (As := [.int x1]) (rest := []) (ws' := (w_X7_waysOf G a a_text a_letter a_letter_tones a_letter_marks a_letter_writers a_images a_samples a_copies a_orders a_office a_office_clerks ca_office_clk a_draft a_office a_draft v_traced v_letter_lines v_letter_luck f_letter_tones f_letter_marks v_office_count v_office_letterTold v_office_firstTone v_office_firstMarks k_office_lean k_office_sets k_office_drops k_office_keeps)) (st1 := [.ref (ca_office_clk (x1).toNatClampNeg)]) ⟨hx, hb, hml, hown, hts⟩ (c_X3_find l G a_office a_office_clerks ca_office_clk v_office_count v_office_letterTold v_office_firstTone v_office_firstMarks x1 (some (ca_office_clk (x1).toNatClampNeg)) (by rw [fX3_find, if_neg c5a, if_neg c5b, if_pos g5])) (cwV 1 hts gX7_waysOf_X3_find rfl rfl rfl (by decide +kernel) ⟨Nat.le_of_ble_eq_true rfl, Nat.le_of_ble_eq_true rfl⟩) hK hE hP hD hS hA [4, 5] rfl rfl 0 3 rfl rfl rfl rfl rfl rfl hl.1 rfl (Nat.le_of_ble_eq_true rfl) dX7_waysOf_5 (Nat.zero_le _) (Nat.zero_le _) rfl (fun H locs hP hD hS => ?_)
  refine lv_astore_n (lv' := [(3, .ref (ca_office_clk (x1).toNatClampNeg)), (0, .ref a), (1, .int x1), (2, .int x2)]) hx hb dX7_waysOf_8 rfl hl (by decide) rfl (fun ls hl => ?_)
  refine lv_aload_n hx hb dX7_waysOf_9 rfl (lv_at hl 0 rfl) ?_
  refine lv_ifnull hx hb dX7_waysOf_10 ?_
  refine lv_aload_n hx hb dX7_waysOf_13 rfl (lv_at hl 1 rfl) ?_
  refine lv_iload_n hx hb dX7_waysOf_14 rfl (lv_at hl 3 rfl) ?_
  obtain ⟨y15, hc15, h⟩ := zb1_e h
  refine zcV (As := [.int x2]) (rest := []) (ws' := (w_X7_waysOf G a a_text a_letter a_letter_tones a_letter_marks a_letter_writers a_images a_samples a_copies a_orders a_office a_office_clerks ca_office_clk a_draft a_office a_draft v_traced v_letter_lines v_letter_luck f_letter_tones f_letter_marks v_office_count v_office_letterTold v_office_firstTone v_office_firstMarks k_office_lean k_office_sets k_office_drops k_office_keeps)) (st1 := [.int y15]) ⟨hx, hb, hml, hown, hts⟩ (c_X7_hasLineAhead l G a a_text a_letter a_letter_tones a_letter_marks a_letter_writers a_images a_samples a_copies a_orders a_office a_draft v_traced v_letter_lines v_letter_luck x2 y15 hc15) (cwV 1 hts gX7_waysOf_X7_hasLineAhead rfl rfl rfl (by decide +kernel) ⟨Nat.le_of_ble_eq_true rfl, Nat.le_of_ble_eq_true rfl⟩) hK hE hP hD hS hA [0, 1] rfl rfl 0 7 rfl rfl rfl rfl rfl rfl hl.1 rfl (Nat.le_of_ble_eq_true rfl) dX7_waysOf_15 (Nat.zero_le _) (Nat.zero_le _) rfl (fun H locs hP hD hS => ?_)
  refine lv_if_ne (tgt := 23) hx hb dX7_waysOf_18 (by decide) (fun c18 => ?_) (fun c18 => ?_)
  · have h := zf c18 h
    refine lv_aload_n hx hb dX7_waysOf_23 rfl (lv_at hl 1 rfl) ?_
    refine va_get (D := G.1) (ci := 7) (v := .ref a_letter) (C := RX7) (T := TX7) (N := 9) hx hb hts in_X7_waysOf_X7 hown hK.1 hP 0 rfl rfl 1 (by decide) (hts (.fieldLink RX7 19 "NineHands" "letter" "LNineHands$Letter;") (by decide +kernel)) (fun _ h9 => h9) rfl dX7_waysOf_24 ?_
    refine va_getN (D := G.1) (ci := 2) (v := .ref a_letter_tones) (C := RX2) (T := TX2) (N := 5) hx hb hts in_X7_waysOf_X2 hown hK.1 hP 1 rfl rfl 0 (by decide) (va_Nw.use rfl (hK.2.1.1 ("NineHands", 108, "NineHands$Letter", "tones", "[I", "NineHands") (by decide +kernel))) (fun _ h9 => h9) rfl dX7_waysOf_27 ?_
    refine lv_iload_n hx hb dX7_waysOf_30 rfl (lv_at hl 3 rfl) ?_
    refine lv_iconst (v := (1 : Int32)) hx hb dX7_waysOf_31 (by decide) ?_
    refine lv_isub hx hb dX7_waysOf_32 ?_
    obtain ⟨g33, h⟩ := zg h
    refine zald hx hb hK.1 hP 2 0 rfl rfl g33 (j := ((x2 - (1 : Int32))).toNatClampNeg) rfl dX7_waysOf_33 ?_
    refine lv_istore (lv' := [(4, .int (f_letter_tones ((x2 - (1 : Int32))).toNatClampNeg)), (3, .ref (ca_office_clk (x1).toNatClampNeg)), (0, .ref a), (1, .int x1), (2, .int x2)]) hx hb dX7_waysOf_34 hl (by decide) rfl (fun ls hl => ?_)
    refine lv_aload_n hx hb dX7_waysOf_36 rfl (lv_at hl 2 rfl) ?_
    refine va_get (D := G.1) (ci := 7) (v := .ref a_letter) (C := RX7) (T := TX7) (N := 9) hx hb hts in_X7_waysOf_X7 hown hK.1 hP 0 rfl rfl 1 (by decide) (hts (.fieldLink RX7 19 "NineHands" "letter" "LNineHands$Letter;") (by decide +kernel)) (fun _ h9 => h9) rfl dX7_waysOf_37 ?_
    refine va_getN (D := G.1) (ci := 2) (v := .ref a_letter_marks) (C := RX2) (T := TX2) (N := 5) hx hb hts in_X7_waysOf_X2 hown hK.1 hP 1 rfl rfl 1 (by decide) (va_Nw.use rfl (hK.2.1.1 ("NineHands", 112, "NineHands$Letter", "marks", "[I", "NineHands") (by decide +kernel))) (fun _ h9 => h9) rfl dX7_waysOf_40 ?_
    refine lv_iload_n hx hb dX7_waysOf_43 rfl (lv_at hl 4 rfl) ?_
    refine lv_iconst (v := (1 : Int32)) hx hb dX7_waysOf_44 (by decide) ?_
    refine lv_isub hx hb dX7_waysOf_45 ?_
    refine zald hx hb hK.1 hP 3 0 rfl rfl g33 (j := ((x2 - (1 : Int32))).toNatClampNeg) rfl dX7_waysOf_46 ?_
    refine lv_istore (lv' := [(5, .int (f_letter_marks ((x2 - (1 : Int32))).toNatClampNeg)), (4, .int (f_letter_tones ((x2 - (1 : Int32))).toNatClampNeg)), (3, .ref (ca_office_clk (x1).toNatClampNeg)), (0, .ref a), (1, .int x1), (2, .int x2)]) hx hb dX7_waysOf_47 hl (by decide) rfl (fun ls hl => ?_)
    refine lv_aload_n hx hb dX7_waysOf_49 rfl (lv_at hl 2 rfl) ?_
    refine lv_iload hx hb dX7_waysOf_50 (lv_at hl 1 rfl) ?_
    refine lv_iload hx hb dX7_waysOf_52 (lv_at hl 0 rfl) ?_
    refine lv_aload_n hx hb dX7_waysOf_54 rfl (lv_at hl 3 rfl) ?_
    refine va_get (D := G.1) (ci := 7) (v := .ref a_letter) (C := RX7) (T := TX7) (N := 9) hx hb hts in_X7_waysOf_X7 hown hK.1 hP 0 rfl rfl 1 (by decide) (hts (.fieldLink RX7 19 "NineHands" "letter" "LNineHands$Letter;") (by decide +kernel)) (fun _ h9 => h9) rfl dX7_waysOf_55 ?_
    refine va_getN (D := G.1) (ci := 2) (v := .ref a_letter_tones) (C := RX2) (T := TX2) (N := 5) hx hb hts in_X7_waysOf_X2 hown hK.1 hP 1 rfl rfl 0 (by decide) (va_Nw.use rfl (hK.2.1.1 ("NineHands", 108, "NineHands$Letter", "tones", "[I", "NineHands") (by decide +kernel))) (fun _ h9 => h9) rfl dX7_waysOf_58 ?_
    refine lv_iload_n hx hb dX7_waysOf_61 rfl (lv_at hl 5 rfl) ?_
    obtain ⟨g62, h⟩ := zg h
    refine zald hx hb hK.1 hP 2 0 rfl rfl g62 (j := (x2).toNatClampNeg) rfl dX7_waysOf_62 ?_
    refine lv_aload_n hx hb dX7_waysOf_63 rfl (lv_at hl 3 rfl) ?_
    refine va_get (D := G.1) (ci := 7) (v := .ref a_letter) (C := RX7) (T := TX7) (N := 9) hx hb hts in_X7_waysOf_X7 hown hK.1 hP 0 rfl rfl 1 (by decide) (hts (.fieldLink RX7 19 "NineHands" "letter" "LNineHands$Letter;") (by decide +kernel)) (fun _ h9 => h9) rfl dX7_waysOf_64 ?_
    refine va_getN (D := G.1) (ci := 2) (v := .ref a_letter_marks) (C := RX2) (T := TX2) (N := 5) hx hb hts in_X7_waysOf_X2 hown hK.1 hP 1 rfl rfl 1 (by decide) (va_Nw.use rfl (hK.2.1.1 ("NineHands", 112, "NineHands$Letter", "marks", "[I", "NineHands") (by decide +kernel))) (fun _ h9 => h9) rfl dX7_waysOf_67 ?_
    refine lv_iload_n hx hb dX7_waysOf_70 rfl (lv_at hl 5 rfl) ?_
    refine zald hx hb hK.1 hP 3 0 rfl rfl g62 (j := (x2).toNatClampNeg) rfl dX7_waysOf_71 ?_
    obtain ⟨y72, hc72, h⟩ := zb1_e h
    refine zcV (As := [.int (f_letter_tones ((x2 - (1 : Int32))).toNatClampNeg), .int (f_letter_marks ((x2 - (1 : Int32))).toNatClampNeg), .int (f_letter_tones (x2).toNatClampNeg), .int (f_letter_marks (x2).toNatClampNeg)]) (rest := []) (ws' := (w_X7_waysOf G a a_text a_letter a_letter_tones a_letter_marks a_letter_writers a_images a_samples a_copies a_orders a_office a_office_clerks ca_office_clk a_draft a_office a_draft v_traced v_letter_lines v_letter_luck f_letter_tones f_letter_marks v_office_count v_office_letterTold v_office_firstTone v_office_firstMarks k_office_lean k_office_sets k_office_drops k_office_keeps)) (st1 := [.int y72]) ⟨hx, hb, hml, hown, hts⟩ (c_X0_waysTo l G (ca_office_clk (x1).toNatClampNeg) (k_office_lean (x1).toNatClampNeg) (k_office_sets (x1).toNatClampNeg) (k_office_drops (x1).toNatClampNeg) (k_office_keeps (x1).toNatClampNeg) (f_letter_tones ((x2 - (1 : Int32))).toNatClampNeg) (f_letter_marks ((x2 - (1 : Int32))).toNatClampNeg) (f_letter_tones (x2).toNatClampNeg) (f_letter_marks (x2).toNatClampNeg) y72 hc72) (cwV 4 hts gX7_waysOf_X0_waysTo rfl rfl rfl (by decide +kernel) ⟨Nat.le_of_ble_eq_true rfl, Nat.le_of_ble_eq_true rfl⟩) hK hE hP hD hS hA [6 + (x1).toNatClampNeg] rfl (zclks_map (by rfl) (zin_lt g5)) 0 0 rfl rfl rfl rfl (zclks_put (by rfl) (zin_lt g5)) rfl hl.1 rfl (Nat.le_of_ble_eq_true rfl) dX7_waysOf_72 (Nat.zero_le _) (Nat.zero_le _) rfl (fun H locs hP hD hS => ?_)
    cases h
    exact W.iret hx hb hr (fun t9 ht9 _ => zend hP hD hS ht9) hS.2.2 dX7_waysOf_75
  · have h := zt c18 h
    refine lv_iconst (v := (0 : Int32)) hx hb dX7_waysOf_21 (by decide) ?_
    cases h
    exact W.iret hx hb hr (fun t9 ht9 _ => zend hP hD hS ht9) hS.2.2 dX7_waysOf_22
abbrev w_X7_writersOf (G : zG) (a : Nat) (a_text : Nat) (a_letter : Nat) (a_letter_tones : Nat) (a_letter_marks : Nat) (a_letter_writers : Nat) (a_images : Nat) (a_samples : Nat) (a_copies : Nat) (a_orders : Nat) (a_office : Nat) (a_office_clerks : Nat) (ca_office_clk : Nat → Nat) (a_draft : Nat) (r_office : Nat) (r_draft : Nat) (v_traced : Int64) (v_letter_lines : Int32) (v_letter_luck : Int32) (f_letter_tones : (Nat → Int32)) (f_letter_marks : (Nat → Int32)) (v_office_count : Int32) (v_office_letterTold : Int32) (v_office_firstTone : Int32) (v_office_firstMarks : Int32) (k_office_lean : (Nat → Int32)) (k_office_sets : (Nat → Int32)) (k_office_drops : (Nat → Int32)) (k_office_keeps : (Nat → Int32)) : va_W := [(a, .inr (7, [.ref a_text, .ref a_letter, .ref a_images, .ref a_samples, .ref a_copies, .ref a_orders, .ref r_office, .ref r_draft, .long v_traced])), (a_letter, .inr (2, [.ref a_letter_tones, .ref a_letter_marks, .ref a_letter_writers, .int v_letter_lines, .int v_letter_luck])), (a_letter_tones, .inl (zCI G, 10, .inl f_letter_tones)), (a_letter_marks, .inl (zCI G, 10, .inl f_letter_marks)), (a_office, .inr (3, [.ref a_office_clerks, .int v_office_count, .int v_office_letterTold, .int v_office_firstTone, .int v_office_firstMarks])), (a_office_clerks, .inl (zCC G, 6, .inr (.inr (.inr (.inr (fun k => some (ca_office_clk k)))))))] ++ zclks ca_office_clk k_office_lean k_office_sets k_office_drops k_office_keeps
theorem in_X7_writersOf_X3 : ∀ w ∈ wsX30, w ∈ wsX7_writersOf := by decide +kernel
theorem in_X7_writersOf_X7 : ∀ w ∈ wsX70, w ∈ wsX7_writersOf := by decide +kernel
set_option maxHeartbeats 4000000 in
set_option maxRecDepth 100000 in
theorem c_X7_writersOf (l : Launch) (G : zG) (fu : Nat) (a : Nat) (a_text : Nat) (a_letter : Nat) (a_letter_tones : Nat) (a_letter_marks : Nat) (a_letter_writers : Nat) (a_images : Nat) (a_samples : Nat) (a_copies : Nat) (a_orders : Nat) (a_office : Nat) (a_office_clerks : Nat) (ca_office_clk : Nat → Nat) (a_draft : Nat) (v_traced : Int64) (v_letter_lines : Int32) (v_letter_luck : Int32) (f_letter_tones : (Nat → Int32)) (f_letter_marks : (Nat → Int32)) (v_office_count : Int32) (v_office_letterTold : Int32) (v_office_firstTone : Int32) (v_office_firstMarks : Int32) (k_office_lean : (Nat → Int32)) (k_office_sets : (Nat → Int32)) (k_office_drops : (Nat → Int32)) (k_office_keeps : (Nat → Int32)) (x1 : Int32) (rv : Int32) (h : fX7_writersOf fu v_letter_lines f_letter_tones f_letter_marks v_office_count k_office_lean k_office_sets k_office_drops k_office_keeps x1 = some rv) : zC l yX7_writersOf wsX7_writersOf 5 116 G [.ref a, .int x1] (w_X7_writersOf G a a_text a_letter a_letter_tones a_letter_marks a_letter_writers a_images a_samples a_copies a_orders a_office a_office_clerks ca_office_clk a_draft a_office a_draft v_traced v_letter_lines v_letter_luck f_letter_tones f_letter_marks v_office_count v_office_letterTold v_office_firstTone v_office_firstMarks k_office_lean k_office_sets k_office_drops k_office_keeps) (some (.int rv)) (w_X7_writersOf G a a_text a_letter a_letter_tones a_letter_marks a_letter_writers a_images a_samples a_copies a_orders a_office a_office_clerks ca_office_clk a_draft a_office a_draft v_traced v_letter_lines v_letter_luck f_letter_tones f_letter_marks v_office_count v_office_letterTold v_office_firstTone v_office_firstMarks k_office_lean k_office_sets k_office_drops k_office_keeps) := by
  refine fun sz => Met.ofW (cc := cX7_writersOf) (maxL := 4) (ret := (some .int)) (by decide) rfl ?_
  intro p e s m args below meth c s₁ B hml hv
  obtain ⟨rfl, hsz, hP, hK, hD0, hE⟩ := hv
  have hx := B.exec
  have hb := B.bytes
  have hr := B.returns
  have hts := atoms_spec (ws := wsX7_writersOf) B.pre
  have hown : s.vm.findClass RX7 = some m.cls := findClass_of_methodNamed B.named
  have hlocks := B.notSynchronized
  subst hsz
  have hD := hD0.self (sz := s.heap.size)
  generalize hAe : va_A (w_X7_writersOf G a a_text a_letter a_letter_tones a_letter_marks a_letter_writers a_images a_samples a_copies a_orders a_office a_office_clerks ca_office_clk a_draft a_office a_draft v_traced v_letter_lines v_letter_luck f_letter_tones f_letter_marks v_office_count v_office_letterTold v_office_firstTone v_office_firstMarks k_office_lean k_office_sets k_office_drops k_office_keeps) s.heap.size = A at hD hE ⊢
  have hA : ∀ q : Nat, s.heap.size ≤ q → A q := fun q h => by rw [← hAe]; exact Or.inr h
  have hS : va_S A s.heap s.heap [] := va_S.rf
  have hl := lv_entry ([.ref a, .int x1]) (n := 4) (Nat.le_of_ble_eq_true rfl)
  rw [lg_entry_eq]
  generalize (lg_sl ([.ref a, .int x1]) ++ List.replicate (4 - (lg_sl ([.ref a, .int x1])).length) Slot.unset).toArray = ls at hl ⊢
  have hl : lv_has ls 4 [(0, .ref a), (1, .int x1)] := hl
  have hP : va_P G.1 vwCl (w_X7_writersOf G a a_text a_letter a_letter_tones a_letter_marks a_letter_writers a_images a_samples a_copies a_orders a_office a_office_clerks ca_office_clk a_draft a_office a_draft v_traced v_letter_lines v_letter_luck f_letter_tones f_letter_marks v_office_count v_office_letterTold v_office_firstTone v_office_firstMarks k_office_lean k_office_sets k_office_drops k_office_keeps) s.heap := hP
  rw [fX7_writersOf] at h
  refine lv_iconst (v := (0 : Int32)) hx hb dX7_writersOf_0 (by decide) ?_
  refine lv_istore_n (lv' := [(2, .int (0 : Int32)), (0, .ref a), (1, .int x1)]) hx hb dX7_writersOf_1 rfl hl (by decide) rfl (fun ls hl => ?_)
  refine lv_iconst (v := (0 : Int32)) hx hb dX7_writersOf_2 (by decide) ?_
  refine lv_istore_n (lv' := [(3, .int (0 : Int32)), (2, .int (0 : Int32)), (0, .ref a), (1, .int x1)]) hx hb dX7_writersOf_3 rfl hl (by decide) rfl (fun ls hl => ?_)
  have loop_4 : ∀ (n : Nat) (K : Int32 → Option Int32) (l2_4 : Int32) (l3_4 : Int32) (H : Heap) (locs : List Loc) (ls : Array Slot), fX7_writersOf_L4 fu x1 v_letter_lines f_letter_tones f_letter_marks v_office_count k_office_lean k_office_sets k_office_drops k_office_keeps K n l2_4 l3_4 = some rv → (∀ (l2_4e : Int32) (H : Heap) (locs : List Loc) (ls : Array Slot), K l2_4e = some rv → va_P G.1 vwCl (w_X7_writersOf G a a_text a_letter a_letter_tones a_letter_marks a_letter_writers a_images a_samples a_copies a_orders a_office a_office_clerks ca_office_clk a_draft a_office a_draft v_traced v_letter_lines v_letter_luck f_letter_tones f_letter_marks v_office_count v_office_letterTold v_office_firstTone v_office_firstMarks k_office_lean k_office_sets k_office_drops k_office_keeps) H → va_D A (w_X7_writersOf G a a_text a_letter a_letter_tones a_letter_marks a_letter_writers a_images a_samples a_copies a_orders a_office a_office_clerks ca_office_clk a_draft a_office a_draft v_traced v_letter_lines v_letter_luck f_letter_tones f_letter_marks v_office_count v_office_letterTold v_office_firstTone v_office_firstMarks k_office_lean k_office_sets k_office_drops k_office_keeps) → va_S A s.heap H locs → lv_has ls 4 [(2, .int l2_4e)] → W p l e (headSpec wsX7_writersOf { frames := 5, cells := 0, slots := 0, locals := 116 }).room s m ([.ref a, .int x1] : List Value).toArray below meth c H locs 0 0 (MQ below (zQ (some (.int rv)) G (w_X7_writersOf G a a_text a_letter a_letter_tones a_letter_marks a_letter_writers a_images a_samples a_copies a_orders a_office a_office_clerks ca_office_clk a_draft a_office a_draft v_traced v_letter_lines v_letter_luck f_letter_tones f_letter_marks v_office_count v_office_letterTold v_office_firstTone v_office_firstMarks k_office_lean k_office_sets k_office_drops k_office_keeps) A) ([.ref a, .int x1] : List Value).toArray s 0 0 A) (F0 m 36 ls [])) → va_P G.1 vwCl (w_X7_writersOf G a a_text a_letter a_letter_tones a_letter_marks a_letter_writers a_images a_samples a_copies a_orders a_office a_office_clerks ca_office_clk a_draft a_office a_draft v_traced v_letter_lines v_letter_luck f_letter_tones f_letter_marks v_office_count v_office_letterTold v_office_firstTone v_office_firstMarks k_office_lean k_office_sets k_office_drops k_office_keeps) H → va_D A (w_X7_writersOf G a a_text a_letter a_letter_tones a_letter_marks a_letter_writers a_images a_samples a_copies a_orders a_office a_office_clerks ca_office_clk a_draft a_office a_draft v_traced v_letter_lines v_letter_luck f_letter_tones f_letter_marks v_office_count v_office_letterTold v_office_firstTone v_office_firstMarks k_office_lean k_office_sets k_office_drops k_office_keeps) → va_S A s.heap H locs → lv_has ls 4 [(0, .ref a), (1, .int x1), (2, .int l2_4), (3, .int l3_4)] → W p l e (headSpec wsX7_writersOf { frames := 5, cells := 0, slots := 0, locals := 116 }).room s m ([.ref a, .int x1] : List Value).toArray below meth c H locs 0 0 (MQ below (zQ (some (.int rv)) G (w_X7_writersOf G a a_text a_letter a_letter_tones a_letter_marks a_letter_writers a_images a_samples a_copies a_orders a_office a_office_clerks ca_office_clk a_draft a_office a_draft v_traced v_letter_lines v_letter_luck f_letter_tones f_letter_marks v_office_count v_office_letterTold v_office_firstTone v_office_firstMarks k_office_lean k_office_sets k_office_drops k_office_keeps) A) ([.ref a, .int x1] : List Value).toArray s 0 0 A) (F0 m 4 ls []) := by
    intro n
    induction n with
    | zero => intro K l2_4 l3_4 H locs ls h; rw [fX7_writersOf_L4] at h; cases h
    | succ n ih =>
      intro K l2_4 l3_4 H locs ls h hk hP hD hS hl
      rw [fX7_writersOf_L4] at h
      refine lv_iload_n hx hb dX7_writersOf_4 rfl (lv_at hl 3 rfl) ?_
      refine lv_aload_n hx hb dX7_writersOf_5 rfl (lv_at hl 0 rfl) ?_
      refine va_get (D := G.1) (ci := 7) (v := .ref a_office) (C := RX7) (T := TX7) (N := 9) hx hb hts in_X7_writersOf_X7 hown hK.1 hP 0 rfl rfl 6 (by decide) (hts (.fieldLink RX7 51 "NineHands" "office" "LNineHands$Office;") (by decide +kernel)) (fun _ h9 => h9) rfl dX7_writersOf_6 ?_
      refine va_getN (D := G.1) (ci := 3) (v := .int v_office_count) (C := RX3) (T := TX3) (N := 5) hx hb hts in_X7_writersOf_X3 hown hK.1 hP 4 rfl rfl 1 (by decide) (va_Nw.use rfl (hK.2.1.1 ("NineHands", 264, "NineHands$Office", "count", "I", "NineHands") (by decide +kernel))) (fun _ h9 => h9) rfl dX7_writersOf_9 ?_
      refine lv_icmp_ge (tgt := 36) hx hb dX7_writersOf_12 (by decide) (fun c12 => ?_) (fun c12 => ?_)
      · have h := zt c12 h
        exact hk _ _ _ _ h hP hD hS (lv_sub hl [2] rfl)
      · have h := zf c12 h
        refine lv_aload_n hx hb dX7_writersOf_15 rfl (lv_at hl 0 rfl) ?_
        refine lv_iload_n hx hb dX7_writersOf_16 rfl (lv_at hl 3 rfl) ?_
        refine lv_iload_n hx hb dX7_writersOf_17 rfl (lv_at hl 1 rfl) ?_
        obtain ⟨y18, hc18, h⟩ := zb1_e h
        refine zcV (As := [.int l3_4, .int x1]) (rest := []) (ws' := (w_X7_writersOf G a a_text a_letter a_letter_tones a_letter_marks a_letter_writers a_images a_samples a_copies a_orders a_office a_office_clerks ca_office_clk a_draft a_office a_draft v_traced v_letter_lines v_letter_luck f_letter_tones f_letter_marks v_office_count v_office_letterTold v_office_firstTone v_office_firstMarks k_office_lean k_office_sets k_office_drops k_office_keeps)) (st1 := [.int y18]) ⟨hx, hb, hml, hown, hts⟩ (c_X7_waysOf l G a a_text a_letter a_letter_tones a_letter_marks a_letter_writers a_images a_samples a_copies a_orders a_office a_office_clerks ca_office_clk a_draft v_traced v_letter_lines v_letter_luck f_letter_tones f_letter_marks v_office_count v_office_letterTold v_office_firstTone v_office_firstMarks k_office_lean k_office_sets k_office_drops k_office_keeps l3_4 x1 y18 hc18) (cwV 2 hts gX7_writersOf_X7_waysOf rfl rfl rfl (by decide +kernel) ⟨Nat.le_of_ble_eq_true rfl, Nat.le_of_ble_eq_true rfl⟩) hK hE hP hD hS hA [0, 1, 2, 3, 4, 5, 6, 7, 8, 9, 10, 11] rfl rfl 0 7 rfl rfl rfl rfl rfl rfl hl.1 rfl (Nat.le_of_ble_eq_true rfl) dX7_writersOf_18 (Nat.zero_le _) (Nat.zero_le _) rfl (fun H locs hP hD hS => ?_)
        refine lv_if_le (tgt := 30) hx hb dX7_writersOf_21 (by decide) (fun c21 => ?_) (fun c21 => ?_)
        · have h := zt c21 h
          refine lv_iinc (v := (l3_4 + (1 : Int32))) (lv' := [(3, .int (l3_4 + (1 : Int32))), (0, .ref a), (1, .int x1), (2, .int l2_4)]) hx hb dX7_writersOf_30 hl (k := 3) rfl rfl (by decide) rfl (fun ls hl => ?_)
          refine lv_goto (tgt := 4) hx hb dX7_writersOf_33 (by decide) ?_
          exact ih K _ _ _ _ _ h hk hP hD hS (lv_sub hl [1, 2, 3, 0] rfl)
        · have h := zf c21 h
          refine lv_iload_n hx hb dX7_writersOf_24 rfl (lv_at hl 2 rfl) ?_
          refine lv_iconst (v := (1 : Int32)) hx hb dX7_writersOf_25 (by decide) ?_
          refine lv_iload_n hx hb dX7_writersOf_26 rfl (lv_at hl 3 rfl) ?_
          refine lv_ishl hx hb dX7_writersOf_27 ?_
          refine lv_ior hx hb dX7_writersOf_28 ?_
          refine lv_istore_n (lv' := [(2, .int (l2_4 ||| ((1 : Int32) <<< (l3_4 &&& 31)))), (0, .ref a), (1, .int x1), (3, .int l3_4)]) hx hb dX7_writersOf_29 rfl hl (by decide) rfl (fun ls hl => ?_)
          refine lv_iinc (v := (l3_4 + (1 : Int32))) (lv' := [(3, .int (l3_4 + (1 : Int32))), (2, .int (l2_4 ||| ((1 : Int32) <<< (l3_4 &&& 31)))), (0, .ref a), (1, .int x1)]) hx hb dX7_writersOf_30 hl (k := 3) rfl rfl (by decide) rfl (fun ls hl => ?_)
          refine lv_goto (tgt := 4) hx hb dX7_writersOf_33 (by decide) ?_
          exact ih K _ _ _ _ _ h hk hP hD hS (lv_sub hl [2, 3, 1, 0] rfl)
  refine loop_4 fu _ _ _ _ _ _ h (fun l2_4e H locs ls h hP hD hS hl => ?_) hP hD hS (lv_sub hl [2, 3, 1, 0] rfl)
  refine lv_iload_n hx hb dX7_writersOf_36 rfl (lv_at hl 0 rfl) ?_
  cases h
  exact W.iret hx hb hr (fun t9 ht9 _ => zend hP hD hS ht9) hS.2.2 dX7_writersOf_37
abbrev w_X7_likeliestOf (G : zG) (a : Nat) (a_text : Nat) (a_letter : Nat) (a_letter_tones : Nat) (a_letter_marks : Nat) (a_letter_writers : Nat) (a_images : Nat) (a_samples : Nat) (a_copies : Nat) (a_orders : Nat) (a_office : Nat) (a_office_clerks : Nat) (ca_office_clk : Nat → Nat) (a_draft : Nat) (r_office : Nat) (r_draft : Nat) (v_traced : Int64) (v_letter_lines : Int32) (v_letter_luck : Int32) (f_letter_tones : (Nat → Int32)) (f_letter_marks : (Nat → Int32)) (v_office_count : Int32) (v_office_letterTold : Int32) (v_office_firstTone : Int32) (v_office_firstMarks : Int32) (k_office_lean : (Nat → Int32)) (k_office_sets : (Nat → Int32)) (k_office_drops : (Nat → Int32)) (k_office_keeps : (Nat → Int32)) : va_W := [(a, .inr (7, [.ref a_text, .ref a_letter, .ref a_images, .ref a_samples, .ref a_copies, .ref a_orders, .ref r_office, .ref r_draft, .long v_traced])), (a_letter, .inr (2, [.ref a_letter_tones, .ref a_letter_marks, .ref a_letter_writers, .int v_letter_lines, .int v_letter_luck])), (a_letter_tones, .inl (zCI G, 10, .inl f_letter_tones)), (a_letter_marks, .inl (zCI G, 10, .inl f_letter_marks)), (a_office, .inr (3, [.ref a_office_clerks, .int v_office_count, .int v_office_letterTold, .int v_office_firstTone, .int v_office_firstMarks])), (a_office_clerks, .inl (zCC G, 6, .inr (.inr (.inr (.inr (fun k => some (ca_office_clk k)))))))] ++ zclks ca_office_clk k_office_lean k_office_sets k_office_drops k_office_keeps
theorem in_X7_likeliestOf_X3 : ∀ w ∈ wsX30, w ∈ wsX7_likeliestOf := by decide +kernel
theorem in_X7_likeliestOf_X7 : ∀ w ∈ wsX70, w ∈ wsX7_likeliestOf := by decide +kernel
set_option maxHeartbeats 4000000 in
set_option maxRecDepth 100000 in
theorem c_X7_likeliestOf (l : Launch) (G : zG) (fu : Nat) (a : Nat) (a_text : Nat) (a_letter : Nat) (a_letter_tones : Nat) (a_letter_marks : Nat) (a_letter_writers : Nat) (a_images : Nat) (a_samples : Nat) (a_copies : Nat) (a_orders : Nat) (a_office : Nat) (a_office_clerks : Nat) (ca_office_clk : Nat → Nat) (a_draft : Nat) (v_traced : Int64) (v_letter_lines : Int32) (v_letter_luck : Int32) (f_letter_tones : (Nat → Int32)) (f_letter_marks : (Nat → Int32)) (v_office_count : Int32) (v_office_letterTold : Int32) (v_office_firstTone : Int32) (v_office_firstMarks : Int32) (k_office_lean : (Nat → Int32)) (k_office_sets : (Nat → Int32)) (k_office_drops : (Nat → Int32)) (k_office_keeps : (Nat → Int32)) (x1 : Int32) (rv : Int32) (h : fX7_likeliestOf fu v_letter_lines f_letter_tones f_letter_marks v_office_count k_office_lean k_office_sets k_office_drops k_office_keeps x1 = some rv) : zC l yX7_likeliestOf wsX7_likeliestOf 5 116 G [.ref a, .int x1] (w_X7_likeliestOf G a a_text a_letter a_letter_tones a_letter_marks a_letter_writers a_images a_samples a_copies a_orders a_office a_office_clerks ca_office_clk a_draft a_office a_draft v_traced v_letter_lines v_letter_luck f_letter_tones f_letter_marks v_office_count v_office_letterTold v_office_firstTone v_office_firstMarks k_office_lean k_office_sets k_office_drops k_office_keeps) (some (.int rv)) (w_X7_likeliestOf G a a_text a_letter a_letter_tones a_letter_marks a_letter_writers a_images a_samples a_copies a_orders a_office a_office_clerks ca_office_clk a_draft a_office a_draft v_traced v_letter_lines v_letter_luck f_letter_tones f_letter_marks v_office_count v_office_letterTold v_office_firstTone v_office_firstMarks k_office_lean k_office_sets k_office_drops k_office_keeps) := by
  refine fun sz => Met.ofW (cc := cX7_likeliestOf) (maxL := 6) (ret := (some .int)) (by decide) rfl ?_
  intro p e s m args below meth c s₁ B hml hv
  obtain ⟨rfl, hsz, hP, hK, hD0, hE⟩ := hv
  have hx := B.exec
  have hb := B.bytes
  have hr := B.returns
  have hts := atoms_spec (ws := wsX7_likeliestOf) B.pre
  have hown : s.vm.findClass RX7 = some m.cls := findClass_of_methodNamed B.named
  have hlocks := B.notSynchronized
  subst hsz
  have hD := hD0.self (sz := s.heap.size)
  generalize hAe : va_A (w_X7_likeliestOf G a a_text a_letter a_letter_tones a_letter_marks a_letter_writers a_images a_samples a_copies a_orders a_office a_office_clerks ca_office_clk a_draft a_office a_draft v_traced v_letter_lines v_letter_luck f_letter_tones f_letter_marks v_office_count v_office_letterTold v_office_firstTone v_office_firstMarks k_office_lean k_office_sets k_office_drops k_office_keeps) s.heap.size = A at hD hE ⊢
  have hA : ∀ q : Nat, s.heap.size ≤ q → A q := fun q h => by rw [← hAe]; exact Or.inr h
  have hS : va_S A s.heap s.heap [] := va_S.rf
  have hl := lv_entry ([.ref a, .int x1]) (n := 6) (Nat.le_of_ble_eq_true rfl)
  rw [lg_entry_eq]
  generalize (lg_sl ([.ref a, .int x1]) ++ List.replicate (6 - (lg_sl ([.ref a, .int x1])).length) Slot.unset).toArray = ls at hl ⊢
  have hl : lv_has ls 6 [(0, .ref a), (1, .int x1)] := hl
  have hP : va_P G.1 vwCl (w_X7_likeliestOf G a a_text a_letter a_letter_tones a_letter_marks a_letter_writers a_images a_samples a_copies a_orders a_office a_office_clerks ca_office_clk a_draft a_office a_draft v_traced v_letter_lines v_letter_luck f_letter_tones f_letter_marks v_office_count v_office_letterTold v_office_firstTone v_office_firstMarks k_office_lean k_office_sets k_office_drops k_office_keeps) s.heap := hP
  rw [fX7_likeliestOf] at h
  refine lv_bipush (v := ((-9) : Int32)) hx hb dX7_likeliestOf_0 (by decide) ?_
  refine lv_istore_n (lv' := [(2, .int ((-9) : Int32)), (0, .ref a), (1, .int x1)]) hx hb dX7_likeliestOf_2 rfl hl (by decide) rfl (fun ls hl => ?_)
  refine lv_iconst (v := (0 : Int32)) hx hb dX7_likeliestOf_3 (by decide) ?_
  refine lv_istore_n (lv' := [(3, .int (0 : Int32)), (2, .int ((-9) : Int32)), (0, .ref a), (1, .int x1)]) hx hb dX7_likeliestOf_4 rfl hl (by decide) rfl (fun ls hl => ?_)
  refine lv_iconst (v := (0 : Int32)) hx hb dX7_likeliestOf_5 (by decide) ?_
  refine lv_istore (lv' := [(4, .int (0 : Int32)), (3, .int (0 : Int32)), (2, .int ((-9) : Int32)), (0, .ref a), (1, .int x1)]) hx hb dX7_likeliestOf_6 hl (by decide) rfl (fun ls hl => ?_)
  have loop_8 : ∀ (n : Nat) (K : Int32 → Option Int32) (l2_8 : Int32) (l3_8 : Int32) (l4_8 : Int32) (H : Heap) (locs : List Loc) (ls : Array Slot), fX7_likeliestOf_L8 fu x1 v_letter_lines f_letter_tones f_letter_marks v_office_count k_office_lean k_office_sets k_office_drops k_office_keeps K n l2_8 l3_8 l4_8 = some rv → (∀ (l2_8e : Int32) (H : Heap) (locs : List Loc) (ls : Array Slot), K l2_8e = some rv → va_P G.1 vwCl (w_X7_likeliestOf G a a_text a_letter a_letter_tones a_letter_marks a_letter_writers a_images a_samples a_copies a_orders a_office a_office_clerks ca_office_clk a_draft a_office a_draft v_traced v_letter_lines v_letter_luck f_letter_tones f_letter_marks v_office_count v_office_letterTold v_office_firstTone v_office_firstMarks k_office_lean k_office_sets k_office_drops k_office_keeps) H → va_D A (w_X7_likeliestOf G a a_text a_letter a_letter_tones a_letter_marks a_letter_writers a_images a_samples a_copies a_orders a_office a_office_clerks ca_office_clk a_draft a_office a_draft v_traced v_letter_lines v_letter_luck f_letter_tones f_letter_marks v_office_count v_office_letterTold v_office_firstTone v_office_firstMarks k_office_lean k_office_sets k_office_drops k_office_keeps) → va_S A s.heap H locs → lv_has ls 6 [(2, .int l2_8e)] → W p l e (headSpec wsX7_likeliestOf { frames := 5, cells := 0, slots := 0, locals := 116 }).room s m ([.ref a, .int x1] : List Value).toArray below meth c H locs 0 0 (MQ below (zQ (some (.int rv)) G (w_X7_likeliestOf G a a_text a_letter a_letter_tones a_letter_marks a_letter_writers a_images a_samples a_copies a_orders a_office a_office_clerks ca_office_clk a_draft a_office a_draft v_traced v_letter_lines v_letter_luck f_letter_tones f_letter_marks v_office_count v_office_letterTold v_office_firstTone v_office_firstMarks k_office_lean k_office_sets k_office_drops k_office_keeps) A) ([.ref a, .int x1] : List Value).toArray s 0 0 A) (F0 m 47 ls [])) → va_P G.1 vwCl (w_X7_likeliestOf G a a_text a_letter a_letter_tones a_letter_marks a_letter_writers a_images a_samples a_copies a_orders a_office a_office_clerks ca_office_clk a_draft a_office a_draft v_traced v_letter_lines v_letter_luck f_letter_tones f_letter_marks v_office_count v_office_letterTold v_office_firstTone v_office_firstMarks k_office_lean k_office_sets k_office_drops k_office_keeps) H → va_D A (w_X7_likeliestOf G a a_text a_letter a_letter_tones a_letter_marks a_letter_writers a_images a_samples a_copies a_orders a_office a_office_clerks ca_office_clk a_draft a_office a_draft v_traced v_letter_lines v_letter_luck f_letter_tones f_letter_marks v_office_count v_office_letterTold v_office_firstTone v_office_firstMarks k_office_lean k_office_sets k_office_drops k_office_keeps) → va_S A s.heap H locs → lv_has ls 6 [(0, .ref a), (1, .int x1), (2, .int l2_8), (3, .int l3_8), (4, .int l4_8)] → W p l e (headSpec wsX7_likeliestOf { frames := 5, cells := 0, slots := 0, locals := 116 }).room s m ([.ref a, .int x1] : List Value).toArray below meth c H locs 0 0 (MQ below (zQ (some (.int rv)) G (w_X7_likeliestOf G a a_text a_letter a_letter_tones a_letter_marks a_letter_writers a_images a_samples a_copies a_orders a_office a_office_clerks ca_office_clk a_draft a_office a_draft v_traced v_letter_lines v_letter_luck f_letter_tones f_letter_marks v_office_count v_office_letterTold v_office_firstTone v_office_firstMarks k_office_lean k_office_sets k_office_drops k_office_keeps) A) ([.ref a, .int x1] : List Value).toArray s 0 0 A) (F0 m 8 ls []) := by
    intro n
    induction n with
    | zero => intro K l2_8 l3_8 l4_8 H locs ls h; rw [fX7_likeliestOf_L8] at h; cases h
    | succ n ih =>
      intro K l2_8 l3_8 l4_8 H locs ls h hk hP hD hS hl
      rw [fX7_likeliestOf_L8] at h
      refine lv_iload hx hb dX7_likeliestOf_8 (lv_at hl 4 rfl) ?_
      refine lv_aload_n hx hb dX7_likeliestOf_10 rfl (lv_at hl 0 rfl) ?_
      refine va_get (D := G.1) (ci := 7) (v := .ref a_office) (C := RX7) (T := TX7) (N := 9) hx hb hts in_X7_likeliestOf_X7 hown hK.1 hP 0 rfl rfl 6 (by decide) (hts (.fieldLink RX7 51 "NineHands" "office" "LNineHands$Office;") (by decide +kernel)) (fun _ h9 => h9) rfl dX7_likeliestOf_11 ?_
      refine va_getN (D := G.1) (ci := 3) (v := .int v_office_count) (C := RX3) (T := TX3) (N := 5) hx hb hts in_X7_likeliestOf_X3 hown hK.1 hP 4 rfl rfl 1 (by decide) (va_Nw.use rfl (hK.2.1.1 ("NineHands", 264, "NineHands$Office", "count", "I", "NineHands") (by decide +kernel))) (fun _ h9 => h9) rfl dX7_likeliestOf_14 ?_
      refine lv_icmp_ge (tgt := 47) hx hb dX7_likeliestOf_17 (by decide) (fun c17 => ?_) (fun c17 => ?_)
      · have h := zt c17 h
        exact hk _ _ _ _ h hP hD hS (lv_sub hl [2] rfl)
      · have h := zf c17 h
        refine lv_aload_n hx hb dX7_likeliestOf_20 rfl (lv_at hl 0 rfl) ?_
        refine lv_iload hx hb dX7_likeliestOf_21 (lv_at hl 4 rfl) ?_
        refine lv_iload_n hx hb dX7_likeliestOf_23 rfl (lv_at hl 1 rfl) ?_
        obtain ⟨y24, hc24, h⟩ := zb1_e h
        refine zcV (As := [.int l4_8, .int x1]) (rest := []) (ws' := (w_X7_likeliestOf G a a_text a_letter a_letter_tones a_letter_marks a_letter_writers a_images a_samples a_copies a_orders a_office a_office_clerks ca_office_clk a_draft a_office a_draft v_traced v_letter_lines v_letter_luck f_letter_tones f_letter_marks v_office_count v_office_letterTold v_office_firstTone v_office_firstMarks k_office_lean k_office_sets k_office_drops k_office_keeps)) (st1 := [.int y24]) ⟨hx, hb, hml, hown, hts⟩ (c_X7_waysOf l G a a_text a_letter a_letter_tones a_letter_marks a_letter_writers a_images a_samples a_copies a_orders a_office a_office_clerks ca_office_clk a_draft v_traced v_letter_lines v_letter_luck f_letter_tones f_letter_marks v_office_count v_office_letterTold v_office_firstTone v_office_firstMarks k_office_lean k_office_sets k_office_drops k_office_keeps l4_8 x1 y24 hc24) (cwV 2 hts gX7_likeliestOf_X7_waysOf rfl rfl rfl (by decide +kernel) ⟨Nat.le_of_ble_eq_true rfl, Nat.le_of_ble_eq_true rfl⟩) hK hE hP hD hS hA [0, 1, 2, 3, 4, 5, 6, 7, 8, 9, 10, 11] rfl rfl 0 7 rfl rfl rfl rfl rfl rfl hl.1 rfl (Nat.le_of_ble_eq_true rfl) dX7_likeliestOf_24 (Nat.zero_le _) (Nat.zero_le _) rfl (fun H locs hP hD hS => ?_)
        refine lv_istore (lv' := [(5, .int y24), (0, .ref a), (1, .int x1), (2, .int l2_8), (3, .int l3_8), (4, .int l4_8)]) hx hb dX7_likeliestOf_27 hl (by decide) rfl (fun ls hl => ?_)
        refine lv_iload hx hb dX7_likeliestOf_29 (lv_at hl 0 rfl) ?_
        refine lv_iload_n hx hb dX7_likeliestOf_31 rfl (lv_at hl 4 rfl) ?_
        refine lv_icmp_le (tgt := 41) hx hb dX7_likeliestOf_32 (by decide) (fun c32 => ?_) (fun c32 => ?_)
        · have h := zt c32 h
          refine lv_iinc (v := (l4_8 + (1 : Int32))) (lv' := [(4, .int (l4_8 + (1 : Int32))), (5, .int y24), (0, .ref a), (1, .int x1), (2, .int l2_8), (3, .int l3_8)]) hx hb dX7_likeliestOf_41 hl (k := 5) rfl rfl (by decide) rfl (fun ls hl => ?_)
          refine lv_goto (tgt := 8) hx hb dX7_likeliestOf_44 (by decide) ?_
          exact ih K _ _ _ _ _ _ h hk hP hD hS (lv_sub hl [2, 3, 4, 5, 0] rfl)
        · have h := zf c32 h
          refine lv_iload hx hb dX7_likeliestOf_35 (lv_at hl 0 rfl) ?_
          refine lv_istore_n (lv' := [(3, .int y24), (5, .int y24), (0, .ref a), (1, .int x1), (2, .int l2_8), (4, .int l4_8)]) hx hb dX7_likeliestOf_37 rfl hl (by decide) rfl (fun ls hl => ?_)
          refine lv_iload hx hb dX7_likeliestOf_38 (lv_at hl 5 rfl) ?_
          refine lv_istore_n (lv' := [(2, .int l4_8), (3, .int y24), (5, .int y24), (0, .ref a), (1, .int x1), (4, .int l4_8)]) hx hb dX7_likeliestOf_40 rfl hl (by decide) rfl (fun ls hl => ?_)
          refine lv_iinc (v := (l4_8 + (1 : Int32))) (lv' := [(4, .int (l4_8 + (1 : Int32))), (2, .int l4_8), (3, .int y24), (5, .int y24), (0, .ref a), (1, .int x1)]) hx hb dX7_likeliestOf_41 hl (k := 5) rfl rfl (by decide) rfl (fun ls hl => ?_)
          refine lv_goto (tgt := 8) hx hb dX7_likeliestOf_44 (by decide) ?_
          exact ih K _ _ _ _ _ _ h hk hP hD hS (lv_sub hl [4, 5, 1, 2, 0] rfl)
  refine loop_8 fu _ _ _ _ _ _ _ h (fun l2_8e H locs ls h hP hD hS hl => ?_) hP hD hS (lv_sub hl [3, 4, 2, 1, 0] rfl)
  refine lv_iload_n hx hb dX7_likeliestOf_47 rfl (lv_at hl 0 rfl) ?_
  cases h
  exact W.iret hx hb hr (fun t9 ht9 _ => zend hP hD hS ht9) hS.2.2 dX7_likeliestOf_48
abbrev w_X7_who (G : zG) (a : Nat) (a_text : Nat) (a_letter : Nat) (a_letter_tones : Nat) (a_letter_marks : Nat) (a_letter_writers : Nat) (a_images : Nat) (a_samples : Nat) (a_copies : Nat) (a_orders : Nat) (a_office : Nat) (a_office_clerks : Nat) (ca_office_clk : Nat → Nat) (a_draft : Nat) (r_office : Nat) (r_draft : Nat) (v_traced : Int64) (v_letter_lines : Int32) (v_letter_luck : Int32) (f_letter_tones : (Nat → Int32)) (f_letter_marks : (Nat → Int32)) (v_office_count : Int32) (v_office_letterTold : Int32) (v_office_firstTone : Int32) (v_office_firstMarks : Int32) (k_office_lean : (Nat → Int32)) (k_office_sets : (Nat → Int32)) (k_office_drops : (Nat → Int32)) (k_office_keeps : (Nat → Int32)) : va_W := [(a, .inr (7, [.ref a_text, .ref a_letter, .ref a_images, .ref a_samples, .ref a_copies, .ref a_orders, .ref r_office, .ref r_draft, .long v_traced])), (a_letter, .inr (2, [.ref a_letter_tones, .ref a_letter_marks, .ref a_letter_writers, .int v_letter_lines, .int v_letter_luck])), (a_letter_tones, .inl (zCI G, 10, .inl f_letter_tones)), (a_letter_marks, .inl (zCI G, 10, .inl f_letter_marks)), (a_office, .inr (3, [.ref a_office_clerks, .int v_office_count, .int v_office_letterTold, .int v_office_firstTone, .int v_office_firstMarks])), (a_office_clerks, .inl (zCC G, 6, .inr (.inr (.inr (.inr (fun k => some (ca_office_clk k)))))))] ++ zclks ca_office_clk k_office_lean k_office_sets k_office_drops k_office_keeps
set_option maxHeartbeats 4000000 in
set_option maxRecDepth 100000 in
theorem c_X7_who (l : Launch) (G : zG) (fu : Nat) (a : Nat) (a_text : Nat) (a_letter : Nat) (a_letter_tones : Nat) (a_letter_marks : Nat) (a_letter_writers : Nat) (a_images : Nat) (a_samples : Nat) (a_copies : Nat) (a_orders : Nat) (a_office : Nat) (a_office_clerks : Nat) (ca_office_clk : Nat → Nat) (a_draft : Nat) (v_traced : Int64) (v_letter_lines : Int32) (v_letter_luck : Int32) (f_letter_tones : (Nat → Int32)) (f_letter_marks : (Nat → Int32)) (v_office_count : Int32) (v_office_letterTold : Int32) (v_office_firstTone : Int32) (v_office_firstMarks : Int32) (k_office_lean : (Nat → Int32)) (k_office_sets : (Nat → Int32)) (k_office_drops : (Nat → Int32)) (k_office_keeps : (Nat → Int32)) (x1 : Int32) (x2 : Int32) (rv : Int32) (h : fX7_who fu v_letter_lines f_letter_tones f_letter_marks v_office_count k_office_lean k_office_sets k_office_drops k_office_keeps x1 x2 = some rv) : zC l yX7_who wsX7_who 6 141 G [.ref a, .int x1, .int x2] (w_X7_who G a a_text a_letter a_letter_tones a_letter_marks a_letter_writers a_images a_samples a_copies a_orders a_office a_office_clerks ca_office_clk a_draft a_office a_draft v_traced v_letter_lines v_letter_luck f_letter_tones f_letter_marks v_office_count v_office_letterTold v_office_firstTone v_office_firstMarks k_office_lean k_office_sets k_office_drops k_office_keeps) (some (.int rv)) (w_X7_who G a a_text a_letter a_letter_tones a_letter_marks a_letter_writers a_images a_samples a_copies a_orders a_office a_office_clerks ca_office_clk a_draft a_office a_draft v_traced v_letter_lines v_letter_luck f_letter_tones f_letter_marks v_office_count v_office_letterTold v_office_firstTone v_office_firstMarks k_office_lean k_office_sets k_office_drops k_office_keeps) := by
  refine fun sz => Met.ofW (cc := cX7_who) (maxL := 3) (ret := (some .int)) (by decide) rfl ?_
  intro p e s m args below meth c s₁ B hml hv
  obtain ⟨rfl, hsz, hP, hK, hD0, hE⟩ := hv
  have hx := B.exec
  have hb := B.bytes
  have hr := B.returns
  have hts := atoms_spec (ws := wsX7_who) B.pre
  have hown : s.vm.findClass RX7 = some m.cls := findClass_of_methodNamed B.named
  have hlocks := B.notSynchronized
  subst hsz
  have hD := hD0.self (sz := s.heap.size)
  generalize hAe : va_A (w_X7_who G a a_text a_letter a_letter_tones a_letter_marks a_letter_writers a_images a_samples a_copies a_orders a_office a_office_clerks ca_office_clk a_draft a_office a_draft v_traced v_letter_lines v_letter_luck f_letter_tones f_letter_marks v_office_count v_office_letterTold v_office_firstTone v_office_firstMarks k_office_lean k_office_sets k_office_drops k_office_keeps) s.heap.size = A at hD hE ⊢
  have hA : ∀ q : Nat, s.heap.size ≤ q → A q := fun q h => by rw [← hAe]; exact Or.inr h
  have hS : va_S A s.heap s.heap [] := va_S.rf
  have hl := lv_entry ([.ref a, .int x1, .int x2]) (n := 3) (Nat.le_of_ble_eq_true rfl)
  rw [lg_entry_eq]
  generalize (lg_sl ([.ref a, .int x1, .int x2]) ++ List.replicate (3 - (lg_sl ([.ref a, .int x1, .int x2])).length) Slot.unset).toArray = ls at hl ⊢
  have hl : lv_has ls 3 [(0, .ref a), (1, .int x1), (2, .int x2)] := hl
  have hP : va_P G.1 vwCl (w_X7_who G a a_text a_letter a_letter_tones a_letter_marks a_letter_writers a_images a_samples a_copies a_orders a_office a_office_clerks ca_office_clk a_draft a_office a_draft v_traced v_letter_lines v_letter_luck f_letter_tones f_letter_marks v_office_count v_office_letterTold v_office_firstTone v_office_firstMarks k_office_lean k_office_sets k_office_drops k_office_keeps) s.heap := hP
  rw [fX7_who] at h
  refine lv_aload_n hx hb dX7_who_0 rfl (lv_at hl 0 rfl) ?_
  refine lv_iload_n hx hb dX7_who_1 rfl (lv_at hl 1 rfl) ?_
  obtain ⟨y2, hc2, h⟩ := zb1_e h
  refine zcV (As := [.int x1]) (rest := []) (ws' := (w_X7_who G a a_text a_letter a_letter_tones a_letter_marks a_letter_writers a_images a_samples a_copies a_orders a_office a_office_clerks ca_office_clk a_draft a_office a_draft v_traced v_letter_lines v_letter_luck f_letter_tones f_letter_marks v_office_count v_office_letterTold v_office_firstTone v_office_firstMarks k_office_lean k_office_sets k_office_drops k_office_keeps)) (st1 := [.int y2]) ⟨hx, hb, hml, hown, hts⟩ (c_X7_hasLineAhead l G a a_text a_letter a_letter_tones a_letter_marks a_letter_writers a_images a_samples a_copies a_orders a_office a_draft v_traced v_letter_lines v_letter_luck x1 y2 hc2) (cwV 1 hts gX7_who_X7_hasLineAhead rfl rfl rfl (by decide +kernel) ⟨Nat.le_of_ble_eq_true rfl, Nat.le_of_ble_eq_true rfl⟩) hK hE hP hD hS hA [0, 1] rfl rfl 0 7 rfl rfl rfl rfl rfl rfl hl.1 rfl (Nat.le_of_ble_eq_true rfl) dX7_who_2 (Nat.zero_le _) (Nat.zero_le _) rfl (fun H locs hP hD hS => ?_)
  refine lv_if_ne (tgt := 10) hx hb dX7_who_5 (by decide) (fun c5 => ?_) (fun c5 => ?_)
  · have h := zf c5 h
    refine lv_iload_n hx hb dX7_who_10 rfl (lv_at hl 2 rfl) ?_
    by_cases c11_0 : x2 = (0 : Int32)
    · have h := zt c11_0 h
      refine lv_lookup (off := 25) (tgt := 36) hx hb dX7_who_11 (by decide) (by rw [c11_0]; rfl) (by decide) ?_
      refine lv_aload_n hx hb dX7_who_36 rfl (lv_at hl 0 rfl) ?_
      refine lv_iload_n hx hb dX7_who_37 rfl (lv_at hl 1 rfl) ?_
      obtain ⟨y38, hc38, h⟩ := zb1_e h
      refine zcV (As := [.int x1]) (rest := []) (ws' := (w_X7_who G a a_text a_letter a_letter_tones a_letter_marks a_letter_writers a_images a_samples a_copies a_orders a_office a_office_clerks ca_office_clk a_draft a_office a_draft v_traced v_letter_lines v_letter_luck f_letter_tones f_letter_marks v_office_count v_office_letterTold v_office_firstTone v_office_firstMarks k_office_lean k_office_sets k_office_drops k_office_keeps)) (st1 := [.int y38]) ⟨hx, hb, hml, hown, hts⟩ (c_X7_writersOf l G fu a a_text a_letter a_letter_tones a_letter_marks a_letter_writers a_images a_samples a_copies a_orders a_office a_office_clerks ca_office_clk a_draft v_traced v_letter_lines v_letter_luck f_letter_tones f_letter_marks v_office_count v_office_letterTold v_office_firstTone v_office_firstMarks k_office_lean k_office_sets k_office_drops k_office_keeps x1 y38 hc38) (cwV 1 hts gX7_who_X7_writersOf rfl rfl rfl (by decide +kernel) ⟨Nat.le_of_ble_eq_true rfl, Nat.le_of_ble_eq_true rfl⟩) hK hE hP hD hS hA [0, 1, 2, 3, 4, 5, 6, 7, 8, 9, 10, 11] rfl rfl 0 7 rfl rfl rfl rfl rfl rfl hl.1 rfl (Nat.le_of_ble_eq_true rfl) dX7_who_38 (Nat.zero_le _) (Nat.zero_le _) rfl (fun H locs hP hD hS => ?_)
      cases h
      exact W.iret hx hb hr (fun t9 ht9 _ => zend hP hD hS ht9) hS.2.2 dX7_who_41
    have h := zf c11_0 h
    by_cases c11_1 : x2 = (1 : Int32)
    · have h := zt c11_1 h
      refine lv_lookup (off := 31) (tgt := 42) hx hb dX7_who_11 (by decide) (by rw [c11_1]; rfl) (by decide) ?_
      refine lv_aload_n hx hb dX7_who_42 rfl (lv_at hl 0 rfl) ?_
      refine lv_iload_n hx hb dX7_who_43 rfl (lv_at hl 1 rfl) ?_
      obtain ⟨y44, hc44, h⟩ := zb1_e h
      refine zcV (As := [.int x1]) (rest := []) (ws' := (w_X7_who G a a_text a_letter a_letter_tones a_letter_marks a_letter_writers a_images a_samples a_copies a_orders a_office a_office_clerks ca_office_clk a_draft a_office a_draft v_traced v_letter_lines v_letter_luck f_letter_tones f_letter_marks v_office_count v_office_letterTold v_office_firstTone v_office_firstMarks k_office_lean k_office_sets k_office_drops k_office_keeps)) (st1 := [.int y44]) ⟨hx, hb, hml, hown, hts⟩ (c_X7_likeliestOf l G fu a a_text a_letter a_letter_tones a_letter_marks a_letter_writers a_images a_samples a_copies a_orders a_office a_office_clerks ca_office_clk a_draft v_traced v_letter_lines v_letter_luck f_letter_tones f_letter_marks v_office_count v_office_letterTold v_office_firstTone v_office_firstMarks k_office_lean k_office_sets k_office_drops k_office_keeps x1 y44 hc44) (cwV 1 hts gX7_who_X7_likeliestOf rfl rfl rfl (by decide +kernel) ⟨Nat.le_of_ble_eq_true rfl, Nat.le_of_ble_eq_true rfl⟩) hK hE hP hD hS hA [0, 1, 2, 3, 4, 5, 6, 7, 8, 9, 10, 11] rfl rfl 0 7 rfl rfl rfl rfl rfl rfl hl.1 rfl (Nat.le_of_ble_eq_true rfl) dX7_who_44 (Nat.zero_le _) (Nat.zero_le _) rfl (fun H locs hP hD hS => ?_)
      cases h
      exact W.iret hx hb hr (fun t9 ht9 _ => zend hP hD hS ht9) hS.2.2 dX7_who_47
    have h := zf c11_1 h
    refine lv_lookup (off := 37) (tgt := 48) hx hb dX7_who_11 (by decide) ((lv_osw c11_0 (by decide)).trans ((lv_osw c11_1 (by decide)).trans (rfl))) (by decide) ?_
    refine lv_iconst (v := ((-1) : Int32)) hx hb dX7_who_48 (by decide) ?_
    cases h
    exact W.iret hx hb hr (fun t9 ht9 _ => zend hP hD hS ht9) hS.2.2 dX7_who_49
  · have h := zt c5 h
    refine lv_iconst (v := ((-1) : Int32)) hx hb dX7_who_8 (by decide) ?_
    cases h
    exact W.iret hx hb hr (fun t9 ht9 _ => zend hP hD hS ht9) hS.2.2 dX7_who_9
abbrev w_X7_rows (G : zG) (a : Nat) (a_text : Nat) (a_letter : Nat) (a_letter_tones : Nat) (a_letter_marks : Nat) (a_letter_writers : Nat) (a_images : Nat) (a_samples : Nat) (a_copies : Nat) (a_orders : Nat) (a_office : Nat) (a_office_clerks : Nat) (ca_office_clk : Nat → Nat) (a_draft : Nat) (r_office : Nat) (r_draft : Nat) (v_traced : Int64) (v_letter_lines : Int32) (v_letter_luck : Int32) (f_letter_tones : (Nat → Int32)) (f_letter_marks : (Nat → Int32)) (v_office_count : Int32) (v_office_letterTold : Int32) (v_office_firstTone : Int32) (v_office_firstMarks : Int32) (k_office_lean : (Nat → Int32)) (k_office_sets : (Nat → Int32)) (k_office_drops : (Nat → Int32)) (k_office_keeps : (Nat → Int32)) : va_W := [(a, .inr (7, [.ref a_text, .ref a_letter, .ref a_images, .ref a_samples, .ref a_copies, .ref a_orders, .ref r_office, .ref r_draft, .long v_traced])), (a_letter, .inr (2, [.ref a_letter_tones, .ref a_letter_marks, .ref a_letter_writers, .int v_letter_lines, .int v_letter_luck])), (a_letter_tones, .inl (zCI G, 10, .inl f_letter_tones)), (a_letter_marks, .inl (zCI G, 10, .inl f_letter_marks)), (a_office, .inr (3, [.ref a_office_clerks, .int v_office_count, .int v_office_letterTold, .int v_office_firstTone, .int v_office_firstMarks])), (a_office_clerks, .inl (zCC G, 6, .inr (.inr (.inr (.inr (fun k => some (ca_office_clk k)))))))] ++ zclks ca_office_clk k_office_lean k_office_sets k_office_drops k_office_keeps
theorem in_X7_rows_X2 : ∀ w ∈ wsX20, w ∈ wsX7_rows := by decide +kernel
theorem in_X7_rows_X7 : ∀ w ∈ wsX70, w ∈ wsX7_rows := by decide +kernel
set_option maxHeartbeats 4000000 in
set_option maxRecDepth 100000 in
theorem c_X7_rows (l : Launch) (G : zG) (fu : Nat) (a : Nat) (a_text : Nat) (a_letter : Nat) (a_letter_tones : Nat) (a_letter_marks : Nat) (a_letter_writers : Nat) (a_images : Nat) (a_samples : Nat) (a_copies : Nat) (a_orders : Nat) (a_office : Nat) (a_office_clerks : Nat) (ca_office_clk : Nat → Nat) (a_draft : Nat) (v_traced : Int64) (v_letter_lines : Int32) (v_letter_luck : Int32) (f_letter_tones : (Nat → Int32)) (f_letter_marks : (Nat → Int32)) (v_office_count : Int32) (v_office_letterTold : Int32) (v_office_firstTone : Int32) (v_office_firstMarks : Int32) (k_office_lean : (Nat → Int32)) (k_office_sets : (Nat → Int32)) (k_office_drops : (Nat → Int32)) (k_office_keeps : (Nat → Int32)) (rv : Int32) (h : fX7_rows fu v_letter_lines f_letter_tones f_letter_marks v_office_count k_office_lean k_office_sets k_office_drops k_office_keeps = some rv) : zC l yX7_rows wsX7_rows 6 139 G [.ref a] (w_X7_rows G a a_text a_letter a_letter_tones a_letter_marks a_letter_writers a_images a_samples a_copies a_orders a_office a_office_clerks ca_office_clk a_draft a_office a_draft v_traced v_letter_lines v_letter_luck f_letter_tones f_letter_marks v_office_count v_office_letterTold v_office_firstTone v_office_firstMarks k_office_lean k_office_sets k_office_drops k_office_keeps) (some (.int rv)) (w_X7_rows G a a_text a_letter a_letter_tones a_letter_marks a_letter_writers a_images a_samples a_copies a_orders a_office a_office_clerks ca_office_clk a_draft a_office a_draft v_traced v_letter_lines v_letter_luck f_letter_tones f_letter_marks v_office_count v_office_letterTold v_office_firstTone v_office_firstMarks k_office_lean k_office_sets k_office_drops k_office_keeps) := by
  refine fun sz => Met.ofW (cc := cX7_rows) (maxL := 3) (ret := (some .int)) (by decide) rfl ?_
  intro p e s m args below meth c s₁ B hml hv
  obtain ⟨rfl, hsz, hP, hK, hD0, hE⟩ := hv
  have hx := B.exec
  have hb := B.bytes
  have hr := B.returns
  have hts := atoms_spec (ws := wsX7_rows) B.pre
  have hown : s.vm.findClass RX7 = some m.cls := findClass_of_methodNamed B.named
  have hlocks := B.notSynchronized
  subst hsz
  have hD := hD0.self (sz := s.heap.size)
  generalize hAe : va_A (w_X7_rows G a a_text a_letter a_letter_tones a_letter_marks a_letter_writers a_images a_samples a_copies a_orders a_office a_office_clerks ca_office_clk a_draft a_office a_draft v_traced v_letter_lines v_letter_luck f_letter_tones f_letter_marks v_office_count v_office_letterTold v_office_firstTone v_office_firstMarks k_office_lean k_office_sets k_office_drops k_office_keeps) s.heap.size = A at hD hE ⊢
  have hA : ∀ q : Nat, s.heap.size ≤ q → A q := fun q h => by rw [← hAe]; exact Or.inr h
  have hS : va_S A s.heap s.heap [] := va_S.rf
  have hl := lv_entry ([.ref a]) (n := 3) (Nat.le_of_ble_eq_true rfl)
  rw [lg_entry_eq]
  generalize (lg_sl ([.ref a]) ++ List.replicate (3 - (lg_sl ([.ref a])).length) Slot.unset).toArray = ls at hl ⊢
  have hl : lv_has ls 3 [(0, .ref a)] := hl
  have hP : va_P G.1 vwCl (w_X7_rows G a a_text a_letter a_letter_tones a_letter_marks a_letter_writers a_images a_samples a_copies a_orders a_office a_office_clerks ca_office_clk a_draft a_office a_draft v_traced v_letter_lines v_letter_luck f_letter_tones f_letter_marks v_office_count v_office_letterTold v_office_firstTone v_office_firstMarks k_office_lean k_office_sets k_office_drops k_office_keeps) s.heap := hP
  rw [fX7_rows] at h
  refine lv_iconst (v := (1 : Int32)) hx hb dX7_rows_0 (by decide) ?_
  refine lv_istore_n (lv' := [(1, .int (1 : Int32)), (0, .ref a)]) hx hb dX7_rows_1 rfl hl (by decide) rfl (fun ls hl => ?_)
  refine lv_iconst (v := (1 : Int32)) hx hb dX7_rows_2 (by decide) ?_
  refine lv_istore_n (lv' := [(2, .int (1 : Int32)), (1, .int (1 : Int32)), (0, .ref a)]) hx hb dX7_rows_3 rfl hl (by decide) rfl (fun ls hl => ?_)
  have loop_4 : ∀ (n : Nat) (K : Int32 → Option Int32) (l1_4 : Int32) (l2_4 : Int32) (H : Heap) (locs : List Loc) (ls : Array Slot), fX7_rows_L4 fu v_letter_lines f_letter_tones f_letter_marks v_office_count k_office_lean k_office_sets k_office_drops k_office_keeps K n l1_4 l2_4 = some rv → (∀ (l1_4e : Int32) (H : Heap) (locs : List Loc) (ls : Array Slot), K l1_4e = some rv → va_P G.1 vwCl (w_X7_rows G a a_text a_letter a_letter_tones a_letter_marks a_letter_writers a_images a_samples a_copies a_orders a_office a_office_clerks ca_office_clk a_draft a_office a_draft v_traced v_letter_lines v_letter_luck f_letter_tones f_letter_marks v_office_count v_office_letterTold v_office_firstTone v_office_firstMarks k_office_lean k_office_sets k_office_drops k_office_keeps) H → va_D A (w_X7_rows G a a_text a_letter a_letter_tones a_letter_marks a_letter_writers a_images a_samples a_copies a_orders a_office a_office_clerks ca_office_clk a_draft a_office a_draft v_traced v_letter_lines v_letter_luck f_letter_tones f_letter_marks v_office_count v_office_letterTold v_office_firstTone v_office_firstMarks k_office_lean k_office_sets k_office_drops k_office_keeps) → va_S A s.heap H locs → lv_has ls 3 [(1, .int l1_4e)] → W p l e (headSpec wsX7_rows { frames := 6, cells := 0, slots := 0, locals := 139 }).room s m ([.ref a] : List Value).toArray below meth c H locs 0 0 (MQ below (zQ (some (.int rv)) G (w_X7_rows G a a_text a_letter a_letter_tones a_letter_marks a_letter_writers a_images a_samples a_copies a_orders a_office a_office_clerks ca_office_clk a_draft a_office a_draft v_traced v_letter_lines v_letter_luck f_letter_tones f_letter_marks v_office_count v_office_letterTold v_office_firstTone v_office_firstMarks k_office_lean k_office_sets k_office_drops k_office_keeps) A) ([.ref a] : List Value).toArray s 0 0 A) (F0 m 32 ls [])) → va_P G.1 vwCl (w_X7_rows G a a_text a_letter a_letter_tones a_letter_marks a_letter_writers a_images a_samples a_copies a_orders a_office a_office_clerks ca_office_clk a_draft a_office a_draft v_traced v_letter_lines v_letter_luck f_letter_tones f_letter_marks v_office_count v_office_letterTold v_office_firstTone v_office_firstMarks k_office_lean k_office_sets k_office_drops k_office_keeps) H → va_D A (w_X7_rows G a a_text a_letter a_letter_tones a_letter_marks a_letter_writers a_images a_samples a_copies a_orders a_office a_office_clerks ca_office_clk a_draft a_office a_draft v_traced v_letter_lines v_letter_luck f_letter_tones f_letter_marks v_office_count v_office_letterTold v_office_firstTone v_office_firstMarks k_office_lean k_office_sets k_office_drops k_office_keeps) → va_S A s.heap H locs → lv_has ls 3 [(0, .ref a), (1, .int l1_4), (2, .int l2_4)] → W p l e (headSpec wsX7_rows { frames := 6, cells := 0, slots := 0, locals := 139 }).room s m ([.ref a] : List Value).toArray below meth c H locs 0 0 (MQ below (zQ (some (.int rv)) G (w_X7_rows G a a_text a_letter a_letter_tones a_letter_marks a_letter_writers a_images a_samples a_copies a_orders a_office a_office_clerks ca_office_clk a_draft a_office a_draft v_traced v_letter_lines v_letter_luck f_letter_tones f_letter_marks v_office_count v_office_letterTold v_office_firstTone v_office_firstMarks k_office_lean k_office_sets k_office_drops k_office_keeps) A) ([.ref a] : List Value).toArray s 0 0 A) (F0 m 4 ls []) := by
    intro n
    induction n with
    | zero => intro K l1_4 l2_4 H locs ls h; rw [fX7_rows_L4] at h; cases h
    | succ n ih =>
      intro K l1_4 l2_4 H locs ls h hk hP hD hS hl
      rw [fX7_rows_L4] at h
      refine lv_iload_n hx hb dX7_rows_4 rfl (lv_at hl 2 rfl) ?_
      refine lv_aload_n hx hb dX7_rows_5 rfl (lv_at hl 0 rfl) ?_
      refine va_get (D := G.1) (ci := 7) (v := .ref a_letter) (C := RX7) (T := TX7) (N := 9) hx hb hts in_X7_rows_X7 hown hK.1 hP 0 rfl rfl 1 (by decide) (hts (.fieldLink RX7 19 "NineHands" "letter" "LNineHands$Letter;") (by decide +kernel)) (fun _ h9 => h9) rfl dX7_rows_6 ?_
      refine va_getN (D := G.1) (ci := 2) (v := .int v_letter_lines) (C := RX2) (T := TX2) (N := 5) hx hb hts in_X7_rows_X2 hown hK.1 hP 1 rfl rfl 3 (by decide) (va_Nw.use rfl (hK.2.1.1 ("NineHands", 105, "NineHands$Letter", "lines", "I", "NineHands") (by decide +kernel))) (fun _ h9 => h9) rfl dX7_rows_9 ?_
      refine lv_icmp_ge (tgt := 32) hx hb dX7_rows_12 (by decide) (fun c12 => ?_) (fun c12 => ?_)
      · have h := zt c12 h
        exact hk _ _ _ _ h hP hD hS (lv_sub hl [1] rfl)
      · have h := zf c12 h
        refine lv_iload_n hx hb dX7_rows_15 rfl (lv_at hl 1 rfl) ?_
        refine lv_aload_n hx hb dX7_rows_16 rfl (lv_at hl 0 rfl) ?_
        refine lv_iload_n hx hb dX7_rows_17 rfl (lv_at hl 2 rfl) ?_
        obtain ⟨y18, hc18, h⟩ := zb1_e h
        refine zcV (As := [.int l2_4]) (rest := [.int l1_4]) (ws' := (w_X7_rows G a a_text a_letter a_letter_tones a_letter_marks a_letter_writers a_images a_samples a_copies a_orders a_office a_office_clerks ca_office_clk a_draft a_office a_draft v_traced v_letter_lines v_letter_luck f_letter_tones f_letter_marks v_office_count v_office_letterTold v_office_firstTone v_office_firstMarks k_office_lean k_office_sets k_office_drops k_office_keeps)) (st1 := [.int y18, .int l1_4]) ⟨hx, hb, hml, hown, hts⟩ (c_X7_writersOf l G fu a a_text a_letter a_letter_tones a_letter_marks a_letter_writers a_images a_samples a_copies a_orders a_office a_office_clerks ca_office_clk a_draft v_traced v_letter_lines v_letter_luck f_letter_tones f_letter_marks v_office_count v_office_letterTold v_office_firstTone v_office_firstMarks k_office_lean k_office_sets k_office_drops k_office_keeps l2_4 y18 hc18) (cwV 1 hts gX7_rows_X7_writersOf rfl rfl rfl (by decide +kernel) ⟨Nat.le_of_ble_eq_true rfl, Nat.le_of_ble_eq_true rfl⟩) hK hE hP hD hS hA [0, 1, 2, 3, 4, 5, 6, 7, 8, 9, 10, 11] rfl rfl 0 7 rfl rfl rfl rfl rfl rfl hl.1 rfl (Nat.le_of_ble_eq_true rfl) dX7_rows_18 (Nat.zero_le _) (Nat.zero_le _) rfl (fun H locs hP hD hS => ?_)
        obtain ⟨y21, hc21, h⟩ := zb1_e h
        refine zcS (As := [.int y18]) (rest := [.int l1_4]) (ws' := (w_X7_rows G a a_text a_letter a_letter_tones a_letter_marks a_letter_writers a_images a_samples a_copies a_orders a_office a_office_clerks ca_office_clk a_draft a_office a_draft v_traced v_letter_lines v_letter_luck f_letter_tones f_letter_marks v_office_count v_office_letterTold v_office_firstTone v_office_firstMarks k_office_lean k_office_sets k_office_drops k_office_keeps)) (st1 := [.int y21, .int l1_4]) ⟨hx, hb, hml, hown, hts⟩ (c_J6_bitCount_0f7a4 l G y18 y21 hc21) (va_cwS 1 hts gX7_rows_J6_bitCount_0f7a4 rfl rfl rfl (by decide +kernel) ⟨Nat.le_of_ble_eq_true rfl, Nat.le_of_ble_eq_true rfl⟩) hK hE hP hD hS hA [] rfl rfl rfl rfl rfl hl.1 rfl (Nat.le_of_ble_eq_true rfl) dX7_rows_21 (Nat.zero_le _) (Nat.zero_le _) rfl (fun H locs hP hD hS => ?_)
        refine lv_imul hx hb dX7_rows_24 ?_
        refine lv_istore_n (lv' := [(1, .int (l1_4 * y21)), (0, .ref a), (2, .int l2_4)]) hx hb dX7_rows_25 rfl hl (by decide) rfl (fun ls hl => ?_)
        refine lv_iinc (v := (l2_4 + (1 : Int32))) (lv' := [(2, .int (l2_4 + (1 : Int32))), (1, .int (l1_4 * y21)), (0, .ref a)]) hx hb dX7_rows_26 hl (k := 2) rfl rfl (by decide) rfl (fun ls hl => ?_)
        refine lv_goto (tgt := 4) hx hb dX7_rows_29 (by decide) ?_
        exact ih K _ _ _ _ _ h hk hP hD hS (lv_sub hl [2, 1, 0] rfl)
  refine loop_4 fu _ _ _ _ _ _ h (fun l1_4e H locs ls h hP hD hS hl => ?_) hP hD hS (lv_sub hl [2, 1, 0] rfl)
  refine lv_iload_n hx hb dX7_rows_32 rfl (lv_at hl 0 rfl) ?_
  cases h
  exact W.iret hx hb hr (fun t9 ht9 _ => zend hP hD hS ht9) hS.2.2 dX7_rows_33
abbrev w_X7_waysOfAll (G : zG) (a : Nat) (a_text : Nat) (a_letter : Nat) (a_letter_tones : Nat) (a_letter_marks : Nat) (a_letter_writers : Nat) (a_images : Nat) (a_samples : Nat) (a_copies : Nat) (a_orders : Nat) (a_office : Nat) (a_office_clerks : Nat) (ca_office_clk : Nat → Nat) (a_draft : Nat) (r_office : Nat) (r_draft : Nat) (v_traced : Int64) (v_letter_lines : Int32) (v_letter_luck : Int32) (f_letter_tones : (Nat → Int32)) (f_letter_marks : (Nat → Int32)) (v_office_count : Int32) (v_office_letterTold : Int32) (v_office_firstTone : Int32) (v_office_firstMarks : Int32) (k_office_lean : (Nat → Int32)) (k_office_sets : (Nat → Int32)) (k_office_drops : (Nat → Int32)) (k_office_keeps : (Nat → Int32)) : va_W := [(a, .inr (7, [.ref a_text, .ref a_letter, .ref a_images, .ref a_samples, .ref a_copies, .ref a_orders, .ref r_office, .ref r_draft, .long v_traced])), (a_letter, .inr (2, [.ref a_letter_tones, .ref a_letter_marks, .ref a_letter_writers, .int v_letter_lines, .int v_letter_luck])), (a_letter_tones, .inl (zCI G, 10, .inl f_letter_tones)), (a_letter_marks, .inl (zCI G, 10, .inl f_letter_marks)), (a_office, .inr (3, [.ref a_office_clerks, .int v_office_count, .int v_office_letterTold, .int v_office_firstTone, .int v_office_firstMarks])), (a_office_clerks, .inl (zCC G, 6, .inr (.inr (.inr (.inr (fun k => some (ca_office_clk k)))))))] ++ zclks ca_office_clk k_office_lean k_office_sets k_office_drops k_office_keeps
theorem in_X7_waysOfAll_X3 : ∀ w ∈ wsX30, w ∈ wsX7_waysOfAll := by decide +kernel
theorem in_X7_waysOfAll_X7 : ∀ w ∈ wsX70, w ∈ wsX7_waysOfAll := by decide +kernel
set_option maxHeartbeats 4000000 in
set_option maxRecDepth 100000 in
theorem c_X7_waysOfAll (l : Launch) (G : zG) (fu : Nat) (a : Nat) (a_text : Nat) (a_letter : Nat) (a_letter_tones : Nat) (a_letter_marks : Nat) (a_letter_writers : Nat) (a_images : Nat) (a_samples : Nat) (a_copies : Nat) (a_orders : Nat) (a_office : Nat) (a_office_clerks : Nat) (ca_office_clk : Nat → Nat) (a_draft : Nat) (v_traced : Int64) (v_letter_lines : Int32) (v_letter_luck : Int32) (f_letter_tones : (Nat → Int32)) (f_letter_marks : (Nat → Int32)) (v_office_count : Int32) (v_office_letterTold : Int32) (v_office_firstTone : Int32) (v_office_firstMarks : Int32) (k_office_lean : (Nat → Int32)) (k_office_sets : (Nat → Int32)) (k_office_drops : (Nat → Int32)) (k_office_keeps : (Nat → Int32)) (x1 : Int32) (rv : Int32) (h : fX7_waysOfAll fu v_letter_lines f_letter_tones f_letter_marks v_office_count k_office_lean k_office_sets k_office_drops k_office_keeps x1 = some rv) : zC l yX7_waysOfAll wsX7_waysOfAll 5 116 G [.ref a, .int x1] (w_X7_waysOfAll G a a_text a_letter a_letter_tones a_letter_marks a_letter_writers a_images a_samples a_copies a_orders a_office a_office_clerks ca_office_clk a_draft a_office a_draft v_traced v_letter_lines v_letter_luck f_letter_tones f_letter_marks v_office_count v_office_letterTold v_office_firstTone v_office_firstMarks k_office_lean k_office_sets k_office_drops k_office_keeps) (some (.int rv)) (w_X7_waysOfAll G a a_text a_letter a_letter_tones a_letter_marks a_letter_writers a_images a_samples a_copies a_orders a_office a_office_clerks ca_office_clk a_draft a_office a_draft v_traced v_letter_lines v_letter_luck f_letter_tones f_letter_marks v_office_count v_office_letterTold v_office_firstTone v_office_firstMarks k_office_lean k_office_sets k_office_drops k_office_keeps) := by
  refine fun sz => Met.ofW (cc := cX7_waysOfAll) (maxL := 4) (ret := (some .int)) (by decide) rfl ?_
  intro p e s m args below meth c s₁ B hml hv
  obtain ⟨rfl, hsz, hP, hK, hD0, hE⟩ := hv
  have hx := B.exec
  have hb := B.bytes
  have hr := B.returns
  have hts := atoms_spec (ws := wsX7_waysOfAll) B.pre
  have hown : s.vm.findClass RX7 = some m.cls := findClass_of_methodNamed B.named
  have hlocks := B.notSynchronized
  subst hsz
  have hD := hD0.self (sz := s.heap.size)
  generalize hAe : va_A (w_X7_waysOfAll G a a_text a_letter a_letter_tones a_letter_marks a_letter_writers a_images a_samples a_copies a_orders a_office a_office_clerks ca_office_clk a_draft a_office a_draft v_traced v_letter_lines v_letter_luck f_letter_tones f_letter_marks v_office_count v_office_letterTold v_office_firstTone v_office_firstMarks k_office_lean k_office_sets k_office_drops k_office_keeps) s.heap.size = A at hD hE ⊢
  have hA : ∀ q : Nat, s.heap.size ≤ q → A q := fun q h => by rw [← hAe]; exact Or.inr h
  have hS : va_S A s.heap s.heap [] := va_S.rf
  have hl := lv_entry ([.ref a, .int x1]) (n := 4) (Nat.le_of_ble_eq_true rfl)
  rw [lg_entry_eq]
  generalize (lg_sl ([.ref a, .int x1]) ++ List.replicate (4 - (lg_sl ([.ref a, .int x1])).length) Slot.unset).toArray = ls at hl ⊢
  have hl : lv_has ls 4 [(0, .ref a), (1, .int x1)] := hl
  have hP : va_P G.1 vwCl (w_X7_waysOfAll G a a_text a_letter a_letter_tones a_letter_marks a_letter_writers a_images a_samples a_copies a_orders a_office a_office_clerks ca_office_clk a_draft a_office a_draft v_traced v_letter_lines v_letter_luck f_letter_tones f_letter_marks v_office_count v_office_letterTold v_office_firstTone v_office_firstMarks k_office_lean k_office_sets k_office_drops k_office_keeps) s.heap := hP
  rw [fX7_waysOfAll] at h
  refine lv_iconst (v := (0 : Int32)) hx hb dX7_waysOfAll_0 (by decide) ?_
  refine lv_istore_n (lv' := [(2, .int (0 : Int32)), (0, .ref a), (1, .int x1)]) hx hb dX7_waysOfAll_1 rfl hl (by decide) rfl (fun ls hl => ?_)
  refine lv_iconst (v := (0 : Int32)) hx hb dX7_waysOfAll_2 (by decide) ?_
  refine lv_istore_n (lv' := [(3, .int (0 : Int32)), (2, .int (0 : Int32)), (0, .ref a), (1, .int x1)]) hx hb dX7_waysOfAll_3 rfl hl (by decide) rfl (fun ls hl => ?_)
  have loop_4 : ∀ (n : Nat) (K : Int32 → Option Int32) (l2_4 : Int32) (l3_4 : Int32) (H : Heap) (locs : List Loc) (ls : Array Slot), fX7_waysOfAll_L4 fu x1 v_letter_lines f_letter_tones f_letter_marks v_office_count k_office_lean k_office_sets k_office_drops k_office_keeps K n l2_4 l3_4 = some rv → (∀ (l2_4e : Int32) (H : Heap) (locs : List Loc) (ls : Array Slot), K l2_4e = some rv → va_P G.1 vwCl (w_X7_waysOfAll G a a_text a_letter a_letter_tones a_letter_marks a_letter_writers a_images a_samples a_copies a_orders a_office a_office_clerks ca_office_clk a_draft a_office a_draft v_traced v_letter_lines v_letter_luck f_letter_tones f_letter_marks v_office_count v_office_letterTold v_office_firstTone v_office_firstMarks k_office_lean k_office_sets k_office_drops k_office_keeps) H → va_D A (w_X7_waysOfAll G a a_text a_letter a_letter_tones a_letter_marks a_letter_writers a_images a_samples a_copies a_orders a_office a_office_clerks ca_office_clk a_draft a_office a_draft v_traced v_letter_lines v_letter_luck f_letter_tones f_letter_marks v_office_count v_office_letterTold v_office_firstTone v_office_firstMarks k_office_lean k_office_sets k_office_drops k_office_keeps) → va_S A s.heap H locs → lv_has ls 4 [(2, .int l2_4e)] → W p l e (headSpec wsX7_waysOfAll { frames := 5, cells := 0, slots := 0, locals := 116 }).room s m ([.ref a, .int x1] : List Value).toArray below meth c H locs 0 0 (MQ below (zQ (some (.int rv)) G (w_X7_waysOfAll G a a_text a_letter a_letter_tones a_letter_marks a_letter_writers a_images a_samples a_copies a_orders a_office a_office_clerks ca_office_clk a_draft a_office a_draft v_traced v_letter_lines v_letter_luck f_letter_tones f_letter_marks v_office_count v_office_letterTold v_office_firstTone v_office_firstMarks k_office_lean k_office_sets k_office_drops k_office_keeps) A) ([.ref a, .int x1] : List Value).toArray s 0 0 A) (F0 m 30 ls [])) → va_P G.1 vwCl (w_X7_waysOfAll G a a_text a_letter a_letter_tones a_letter_marks a_letter_writers a_images a_samples a_copies a_orders a_office a_office_clerks ca_office_clk a_draft a_office a_draft v_traced v_letter_lines v_letter_luck f_letter_tones f_letter_marks v_office_count v_office_letterTold v_office_firstTone v_office_firstMarks k_office_lean k_office_sets k_office_drops k_office_keeps) H → va_D A (w_X7_waysOfAll G a a_text a_letter a_letter_tones a_letter_marks a_letter_writers a_images a_samples a_copies a_orders a_office a_office_clerks ca_office_clk a_draft a_office a_draft v_traced v_letter_lines v_letter_luck f_letter_tones f_letter_marks v_office_count v_office_letterTold v_office_firstTone v_office_firstMarks k_office_lean k_office_sets k_office_drops k_office_keeps) → va_S A s.heap H locs → lv_has ls 4 [(0, .ref a), (1, .int x1), (2, .int l2_4), (3, .int l3_4)] → W p l e (headSpec wsX7_waysOfAll { frames := 5, cells := 0, slots := 0, locals := 116 }).room s m ([.ref a, .int x1] : List Value).toArray below meth c H locs 0 0 (MQ below (zQ (some (.int rv)) G (w_X7_waysOfAll G a a_text a_letter a_letter_tones a_letter_marks a_letter_writers a_images a_samples a_copies a_orders a_office a_office_clerks ca_office_clk a_draft a_office a_draft v_traced v_letter_lines v_letter_luck f_letter_tones f_letter_marks v_office_count v_office_letterTold v_office_firstTone v_office_firstMarks k_office_lean k_office_sets k_office_drops k_office_keeps) A) ([.ref a, .int x1] : List Value).toArray s 0 0 A) (F0 m 4 ls []) := by
    intro n
    induction n with
    | zero => intro K l2_4 l3_4 H locs ls h; rw [fX7_waysOfAll_L4] at h; cases h
    | succ n ih =>
      intro K l2_4 l3_4 H locs ls h hk hP hD hS hl
      rw [fX7_waysOfAll_L4] at h
      refine lv_iload_n hx hb dX7_waysOfAll_4 rfl (lv_at hl 3 rfl) ?_
      refine lv_aload_n hx hb dX7_waysOfAll_5 rfl (lv_at hl 0 rfl) ?_
      refine va_get (D := G.1) (ci := 7) (v := .ref a_office) (C := RX7) (T := TX7) (N := 9) hx hb hts in_X7_waysOfAll_X7 hown hK.1 hP 0 rfl rfl 6 (by decide) (hts (.fieldLink RX7 51 "NineHands" "office" "LNineHands$Office;") (by decide +kernel)) (fun _ h9 => h9) rfl dX7_waysOfAll_6 ?_
      refine va_getN (D := G.1) (ci := 3) (v := .int v_office_count) (C := RX3) (T := TX3) (N := 5) hx hb hts in_X7_waysOfAll_X3 hown hK.1 hP 4 rfl rfl 1 (by decide) (va_Nw.use rfl (hK.2.1.1 ("NineHands", 264, "NineHands$Office", "count", "I", "NineHands") (by decide +kernel))) (fun _ h9 => h9) rfl dX7_waysOfAll_9 ?_
      refine lv_icmp_ge (tgt := 30) hx hb dX7_waysOfAll_12 (by decide) (fun c12 => ?_) (fun c12 => ?_)
      · have h := zt c12 h
        exact hk _ _ _ _ h hP hD hS (lv_sub hl [2] rfl)
      · have h := zf c12 h
        refine lv_iload_n hx hb dX7_waysOfAll_15 rfl (lv_at hl 2 rfl) ?_
        refine lv_aload_n hx hb dX7_waysOfAll_16 rfl (lv_at hl 0 rfl) ?_
        refine lv_iload_n hx hb dX7_waysOfAll_17 rfl (lv_at hl 3 rfl) ?_
        refine lv_iload_n hx hb dX7_waysOfAll_18 rfl (lv_at hl 1 rfl) ?_
        obtain ⟨y19, hc19, h⟩ := zb1_e h
        refine zcV (As := [.int l3_4, .int x1]) (rest := [.int l2_4]) (ws' := (w_X7_waysOfAll G a a_text a_letter a_letter_tones a_letter_marks a_letter_writers a_images a_samples a_copies a_orders a_office a_office_clerks ca_office_clk a_draft a_office a_draft v_traced v_letter_lines v_letter_luck f_letter_tones f_letter_marks v_office_count v_office_letterTold v_office_firstTone v_office_firstMarks k_office_lean k_office_sets k_office_drops k_office_keeps)) (st1 := [.int y19, .int l2_4]) ⟨hx, hb, hml, hown, hts⟩ (c_X7_waysOf l G a a_text a_letter a_letter_tones a_letter_marks a_letter_writers a_images a_samples a_copies a_orders a_office a_office_clerks ca_office_clk a_draft v_traced v_letter_lines v_letter_luck f_letter_tones f_letter_marks v_office_count v_office_letterTold v_office_firstTone v_office_firstMarks k_office_lean k_office_sets k_office_drops k_office_keeps l3_4 x1 y19 hc19) (cwV 2 hts gX7_waysOfAll_X7_waysOf rfl rfl rfl (by decide +kernel) ⟨Nat.le_of_ble_eq_true rfl, Nat.le_of_ble_eq_true rfl⟩) hK hE hP hD hS hA [0, 1, 2, 3, 4, 5, 6, 7, 8, 9, 10, 11] rfl rfl 0 7 rfl rfl rfl rfl rfl rfl hl.1 rfl (Nat.le_of_ble_eq_true rfl) dX7_waysOfAll_19 (Nat.zero_le _) (Nat.zero_le _) rfl (fun H locs hP hD hS => ?_)
        refine lv_iadd hx hb dX7_waysOfAll_22 ?_
        refine lv_istore_n (lv' := [(2, .int (l2_4 + y19)), (0, .ref a), (1, .int x1), (3, .int l3_4)]) hx hb dX7_waysOfAll_23 rfl hl (by decide) rfl (fun ls hl => ?_)
        refine lv_iinc (v := (l3_4 + (1 : Int32))) (lv' := [(3, .int (l3_4 + (1 : Int32))), (2, .int (l2_4 + y19)), (0, .ref a), (1, .int x1)]) hx hb dX7_waysOfAll_24 hl (k := 3) rfl rfl (by decide) rfl (fun ls hl => ?_)
        refine lv_goto (tgt := 4) hx hb dX7_waysOfAll_27 (by decide) ?_
        exact ih K _ _ _ _ _ h hk hP hD hS (lv_sub hl [2, 3, 1, 0] rfl)
  refine loop_4 fu _ _ _ _ _ _ h (fun l2_4e H locs ls h hP hD hS hl => ?_) hP hD hS (lv_sub hl [2, 3, 1, 0] rfl)
  refine lv_iload_n hx hb dX7_waysOfAll_30 rfl (lv_at hl 0 rfl) ?_
  cases h
  exact W.iret hx hb hr (fun t9 ht9 _ => zend hP hD hS ht9) hS.2.2 dX7_waysOfAll_31
abbrev w_X7_odds (G : zG) (a : Nat) (a_text : Nat) (a_letter : Nat) (a_letter_tones : Nat) (a_letter_marks : Nat) (a_letter_writers : Nat) (a_images : Nat) (a_samples : Nat) (a_copies : Nat) (a_orders : Nat) (a_office : Nat) (a_office_clerks : Nat) (ca_office_clk : Nat → Nat) (a_draft : Nat) (r_office : Nat) (r_draft : Nat) (v_traced : Int64) (v_letter_lines : Int32) (v_letter_luck : Int32) (f_letter_tones : (Nat → Int32)) (f_letter_marks : (Nat → Int32)) (v_office_count : Int32) (v_office_letterTold : Int32) (v_office_firstTone : Int32) (v_office_firstMarks : Int32) (k_office_lean : (Nat → Int32)) (k_office_sets : (Nat → Int32)) (k_office_drops : (Nat → Int32)) (k_office_keeps : (Nat → Int32)) : va_W := [(a, .inr (7, [.ref a_text, .ref a_letter, .ref a_images, .ref a_samples, .ref a_copies, .ref a_orders, .ref r_office, .ref r_draft, .long v_traced])), (a_letter, .inr (2, [.ref a_letter_tones, .ref a_letter_marks, .ref a_letter_writers, .int v_letter_lines, .int v_letter_luck])), (a_letter_tones, .inl (zCI G, 10, .inl f_letter_tones)), (a_letter_marks, .inl (zCI G, 10, .inl f_letter_marks)), (a_office, .inr (3, [.ref a_office_clerks, .int v_office_count, .int v_office_letterTold, .int v_office_firstTone, .int v_office_firstMarks])), (a_office_clerks, .inl (zCC G, 6, .inr (.inr (.inr (.inr (fun k => some (ca_office_clk k)))))))] ++ zclks ca_office_clk k_office_lean k_office_sets k_office_drops k_office_keeps
theorem in_X7_odds_X7 : ∀ w ∈ wsX70, w ∈ wsX7_odds := by decide +kernel
set_option maxHeartbeats 4000000 in
set_option maxRecDepth 100000 in
theorem c_X7_odds (l : Launch) (G : zG) (fu : Nat) (a : Nat) (a_text : Nat) (a_letter : Nat) (a_letter_tones : Nat) (a_letter_marks : Nat) (a_letter_writers : Nat) (a_images : Nat) (a_samples : Nat) (a_copies : Nat) (a_orders : Nat) (a_office : Nat) (a_office_clerks : Nat) (ca_office_clk : Nat → Nat) (a_draft : Nat) (v_traced : Int64) (v_letter_lines : Int32) (v_letter_luck : Int32) (f_letter_tones : (Nat → Int32)) (f_letter_marks : (Nat → Int32)) (v_office_count : Int32) (v_office_letterTold : Int32) (v_office_firstTone : Int32) (v_office_firstMarks : Int32) (k_office_lean : (Nat → Int32)) (k_office_sets : (Nat → Int32)) (k_office_drops : (Nat → Int32)) (k_office_keeps : (Nat → Int32)) (x1 : Int32) (x2 : Int32) (x3 : Int32) (rv : Int32) (h : fX7_odds fu v_letter_lines f_letter_tones f_letter_marks v_office_count k_office_lean k_office_sets k_office_drops k_office_keeps x1 x2 x3 = some rv) : zC l yX7_odds wsX7_odds 6 139 G [.ref a, .int x1, .int x2, .int x3] (w_X7_odds G a a_text a_letter a_letter_tones a_letter_marks a_letter_writers a_images a_samples a_copies a_orders a_office a_office_clerks ca_office_clk a_draft a_office a_draft v_traced v_letter_lines v_letter_luck f_letter_tones f_letter_marks v_office_count v_office_letterTold v_office_firstTone v_office_firstMarks k_office_lean k_office_sets k_office_drops k_office_keeps) (some (.int rv)) (w_X7_odds G a a_text a_letter a_letter_tones a_letter_marks a_letter_writers a_images a_samples a_copies a_orders a_office a_office_clerks ca_office_clk a_draft a_office a_draft v_traced v_letter_lines v_letter_luck f_letter_tones f_letter_marks v_office_count v_office_letterTold v_office_firstTone v_office_firstMarks k_office_lean k_office_sets k_office_drops k_office_keeps) := by
  refine fun sz => Met.ofW (cc := cX7_odds) (maxL := 7) (ret := (some .int)) (by decide) rfl ?_
  intro p e s m args below meth c s₁ B hml hv
  obtain ⟨rfl, hsz, hP, hK, hD0, hE⟩ := hv
  have hx := B.exec
  have hb := B.bytes
  have hr := B.returns
  have hts := atoms_spec (ws := wsX7_odds) B.pre
  have hown : s.vm.findClass RX7 = some m.cls := findClass_of_methodNamed B.named
  have hlocks := B.notSynchronized
  subst hsz
  have hD := hD0.self (sz := s.heap.size)
  generalize hAe : va_A (w_X7_odds G a a_text a_letter a_letter_tones a_letter_marks a_letter_writers a_images a_samples a_copies a_orders a_office a_office_clerks ca_office_clk a_draft a_office a_draft v_traced v_letter_lines v_letter_luck f_letter_tones f_letter_marks v_office_count v_office_letterTold v_office_firstTone v_office_firstMarks k_office_lean k_office_sets k_office_drops k_office_keeps) s.heap.size = A at hD hE ⊢
  have hA : ∀ q : Nat, s.heap.size ≤ q → A q := fun q h => by rw [← hAe]; exact Or.inr h
  have hS : va_S A s.heap s.heap [] := va_S.rf
  have hl := lv_entry ([.ref a, .int x1, .int x2, .int x3]) (n := 7) (Nat.le_of_ble_eq_true rfl)
  rw [lg_entry_eq]
  generalize (lg_sl ([.ref a, .int x1, .int x2, .int x3]) ++ List.replicate (7 - (lg_sl ([.ref a, .int x1, .int x2, .int x3])).length) Slot.unset).toArray = ls at hl ⊢
  have hl : lv_has ls 7 [(0, .ref a), (1, .int x1), (2, .int x2), (3, .int x3)] := hl
  have hP : va_P G.1 vwCl (w_X7_odds G a a_text a_letter a_letter_tones a_letter_marks a_letter_writers a_images a_samples a_copies a_orders a_office a_office_clerks ca_office_clk a_draft a_office a_draft v_traced v_letter_lines v_letter_luck f_letter_tones f_letter_marks v_office_count v_office_letterTold v_office_firstTone v_office_firstMarks k_office_lean k_office_sets k_office_drops k_office_keeps) s.heap := hP
  rw [fX7_odds] at h
  refine lv_aload_n hx hb dX7_odds_0 rfl (lv_at hl 0 rfl) ?_
  refine va_get (D := G.1) (ci := 7) (v := .ref a_office) (C := RX7) (T := TX7) (N := 9) hx hb hts in_X7_odds_X7 hown hK.1 hP 0 rfl rfl 6 (by decide) (hts (.fieldLink RX7 51 "NineHands" "office" "LNineHands$Office;") (by decide +kernel)) (fun _ h9 => h9) rfl dX7_odds_1 ?_
  refine lv_iload_n hx hb dX7_odds_4 rfl (lv_at hl 1 rfl) ?_
  by_cases c5a : x1 < 0
  · have h := zt c5a h
    refine zcV (As := [.int x1]) (rest := []) (ws' := (w_X7_odds G a a_text a_letter a_letter_tones a_letter_marks a_letter_writers a_images a_samples a_copies a_orders a_office a_office_clerks ca_office_clk a_draft a_office a_draft v_traced v_letter_lines v_letter_luck f_letter_tones f_letter_marks v_office_count v_office_letterTold v_office_firstTone v_office_firstMarks k_office_lean k_office_sets k_office_drops k_office_keeps)) (st1 := [.null]) ⟨hx, hb, hml, hown, hts⟩ (c_X3_find l G a_office a_office_clerks ca_office_clk v_office_count v_office_letterTold v_office_firstTone v_office_firstMarks x1 none (by rw [fX3_find, if_pos c5a])) (cwV 1 hts gX7_odds_X3_find rfl rfl rfl (by decide +kernel) ⟨Nat.le_of_ble_eq_true rfl, Nat.le_of_ble_eq_true rfl⟩) hK hE hP hD hS hA [4, 5] rfl rfl 0 3 rfl rfl rfl rfl rfl rfl hl.1 rfl (Nat.le_of_ble_eq_true rfl) dX7_odds_5 (Nat.zero_le _) (Nat.zero_le _) rfl (fun H locs hP hD hS => ?_)
    refine lv_ifnullN (tgt := 28) hx hb dX7_odds_8 (by decide) ?_
    refine lv_iconst (v := ((-1) : Int32)) hx hb dX7_odds_28 (by decide) ?_
    cases h
    exact W.iret hx hb hr (fun t9 ht9 _ => zend hP hD hS ht9) hS.2.2 dX7_odds_29
  have h := zf c5a h
  by_cases c5b : v_office_count ≤ x1
  · have h := zt c5b h
    refine zcV (As := [.int x1]) (rest := []) (ws' := (w_X7_odds G a a_text a_letter a_letter_tones a_letter_marks a_letter_writers a_images a_samples a_copies a_orders a_office a_office_clerks ca_office_clk a_draft a_office a_draft v_traced v_letter_lines v_letter_luck f_letter_tones f_letter_marks v_office_count v_office_letterTold v_office_firstTone v_office_firstMarks k_office_lean k_office_sets k_office_drops k_office_keeps)) (st1 := [.null]) ⟨hx, hb, hml, hown, hts⟩ (c_X3_find l G a_office a_office_clerks ca_office_clk v_office_count v_office_letterTold v_office_firstTone v_office_firstMarks x1 none (by rw [fX3_find, if_neg c5a, if_pos c5b])) (cwV 1 hts gX7_odds_X3_find rfl rfl rfl (by decide +kernel) ⟨Nat.le_of_ble_eq_true rfl, Nat.le_of_ble_eq_true rfl⟩) hK hE hP hD hS hA [4, 5] rfl rfl 0 3 rfl rfl rfl rfl rfl rfl hl.1 rfl (Nat.le_of_ble_eq_true rfl) dX7_odds_5 (Nat.zero_le _) (Nat.zero_le _) rfl (fun H locs hP hD hS => ?_)
    refine lv_ifnullN (tgt := 28) hx hb dX7_odds_8 (by decide) ?_
    refine lv_iconst (v := ((-1) : Int32)) hx hb dX7_odds_28 (by decide) ?_
    cases h
    exact W.iret hx hb hr (fun t9 ht9 _ => zend hP hD hS ht9) hS.2.2 dX7_odds_29
  have h := zf c5b h
  obtain ⟨g5, h⟩ := zg h
  refine zcV (As := [.int x1]) (rest := []) (ws' := (w_X7_odds G a a_text a_letter a_letter_tones a_letter_marks a_letter_writers a_images a_samples a_copies a_orders a_office a_office_clerks ca_office_clk a_draft a_office a_draft v_traced v_letter_lines v_letter_luck f_letter_tones f_letter_marks v_office_count v_office_letterTold v_office_firstTone v_office_firstMarks k_office_lean k_office_sets k_office_drops k_office_keeps)) (st1 := [.ref (ca_office_clk (x1).toNatClampNeg)]) ⟨hx, hb, hml, hown, hts⟩ (c_X3_find l G a_office a_office_clerks ca_office_clk v_office_count v_office_letterTold v_office_firstTone v_office_firstMarks x1 (some (ca_office_clk (x1).toNatClampNeg)) (by rw [fX3_find, if_neg c5a, if_neg c5b, if_pos g5])) (cwV 1 hts gX7_odds_X3_find rfl rfl rfl (by decide +kernel) ⟨Nat.le_of_ble_eq_true rfl, Nat.le_of_ble_eq_true rfl⟩) hK hE hP hD hS hA [4, 5] rfl rfl 0 3 rfl rfl rfl rfl rfl rfl hl.1 rfl (Nat.le_of_ble_eq_true rfl) dX7_odds_5 (Nat.zero_le _) (Nat.zero_le _) rfl (fun H locs hP hD hS => ?_)
  refine lv_ifnull hx hb dX7_odds_8 ?_
  refine lv_aload_n hx hb dX7_odds_11 rfl (lv_at hl 0 rfl) ?_
  refine lv_iload_n hx hb dX7_odds_12 rfl (lv_at hl 2 rfl) ?_
  obtain ⟨y13, hc13, h⟩ := zb1_e h
  refine zcV (As := [.int x2]) (rest := []) (ws' := (w_X7_odds G a a_text a_letter a_letter_tones a_letter_marks a_letter_writers a_images a_samples a_copies a_orders a_office a_office_clerks ca_office_clk a_draft a_office a_draft v_traced v_letter_lines v_letter_luck f_letter_tones f_letter_marks v_office_count v_office_letterTold v_office_firstTone v_office_firstMarks k_office_lean k_office_sets k_office_drops k_office_keeps)) (st1 := [.int y13]) ⟨hx, hb, hml, hown, hts⟩ (c_X7_hasLineAhead l G a a_text a_letter a_letter_tones a_letter_marks a_letter_writers a_images a_samples a_copies a_orders a_office a_draft v_traced v_letter_lines v_letter_luck x2 y13 hc13) (cwV 1 hts gX7_odds_X7_hasLineAhead rfl rfl rfl (by decide +kernel) ⟨Nat.le_of_ble_eq_true rfl, Nat.le_of_ble_eq_true rfl⟩) hK hE hP hD hS hA [0, 1] rfl rfl 0 7 rfl rfl rfl rfl rfl rfl hl.1 rfl (Nat.le_of_ble_eq_true rfl) dX7_odds_13 (Nat.zero_le _) (Nat.zero_le _) rfl (fun H locs hP hD hS => ?_)
  refine lv_if_eq (tgt := 28) hx hb dX7_odds_16 (by decide) (fun c16 => ?_) (fun c16 => ?_)
  · have h := zt c16 h
    refine lv_iconst (v := ((-1) : Int32)) hx hb dX7_odds_28 (by decide) ?_
    cases h
    exact W.iret hx hb hr (fun t9 ht9 _ => zend hP hD hS ht9) hS.2.2 dX7_odds_29
  · have h := zf c16 h
    refine lv_iload_n hx hb dX7_odds_19 rfl (lv_at hl 3 rfl) ?_
    refine lv_if_lt (tgt := 28) hx hb dX7_odds_20 (by decide) (fun c20 => ?_) (fun c20 => ?_)
    · have h := zt c20 h
      refine lv_iconst (v := ((-1) : Int32)) hx hb dX7_odds_28 (by decide) ?_
      cases h
      exact W.iret hx hb hr (fun t9 ht9 _ => zend hP hD hS ht9) hS.2.2 dX7_odds_29
    · have h := zf c20 h
      refine lv_iload_n hx hb dX7_odds_23 rfl (lv_at hl 3 rfl) ?_
      refine lv_iconst (v := (1 : Int32)) hx hb dX7_odds_24 (by decide) ?_
      refine lv_icmp_le (tgt := 30) hx hb dX7_odds_25 (by decide) (fun c25 => ?_) (fun c25 => ?_)
      · have h := zt c25 h
        refine lv_aload_n hx hb dX7_odds_30 rfl (lv_at hl 0 rfl) ?_
        refine lv_iload_n hx hb dX7_odds_31 rfl (lv_at hl 2 rfl) ?_
        obtain ⟨y32, hc32, h⟩ := zb1_e h
        refine zcV (As := [.int x2]) (rest := []) (ws' := (w_X7_odds G a a_text a_letter a_letter_tones a_letter_marks a_letter_writers a_images a_samples a_copies a_orders a_office a_office_clerks ca_office_clk a_draft a_office a_draft v_traced v_letter_lines v_letter_luck f_letter_tones f_letter_marks v_office_count v_office_letterTold v_office_firstTone v_office_firstMarks k_office_lean k_office_sets k_office_drops k_office_keeps)) (st1 := [.int y32]) ⟨hx, hb, hml, hown, hts⟩ (c_X7_waysOfAll l G fu a a_text a_letter a_letter_tones a_letter_marks a_letter_writers a_images a_samples a_copies a_orders a_office a_office_clerks ca_office_clk a_draft v_traced v_letter_lines v_letter_luck f_letter_tones f_letter_marks v_office_count v_office_letterTold v_office_firstTone v_office_firstMarks k_office_lean k_office_sets k_office_drops k_office_keeps x2 y32 hc32) (cwV 1 hts gX7_odds_X7_waysOfAll rfl rfl rfl (by decide +kernel) ⟨Nat.le_of_ble_eq_true rfl, Nat.le_of_ble_eq_true rfl⟩) hK hE hP hD hS hA [0, 1, 2, 3, 4, 5, 6, 7, 8, 9, 10, 11] rfl rfl 0 7 rfl rfl rfl rfl rfl rfl hl.1 rfl (Nat.le_of_ble_eq_true rfl) dX7_odds_32 (Nat.zero_le _) (Nat.zero_le _) rfl (fun H locs hP hD hS => ?_)
        refine lv_istore (lv' := [(4, .int y32), (0, .ref a), (1, .int x1), (2, .int x2), (3, .int x3)]) hx hb dX7_odds_35 hl (by decide) rfl (fun ls hl => ?_)
        refine lv_iload hx hb dX7_odds_37 (lv_at hl 0 rfl) ?_
        refine lv_if_gt (tgt := 45) hx hb dX7_odds_39 (by decide) (fun c39 => ?_) (fun c39 => ?_)
        · have h := zt c39 h
          refine lv_aload_n hx hb dX7_odds_45 rfl (lv_at hl 1 rfl) ?_
          refine lv_iload_n hx hb dX7_odds_46 rfl (lv_at hl 2 rfl) ?_
          refine lv_iload_n hx hb dX7_odds_47 rfl (lv_at hl 3 rfl) ?_
          obtain ⟨y48, hc48, h⟩ := zb1_e h
          refine zcV (As := [.int x1, .int x2]) (rest := []) (ws' := (w_X7_odds G a a_text a_letter a_letter_tones a_letter_marks a_letter_writers a_images a_samples a_copies a_orders a_office a_office_clerks ca_office_clk a_draft a_office a_draft v_traced v_letter_lines v_letter_luck f_letter_tones f_letter_marks v_office_count v_office_letterTold v_office_firstTone v_office_firstMarks k_office_lean k_office_sets k_office_drops k_office_keeps)) (st1 := [.int y48]) ⟨hx, hb, hml, hown, hts⟩ (c_X7_waysOf l G a a_text a_letter a_letter_tones a_letter_marks a_letter_writers a_images a_samples a_copies a_orders a_office a_office_clerks ca_office_clk a_draft v_traced v_letter_lines v_letter_luck f_letter_tones f_letter_marks v_office_count v_office_letterTold v_office_firstTone v_office_firstMarks k_office_lean k_office_sets k_office_drops k_office_keeps x1 x2 y48 hc48) (cwV 2 hts gX7_odds_X7_waysOf rfl rfl rfl (by decide +kernel) ⟨Nat.le_of_ble_eq_true rfl, Nat.le_of_ble_eq_true rfl⟩) hK hE hP hD hS hA [0, 1, 2, 3, 4, 5, 6, 7, 8, 9, 10, 11] rfl rfl 0 7 rfl rfl rfl rfl rfl rfl hl.1 rfl (Nat.le_of_ble_eq_true rfl) dX7_odds_48 (Nat.zero_le _) (Nat.zero_le _) rfl (fun H locs hP hD hS => ?_)
          refine lv_istore (lv' := [(5, .int y48), (4, .int y32), (0, .ref a), (1, .int x1), (2, .int x2), (3, .int x3)]) hx hb dX7_odds_51 hl (by decide) rfl (fun ls hl => ?_)
          refine lv_iload hx hb dX7_odds_53 (lv_at hl 1 rfl) ?_
          refine lv_iload hx hb dX7_odds_55 (lv_at hl 0 rfl) ?_
          obtain ⟨y57, hc57, h⟩ := zb1_e h
          refine zcS (As := [.int y32, .int y48]) (rest := []) (ws' := (w_X7_odds G a a_text a_letter a_letter_tones a_letter_marks a_letter_writers a_images a_samples a_copies a_orders a_office a_office_clerks ca_office_clk a_draft a_office a_draft v_traced v_letter_lines v_letter_luck f_letter_tones f_letter_marks v_office_count v_office_letterTold v_office_firstTone v_office_firstMarks k_office_lean k_office_sets k_office_drops k_office_keeps)) (st1 := [.int y57]) ⟨hx, hb, hml, hown, hts⟩ (c_X7_sharedDivisor l G fu y32 y48 y57 hc57) (va_cwS 2 hts gX7_odds_X7_sharedDivisor rfl rfl rfl (by decide +kernel) ⟨Nat.le_of_ble_eq_true rfl, Nat.le_of_ble_eq_true rfl⟩) hK hE hP hD hS hA [] rfl rfl rfl rfl rfl hl.1 rfl (Nat.le_of_ble_eq_true rfl) dX7_odds_57 (Nat.zero_le _) (Nat.zero_le _) rfl (fun H locs hP hD hS => ?_)
          refine lv_istore (lv' := [(6, .int y57), (5, .int y48), (4, .int y32), (0, .ref a), (1, .int x1), (2, .int x2), (3, .int x3)]) hx hb dX7_odds_60 hl (by decide) rfl (fun ls hl => ?_)
          refine lv_iload_n hx hb dX7_odds_62 rfl (lv_at hl 6 rfl) ?_
          refine lv_if_ne (tgt := 71) hx hb dX7_odds_63 (by decide) (fun c63 => ?_) (fun c63 => ?_)
          · have h := zf c63 h
            refine lv_iload hx hb dX7_odds_71 (lv_at hl 2 rfl) ?_
            refine lv_iload hx hb dX7_odds_73 (lv_at hl 0 rfl) ?_
            obtain ⟨g75, h⟩ := zg h
            refine lv_idiv hx hb dX7_odds_75 g75 ?_
            cases h
            exact W.iret hx hb hr (fun t9 ht9 _ => zend hP hD hS ht9) hS.2.2 dX7_odds_76
          · have h := zt c63 h
            refine lv_iload hx hb dX7_odds_66 (lv_at hl 1 rfl) ?_
            refine lv_goto (tgt := 73) hx hb dX7_odds_68 (by decide) ?_
            refine lv_iload hx hb dX7_odds_73 (lv_at hl 0 rfl) ?_
            obtain ⟨g75, h⟩ := zg h
            refine lv_idiv hx hb dX7_odds_75 g75 ?_
            cases h
            exact W.iret hx hb hr (fun t9 ht9 _ => zend hP hD hS ht9) hS.2.2 dX7_odds_76
        · have h := zf c39 h
          refine lv_bipush (v := ((-2) : Int32)) hx hb dX7_odds_42 (by decide) ?_
          cases h
          exact W.iret hx hb hr (fun t9 ht9 _ => zend hP hD hS ht9) hS.2.2 dX7_odds_44
      · have h := zf c25 h
        refine lv_iconst (v := ((-1) : Int32)) hx hb dX7_odds_28 (by decide) ?_
        cases h
        exact W.iret hx hb hr (fun t9 ht9 _ => zend hP hD hS ht9) hS.2.2 dX7_odds_29
abbrev w_X7_order (G : zG) (a : Nat) (a_text : Nat) (a_letter : Nat) (a_letter_tones : Nat) (a_letter_marks : Nat) (a_letter_writers : Nat) (a_images : Nat) (a_samples : Nat) (a_copies : Nat) (a_orders : Nat) (a_orders_row : Nat) (a_orders_best : Nat) (a_office : Nat) (a_office_clerks : Nat) (ca_office_clk : Nat → Nat) (a_draft : Nat) (r_office : Nat) (r_draft : Nat) (v_traced : Int64) (v_letter_lines : Int32) (v_letter_luck : Int32) (f_letter_tones : (Nat → Int32)) (v_orders_size : Int32) (v_orders_least : Int32) (f_orders_row : (Nat → Int32)) (f_orders_best : (Nat → Int32)) (v_office_count : Int32) (v_office_letterTold : Int32) (v_office_firstTone : Int32) (v_office_firstMarks : Int32) (k_office_lean : (Nat → Int32)) (k_office_sets : (Nat → Int32)) (k_office_drops : (Nat → Int32)) (k_office_keeps : (Nat → Int32)) : va_W := [(a, .inr (7, [.ref a_text, .ref a_letter, .ref a_images, .ref a_samples, .ref a_copies, .ref a_orders, .ref r_office, .ref r_draft, .long v_traced])), (a_letter, .inr (2, [.ref a_letter_tones, .ref a_letter_marks, .ref a_letter_writers, .int v_letter_lines, .int v_letter_luck])), (a_letter_tones, .inl (zCI G, 10, .inl f_letter_tones)), (a_orders, .inr (4, [.ref a_orders_row, .ref a_orders_best, .int v_orders_size, .int v_orders_least])), (a_orders_row, .inl (zCI G, 6, .inl f_orders_row)), (a_orders_best, .inl (zCI G, 6, .inl f_orders_best)), (a_office, .inr (3, [.ref a_office_clerks, .int v_office_count, .int v_office_letterTold, .int v_office_firstTone, .int v_office_firstMarks])), (a_office_clerks, .inl (zCC G, 6, .inr (.inr (.inr (.inr (fun k => some (ca_office_clk k)))))))] ++ zclks ca_office_clk k_office_lean k_office_sets k_office_drops k_office_keeps
theorem in_X7_order_X7 : ∀ w ∈ wsX70, w ∈ wsX7_order := by decide +kernel
set_option maxHeartbeats 4000000 in
set_option maxRecDepth 100000 in
theorem c_X7_order (l : Launch) (G : zG) (fu : Nat) (a : Nat) (a_text : Nat) (a_letter : Nat) (a_letter_tones : Nat) (a_letter_marks : Nat) (a_letter_writers : Nat) (a_images : Nat) (a_samples : Nat) (a_copies : Nat) (a_orders : Nat) (a_orders_row : Nat) (a_orders_best : Nat) (a_office : Nat) (a_office_clerks : Nat) (ca_office_clk : Nat → Nat) (a_draft : Nat) (v_traced : Int64) (v_letter_lines : Int32) (v_letter_luck : Int32) (f_letter_tones : (Nat → Int32)) (v_orders_size : Int32) (v_orders_least : Int32) (f_orders_row : (Nat → Int32)) (f_orders_best : (Nat → Int32)) (v_office_count : Int32) (v_office_letterTold : Int32) (v_office_firstTone : Int32) (v_office_firstMarks : Int32) (k_office_lean : (Nat → Int32)) (k_office_sets : (Nat → Int32)) (k_office_drops : (Nat → Int32)) (k_office_keeps : (Nat → Int32)) (x1 : Int32) (x2 : Int32) (x3 : Int32) (rv : Int32) (ov_orders_size : Int32) (ov_orders_least : Int32) (of_orders_row : (Nat → Int32)) (of_orders_best : (Nat → Int32)) (h : fX7_order fu v_letter_lines f_letter_tones v_orders_size v_orders_least f_orders_row f_orders_best v_office_count k_office_lean x1 x2 x3 = some (rv, ov_orders_size, ov_orders_least, of_orders_row, of_orders_best)) : zC l yX7_order wsX7_order 5 121 G [.ref a, .int x1, .int x2, .int x3] (w_X7_order G a a_text a_letter a_letter_tones a_letter_marks a_letter_writers a_images a_samples a_copies a_orders a_orders_row a_orders_best a_office a_office_clerks ca_office_clk a_draft a_office a_draft v_traced v_letter_lines v_letter_luck f_letter_tones v_orders_size v_orders_least f_orders_row f_orders_best v_office_count v_office_letterTold v_office_firstTone v_office_firstMarks k_office_lean k_office_sets k_office_drops k_office_keeps) (some (.int rv)) (w_X7_order G a a_text a_letter a_letter_tones a_letter_marks a_letter_writers a_images a_samples a_copies a_orders a_orders_row a_orders_best a_office a_office_clerks ca_office_clk a_draft a_office a_draft v_traced v_letter_lines v_letter_luck f_letter_tones ov_orders_size ov_orders_least of_orders_row of_orders_best v_office_count v_office_letterTold v_office_firstTone v_office_firstMarks k_office_lean k_office_sets k_office_drops k_office_keeps) := by
  refine fun sz => Met.ofW (cc := cX7_order) (maxL := 4) (ret := (some .int)) (by decide) rfl ?_
  intro p e s m args below meth c s₁ B hml hv
  obtain ⟨rfl, hsz, hP, hK, hD0, hE⟩ := hv
  have hx := B.exec
  have hb := B.bytes
  have hr := B.returns
  have hts := atoms_spec (ws := wsX7_order) B.pre
  have hown : s.vm.findClass RX7 = some m.cls := findClass_of_methodNamed B.named
  have hlocks := B.notSynchronized
  subst hsz
  have hD := hD0.self (sz := s.heap.size)
  generalize hAe : va_A (w_X7_order G a a_text a_letter a_letter_tones a_letter_marks a_letter_writers a_images a_samples a_copies a_orders a_orders_row a_orders_best a_office a_office_clerks ca_office_clk a_draft a_office a_draft v_traced v_letter_lines v_letter_luck f_letter_tones v_orders_size v_orders_least f_orders_row f_orders_best v_office_count v_office_letterTold v_office_firstTone v_office_firstMarks k_office_lean k_office_sets k_office_drops k_office_keeps) s.heap.size = A at hD hE ⊢
  have hA : ∀ q : Nat, s.heap.size ≤ q → A q := fun q h => by rw [← hAe]; exact Or.inr h
  have hS : va_S A s.heap s.heap [] := va_S.rf
  have hl := lv_entry ([.ref a, .int x1, .int x2, .int x3]) (n := 4) (Nat.le_of_ble_eq_true rfl)
  rw [lg_entry_eq]
  generalize (lg_sl ([.ref a, .int x1, .int x2, .int x3]) ++ List.replicate (4 - (lg_sl ([.ref a, .int x1, .int x2, .int x3])).length) Slot.unset).toArray = ls at hl ⊢
  have hl : lv_has ls 4 [(0, .ref a), (1, .int x1), (2, .int x2), (3, .int x3)] := hl
  have hP : va_P G.1 vwCl (w_X7_order G a a_text a_letter a_letter_tones a_letter_marks a_letter_writers a_images a_samples a_copies a_orders a_orders_row a_orders_best a_office a_office_clerks ca_office_clk a_draft a_office a_draft v_traced v_letter_lines v_letter_luck f_letter_tones v_orders_size v_orders_least f_orders_row f_orders_best v_office_count v_office_letterTold v_office_firstTone v_office_firstMarks k_office_lean k_office_sets k_office_drops k_office_keeps) s.heap := hP
  rw [fX7_order] at h
  refine lv_aload_n hx hb dX7_order_0 rfl (lv_at hl 0 rfl) ?_
  refine va_get (D := G.1) (ci := 7) (v := .ref a_office) (C := RX7) (T := TX7) (N := 9) hx hb hts in_X7_order_X7 hown hK.1 hP 0 rfl rfl 6 (by decide) (hts (.fieldLink RX7 51 "NineHands" "office" "LNineHands$Office;") (by decide +kernel)) (fun _ h9 => h9) rfl dX7_order_1 ?_
  refine lv_iload_n hx hb dX7_order_4 rfl (lv_at hl 1 rfl) ?_
  obtain ⟨y5, hc5, h⟩ := zb1_e h
  refine zcV (As := [.int x1]) (rest := []) (ws' := (w_X7_order G a a_text a_letter a_letter_tones a_letter_marks a_letter_writers a_images a_samples a_copies a_orders a_orders_row a_orders_best a_office a_office_clerks ca_office_clk a_draft a_office a_draft v_traced v_letter_lines v_letter_luck f_letter_tones v_orders_size v_orders_least f_orders_row f_orders_best v_office_count v_office_letterTold v_office_firstTone v_office_firstMarks k_office_lean k_office_sets k_office_drops k_office_keeps)) (st1 := [.int y5]) ⟨hx, hb, hml, hown, hts⟩ (c_X3_hasAll l G a_office a_office_clerks v_office_count v_office_letterTold v_office_firstTone v_office_firstMarks x1 y5 hc5) (cwV 1 hts gX7_order_X3_hasAll rfl rfl rfl (by decide +kernel) ⟨Nat.le_of_ble_eq_true rfl, Nat.le_of_ble_eq_true rfl⟩) hK hE hP hD hS hA [6] rfl rfl 0 3 rfl rfl rfl rfl rfl rfl hl.1 rfl (Nat.le_of_ble_eq_true rfl) dX7_order_5 (Nat.zero_le _) (Nat.zero_le _) rfl (fun H locs hP hD hS => ?_)
  refine lv_if_eq (tgt := 23) hx hb dX7_order_8 (by decide) (fun c8 => ?_) (fun c8 => ?_)
  · have h := zt c8 h
    refine lv_iconst (v := ((-1) : Int32)) hx hb dX7_order_23 (by decide) ?_
    cases h
    exact W.iret hx hb hr (fun t9 ht9 _ => zend hP hD hS ht9) hS.2.2 dX7_order_24
  · have h := zf c8 h
    refine lv_iload_n hx hb dX7_order_11 rfl (lv_at hl 2 rfl) ?_
    obtain ⟨y12, hc12, h⟩ := zb1_e h
    refine zcS (As := [.int x2]) (rest := []) (ws' := (w_X7_order G a a_text a_letter a_letter_tones a_letter_marks a_letter_writers a_images a_samples a_copies a_orders a_orders_row a_orders_best a_office a_office_clerks ca_office_clk a_draft a_office a_draft v_traced v_letter_lines v_letter_luck f_letter_tones v_orders_size v_orders_least f_orders_row f_orders_best v_office_count v_office_letterTold v_office_firstTone v_office_firstMarks k_office_lean k_office_sets k_office_drops k_office_keeps)) (st1 := [.int y12]) ⟨hx, hb, hml, hown, hts⟩ (c_X7_isTone l G x2 y12 hc12) (va_cwS 1 hts gX7_order_X7_isTone rfl rfl rfl (by decide +kernel) ⟨Nat.le_of_ble_eq_true rfl, Nat.le_of_ble_eq_true rfl⟩) hK hE hP hD hS hA [] rfl rfl rfl rfl rfl hl.1 rfl (Nat.le_of_ble_eq_true rfl) dX7_order_12 (Nat.zero_le _) (Nat.zero_le _) rfl (fun H locs hP hD hS => ?_)
    refine lv_if_eq (tgt := 23) hx hb dX7_order_15 (by decide) (fun c15 => ?_) (fun c15 => ?_)
    · have h := zt c15 h
      refine lv_iconst (v := ((-1) : Int32)) hx hb dX7_order_23 (by decide) ?_
      cases h
      exact W.iret hx hb hr (fun t9 ht9 _ => zend hP hD hS ht9) hS.2.2 dX7_order_24
    · have h := zf c15 h
      refine lv_iload_n hx hb dX7_order_18 rfl (lv_at hl 3 rfl) ?_
      refine lv_iconst (v := ((-1) : Int32)) hx hb dX7_order_19 (by decide) ?_
      refine lv_icmp_ge (tgt := 25) hx hb dX7_order_20 (by decide) (fun c20 => ?_) (fun c20 => ?_)
      · have h := zt c20 h
        refine lv_aload_n hx hb dX7_order_25 rfl (lv_at hl 0 rfl) ?_
        refine va_get (D := G.1) (ci := 7) (v := .ref a_orders) (C := RX7) (T := TX7) (N := 9) hx hb hts in_X7_order_X7 hown hK.1 hP 0 rfl rfl 5 (by decide) (hts (.fieldLink RX7 44 "NineHands" "orders" "LNineHands$Orders;") (by decide +kernel)) (fun _ h9 => h9) rfl dX7_order_26 ?_
        refine lv_aload_n hx hb dX7_order_29 rfl (lv_at hl 0 rfl) ?_
        refine va_get (D := G.1) (ci := 7) (v := .ref a_office) (C := RX7) (T := TX7) (N := 9) hx hb hts in_X7_order_X7 hown hK.1 hP 0 rfl rfl 6 (by decide) (hts (.fieldLink RX7 51 "NineHands" "office" "LNineHands$Office;") (by decide +kernel)) (fun _ h9 => h9) rfl dX7_order_30 ?_
        refine lv_iload_n hx hb dX7_order_33 rfl (lv_at hl 1 rfl) ?_
        refine lv_aload_n hx hb dX7_order_34 rfl (lv_at hl 0 rfl) ?_
        refine va_get (D := G.1) (ci := 7) (v := .ref a_letter) (C := RX7) (T := TX7) (N := 9) hx hb hts in_X7_order_X7 hown hK.1 hP 0 rfl rfl 1 (by decide) (hts (.fieldLink RX7 19 "NineHands" "letter" "LNineHands$Letter;") (by decide +kernel)) (fun _ h9 => h9) rfl dX7_order_35 ?_
        obtain ⟨y38, hc38, h⟩ := zb1_e h
        refine zcV (As := []) (rest := [.int x1, .ref a_office, .ref a_orders]) (ws' := (w_X7_order G a a_text a_letter a_letter_tones a_letter_marks a_letter_writers a_images a_samples a_copies a_orders a_orders_row a_orders_best a_office a_office_clerks ca_office_clk a_draft a_office a_draft v_traced v_letter_lines v_letter_luck f_letter_tones v_orders_size v_orders_least f_orders_row f_orders_best v_office_count v_office_letterTold v_office_firstTone v_office_firstMarks k_office_lean k_office_sets k_office_drops k_office_keeps)) (st1 := [.int y38, .int x1, .ref a_office, .ref a_orders]) ⟨hx, hb, hml, hown, hts⟩ (c_X2_lastTone l G a_letter a_letter_tones a_letter_marks a_letter_writers v_letter_lines v_letter_luck f_letter_tones y38 hc38) (cwV 0 hts gX7_order_X2_lastTone rfl rfl rfl (by decide +kernel) ⟨Nat.le_of_ble_eq_true rfl, Nat.le_of_ble_eq_true rfl⟩) hK hE hP hD hS hA [1, 2] rfl rfl 0 2 rfl rfl rfl rfl rfl rfl hl.1 rfl (Nat.le_of_ble_eq_true rfl) dX7_order_38 (Nat.zero_le _) (Nat.zero_le _) rfl (fun H locs hP hD hS => ?_)
        refine lv_iload_n hx hb dX7_order_41 rfl (lv_at hl 2 rfl) ?_
        refine lv_iconst (v := (0 : Int32)) hx hb dX7_order_42 (by decide) ?_
        obtain ⟨y43_v_size, y43_v_least, y43_f_row, y43_f_best, hc43, h⟩ := zb4_e h
        refine zcV (As := [.ref a_office, .int x1, .int y38, .int x2, .int (0 : Int32)]) (rest := []) (ws' := (w_X7_order G a a_text a_letter a_letter_tones a_letter_marks a_letter_writers a_images a_samples a_copies a_orders a_orders_row a_orders_best a_office a_office_clerks ca_office_clk a_draft a_office a_draft v_traced v_letter_lines v_letter_luck f_letter_tones y43_v_size y43_v_least y43_f_row y43_f_best v_office_count v_office_letterTold v_office_firstTone v_office_firstMarks k_office_lean k_office_sets k_office_drops k_office_keeps)) (st1 := []) ⟨hx, hb, hml, hown, hts⟩ (c_X4_seek l G fu a_orders a_orders_row a_orders_best a_office a_office_clerks ca_office_clk v_orders_size v_orders_least f_orders_row f_orders_best v_office_count v_office_letterTold v_office_firstTone v_office_firstMarks k_office_lean k_office_sets k_office_drops k_office_keeps x1 y38 x2 (0 : Int32) y43_v_size y43_v_least y43_f_row y43_f_best hc43) (cwV 5 hts gX7_order_X4_seek rfl rfl rfl (by decide +kernel) ⟨Nat.le_of_ble_eq_true rfl, Nat.le_of_ble_eq_true rfl⟩) hK hE hP hD hS hA [3, 4, 5, 6, 7, 8, 9, 10, 11, 12, 13] rfl rfl 0 4 rfl rfl rfl rfl rfl rfl hl.1 rfl (Nat.le_of_ble_eq_true rfl) dX7_order_43 (Nat.zero_le _) (Nat.zero_le _) rfl (fun H locs hP hD hS => ?_)
        refine lv_aload_n hx hb dX7_order_46 rfl (lv_at hl 0 rfl) ?_
        refine va_get (D := G.1) (ci := 7) (v := .ref a_orders) (C := RX7) (T := TX7) (N := 9) hx hb hts in_X7_order_X7 hown hK.1 hP 0 rfl rfl 5 (by decide) (hts (.fieldLink RX7 44 "NineHands" "orders" "LNineHands$Orders;") (by decide +kernel)) (fun _ h9 => h9) rfl dX7_order_47 ?_
        refine lv_iload_n hx hb dX7_order_50 rfl (lv_at hl 3 rfl) ?_
        obtain ⟨y51, hc51, h⟩ := zb1_e h
        refine zcV (As := [.int x3]) (rest := []) (ws' := (w_X7_order G a a_text a_letter a_letter_tones a_letter_marks a_letter_writers a_images a_samples a_copies a_orders a_orders_row a_orders_best a_office a_office_clerks ca_office_clk a_draft a_office a_draft v_traced v_letter_lines v_letter_luck f_letter_tones y43_v_size y43_v_least y43_f_row y43_f_best v_office_count v_office_letterTold v_office_firstTone v_office_firstMarks k_office_lean k_office_sets k_office_drops k_office_keeps)) (st1 := [.int y51]) ⟨hx, hb, hml, hown, hts⟩ (c_X4_answer l G a_orders a_orders_row a_orders_best y43_v_size y43_v_least y43_f_best x3 y51 hc51) (cwV 1 hts gX7_order_X4_answer rfl rfl rfl (by decide +kernel) ⟨Nat.le_of_ble_eq_true rfl, Nat.le_of_ble_eq_true rfl⟩) hK hE hP hD hS hA [3, 5] rfl rfl 0 4 rfl rfl rfl rfl rfl rfl hl.1 rfl (Nat.le_of_ble_eq_true rfl) dX7_order_51 (Nat.zero_le _) (Nat.zero_le _) rfl (fun H locs hP hD hS => ?_)
        cases h
        exact W.iret hx hb hr (fun t9 ht9 _ => zend hP hD hS ht9) hS.2.2 dX7_order_54
      · have h := zf c20 h
        refine lv_iconst (v := ((-1) : Int32)) hx hb dX7_order_23 (by decide) ?_
        cases h
        exact W.iret hx hb hr (fun t9 ht9 _ => zend hP hD hS ht9) hS.2.2 dX7_order_24
abbrev w_X7_drift (G : zG) (a : Nat) (a_text : Nat) (a_letter : Nat) (a_letter_tones : Nat) (a_letter_marks : Nat) (a_letter_writers : Nat) (a_images : Nat) (a_samples : Nat) (a_copies : Nat) (a_orders : Nat) (a_orders_row : Nat) (a_orders_best : Nat) (a_office : Nat) (a_office_clerks : Nat) (ca_office_clk : Nat → Nat) (a_draft : Nat) (r_office : Nat) (r_draft : Nat) (v_traced : Int64) (v_letter_lines : Int32) (v_letter_luck : Int32) (f_letter_tones : (Nat → Int32)) (v_orders_size : Int32) (v_orders_least : Int32) (f_orders_row : (Nat → Int32)) (f_orders_best : (Nat → Int32)) (v_office_count : Int32) (v_office_letterTold : Int32) (v_office_firstTone : Int32) (v_office_firstMarks : Int32) (k_office_lean : (Nat → Int32)) (k_office_sets : (Nat → Int32)) (k_office_drops : (Nat → Int32)) (k_office_keeps : (Nat → Int32)) : va_W := [(a, .inr (7, [.ref a_text, .ref a_letter, .ref a_images, .ref a_samples, .ref a_copies, .ref a_orders, .ref r_office, .ref r_draft, .long v_traced])), (a_letter, .inr (2, [.ref a_letter_tones, .ref a_letter_marks, .ref a_letter_writers, .int v_letter_lines, .int v_letter_luck])), (a_letter_tones, .inl (zCI G, 10, .inl f_letter_tones)), (a_orders, .inr (4, [.ref a_orders_row, .ref a_orders_best, .int v_orders_size, .int v_orders_least])), (a_orders_row, .inl (zCI G, 6, .inl f_orders_row)), (a_orders_best, .inl (zCI G, 6, .inl f_orders_best)), (a_office, .inr (3, [.ref a_office_clerks, .int v_office_count, .int v_office_letterTold, .int v_office_firstTone, .int v_office_firstMarks])), (a_office_clerks, .inl (zCC G, 6, .inr (.inr (.inr (.inr (fun k => some (ca_office_clk k)))))))] ++ zclks ca_office_clk k_office_lean k_office_sets k_office_drops k_office_keeps
theorem in_X7_drift_X7 : ∀ w ∈ wsX70, w ∈ wsX7_drift := by decide +kernel
set_option maxHeartbeats 4000000 in
set_option maxRecDepth 100000 in
theorem c_X7_drift (l : Launch) (G : zG) (fu : Nat) (a : Nat) (a_text : Nat) (a_letter : Nat) (a_letter_tones : Nat) (a_letter_marks : Nat) (a_letter_writers : Nat) (a_images : Nat) (a_samples : Nat) (a_copies : Nat) (a_orders : Nat) (a_orders_row : Nat) (a_orders_best : Nat) (a_office : Nat) (a_office_clerks : Nat) (ca_office_clk : Nat → Nat) (a_draft : Nat) (v_traced : Int64) (v_letter_lines : Int32) (v_letter_luck : Int32) (f_letter_tones : (Nat → Int32)) (v_orders_size : Int32) (v_orders_least : Int32) (f_orders_row : (Nat → Int32)) (f_orders_best : (Nat → Int32)) (v_office_count : Int32) (v_office_letterTold : Int32) (v_office_firstTone : Int32) (v_office_firstMarks : Int32) (k_office_lean : (Nat → Int32)) (k_office_sets : (Nat → Int32)) (k_office_drops : (Nat → Int32)) (k_office_keeps : (Nat → Int32)) (x1 : Int32) (x2 : Int32) (rv : Int32) (ov_orders_size : Int32) (ov_orders_least : Int32) (of_orders_row : (Nat → Int32)) (of_orders_best : (Nat → Int32)) (h : fX7_drift fu v_letter_lines f_letter_tones v_orders_size v_orders_least f_orders_row f_orders_best v_office_count k_office_lean x1 x2 = some (rv, ov_orders_size, ov_orders_least, of_orders_row, of_orders_best)) : zC l yX7_drift wsX7_drift 5 121 G [.ref a, .int x1, .int x2] (w_X7_drift G a a_text a_letter a_letter_tones a_letter_marks a_letter_writers a_images a_samples a_copies a_orders a_orders_row a_orders_best a_office a_office_clerks ca_office_clk a_draft a_office a_draft v_traced v_letter_lines v_letter_luck f_letter_tones v_orders_size v_orders_least f_orders_row f_orders_best v_office_count v_office_letterTold v_office_firstTone v_office_firstMarks k_office_lean k_office_sets k_office_drops k_office_keeps) (some (.int rv)) (w_X7_drift G a a_text a_letter a_letter_tones a_letter_marks a_letter_writers a_images a_samples a_copies a_orders a_orders_row a_orders_best a_office a_office_clerks ca_office_clk a_draft a_office a_draft v_traced v_letter_lines v_letter_luck f_letter_tones ov_orders_size ov_orders_least of_orders_row of_orders_best v_office_count v_office_letterTold v_office_firstTone v_office_firstMarks k_office_lean k_office_sets k_office_drops k_office_keeps) := by
  refine fun sz => Met.ofW (cc := cX7_drift) (maxL := 3) (ret := (some .int)) (by decide) rfl ?_
  intro p e s m args below meth c s₁ B hml hv
  obtain ⟨rfl, hsz, hP, hK, hD0, hE⟩ := hv
  have hx := B.exec
  have hb := B.bytes
  have hr := B.returns
  have hts := atoms_spec (ws := wsX7_drift) B.pre
  have hown : s.vm.findClass RX7 = some m.cls := findClass_of_methodNamed B.named
  have hlocks := B.notSynchronized
  subst hsz
  have hD := hD0.self (sz := s.heap.size)
  generalize hAe : va_A (w_X7_drift G a a_text a_letter a_letter_tones a_letter_marks a_letter_writers a_images a_samples a_copies a_orders a_orders_row a_orders_best a_office a_office_clerks ca_office_clk a_draft a_office a_draft v_traced v_letter_lines v_letter_luck f_letter_tones v_orders_size v_orders_least f_orders_row f_orders_best v_office_count v_office_letterTold v_office_firstTone v_office_firstMarks k_office_lean k_office_sets k_office_drops k_office_keeps) s.heap.size = A at hD hE ⊢
  have hA : ∀ q : Nat, s.heap.size ≤ q → A q := fun q h => by rw [← hAe]; exact Or.inr h
  have hS : va_S A s.heap s.heap [] := va_S.rf
  have hl := lv_entry ([.ref a, .int x1, .int x2]) (n := 3) (Nat.le_of_ble_eq_true rfl)
  rw [lg_entry_eq]
  generalize (lg_sl ([.ref a, .int x1, .int x2]) ++ List.replicate (3 - (lg_sl ([.ref a, .int x1, .int x2])).length) Slot.unset).toArray = ls at hl ⊢
  have hl : lv_has ls 3 [(0, .ref a), (1, .int x1), (2, .int x2)] := hl
  have hP : va_P G.1 vwCl (w_X7_drift G a a_text a_letter a_letter_tones a_letter_marks a_letter_writers a_images a_samples a_copies a_orders a_orders_row a_orders_best a_office a_office_clerks ca_office_clk a_draft a_office a_draft v_traced v_letter_lines v_letter_luck f_letter_tones v_orders_size v_orders_least f_orders_row f_orders_best v_office_count v_office_letterTold v_office_firstTone v_office_firstMarks k_office_lean k_office_sets k_office_drops k_office_keeps) s.heap := hP
  rw [fX7_drift] at h
  refine lv_aload_n hx hb dX7_drift_0 rfl (lv_at hl 0 rfl) ?_
  refine va_get (D := G.1) (ci := 7) (v := .ref a_office) (C := RX7) (T := TX7) (N := 9) hx hb hts in_X7_drift_X7 hown hK.1 hP 0 rfl rfl 6 (by decide) (hts (.fieldLink RX7 51 "NineHands" "office" "LNineHands$Office;") (by decide +kernel)) (fun _ h9 => h9) rfl dX7_drift_1 ?_
  refine lv_iload_n hx hb dX7_drift_4 rfl (lv_at hl 1 rfl) ?_
  obtain ⟨y5, hc5, h⟩ := zb1_e h
  refine zcV (As := [.int x1]) (rest := []) (ws' := (w_X7_drift G a a_text a_letter a_letter_tones a_letter_marks a_letter_writers a_images a_samples a_copies a_orders a_orders_row a_orders_best a_office a_office_clerks ca_office_clk a_draft a_office a_draft v_traced v_letter_lines v_letter_luck f_letter_tones v_orders_size v_orders_least f_orders_row f_orders_best v_office_count v_office_letterTold v_office_firstTone v_office_firstMarks k_office_lean k_office_sets k_office_drops k_office_keeps)) (st1 := [.int y5]) ⟨hx, hb, hml, hown, hts⟩ (c_X3_hasAll l G a_office a_office_clerks v_office_count v_office_letterTold v_office_firstTone v_office_firstMarks x1 y5 hc5) (cwV 1 hts gX7_drift_X3_hasAll rfl rfl rfl (by decide +kernel) ⟨Nat.le_of_ble_eq_true rfl, Nat.le_of_ble_eq_true rfl⟩) hK hE hP hD hS hA [6] rfl rfl 0 3 rfl rfl rfl rfl rfl rfl hl.1 rfl (Nat.le_of_ble_eq_true rfl) dX7_drift_5 (Nat.zero_le _) (Nat.zero_le _) rfl (fun H locs hP hD hS => ?_)
  refine lv_if_eq (tgt := 16) hx hb dX7_drift_8 (by decide) (fun c8 => ?_) (fun c8 => ?_)
  · have h := zt c8 h
    refine lv_iconst (v := ((-1) : Int32)) hx hb dX7_drift_16 (by decide) ?_
    cases h
    exact W.iret hx hb hr (fun t9 ht9 _ => zend hP hD hS ht9) hS.2.2 dX7_drift_17
  · have h := zf c8 h
    refine lv_iload_n hx hb dX7_drift_11 rfl (lv_at hl 2 rfl) ?_
    refine lv_iconst (v := ((-1) : Int32)) hx hb dX7_drift_12 (by decide) ?_
    refine lv_icmp_ge (tgt := 18) hx hb dX7_drift_13 (by decide) (fun c13 => ?_) (fun c13 => ?_)
    · have h := zt c13 h
      refine lv_aload_n hx hb dX7_drift_18 rfl (lv_at hl 0 rfl) ?_
      refine va_get (D := G.1) (ci := 7) (v := .ref a_orders) (C := RX7) (T := TX7) (N := 9) hx hb hts in_X7_drift_X7 hown hK.1 hP 0 rfl rfl 5 (by decide) (hts (.fieldLink RX7 44 "NineHands" "orders" "LNineHands$Orders;") (by decide +kernel)) (fun _ h9 => h9) rfl dX7_drift_19 ?_
      refine lv_aload_n hx hb dX7_drift_22 rfl (lv_at hl 0 rfl) ?_
      refine va_get (D := G.1) (ci := 7) (v := .ref a_office) (C := RX7) (T := TX7) (N := 9) hx hb hts in_X7_drift_X7 hown hK.1 hP 0 rfl rfl 6 (by decide) (hts (.fieldLink RX7 51 "NineHands" "office" "LNineHands$Office;") (by decide +kernel)) (fun _ h9 => h9) rfl dX7_drift_23 ?_
      refine lv_iload_n hx hb dX7_drift_26 rfl (lv_at hl 1 rfl) ?_
      refine lv_aload_n hx hb dX7_drift_27 rfl (lv_at hl 0 rfl) ?_
      refine va_get (D := G.1) (ci := 7) (v := .ref a_letter) (C := RX7) (T := TX7) (N := 9) hx hb hts in_X7_drift_X7 hown hK.1 hP 0 rfl rfl 1 (by decide) (hts (.fieldLink RX7 19 "NineHands" "letter" "LNineHands$Letter;") (by decide +kernel)) (fun _ h9 => h9) rfl dX7_drift_28 ?_
      obtain ⟨y31, hc31, h⟩ := zb1_e h
      refine zcV (As := []) (rest := [.int x1, .ref a_office, .ref a_orders]) (ws' := (w_X7_drift G a a_text a_letter a_letter_tones a_letter_marks a_letter_writers a_images a_samples a_copies a_orders a_orders_row a_orders_best a_office a_office_clerks ca_office_clk a_draft a_office a_draft v_traced v_letter_lines v_letter_luck f_letter_tones v_orders_size v_orders_least f_orders_row f_orders_best v_office_count v_office_letterTold v_office_firstTone v_office_firstMarks k_office_lean k_office_sets k_office_drops k_office_keeps)) (st1 := [.int y31, .int x1, .ref a_office, .ref a_orders]) ⟨hx, hb, hml, hown, hts⟩ (c_X2_lastTone l G a_letter a_letter_tones a_letter_marks a_letter_writers v_letter_lines v_letter_luck f_letter_tones y31 hc31) (cwV 0 hts gX7_drift_X2_lastTone rfl rfl rfl (by decide +kernel) ⟨Nat.le_of_ble_eq_true rfl, Nat.le_of_ble_eq_true rfl⟩) hK hE hP hD hS hA [1, 2] rfl rfl 0 2 rfl rfl rfl rfl rfl rfl hl.1 rfl (Nat.le_of_ble_eq_true rfl) dX7_drift_31 (Nat.zero_le _) (Nat.zero_le _) rfl (fun H locs hP hD hS => ?_)
      refine lv_aload_n hx hb dX7_drift_34 rfl (lv_at hl 0 rfl) ?_
      refine va_get (D := G.1) (ci := 7) (v := .ref a_letter) (C := RX7) (T := TX7) (N := 9) hx hb hts in_X7_drift_X7 hown hK.1 hP 0 rfl rfl 1 (by decide) (hts (.fieldLink RX7 19 "NineHands" "letter" "LNineHands$Letter;") (by decide +kernel)) (fun _ h9 => h9) rfl dX7_drift_35 ?_
      obtain ⟨y38, hc38, h⟩ := zb1_e h
      refine zcV (As := []) (rest := [.int y31, .int x1, .ref a_office, .ref a_orders]) (ws' := (w_X7_drift G a a_text a_letter a_letter_tones a_letter_marks a_letter_writers a_images a_samples a_copies a_orders a_orders_row a_orders_best a_office a_office_clerks ca_office_clk a_draft a_office a_draft v_traced v_letter_lines v_letter_luck f_letter_tones v_orders_size v_orders_least f_orders_row f_orders_best v_office_count v_office_letterTold v_office_firstTone v_office_firstMarks k_office_lean k_office_sets k_office_drops k_office_keeps)) (st1 := [.int y38, .int y31, .int x1, .ref a_office, .ref a_orders]) ⟨hx, hb, hml, hown, hts⟩ (c_X2_lastTone l G a_letter a_letter_tones a_letter_marks a_letter_writers v_letter_lines v_letter_luck f_letter_tones y38 hc38) (cwV 0 hts gX7_drift_X2_lastTone rfl rfl rfl (by decide +kernel) ⟨Nat.le_of_ble_eq_true rfl, Nat.le_of_ble_eq_true rfl⟩) hK hE hP hD hS hA [1, 2] rfl rfl 0 2 rfl rfl rfl rfl rfl rfl hl.1 rfl (Nat.le_of_ble_eq_true rfl) dX7_drift_38 (Nat.zero_le _) (Nat.zero_le _) rfl (fun H locs hP hD hS => ?_)
      refine lv_iconst (v := (1 : Int32)) hx hb dX7_drift_41 (by decide) ?_
      obtain ⟨y42_v_size, y42_v_least, y42_f_row, y42_f_best, hc42, h⟩ := zb4_e h
      refine zcV (As := [.ref a_office, .int x1, .int y31, .int y38, .int (1 : Int32)]) (rest := []) (ws' := (w_X7_drift G a a_text a_letter a_letter_tones a_letter_marks a_letter_writers a_images a_samples a_copies a_orders a_orders_row a_orders_best a_office a_office_clerks ca_office_clk a_draft a_office a_draft v_traced v_letter_lines v_letter_luck f_letter_tones y42_v_size y42_v_least y42_f_row y42_f_best v_office_count v_office_letterTold v_office_firstTone v_office_firstMarks k_office_lean k_office_sets k_office_drops k_office_keeps)) (st1 := []) ⟨hx, hb, hml, hown, hts⟩ (c_X4_seek l G fu a_orders a_orders_row a_orders_best a_office a_office_clerks ca_office_clk v_orders_size v_orders_least f_orders_row f_orders_best v_office_count v_office_letterTold v_office_firstTone v_office_firstMarks k_office_lean k_office_sets k_office_drops k_office_keeps x1 y31 y38 (1 : Int32) y42_v_size y42_v_least y42_f_row y42_f_best hc42) (cwV 5 hts gX7_drift_X4_seek rfl rfl rfl (by decide +kernel) ⟨Nat.le_of_ble_eq_true rfl, Nat.le_of_ble_eq_true rfl⟩) hK hE hP hD hS hA [3, 4, 5, 6, 7, 8, 9, 10, 11, 12, 13] rfl rfl 0 4 rfl rfl rfl rfl rfl rfl hl.1 rfl (Nat.le_of_ble_eq_true rfl) dX7_drift_42 (Nat.zero_le _) (Nat.zero_le _) rfl (fun H locs hP hD hS => ?_)
      refine lv_aload_n hx hb dX7_drift_45 rfl (lv_at hl 0 rfl) ?_
      refine va_get (D := G.1) (ci := 7) (v := .ref a_orders) (C := RX7) (T := TX7) (N := 9) hx hb hts in_X7_drift_X7 hown hK.1 hP 0 rfl rfl 5 (by decide) (hts (.fieldLink RX7 44 "NineHands" "orders" "LNineHands$Orders;") (by decide +kernel)) (fun _ h9 => h9) rfl dX7_drift_46 ?_
      refine lv_iload_n hx hb dX7_drift_49 rfl (lv_at hl 2 rfl) ?_
      obtain ⟨y50, hc50, h⟩ := zb1_e h
      refine zcV (As := [.int x2]) (rest := []) (ws' := (w_X7_drift G a a_text a_letter a_letter_tones a_letter_marks a_letter_writers a_images a_samples a_copies a_orders a_orders_row a_orders_best a_office a_office_clerks ca_office_clk a_draft a_office a_draft v_traced v_letter_lines v_letter_luck f_letter_tones y42_v_size y42_v_least y42_f_row y42_f_best v_office_count v_office_letterTold v_office_firstTone v_office_firstMarks k_office_lean k_office_sets k_office_drops k_office_keeps)) (st1 := [.int y50]) ⟨hx, hb, hml, hown, hts⟩ (c_X4_answer l G a_orders a_orders_row a_orders_best y42_v_size y42_v_least y42_f_best x2 y50 hc50) (cwV 1 hts gX7_drift_X4_answer rfl rfl rfl (by decide +kernel) ⟨Nat.le_of_ble_eq_true rfl, Nat.le_of_ble_eq_true rfl⟩) hK hE hP hD hS hA [3, 5] rfl rfl 0 4 rfl rfl rfl rfl rfl rfl hl.1 rfl (Nat.le_of_ble_eq_true rfl) dX7_drift_50 (Nat.zero_le _) (Nat.zero_le _) rfl (fun H locs hP hD hS => ?_)
      cases h
      exact W.iret hx hb hr (fun t9 ht9 _ => zend hP hD hS ht9) hS.2.2 dX7_drift_53
    · have h := zf c13 h
      refine lv_iconst (v := ((-1) : Int32)) hx hb dX7_drift_16 (by decide) ?_
      cases h
      exact W.iret hx hb hr (fun t9 ht9 _ => zend hP hD hS ht9) hS.2.2 dX7_drift_17
abbrev w_X7_sign (G : zG) (a : Nat) (a_text : Nat) (a_letter : Nat) (a_images : Nat) (a_samples : Nat) (a_samples_tones : Nat) (a_samples_marks : Nat) (a_samples_thenTones : Nat) (a_samples_thenMarks : Nat) (a_copies : Nat) (a_orders : Nat) (a_office : Nat) (a_draft : Nat) (r_office : Nat) (r_draft : Nat) (v_traced : Int64) (v_samples_count : Int32) (f_samples_tones : (Nat → Int32)) (f_samples_marks : (Nat → Int32)) (f_samples_thenTones : (Nat → Int32)) (f_samples_thenMarks : (Nat → Int32)) : va_W := [(a, .inr (7, [.ref a_text, .ref a_letter, .ref a_images, .ref a_samples, .ref a_copies, .ref a_orders, .ref r_office, .ref r_draft, .long v_traced])), (a_samples, .inr (5, [.ref a_samples_tones, .ref a_samples_marks, .ref a_samples_thenTones, .ref a_samples_thenMarks, .int v_samples_count])), (a_samples_tones, .inl (zCI G, 8, .inl f_samples_tones)), (a_samples_marks, .inl (zCI G, 8, .inl f_samples_marks)), (a_samples_thenTones, .inl (zCI G, 8, .inl f_samples_thenTones)), (a_samples_thenMarks, .inl (zCI G, 8, .inl f_samples_thenMarks))]
theorem in_X7_sign_X5 : ∀ w ∈ wsX50, w ∈ wsX7_sign := by decide +kernel
theorem in_X7_sign_X7 : ∀ w ∈ wsX70, w ∈ wsX7_sign := by decide +kernel
set_option maxHeartbeats 4000000 in
set_option maxRecDepth 100000 in
theorem c_X7_sign (l : Launch) (G : zG) (a : Nat) (a_text : Nat) (a_letter : Nat) (a_images : Nat) (a_samples : Nat) (a_samples_tones : Nat) (a_samples_marks : Nat) (a_samples_thenTones : Nat) (a_samples_thenMarks : Nat) (a_copies : Nat) (a_orders : Nat) (a_office : Nat) (a_draft : Nat) (v_traced : Int64) (v_samples_count : Int32) (f_samples_tones : (Nat → Int32)) (f_samples_marks : (Nat → Int32)) (f_samples_thenTones : (Nat → Int32)) (f_samples_thenMarks : (Nat → Int32)) (x1 : Int32) (x2 : Int32) (x3 : Int32) (x4 : Int32) (rv : Int32) (ov_samples_count : Int32) (of_samples_tones : (Nat → Int32)) (of_samples_marks : (Nat → Int32)) (of_samples_thenTones : (Nat → Int32)) (of_samples_thenMarks : (Nat → Int32)) (h : fX7_sign v_samples_count f_samples_tones f_samples_marks f_samples_thenTones f_samples_thenMarks x1 x2 x3 x4 = some (rv, ov_samples_count, of_samples_tones, of_samples_marks, of_samples_thenTones, of_samples_thenMarks)) : zC l yX7_sign wsX7_sign 2 44 G [.ref a, .int x1, .int x2, .int x3, .int x4] (w_X7_sign G a a_text a_letter a_images a_samples a_samples_tones a_samples_marks a_samples_thenTones a_samples_thenMarks a_copies a_orders a_office a_draft a_office a_draft v_traced v_samples_count f_samples_tones f_samples_marks f_samples_thenTones f_samples_thenMarks) (some (.int rv)) (w_X7_sign G a a_text a_letter a_images a_samples a_samples_tones a_samples_marks a_samples_thenTones a_samples_thenMarks a_copies a_orders a_office a_draft a_office a_draft v_traced ov_samples_count of_samples_tones of_samples_marks of_samples_thenTones of_samples_thenMarks) := by
  refine fun sz => Met.ofW (cc := cX7_sign) (maxL := 5) (ret := (some .int)) (by decide) rfl ?_
  intro p e s m args below meth c s₁ B hml hv
  obtain ⟨rfl, hsz, hP, hK, hD0, hE⟩ := hv
  have hx := B.exec
  have hb := B.bytes
  have hr := B.returns
  have hts := atoms_spec (ws := wsX7_sign) B.pre
  have hown : s.vm.findClass RX7 = some m.cls := findClass_of_methodNamed B.named
  have hlocks := B.notSynchronized
  subst hsz
  have hD := hD0.self (sz := s.heap.size)
  generalize hAe : va_A (w_X7_sign G a a_text a_letter a_images a_samples a_samples_tones a_samples_marks a_samples_thenTones a_samples_thenMarks a_copies a_orders a_office a_draft a_office a_draft v_traced v_samples_count f_samples_tones f_samples_marks f_samples_thenTones f_samples_thenMarks) s.heap.size = A at hD hE ⊢
  have hA : ∀ q : Nat, s.heap.size ≤ q → A q := fun q h => by rw [← hAe]; exact Or.inr h
  have hS : va_S A s.heap s.heap [] := va_S.rf
  have hl := lv_entry ([.ref a, .int x1, .int x2, .int x3, .int x4]) (n := 5) (Nat.le_of_ble_eq_true rfl)
  rw [lg_entry_eq]
  generalize (lg_sl ([.ref a, .int x1, .int x2, .int x3, .int x4]) ++ List.replicate (5 - (lg_sl ([.ref a, .int x1, .int x2, .int x3, .int x4])).length) Slot.unset).toArray = ls at hl ⊢
  have hl : lv_has ls 5 [(0, .ref a), (1, .int x1), (2, .int x2), (3, .int x3), (4, .int x4)] := hl
  have hP : va_P G.1 vwCl (w_X7_sign G a a_text a_letter a_images a_samples a_samples_tones a_samples_marks a_samples_thenTones a_samples_thenMarks a_copies a_orders a_office a_draft a_office a_draft v_traced v_samples_count f_samples_tones f_samples_marks f_samples_thenTones f_samples_thenMarks) s.heap := hP
  rw [fX7_sign] at h
  refine lv_iload_n hx hb dX7_sign_0 rfl (lv_at hl 1 rfl) ?_
  refine lv_iload_n hx hb dX7_sign_1 rfl (lv_at hl 2 rfl) ?_
  obtain ⟨y2, hc2, h⟩ := zb1_e h
  refine zcS (As := [.int x1, .int x2]) (rest := []) (ws' := (w_X7_sign G a a_text a_letter a_images a_samples a_samples_tones a_samples_marks a_samples_thenTones a_samples_thenMarks a_copies a_orders a_office a_draft a_office a_draft v_traced v_samples_count f_samples_tones f_samples_marks f_samples_thenTones f_samples_thenMarks)) (st1 := [.int y2]) ⟨hx, hb, hml, hown, hts⟩ (c_X7_isLine l G x1 x2 y2 hc2) (va_cwS 2 hts gX7_sign_X7_isLine rfl rfl rfl (by decide +kernel) ⟨Nat.le_of_ble_eq_true rfl, Nat.le_of_ble_eq_true rfl⟩) hK hE hP hD hS hA [] rfl rfl rfl rfl rfl hl.1 rfl (Nat.le_of_ble_eq_true rfl) dX7_sign_2 (Nat.zero_le _) (Nat.zero_le _) rfl (fun H locs hP hD hS => ?_)
  refine lv_if_eq (tgt := 17) hx hb dX7_sign_5 (by decide) (fun c5 => ?_) (fun c5 => ?_)
  · have h := zt c5 h
    refine lv_iconst (v := ((-1) : Int32)) hx hb dX7_sign_17 (by decide) ?_
    cases h
    exact W.iret hx hb hr (fun t9 ht9 _ => zend hP hD hS ht9) hS.2.2 dX7_sign_18
  · have h := zf c5 h
    refine lv_iload_n hx hb dX7_sign_8 rfl (lv_at hl 3 rfl) ?_
    refine lv_iload hx hb dX7_sign_9 (lv_at hl 4 rfl) ?_
    obtain ⟨y11, hc11, h⟩ := zb1_e h
    refine zcS (As := [.int x3, .int x4]) (rest := []) (ws' := (w_X7_sign G a a_text a_letter a_images a_samples a_samples_tones a_samples_marks a_samples_thenTones a_samples_thenMarks a_copies a_orders a_office a_draft a_office a_draft v_traced v_samples_count f_samples_tones f_samples_marks f_samples_thenTones f_samples_thenMarks)) (st1 := [.int y11]) ⟨hx, hb, hml, hown, hts⟩ (c_X7_isLine l G x3 x4 y11 hc11) (va_cwS 2 hts gX7_sign_X7_isLine rfl rfl rfl (by decide +kernel) ⟨Nat.le_of_ble_eq_true rfl, Nat.le_of_ble_eq_true rfl⟩) hK hE hP hD hS hA [] rfl rfl rfl rfl rfl hl.1 rfl (Nat.le_of_ble_eq_true rfl) dX7_sign_11 (Nat.zero_le _) (Nat.zero_le _) rfl (fun H locs hP hD hS => ?_)
    refine lv_if_ne (tgt := 19) hx hb dX7_sign_14 (by decide) (fun c14 => ?_) (fun c14 => ?_)
    · have h := zf c14 h
      refine lv_aload_n hx hb dX7_sign_19 rfl (lv_at hl 0 rfl) ?_
      refine va_get (D := G.1) (ci := 7) (v := .ref a_samples) (C := RX7) (T := TX7) (N := 9) hx hb hts in_X7_sign_X7 hown hK.1 hP 0 rfl rfl 3 (by decide) (hts (.fieldLink RX7 30 "NineHands" "samples" "LNineHands$Samples;") (by decide +kernel)) (fun _ h9 => h9) rfl dX7_sign_20 ?_
      obtain ⟨y23, hc23, h⟩ := zb1_e h
      refine zcV (As := []) (rest := []) (ws' := (w_X7_sign G a a_text a_letter a_images a_samples a_samples_tones a_samples_marks a_samples_thenTones a_samples_thenMarks a_copies a_orders a_office a_draft a_office a_draft v_traced v_samples_count f_samples_tones f_samples_marks f_samples_thenTones f_samples_thenMarks)) (st1 := [.int y23]) ⟨hx, hb, hml, hown, hts⟩ (c_X5_isFull l G a_samples a_samples_tones a_samples_marks a_samples_thenTones a_samples_thenMarks v_samples_count y23 hc23) (cwV 0 hts gX7_sign_X5_isFull rfl rfl rfl (by decide +kernel) ⟨Nat.le_of_ble_eq_true rfl, Nat.le_of_ble_eq_true rfl⟩) hK hE hP hD hS hA [1] rfl rfl 0 5 rfl rfl rfl rfl rfl rfl hl.1 rfl (Nat.le_of_ble_eq_true rfl) dX7_sign_23 (Nat.zero_le _) (Nat.zero_le _) rfl (fun H locs hP hD hS => ?_)
      refine lv_if_eq (tgt := 32) hx hb dX7_sign_26 (by decide) (fun c26 => ?_) (fun c26 => ?_)
      · have h := zt c26 h
        refine lv_aload_n hx hb dX7_sign_32 rfl (lv_at hl 0 rfl) ?_
        refine va_get (D := G.1) (ci := 7) (v := .ref a_samples) (C := RX7) (T := TX7) (N := 9) hx hb hts in_X7_sign_X7 hown hK.1 hP 0 rfl rfl 3 (by decide) (hts (.fieldLink RX7 30 "NineHands" "samples" "LNineHands$Samples;") (by decide +kernel)) (fun _ h9 => h9) rfl dX7_sign_33 ?_
        refine lv_iload_n hx hb dX7_sign_36 rfl (lv_at hl 1 rfl) ?_
        refine lv_iload_n hx hb dX7_sign_37 rfl (lv_at hl 2 rfl) ?_
        refine lv_iload_n hx hb dX7_sign_38 rfl (lv_at hl 3 rfl) ?_
        refine lv_iload hx hb dX7_sign_39 (lv_at hl 4 rfl) ?_
        obtain ⟨y41_v_count, y41_f_tones, y41_f_marks, y41_f_thenTones, y41_f_thenMarks, hc41, h⟩ := zb5_e h
        refine zcV (As := [.int x1, .int x2, .int x3, .int x4]) (rest := []) (ws' := (w_X7_sign G a a_text a_letter a_images a_samples a_samples_tones a_samples_marks a_samples_thenTones a_samples_thenMarks a_copies a_orders a_office a_draft a_office a_draft v_traced y41_v_count y41_f_tones y41_f_marks y41_f_thenTones y41_f_thenMarks)) (st1 := []) ⟨hx, hb, hml, hown, hts⟩ (c_X5_add l G a_samples a_samples_tones a_samples_marks a_samples_thenTones a_samples_thenMarks v_samples_count f_samples_tones f_samples_marks f_samples_thenTones f_samples_thenMarks x1 x2 x3 x4 y41_v_count y41_f_tones y41_f_marks y41_f_thenTones y41_f_thenMarks hc41) (cwV 4 hts gX7_sign_X5_add rfl rfl rfl (by decide +kernel) ⟨Nat.le_of_ble_eq_true rfl, Nat.le_of_ble_eq_true rfl⟩) hK hE hP hD hS hA [1, 2, 3, 4, 5] rfl rfl 0 5 rfl rfl rfl rfl rfl rfl hl.1 rfl (Nat.le_of_ble_eq_true rfl) dX7_sign_41 (Nat.zero_le _) (Nat.zero_le _) rfl (fun H locs hP hD hS => ?_)
        refine lv_aload_n hx hb dX7_sign_44 rfl (lv_at hl 0 rfl) ?_
        refine va_get (D := G.1) (ci := 7) (v := .ref a_samples) (C := RX7) (T := TX7) (N := 9) hx hb hts in_X7_sign_X7 hown hK.1 hP 0 rfl rfl 3 (by decide) (hts (.fieldLink RX7 30 "NineHands" "samples" "LNineHands$Samples;") (by decide +kernel)) (fun _ h9 => h9) rfl dX7_sign_45 ?_
        refine va_getN (D := G.1) (ci := 5) (v := .int y41_v_count) (C := RX5) (T := TX5) (N := 5) hx hb hts in_X7_sign_X5 hown hK.1 hP 1 rfl rfl 4 (by decide) (va_Nw.use rfl (hK.2.1.1 ("NineHands", 198, "NineHands$Samples", "count", "I", "NineHands") (by decide +kernel))) (fun _ h9 => h9) rfl dX7_sign_48 ?_
        cases h
        exact W.iret hx hb hr (fun t9 ht9 _ => zend hP hD hS ht9) hS.2.2 dX7_sign_51
      · have h := zf c26 h
        refine lv_bipush (v := ((-3) : Int32)) hx hb dX7_sign_29 (by decide) ?_
        cases h
        exact W.iret hx hb hr (fun t9 ht9 _ => zend hP hD hS ht9) hS.2.2 dX7_sign_31
    · have h := zt c14 h
      refine lv_iconst (v := ((-1) : Int32)) hx hb dX7_sign_17 (by decide) ?_
      cases h
      exact W.iret hx hb hr (fun t9 ht9 _ => zend hP hD hS ht9) hS.2.2 dX7_sign_18
abbrev w_X7_learnt (G : zG) (a : Nat) (a_text : Nat) (a_letter : Nat) (a_images : Nat) (a_samples : Nat) (a_samples_tones : Nat) (a_samples_marks : Nat) (a_samples_thenTones : Nat) (a_samples_thenMarks : Nat) (a_copies : Nat) (a_orders : Nat) (a_office : Nat) (a_draft : Nat) (r_office : Nat) (r_draft : Nat) (v_traced : Int64) (v_samples_count : Int32) (f_samples_tones : (Nat → Int32)) (f_samples_marks : (Nat → Int32)) (f_samples_thenTones : (Nat → Int32)) (f_samples_thenMarks : (Nat → Int32)) : va_W := [(a, .inr (7, [.ref a_text, .ref a_letter, .ref a_images, .ref a_samples, .ref a_copies, .ref a_orders, .ref r_office, .ref r_draft, .long v_traced])), (a_samples, .inr (5, [.ref a_samples_tones, .ref a_samples_marks, .ref a_samples_thenTones, .ref a_samples_thenMarks, .int v_samples_count])), (a_samples_tones, .inl (zCI G, 8, .inl f_samples_tones)), (a_samples_marks, .inl (zCI G, 8, .inl f_samples_marks)), (a_samples_thenTones, .inl (zCI G, 8, .inl f_samples_thenTones)), (a_samples_thenMarks, .inl (zCI G, 8, .inl f_samples_thenMarks))]
theorem in_X7_learnt_X7 : ∀ w ∈ wsX70, w ∈ wsX7_learnt := by decide +kernel
set_option maxHeartbeats 4000000 in
set_option maxRecDepth 100000 in
theorem c_X7_learnt (l : Launch) (G : zG) (fu : Nat) (a : Nat) (a_text : Nat) (a_letter : Nat) (a_images : Nat) (a_samples : Nat) (a_samples_tones : Nat) (a_samples_marks : Nat) (a_samples_thenTones : Nat) (a_samples_thenMarks : Nat) (a_copies : Nat) (a_orders : Nat) (a_office : Nat) (a_draft : Nat) (v_traced : Int64) (v_samples_count : Int32) (f_samples_tones : (Nat → Int32)) (f_samples_marks : (Nat → Int32)) (f_samples_thenTones : (Nat → Int32)) (f_samples_thenMarks : (Nat → Int32)) (x1 : Int32) (rv : Int32) (h : fX7_learnt fu v_samples_count f_samples_tones f_samples_marks f_samples_thenTones f_samples_thenMarks x1 = some rv) : zC l yX7_learnt wsX7_learnt 5 108 G [.ref a, .int x1] (w_X7_learnt G a a_text a_letter a_images a_samples a_samples_tones a_samples_marks a_samples_thenTones a_samples_thenMarks a_copies a_orders a_office a_draft a_office a_draft v_traced v_samples_count f_samples_tones f_samples_marks f_samples_thenTones f_samples_thenMarks) (some (.int rv)) (w_X7_learnt G a a_text a_letter a_images a_samples a_samples_tones a_samples_marks a_samples_thenTones a_samples_thenMarks a_copies a_orders a_office a_draft a_office a_draft v_traced v_samples_count f_samples_tones f_samples_marks f_samples_thenTones f_samples_thenMarks) := by
  refine fun sz => Met.ofW (cc := cX7_learnt) (maxL := 2) (ret := (some .int)) (by decide) rfl ?_
  intro p e s m args below meth c s₁ B hml hv
  obtain ⟨rfl, hsz, hP, hK, hD0, hE⟩ := hv
  have hx := B.exec
  have hb := B.bytes
  have hr := B.returns
  have hts := atoms_spec (ws := wsX7_learnt) B.pre
  have hown : s.vm.findClass RX7 = some m.cls := findClass_of_methodNamed B.named
  have hlocks := B.notSynchronized
  subst hsz
  have hD := hD0.self (sz := s.heap.size)
  generalize hAe : va_A (w_X7_learnt G a a_text a_letter a_images a_samples a_samples_tones a_samples_marks a_samples_thenTones a_samples_thenMarks a_copies a_orders a_office a_draft a_office a_draft v_traced v_samples_count f_samples_tones f_samples_marks f_samples_thenTones f_samples_thenMarks) s.heap.size = A at hD hE ⊢
  have hA : ∀ q : Nat, s.heap.size ≤ q → A q := fun q h => by rw [← hAe]; exact Or.inr h
  have hS : va_S A s.heap s.heap [] := va_S.rf
  have hl := lv_entry ([.ref a, .int x1]) (n := 2) (Nat.le_of_ble_eq_true rfl)
  rw [lg_entry_eq]
  generalize (lg_sl ([.ref a, .int x1]) ++ List.replicate (2 - (lg_sl ([.ref a, .int x1])).length) Slot.unset).toArray = ls at hl ⊢
  have hl : lv_has ls 2 [(0, .ref a), (1, .int x1)] := hl
  have hP : va_P G.1 vwCl (w_X7_learnt G a a_text a_letter a_images a_samples a_samples_tones a_samples_marks a_samples_thenTones a_samples_thenMarks a_copies a_orders a_office a_draft a_office a_draft v_traced v_samples_count f_samples_tones f_samples_marks f_samples_thenTones f_samples_thenMarks) s.heap := hP
  rw [fX7_learnt] at h
  refine lv_iload_n hx hb dX7_learnt_0 rfl (lv_at hl 1 rfl) ?_
  refine lv_if_lt (tgt := 9) hx hb dX7_learnt_1 (by decide) (fun c1 => ?_) (fun c1 => ?_)
  · have h := zt c1 h
    refine lv_iconst (v := ((-1) : Int32)) hx hb dX7_learnt_9 (by decide) ?_
    cases h
    exact W.iret hx hb hr (fun t9 ht9 _ => zend hP hD hS ht9) hS.2.2 dX7_learnt_10
  · have h := zf c1 h
    refine lv_iload_n hx hb dX7_learnt_4 rfl (lv_at hl 1 rfl) ?_
    refine lv_iconst (v := (5 : Int32)) hx hb dX7_learnt_5 (by decide) ?_
    refine lv_icmp_le (tgt := 11) hx hb dX7_learnt_6 (by decide) (fun c6 => ?_) (fun c6 => ?_)
    · have h := zt c6 h
      refine lv_aload_n hx hb dX7_learnt_11 rfl (lv_at hl 0 rfl) ?_
      refine va_get (D := G.1) (ci := 7) (v := .ref a_samples) (C := RX7) (T := TX7) (N := 9) hx hb hts in_X7_learnt_X7 hown hK.1 hP 0 rfl rfl 3 (by decide) (hts (.fieldLink RX7 30 "NineHands" "samples" "LNineHands$Samples;") (by decide +kernel)) (fun _ h9 => h9) rfl dX7_learnt_12 ?_
      obtain ⟨y15, hc15, h⟩ := zb1_e h
      refine zcV (As := []) (rest := []) (ws' := (w_X7_learnt G a a_text a_letter a_images a_samples a_samples_tones a_samples_marks a_samples_thenTones a_samples_thenMarks a_copies a_orders a_office a_draft a_office a_draft v_traced v_samples_count f_samples_tones f_samples_marks f_samples_thenTones f_samples_thenMarks)) (st1 := [.int y15]) ⟨hx, hb, hml, hown, hts⟩ (c_X5_fitOneHabit l G fu a_samples a_samples_tones a_samples_marks a_samples_thenTones a_samples_thenMarks v_samples_count f_samples_tones f_samples_marks f_samples_thenTones f_samples_thenMarks y15 hc15) (cwV 0 hts gX7_learnt_X5_fitOneHabit rfl rfl rfl (by decide +kernel) ⟨Nat.le_of_ble_eq_true rfl, Nat.le_of_ble_eq_true rfl⟩) hK hE hP hD hS hA [1, 2, 3, 4, 5] rfl rfl 0 5 rfl rfl rfl rfl rfl rfl hl.1 rfl (Nat.le_of_ble_eq_true rfl) dX7_learnt_15 (Nat.zero_le _) (Nat.zero_le _) rfl (fun H locs hP hD hS => ?_)
      refine lv_if_ne (tgt := 24) hx hb dX7_learnt_18 (by decide) (fun c18 => ?_) (fun c18 => ?_)
      · have h := zf c18 h
        refine lv_iload_n hx hb dX7_learnt_24 rfl (lv_at hl 1 rfl) ?_
        by_cases c25_0 : x1 = (0 : Int32)
        · have h := zt c25_0 h
          refine lv_tableIn (off := 35) (tgt := 60) hx hb dX7_learnt_25 (by rw [c25_0]; decide) (by rw [c25_0]; decide) (by rw [c25_0]; rfl) (by decide) ?_
          refine lv_aload_n hx hb dX7_learnt_60 rfl (lv_at hl 0 rfl) ?_
          refine va_get (D := G.1) (ci := 7) (v := .ref a_samples) (C := RX7) (T := TX7) (N := 9) hx hb hts in_X7_learnt_X7 hown hK.1 hP 0 rfl rfl 3 (by decide) (hts (.fieldLink RX7 30 "NineHands" "samples" "LNineHands$Samples;") (by decide +kernel)) (fun _ h9 => h9) rfl dX7_learnt_61 ?_
          obtain ⟨y64, hc64, h⟩ := zb1_e h
          refine zcV (As := []) (rest := []) (ws' := (w_X7_learnt G a a_text a_letter a_images a_samples a_samples_tones a_samples_marks a_samples_thenTones a_samples_thenMarks a_copies a_orders a_office a_draft a_office a_draft v_traced v_samples_count f_samples_tones f_samples_marks f_samples_thenTones f_samples_thenMarks)) (st1 := [.int y64]) ⟨hx, hb, hml, hown, hts⟩ (c_X5_leastLean l G fu a_samples a_samples_tones a_samples_marks a_samples_thenTones a_samples_thenMarks v_samples_count f_samples_tones f_samples_thenTones y64 hc64) (cwV 0 hts gX7_learnt_X5_leastLean rfl rfl rfl (by decide +kernel) ⟨Nat.le_of_ble_eq_true rfl, Nat.le_of_ble_eq_true rfl⟩) hK hE hP hD hS hA [1, 2, 4] rfl rfl 0 5 rfl rfl rfl rfl rfl rfl hl.1 rfl (Nat.le_of_ble_eq_true rfl) dX7_learnt_64 (Nat.zero_le _) (Nat.zero_le _) rfl (fun H locs hP hD hS => ?_)
          cases h
          exact W.iret hx hb hr (fun t9 ht9 _ => zend hP hD hS ht9) hS.2.2 dX7_learnt_67
        have h := zf c25_0 h
        by_cases c25_1 : x1 = (1 : Int32)
        · have h := zt c25_1 h
          refine lv_tableIn (off := 43) (tgt := 68) hx hb dX7_learnt_25 (by rw [c25_1]; decide) (by rw [c25_1]; decide) (by rw [c25_1]; rfl) (by decide) ?_
          refine lv_aload_n hx hb dX7_learnt_68 rfl (lv_at hl 0 rfl) ?_
          refine va_get (D := G.1) (ci := 7) (v := .ref a_samples) (C := RX7) (T := TX7) (N := 9) hx hb hts in_X7_learnt_X7 hown hK.1 hP 0 rfl rfl 3 (by decide) (hts (.fieldLink RX7 30 "NineHands" "samples" "LNineHands$Samples;") (by decide +kernel)) (fun _ h9 => h9) rfl dX7_learnt_69 ?_
          obtain ⟨y72, hc72, h⟩ := zb1_e h
          refine zcV (As := []) (rest := []) (ws' := (w_X7_learnt G a a_text a_letter a_images a_samples a_samples_tones a_samples_marks a_samples_thenTones a_samples_thenMarks a_copies a_orders a_office a_draft a_office a_draft v_traced v_samples_count f_samples_tones f_samples_marks f_samples_thenTones f_samples_thenMarks)) (st1 := [.int y72]) ⟨hx, hb, hml, hown, hts⟩ (c_X5_greatestLean l G fu a_samples a_samples_tones a_samples_marks a_samples_thenTones a_samples_thenMarks v_samples_count f_samples_tones f_samples_thenTones y72 hc72) (cwV 0 hts gX7_learnt_X5_greatestLean rfl rfl rfl (by decide +kernel) ⟨Nat.le_of_ble_eq_true rfl, Nat.le_of_ble_eq_true rfl⟩) hK hE hP hD hS hA [1, 2, 4] rfl rfl 0 5 rfl rfl rfl rfl rfl rfl hl.1 rfl (Nat.le_of_ble_eq_true rfl) dX7_learnt_72 (Nat.zero_le _) (Nat.zero_le _) rfl (fun H locs hP hD hS => ?_)
          cases h
          exact W.iret hx hb hr (fun t9 ht9 _ => zend hP hD hS ht9) hS.2.2 dX7_learnt_75
        have h := zf c25_1 h
        by_cases c25_2 : x1 = (2 : Int32)
        · have h := zt c25_2 h
          refine lv_tableIn (off := 51) (tgt := 76) hx hb dX7_learnt_25 (by rw [c25_2]; decide) (by rw [c25_2]; decide) (by rw [c25_2]; rfl) (by decide) ?_
          refine lv_aload_n hx hb dX7_learnt_76 rfl (lv_at hl 0 rfl) ?_
          refine va_get (D := G.1) (ci := 7) (v := .ref a_samples) (C := RX7) (T := TX7) (N := 9) hx hb hts in_X7_learnt_X7 hown hK.1 hP 0 rfl rfl 3 (by decide) (hts (.fieldLink RX7 30 "NineHands" "samples" "LNineHands$Samples;") (by decide +kernel)) (fun _ h9 => h9) rfl dX7_learnt_77 ?_
          obtain ⟨y80, hc80, h⟩ := zb1_e h
          refine zcV (As := []) (rest := []) (ws' := (w_X7_learnt G a a_text a_letter a_images a_samples a_samples_tones a_samples_marks a_samples_thenTones a_samples_thenMarks a_copies a_orders a_office a_draft a_office a_draft v_traced v_samples_count f_samples_tones f_samples_marks f_samples_thenTones f_samples_thenMarks)) (st1 := [.int y80]) ⟨hx, hb, hml, hown, hts⟩ (c_X5_mustSet l G fu a_samples a_samples_tones a_samples_marks a_samples_thenTones a_samples_thenMarks v_samples_count f_samples_marks f_samples_thenMarks y80 hc80) (cwV 0 hts gX7_learnt_X5_mustSet rfl rfl rfl (by decide +kernel) ⟨Nat.le_of_ble_eq_true rfl, Nat.le_of_ble_eq_true rfl⟩) hK hE hP hD hS hA [1, 3, 5] rfl rfl 0 5 rfl rfl rfl rfl rfl rfl hl.1 rfl (Nat.le_of_ble_eq_true rfl) dX7_learnt_80 (Nat.zero_le _) (Nat.zero_le _) rfl (fun H locs hP hD hS => ?_)
          cases h
          exact W.iret hx hb hr (fun t9 ht9 _ => zend hP hD hS ht9) hS.2.2 dX7_learnt_83
        have h := zf c25_2 h
        by_cases c25_3 : x1 = (3 : Int32)
        · have h := zt c25_3 h
          refine lv_tableIn (off := 59) (tgt := 84) hx hb dX7_learnt_25 (by rw [c25_3]; decide) (by rw [c25_3]; decide) (by rw [c25_3]; rfl) (by decide) ?_
          refine lv_aload_n hx hb dX7_learnt_84 rfl (lv_at hl 0 rfl) ?_
          refine va_get (D := G.1) (ci := 7) (v := .ref a_samples) (C := RX7) (T := TX7) (N := 9) hx hb hts in_X7_learnt_X7 hown hK.1 hP 0 rfl rfl 3 (by decide) (hts (.fieldLink RX7 30 "NineHands" "samples" "LNineHands$Samples;") (by decide +kernel)) (fun _ h9 => h9) rfl dX7_learnt_85 ?_
          obtain ⟨y88, hc88, h⟩ := zb1_e h
          refine zcV (As := []) (rest := []) (ws' := (w_X7_learnt G a a_text a_letter a_images a_samples a_samples_tones a_samples_marks a_samples_thenTones a_samples_thenMarks a_copies a_orders a_office a_draft a_office a_draft v_traced v_samples_count f_samples_tones f_samples_marks f_samples_thenTones f_samples_thenMarks)) (st1 := [.int y88]) ⟨hx, hb, hml, hown, hts⟩ (c_X5_mustDrop l G fu a_samples a_samples_tones a_samples_marks a_samples_thenTones a_samples_thenMarks v_samples_count f_samples_marks f_samples_thenMarks y88 hc88) (cwV 0 hts gX7_learnt_X5_mustDrop rfl rfl rfl (by decide +kernel) ⟨Nat.le_of_ble_eq_true rfl, Nat.le_of_ble_eq_true rfl⟩) hK hE hP hD hS hA [1, 3, 5] rfl rfl 0 5 rfl rfl rfl rfl rfl rfl hl.1 rfl (Nat.le_of_ble_eq_true rfl) dX7_learnt_88 (Nat.zero_le _) (Nat.zero_le _) rfl (fun H locs hP hD hS => ?_)
          cases h
          exact W.iret hx hb hr (fun t9 ht9 _ => zend hP hD hS ht9) hS.2.2 dX7_learnt_91
        have h := zf c25_3 h
        by_cases c25_4 : x1 = (4 : Int32)
        · have h := zt c25_4 h
          refine lv_tableIn (off := 67) (tgt := 92) hx hb dX7_learnt_25 (by rw [c25_4]; decide) (by rw [c25_4]; decide) (by rw [c25_4]; rfl) (by decide) ?_
          refine lv_aload_n hx hb dX7_learnt_92 rfl (lv_at hl 0 rfl) ?_
          refine va_get (D := G.1) (ci := 7) (v := .ref a_samples) (C := RX7) (T := TX7) (N := 9) hx hb hts in_X7_learnt_X7 hown hK.1 hP 0 rfl rfl 3 (by decide) (hts (.fieldLink RX7 30 "NineHands" "samples" "LNineHands$Samples;") (by decide +kernel)) (fun _ h9 => h9) rfl dX7_learnt_93 ?_
          obtain ⟨y96, hc96, h⟩ := zb1_e h
          refine zcV (As := []) (rest := []) (ws' := (w_X7_learnt G a a_text a_letter a_images a_samples a_samples_tones a_samples_marks a_samples_thenTones a_samples_thenMarks a_copies a_orders a_office a_draft a_office a_draft v_traced v_samples_count f_samples_tones f_samples_marks f_samples_thenTones f_samples_thenMarks)) (st1 := [.int y96]) ⟨hx, hb, hml, hown, hts⟩ (c_X5_maySet l G fu a_samples a_samples_tones a_samples_marks a_samples_thenTones a_samples_thenMarks v_samples_count f_samples_thenMarks y96 hc96) (cwV 0 hts gX7_learnt_X5_maySet rfl rfl rfl (by decide +kernel) ⟨Nat.le_of_ble_eq_true rfl, Nat.le_of_ble_eq_true rfl⟩) hK hE hP hD hS hA [1, 5] rfl rfl 0 5 rfl rfl rfl rfl rfl rfl hl.1 rfl (Nat.le_of_ble_eq_true rfl) dX7_learnt_96 (Nat.zero_le _) (Nat.zero_le _) rfl (fun H locs hP hD hS => ?_)
          cases h
          exact W.iret hx hb hr (fun t9 ht9 _ => zend hP hD hS ht9) hS.2.2 dX7_learnt_99
        have h := zf c25_4 h
        refine lv_tableOut (tgt := 100) hx hb dX7_learnt_25 (by have e0 := lv_neT c25_0 (a := 0) (by decide); have e1 := lv_neT c25_1 (a := 1) (by decide); have e2 := lv_neT c25_2 (a := 2) (by decide); have e3 := lv_neT c25_3 (a := 3) (by decide); have e4 := lv_neT c25_4 (a := 4) (by decide); omega) (by decide) ?_
        refine lv_aload_n hx hb dX7_learnt_100 rfl (lv_at hl 0 rfl) ?_
        refine va_get (D := G.1) (ci := 7) (v := .ref a_samples) (C := RX7) (T := TX7) (N := 9) hx hb hts in_X7_learnt_X7 hown hK.1 hP 0 rfl rfl 3 (by decide) (hts (.fieldLink RX7 30 "NineHands" "samples" "LNineHands$Samples;") (by decide +kernel)) (fun _ h9 => h9) rfl dX7_learnt_101 ?_
        obtain ⟨y104, hc104, h⟩ := zb1_e h
        refine zcV (As := []) (rest := []) (ws' := (w_X7_learnt G a a_text a_letter a_images a_samples a_samples_tones a_samples_marks a_samples_thenTones a_samples_thenMarks a_copies a_orders a_office a_draft a_office a_draft v_traced v_samples_count f_samples_tones f_samples_marks f_samples_thenTones f_samples_thenMarks)) (st1 := [.int y104]) ⟨hx, hb, hml, hown, hts⟩ (c_X5_mayDrop l G fu a_samples a_samples_tones a_samples_marks a_samples_thenTones a_samples_thenMarks v_samples_count f_samples_thenMarks y104 hc104) (cwV 0 hts gX7_learnt_X5_mayDrop rfl rfl rfl (by decide +kernel) ⟨Nat.le_of_ble_eq_true rfl, Nat.le_of_ble_eq_true rfl⟩) hK hE hP hD hS hA [1, 5] rfl rfl 0 5 rfl rfl rfl rfl rfl rfl hl.1 rfl (Nat.le_of_ble_eq_true rfl) dX7_learnt_104 (Nat.zero_le _) (Nat.zero_le _) rfl (fun H locs hP hD hS => ?_)
        cases h
        exact W.iret hx hb hr (fun t9 ht9 _ => zend hP hD hS ht9) hS.2.2 dX7_learnt_107
      · have h := zt c18 h
        refine lv_bipush (v := ((-9) : Int32)) hx hb dX7_learnt_21 (by decide) ?_
        cases h
        exact W.iret hx hb hr (fun t9 ht9 _ => zend hP hD hS ht9) hS.2.2 dX7_learnt_23
    · have h := zf c6 h
      refine lv_iconst (v := ((-1) : Int32)) hx hb dX7_learnt_9 (by decide) ?_
      cases h
      exact W.iret hx hb hr (fun t9 ht9 _ => zend hP hD hS ht9) hS.2.2 dX7_learnt_10
abbrev w_X7_forget (G : zG) (a : Nat) (a_text : Nat) (a_letter : Nat) (a_images : Nat) (a_samples : Nat) (a_samples_tones : Nat) (a_samples_marks : Nat) (a_samples_thenTones : Nat) (a_samples_thenMarks : Nat) (a_copies : Nat) (a_orders : Nat) (a_office : Nat) (a_draft : Nat) (r_office : Nat) (r_draft : Nat) (v_traced : Int64) (v_samples_count : Int32) : va_W := [(a, .inr (7, [.ref a_text, .ref a_letter, .ref a_images, .ref a_samples, .ref a_copies, .ref a_orders, .ref r_office, .ref r_draft, .long v_traced])), (a_samples, .inr (5, [.ref a_samples_tones, .ref a_samples_marks, .ref a_samples_thenTones, .ref a_samples_thenMarks, .int v_samples_count]))]
theorem in_X7_forget_X5 : ∀ w ∈ wsX50, w ∈ wsX7_forget := by decide +kernel
theorem in_X7_forget_X7 : ∀ w ∈ wsX70, w ∈ wsX7_forget := by decide +kernel
set_option maxHeartbeats 4000000 in
set_option maxRecDepth 100000 in
theorem c_X7_forget (l : Launch) (G : zG) (a : Nat) (a_text : Nat) (a_letter : Nat) (a_images : Nat) (a_samples : Nat) (a_samples_tones : Nat) (a_samples_marks : Nat) (a_samples_thenTones : Nat) (a_samples_thenMarks : Nat) (a_copies : Nat) (a_orders : Nat) (a_office : Nat) (a_draft : Nat) (v_traced : Int64) (v_samples_count : Int32) (rv : Int32) (ov_samples_count : Int32) (h : fX7_forget v_samples_count = some (rv, ov_samples_count)) : zC l yX7_forget wsX7_forget 0 0 G [.ref a] (w_X7_forget G a a_text a_letter a_images a_samples a_samples_tones a_samples_marks a_samples_thenTones a_samples_thenMarks a_copies a_orders a_office a_draft a_office a_draft v_traced v_samples_count) (some (.int rv)) (w_X7_forget G a a_text a_letter a_images a_samples a_samples_tones a_samples_marks a_samples_thenTones a_samples_thenMarks a_copies a_orders a_office a_draft a_office a_draft v_traced ov_samples_count) := by
  refine fun sz => Met.ofW (cc := cX7_forget) (maxL := 2) (ret := (some .int)) (by decide) rfl ?_
  intro p e s m args below meth c s₁ B hml hv
  obtain ⟨rfl, hsz, hP, hK, hD0, hE⟩ := hv
  have hx := B.exec
  have hb := B.bytes
  have hr := B.returns
  have hts := atoms_spec (ws := wsX7_forget) B.pre
  have hown : s.vm.findClass RX7 = some m.cls := findClass_of_methodNamed B.named
  have hlocks := B.notSynchronized
  subst hsz
  have hD := hD0.self (sz := s.heap.size)
  generalize hAe : va_A (w_X7_forget G a a_text a_letter a_images a_samples a_samples_tones a_samples_marks a_samples_thenTones a_samples_thenMarks a_copies a_orders a_office a_draft a_office a_draft v_traced v_samples_count) s.heap.size = A at hD hE ⊢
  have hA : ∀ q : Nat, s.heap.size ≤ q → A q := fun q h => by rw [← hAe]; exact Or.inr h
  have hS : va_S A s.heap s.heap [] := va_S.rf
  have hl := lv_entry ([.ref a]) (n := 2) (Nat.le_of_ble_eq_true rfl)
  rw [lg_entry_eq]
  generalize (lg_sl ([.ref a]) ++ List.replicate (2 - (lg_sl ([.ref a])).length) Slot.unset).toArray = ls at hl ⊢
  have hl : lv_has ls 2 [(0, .ref a)] := hl
  have hP : va_P G.1 vwCl (w_X7_forget G a a_text a_letter a_images a_samples a_samples_tones a_samples_marks a_samples_thenTones a_samples_thenMarks a_copies a_orders a_office a_draft a_office a_draft v_traced v_samples_count) s.heap := hP
  rw [fX7_forget] at h
  refine lv_aload_n hx hb dX7_forget_0 rfl (lv_at hl 0 rfl) ?_
  refine va_get (D := G.1) (ci := 7) (v := .ref a_samples) (C := RX7) (T := TX7) (N := 9) hx hb hts in_X7_forget_X7 hown hK.1 hP 0 rfl rfl 3 (by decide) (hts (.fieldLink RX7 30 "NineHands" "samples" "LNineHands$Samples;") (by decide +kernel)) (fun _ h9 => h9) rfl dX7_forget_1 ?_
  refine va_getN (D := G.1) (ci := 5) (v := .int v_samples_count) (C := RX5) (T := TX5) (N := 5) hx hb hts in_X7_forget_X5 hown hK.1 hP 1 rfl rfl 4 (by decide) (va_Nw.use rfl (hK.2.1.1 ("NineHands", 198, "NineHands$Samples", "count", "I", "NineHands") (by decide +kernel))) (fun _ h9 => h9) rfl dX7_forget_4 ?_
  refine lv_istore_n (lv' := [(1, .int v_samples_count), (0, .ref a)]) hx hb dX7_forget_7 rfl hl (by decide) rfl (fun ls hl => ?_)
  refine lv_aload_n hx hb dX7_forget_8 rfl (lv_at hl 1 rfl) ?_
  refine va_get (D := G.1) (ci := 7) (v := .ref a_samples) (C := RX7) (T := TX7) (N := 9) hx hb hts in_X7_forget_X7 hown hK.1 hP 0 rfl rfl 3 (by decide) (hts (.fieldLink RX7 30 "NineHands" "samples" "LNineHands$Samples;") (by decide +kernel)) (fun _ h9 => h9) rfl dX7_forget_9 ?_
  refine lv_iconst (v := (0 : Int32)) hx hb dX7_forget_12 (by decide) ?_
  refine zputN (D := G.1) (ci := 5) (C := RX5) (T := TX5) (N := 5) (ty := .int) (ws' := (w_X7_forget G a a_text a_letter a_images a_samples a_samples_tones a_samples_marks a_samples_thenTones a_samples_thenMarks a_copies a_orders a_office a_draft a_office a_draft v_traced (0 : Int32))) hx hb hts in_X7_forget_X5 tyX5 tyX5_ok nmX5 hown hK.1 hP hD hS 1 rfl rfl 4 (by decide) (va_Nw.use rfl (hK.2.1.1 ("NineHands", 198, "NineHands$Samples", "count", "I", "NineHands") (by decide +kernel))) (fun _ h9 => h9) rfl (by decide +kernel) rfl rfl (Nat.le_of_ble_eq_true rfl) rfl dX7_forget_13 (fun H locs hP hD hS => ?_)
  refine lv_iload_n hx hb dX7_forget_16 rfl (lv_at hl 0 rfl) ?_
  cases h
  exact W.iret hx hb hr (fun t9 ht9 _ => zend hP hD hS ht9) hS.2.2 dX7_forget_17
abbrev w_X7_copy (G : zG) (a : Nat) (a_text : Nat) (a_letter : Nat) (a_images : Nat) (a_samples : Nat) (a_copies : Nat) (a_copies_slips : Nat) (a_orders : Nat) (a_office : Nat) (a_draft : Nat) (r_office : Nat) (r_draft : Nat) (v_traced : Int64) (v_copies_count : Int32) (f_copies_slips : (Nat → Int32)) : va_W := [(a, .inr (7, [.ref a_text, .ref a_letter, .ref a_images, .ref a_samples, .ref a_copies, .ref a_orders, .ref r_office, .ref r_draft, .long v_traced])), (a_copies, .inr (1, [.ref a_copies_slips, .int v_copies_count])), (a_copies_slips, .inl (zCI G, 8, .inl f_copies_slips))]
theorem in_X7_copy_X1 : ∀ w ∈ wsX10, w ∈ wsX7_copy := by decide +kernel
theorem in_X7_copy_X7 : ∀ w ∈ wsX70, w ∈ wsX7_copy := by decide +kernel
set_option maxHeartbeats 4000000 in
set_option maxRecDepth 100000 in
theorem c_X7_copy (l : Launch) (G : zG) (a : Nat) (a_text : Nat) (a_letter : Nat) (a_images : Nat) (a_samples : Nat) (a_copies : Nat) (a_copies_slips : Nat) (a_orders : Nat) (a_office : Nat) (a_draft : Nat) (v_traced : Int64) (v_copies_count : Int32) (f_copies_slips : (Nat → Int32)) (x1 : Int32) (rv : Int32) (ov_copies_count : Int32) (of_copies_slips : (Nat → Int32)) (h : fX7_copy v_copies_count f_copies_slips x1 = some (rv, ov_copies_count, of_copies_slips)) : zC l yX7_copy wsX7_copy 2 41 G [.ref a, .int x1] (w_X7_copy G a a_text a_letter a_images a_samples a_copies a_copies_slips a_orders a_office a_draft a_office a_draft v_traced v_copies_count f_copies_slips) (some (.int rv)) (w_X7_copy G a a_text a_letter a_images a_samples a_copies a_copies_slips a_orders a_office a_draft a_office a_draft v_traced ov_copies_count of_copies_slips) := by
  refine fun sz => Met.ofW (cc := cX7_copy) (maxL := 2) (ret := (some .int)) (by decide) rfl ?_
  intro p e s m args below meth c s₁ B hml hv
  obtain ⟨rfl, hsz, hP, hK, hD0, hE⟩ := hv
  have hx := B.exec
  have hb := B.bytes
  have hr := B.returns
  have hts := atoms_spec (ws := wsX7_copy) B.pre
  have hown : s.vm.findClass RX7 = some m.cls := findClass_of_methodNamed B.named
  have hlocks := B.notSynchronized
  subst hsz
  have hD := hD0.self (sz := s.heap.size)
  generalize hAe : va_A (w_X7_copy G a a_text a_letter a_images a_samples a_copies a_copies_slips a_orders a_office a_draft a_office a_draft v_traced v_copies_count f_copies_slips) s.heap.size = A at hD hE ⊢
  have hA : ∀ q : Nat, s.heap.size ≤ q → A q := fun q h => by rw [← hAe]; exact Or.inr h
  have hS : va_S A s.heap s.heap [] := va_S.rf
  have hl := lv_entry ([.ref a, .int x1]) (n := 2) (Nat.le_of_ble_eq_true rfl)
  rw [lg_entry_eq]
  generalize (lg_sl ([.ref a, .int x1]) ++ List.replicate (2 - (lg_sl ([.ref a, .int x1])).length) Slot.unset).toArray = ls at hl ⊢
  have hl : lv_has ls 2 [(0, .ref a), (1, .int x1)] := hl
  have hP : va_P G.1 vwCl (w_X7_copy G a a_text a_letter a_images a_samples a_copies a_copies_slips a_orders a_office a_draft a_office a_draft v_traced v_copies_count f_copies_slips) s.heap := hP
  rw [fX7_copy] at h
  refine lv_iload_n hx hb dX7_copy_0 rfl (lv_at hl 1 rfl) ?_
  refine lv_if_lt (tgt := 11) hx hb dX7_copy_1 (by decide) (fun c1 => ?_) (fun c1 => ?_)
  · have h := zt c1 h
    refine lv_iconst (v := ((-1) : Int32)) hx hb dX7_copy_11 (by decide) ?_
    cases h
    exact W.iret hx hb hr (fun t9 ht9 _ => zend hP hD hS ht9) hS.2.2 dX7_copy_12
  · have h := zf c1 h
    refine lv_iload_n hx hb dX7_copy_4 rfl (lv_at hl 1 rfl) ?_
    refine lv_sipush (v := (255 : Int32)) hx hb dX7_copy_5 (by decide) ?_
    refine lv_icmp_le (tgt := 13) hx hb dX7_copy_8 (by decide) (fun c8 => ?_) (fun c8 => ?_)
    · have h := zt c8 h
      refine lv_aload_n hx hb dX7_copy_13 rfl (lv_at hl 0 rfl) ?_
      refine va_get (D := G.1) (ci := 7) (v := .ref a_copies) (C := RX7) (T := TX7) (N := 9) hx hb hts in_X7_copy_X7 hown hK.1 hP 0 rfl rfl 4 (by decide) (hts (.fieldLink RX7 37 "NineHands" "copies" "LNineHands$Copies;") (by decide +kernel)) (fun _ h9 => h9) rfl dX7_copy_14 ?_
      obtain ⟨y17, hc17, h⟩ := zb1_e h
      refine zcV (As := []) (rest := []) (ws' := (w_X7_copy G a a_text a_letter a_images a_samples a_copies a_copies_slips a_orders a_office a_draft a_office a_draft v_traced v_copies_count f_copies_slips)) (st1 := [.int y17]) ⟨hx, hb, hml, hown, hts⟩ (c_X1_isFull l G a_copies a_copies_slips v_copies_count y17 hc17) (cwV 0 hts gX7_copy_X1_isFull rfl rfl rfl (by decide +kernel) ⟨Nat.le_of_ble_eq_true rfl, Nat.le_of_ble_eq_true rfl⟩) hK hE hP hD hS hA [1] rfl rfl 0 1 rfl rfl rfl rfl rfl rfl hl.1 rfl (Nat.le_of_ble_eq_true rfl) dX7_copy_17 (Nat.zero_le _) (Nat.zero_le _) rfl (fun H locs hP hD hS => ?_)
      refine lv_if_eq (tgt := 26) hx hb dX7_copy_20 (by decide) (fun c20 => ?_) (fun c20 => ?_)
      · have h := zt c20 h
        refine lv_aload_n hx hb dX7_copy_26 rfl (lv_at hl 0 rfl) ?_
        refine va_get (D := G.1) (ci := 7) (v := .ref a_copies) (C := RX7) (T := TX7) (N := 9) hx hb hts in_X7_copy_X7 hown hK.1 hP 0 rfl rfl 4 (by decide) (hts (.fieldLink RX7 37 "NineHands" "copies" "LNineHands$Copies;") (by decide +kernel)) (fun _ h9 => h9) rfl dX7_copy_27 ?_
        refine lv_iload_n hx hb dX7_copy_30 rfl (lv_at hl 1 rfl) ?_
        obtain ⟨y31_v_count, y31_f_slips, hc31, h⟩ := zb2_e h
        refine zcV (As := [.int x1]) (rest := []) (ws' := (w_X7_copy G a a_text a_letter a_images a_samples a_copies a_copies_slips a_orders a_office a_draft a_office a_draft v_traced y31_v_count y31_f_slips)) (st1 := []) ⟨hx, hb, hml, hown, hts⟩ (c_X1_add l G a_copies a_copies_slips v_copies_count f_copies_slips x1 y31_v_count y31_f_slips hc31) (cwV 1 hts gX7_copy_X1_add rfl rfl rfl (by decide +kernel) ⟨Nat.le_of_ble_eq_true rfl, Nat.le_of_ble_eq_true rfl⟩) hK hE hP hD hS hA [1, 2] rfl rfl 0 1 rfl rfl rfl rfl rfl rfl hl.1 rfl (Nat.le_of_ble_eq_true rfl) dX7_copy_31 (Nat.zero_le _) (Nat.zero_le _) rfl (fun H locs hP hD hS => ?_)
        refine lv_aload_n hx hb dX7_copy_34 rfl (lv_at hl 0 rfl) ?_
        refine va_get (D := G.1) (ci := 7) (v := .ref a_copies) (C := RX7) (T := TX7) (N := 9) hx hb hts in_X7_copy_X7 hown hK.1 hP 0 rfl rfl 4 (by decide) (hts (.fieldLink RX7 37 "NineHands" "copies" "LNineHands$Copies;") (by decide +kernel)) (fun _ h9 => h9) rfl dX7_copy_35 ?_
        refine va_getN (D := G.1) (ci := 1) (v := .int y31_v_count) (C := RX1) (T := TX1) (N := 2) hx hb hts in_X7_copy_X1 hown hK.1 hP 1 rfl rfl 1 (by decide) (va_Nw.use rfl (hK.2.1.1 ("NineHands", 226, "NineHands$Copies", "count", "I", "NineHands") (by decide +kernel))) (fun _ h9 => h9) rfl dX7_copy_38 ?_
        refine lv_iconst (v := (1 : Int32)) hx hb dX7_copy_41 (by decide) ?_
        refine lv_isub hx hb dX7_copy_42 ?_
        cases h
        exact W.iret hx hb hr (fun t9 ht9 _ => zend hP hD hS ht9) hS.2.2 dX7_copy_43
      · have h := zf c20 h
        refine lv_bipush (v := ((-3) : Int32)) hx hb dX7_copy_23 (by decide) ?_
        cases h
        exact W.iret hx hb hr (fun t9 ht9 _ => zend hP hD hS ht9) hS.2.2 dX7_copy_25
    · have h := zf c8 h
      refine lv_iconst (v := ((-1) : Int32)) hx hb dX7_copy_11 (by decide) ?_
      cases h
      exact W.iret hx hb hr (fun t9 ht9 _ => zend hP hD hS ht9) hS.2.2 dX7_copy_12
abbrev w_X7_came (G : zG) (a : Nat) (a_text : Nat) (a_letter : Nat) (a_images : Nat) (a_samples : Nat) (a_copies : Nat) (a_copies_slips : Nat) (a_orders : Nat) (a_office : Nat) (a_draft : Nat) (r_office : Nat) (r_draft : Nat) (v_traced : Int64) (v_copies_count : Int32) (f_copies_slips : (Nat → Int32)) : va_W := [(a, .inr (7, [.ref a_text, .ref a_letter, .ref a_images, .ref a_samples, .ref a_copies, .ref a_orders, .ref r_office, .ref r_draft, .long v_traced])), (a_copies, .inr (1, [.ref a_copies_slips, .int v_copies_count])), (a_copies_slips, .inl (zCI G, 8, .inl f_copies_slips))]
theorem in_X7_came_X1 : ∀ w ∈ wsX10, w ∈ wsX7_came := by decide +kernel
theorem in_X7_came_X7 : ∀ w ∈ wsX70, w ∈ wsX7_came := by decide +kernel
set_option maxHeartbeats 4000000 in
set_option maxRecDepth 100000 in
theorem c_X7_came (l : Launch) (G : zG) (fu : Nat) (a : Nat) (a_text : Nat) (a_letter : Nat) (a_images : Nat) (a_samples : Nat) (a_copies : Nat) (a_copies_slips : Nat) (a_orders : Nat) (a_office : Nat) (a_draft : Nat) (v_traced : Int64) (v_copies_count : Int32) (f_copies_slips : (Nat → Int32)) (x1 : Int32) (x2 : Int32) (rv : Int32) (h : fX7_came fu v_copies_count f_copies_slips x1 x2 = some rv) : zC l yX7_came wsX7_came 3 69 G [.ref a, .int x1, .int x2] (w_X7_came G a a_text a_letter a_images a_samples a_copies a_copies_slips a_orders a_office a_draft a_office a_draft v_traced v_copies_count f_copies_slips) (some (.int rv)) (w_X7_came G a a_text a_letter a_images a_samples a_copies a_copies_slips a_orders a_office a_draft a_office a_draft v_traced v_copies_count f_copies_slips) := by
  refine fun sz => Met.ofW (cc := cX7_came) (maxL := 3) (ret := (some .int)) (by decide) rfl ?_
  intro p e s m args below meth c s₁ B hml hv
  obtain ⟨rfl, hsz, hP, hK, hD0, hE⟩ := hv
  have hx := B.exec
  have hb := B.bytes
  have hr := B.returns
  have hts := atoms_spec (ws := wsX7_came) B.pre
  have hown : s.vm.findClass RX7 = some m.cls := findClass_of_methodNamed B.named
  have hlocks := B.notSynchronized
  subst hsz
  have hD := hD0.self (sz := s.heap.size)
  generalize hAe : va_A (w_X7_came G a a_text a_letter a_images a_samples a_copies a_copies_slips a_orders a_office a_draft a_office a_draft v_traced v_copies_count f_copies_slips) s.heap.size = A at hD hE ⊢
  have hA : ∀ q : Nat, s.heap.size ≤ q → A q := fun q h => by rw [← hAe]; exact Or.inr h
  have hS : va_S A s.heap s.heap [] := va_S.rf
  have hl := lv_entry ([.ref a, .int x1, .int x2]) (n := 3) (Nat.le_of_ble_eq_true rfl)
  rw [lg_entry_eq]
  generalize (lg_sl ([.ref a, .int x1, .int x2]) ++ List.replicate (3 - (lg_sl ([.ref a, .int x1, .int x2])).length) Slot.unset).toArray = ls at hl ⊢
  have hl : lv_has ls 3 [(0, .ref a), (1, .int x1), (2, .int x2)] := hl
  have hP : va_P G.1 vwCl (w_X7_came G a a_text a_letter a_images a_samples a_copies a_copies_slips a_orders a_office a_draft a_office a_draft v_traced v_copies_count f_copies_slips) s.heap := hP
  rw [fX7_came] at h
  refine lv_iload_n hx hb dX7_came_0 rfl (lv_at hl 1 rfl) ?_
  refine lv_if_lt (tgt := 15) hx hb dX7_came_1 (by decide) (fun c1 => ?_) (fun c1 => ?_)
  · have h := zt c1 h
    refine lv_iconst (v := ((-1) : Int32)) hx hb dX7_came_15 (by decide) ?_
    cases h
    exact W.iret hx hb hr (fun t9 ht9 _ => zend hP hD hS ht9) hS.2.2 dX7_came_16
  · have h := zf c1 h
    refine lv_iload_n hx hb dX7_came_4 rfl (lv_at hl 1 rfl) ?_
    refine lv_aload_n hx hb dX7_came_5 rfl (lv_at hl 0 rfl) ?_
    refine va_get (D := G.1) (ci := 7) (v := .ref a_copies) (C := RX7) (T := TX7) (N := 9) hx hb hts in_X7_came_X7 hown hK.1 hP 0 rfl rfl 4 (by decide) (hts (.fieldLink RX7 37 "NineHands" "copies" "LNineHands$Copies;") (by decide +kernel)) (fun _ h9 => h9) rfl dX7_came_6 ?_
    refine va_getN (D := G.1) (ci := 1) (v := .int v_copies_count) (C := RX1) (T := TX1) (N := 2) hx hb hts in_X7_came_X1 hown hK.1 hP 1 rfl rfl 1 (by decide) (va_Nw.use rfl (hK.2.1.1 ("NineHands", 226, "NineHands$Copies", "count", "I", "NineHands") (by decide +kernel))) (fun _ h9 => h9) rfl dX7_came_9 ?_
    refine lv_icmp_lt (tgt := 17) hx hb dX7_came_12 (by decide) (fun c12 => ?_) (fun c12 => ?_)
    · have h := zt c12 h
      refine lv_iload_n hx hb dX7_came_17 rfl (lv_at hl 2 rfl) ?_
      by_cases c18_0 : x2 = (0 : Int32)
      · have h := zt c18_0 h
        refine lv_tableIn (off := 26) (tgt := 44) hx hb dX7_came_18 (by rw [c18_0]; decide) (by rw [c18_0]; decide) (by rw [c18_0]; rfl) (by decide) ?_
        refine lv_aload_n hx hb dX7_came_44 rfl (lv_at hl 0 rfl) ?_
        refine va_get (D := G.1) (ci := 7) (v := .ref a_copies) (C := RX7) (T := TX7) (N := 9) hx hb hts in_X7_came_X7 hown hK.1 hP 0 rfl rfl 4 (by decide) (hts (.fieldLink RX7 37 "NineHands" "copies" "LNineHands$Copies;") (by decide +kernel)) (fun _ h9 => h9) rfl dX7_came_45 ?_
        refine va_getN (D := G.1) (ci := 1) (v := .ref a_copies_slips) (C := RX1) (T := TX1) (N := 2) hx hb hts in_X7_came_X1 hown hK.1 hP 1 rfl rfl 0 (by decide) (va_Nw.use rfl (hK.2.1.1 ("NineHands", 227, "NineHands$Copies", "slips", "[I", "NineHands") (by decide +kernel))) (fun _ h9 => h9) rfl dX7_came_48 ?_
        refine lv_iload_n hx hb dX7_came_51 rfl (lv_at hl 1 rfl) ?_
        obtain ⟨g52, h⟩ := zg h
        refine zald hx hb hK.1 hP 2 0 rfl rfl g52 (j := (x1).toNatClampNeg) rfl dX7_came_52 ?_
        cases h
        exact W.iret hx hb hr (fun t9 ht9 _ => zend hP hD hS ht9) hS.2.2 dX7_came_53
      have h := zf c18_0 h
      by_cases c18_1 : x2 = (1 : Int32)
      · have h := zt c18_1 h
        refine lv_tableIn (off := 36) (tgt := 54) hx hb dX7_came_18 (by rw [c18_1]; decide) (by rw [c18_1]; decide) (by rw [c18_1]; rfl) (by decide) ?_
        refine lv_aload_n hx hb dX7_came_54 rfl (lv_at hl 0 rfl) ?_
        refine va_get (D := G.1) (ci := 7) (v := .ref a_copies) (C := RX7) (T := TX7) (N := 9) hx hb hts in_X7_came_X7 hown hK.1 hP 0 rfl rfl 4 (by decide) (hts (.fieldLink RX7 37 "NineHands" "copies" "LNineHands$Copies;") (by decide +kernel)) (fun _ h9 => h9) rfl dX7_came_55 ?_
        refine lv_iload_n hx hb dX7_came_58 rfl (lv_at hl 1 rfl) ?_
        obtain ⟨y59, hc59, h⟩ := zb1_e h
        refine zcV (As := [.int x1]) (rest := []) (ws' := (w_X7_came G a a_text a_letter a_images a_samples a_copies a_copies_slips a_orders a_office a_draft a_office a_draft v_traced v_copies_count f_copies_slips)) (st1 := [.int y59]) ⟨hx, hb, hml, hown, hts⟩ (c_X1_originOf l G fu a_copies a_copies_slips v_copies_count f_copies_slips x1 y59 hc59) (cwV 1 hts gX7_came_X1_originOf rfl rfl rfl (by decide +kernel) ⟨Nat.le_of_ble_eq_true rfl, Nat.le_of_ble_eq_true rfl⟩) hK hE hP hD hS hA [1, 2] rfl rfl 0 1 rfl rfl rfl rfl rfl rfl hl.1 rfl (Nat.le_of_ble_eq_true rfl) dX7_came_59 (Nat.zero_le _) (Nat.zero_le _) rfl (fun H locs hP hD hS => ?_)
        cases h
        exact W.iret hx hb hr (fun t9 ht9 _ => zend hP hD hS ht9) hS.2.2 dX7_came_62
      have h := zf c18_1 h
      by_cases c18_2 : x2 = (2 : Int32)
      · have h := zt c18_2 h
        refine lv_tableIn (off := 45) (tgt := 63) hx hb dX7_came_18 (by rw [c18_2]; decide) (by rw [c18_2]; decide) (by rw [c18_2]; rfl) (by decide) ?_
        refine lv_aload_n hx hb dX7_came_63 rfl (lv_at hl 0 rfl) ?_
        refine va_get (D := G.1) (ci := 7) (v := .ref a_copies) (C := RX7) (T := TX7) (N := 9) hx hb hts in_X7_came_X7 hown hK.1 hP 0 rfl rfl 4 (by decide) (hts (.fieldLink RX7 37 "NineHands" "copies" "LNineHands$Copies;") (by decide +kernel)) (fun _ h9 => h9) rfl dX7_came_64 ?_
        refine lv_iload_n hx hb dX7_came_67 rfl (lv_at hl 1 rfl) ?_
        obtain ⟨y68, hc68, h⟩ := zb1_e h
        refine zcV (As := [.int x1]) (rest := []) (ws' := (w_X7_came G a a_text a_letter a_images a_samples a_copies a_copies_slips a_orders a_office a_draft a_office a_draft v_traced v_copies_count f_copies_slips)) (st1 := [.int y68]) ⟨hx, hb, hml, hown, hts⟩ (c_X1_depthOf l G fu a_copies a_copies_slips v_copies_count f_copies_slips x1 y68 hc68) (cwV 1 hts gX7_came_X1_depthOf rfl rfl rfl (by decide +kernel) ⟨Nat.le_of_ble_eq_true rfl, Nat.le_of_ble_eq_true rfl⟩) hK hE hP hD hS hA [1, 2] rfl rfl 0 1 rfl rfl rfl rfl rfl rfl hl.1 rfl (Nat.le_of_ble_eq_true rfl) dX7_came_68 (Nat.zero_le _) (Nat.zero_le _) rfl (fun H locs hP hD hS => ?_)
        cases h
        exact W.iret hx hb hr (fun t9 ht9 _ => zend hP hD hS ht9) hS.2.2 dX7_came_71
      have h := zf c18_2 h
      refine lv_tableOut (tgt := 72) hx hb dX7_came_18 (by have e0 := lv_neT c18_0 (a := 0) (by decide); have e1 := lv_neT c18_1 (a := 1) (by decide); have e2 := lv_neT c18_2 (a := 2) (by decide); omega) (by decide) ?_
      refine lv_iconst (v := ((-1) : Int32)) hx hb dX7_came_72 (by decide) ?_
      cases h
      exact W.iret hx hb hr (fun t9 ht9 _ => zend hP hD hS ht9) hS.2.2 dX7_came_73
    · have h := zf c12 h
      refine lv_iconst (v := ((-1) : Int32)) hx hb dX7_came_15 (by decide) ?_
      cases h
      exact W.iret hx hb hr (fun t9 ht9 _ => zend hP hD hS ht9) hS.2.2 dX7_came_16
abbrev w_X7_firsts (G : zG) (a : Nat) (a_text : Nat) (a_letter : Nat) (a_images : Nat) (a_samples : Nat) (a_copies : Nat) (a_copies_slips : Nat) (a_orders : Nat) (a_office : Nat) (a_draft : Nat) (r_office : Nat) (r_draft : Nat) (v_traced : Int64) (v_copies_count : Int32) (f_copies_slips : (Nat → Int32)) : va_W := [(a, .inr (7, [.ref a_text, .ref a_letter, .ref a_images, .ref a_samples, .ref a_copies, .ref a_orders, .ref r_office, .ref r_draft, .long v_traced])), (a_copies, .inr (1, [.ref a_copies_slips, .int v_copies_count])), (a_copies_slips, .inl (zCI G, 8, .inl f_copies_slips))]
theorem in_X7_firsts_X1 : ∀ w ∈ wsX10, w ∈ wsX7_firsts := by decide +kernel
theorem in_X7_firsts_X7 : ∀ w ∈ wsX70, w ∈ wsX7_firsts := by decide +kernel
set_option maxHeartbeats 4000000 in
set_option maxRecDepth 100000 in
theorem c_X7_firsts (l : Launch) (G : zG) (fu : Nat) (a : Nat) (a_text : Nat) (a_letter : Nat) (a_images : Nat) (a_samples : Nat) (a_copies : Nat) (a_copies_slips : Nat) (a_orders : Nat) (a_office : Nat) (a_draft : Nat) (v_traced : Int64) (v_copies_count : Int32) (f_copies_slips : (Nat → Int32)) (rv : Int32) (h : fX7_firsts fu v_copies_count f_copies_slips = some rv) : zC l yX7_firsts wsX7_firsts 2 46 G [.ref a] (w_X7_firsts G a a_text a_letter a_images a_samples a_copies a_copies_slips a_orders a_office a_draft a_office a_draft v_traced v_copies_count f_copies_slips) (some (.int rv)) (w_X7_firsts G a a_text a_letter a_images a_samples a_copies a_copies_slips a_orders a_office a_draft a_office a_draft v_traced v_copies_count f_copies_slips) := by
  refine fun sz => Met.ofW (cc := cX7_firsts) (maxL := 3) (ret := (some .int)) (by decide) rfl ?_
  intro p e s m args below meth c s₁ B hml hv
  obtain ⟨rfl, hsz, hP, hK, hD0, hE⟩ := hv
  have hx := B.exec
  have hb := B.bytes
  have hr := B.returns
  have hts := atoms_spec (ws := wsX7_firsts) B.pre
  have hown : s.vm.findClass RX7 = some m.cls := findClass_of_methodNamed B.named
  have hlocks := B.notSynchronized
  subst hsz
  have hD := hD0.self (sz := s.heap.size)
  generalize hAe : va_A (w_X7_firsts G a a_text a_letter a_images a_samples a_copies a_copies_slips a_orders a_office a_draft a_office a_draft v_traced v_copies_count f_copies_slips) s.heap.size = A at hD hE ⊢
  have hA : ∀ q : Nat, s.heap.size ≤ q → A q := fun q h => by rw [← hAe]; exact Or.inr h
  have hS : va_S A s.heap s.heap [] := va_S.rf
  have hl := lv_entry ([.ref a]) (n := 3) (Nat.le_of_ble_eq_true rfl)
  rw [lg_entry_eq]
  generalize (lg_sl ([.ref a]) ++ List.replicate (3 - (lg_sl ([.ref a])).length) Slot.unset).toArray = ls at hl ⊢
  have hl : lv_has ls 3 [(0, .ref a)] := hl
  have hP : va_P G.1 vwCl (w_X7_firsts G a a_text a_letter a_images a_samples a_copies a_copies_slips a_orders a_office a_draft a_office a_draft v_traced v_copies_count f_copies_slips) s.heap := hP
  rw [fX7_firsts] at h
  refine lv_iconst (v := (0 : Int32)) hx hb dX7_firsts_0 (by decide) ?_
  refine lv_istore_n (lv' := [(1, .int (0 : Int32)), (0, .ref a)]) hx hb dX7_firsts_1 rfl hl (by decide) rfl (fun ls hl => ?_)
  refine lv_iconst (v := (0 : Int32)) hx hb dX7_firsts_2 (by decide) ?_
  refine lv_istore_n (lv' := [(2, .int (0 : Int32)), (1, .int (0 : Int32)), (0, .ref a)]) hx hb dX7_firsts_3 rfl hl (by decide) rfl (fun ls hl => ?_)
  have loop_4 : ∀ (n : Nat) (K : Int32 → Option Int32) (l1_4 : Int32) (l2_4 : Int32) (H : Heap) (locs : List Loc) (ls : Array Slot), fX7_firsts_L4 fu v_copies_count f_copies_slips K n l1_4 l2_4 = some rv → (∀ (l1_4e : Int32) (H : Heap) (locs : List Loc) (ls : Array Slot), K l1_4e = some rv → va_P G.1 vwCl (w_X7_firsts G a a_text a_letter a_images a_samples a_copies a_copies_slips a_orders a_office a_draft a_office a_draft v_traced v_copies_count f_copies_slips) H → va_D A (w_X7_firsts G a a_text a_letter a_images a_samples a_copies a_copies_slips a_orders a_office a_draft a_office a_draft v_traced v_copies_count f_copies_slips) → va_S A s.heap H locs → lv_has ls 3 [(1, .int l1_4e)] → W p l e (headSpec wsX7_firsts { frames := 2, cells := 0, slots := 0, locals := 46 }).room s m ([.ref a] : List Value).toArray below meth c H locs 0 0 (MQ below (zQ (some (.int rv)) G (w_X7_firsts G a a_text a_letter a_images a_samples a_copies a_copies_slips a_orders a_office a_draft a_office a_draft v_traced v_copies_count f_copies_slips) A) ([.ref a] : List Value).toArray s 0 0 A) (F0 m 40 ls [])) → va_P G.1 vwCl (w_X7_firsts G a a_text a_letter a_images a_samples a_copies a_copies_slips a_orders a_office a_draft a_office a_draft v_traced v_copies_count f_copies_slips) H → va_D A (w_X7_firsts G a a_text a_letter a_images a_samples a_copies a_copies_slips a_orders a_office a_draft a_office a_draft v_traced v_copies_count f_copies_slips) → va_S A s.heap H locs → lv_has ls 3 [(0, .ref a), (1, .int l1_4), (2, .int l2_4)] → W p l e (headSpec wsX7_firsts { frames := 2, cells := 0, slots := 0, locals := 46 }).room s m ([.ref a] : List Value).toArray below meth c H locs 0 0 (MQ below (zQ (some (.int rv)) G (w_X7_firsts G a a_text a_letter a_images a_samples a_copies a_copies_slips a_orders a_office a_draft a_office a_draft v_traced v_copies_count f_copies_slips) A) ([.ref a] : List Value).toArray s 0 0 A) (F0 m 4 ls []) := by
    intro n
    induction n with
    | zero => intro K l1_4 l2_4 H locs ls h; rw [fX7_firsts_L4] at h; cases h
    | succ n ih =>
      intro K l1_4 l2_4 H locs ls h hk hP hD hS hl
      rw [fX7_firsts_L4] at h
      refine lv_iload_n hx hb dX7_firsts_4 rfl (lv_at hl 2 rfl) ?_
      refine lv_aload_n hx hb dX7_firsts_5 rfl (lv_at hl 0 rfl) ?_
      refine va_get (D := G.1) (ci := 7) (v := .ref a_copies) (C := RX7) (T := TX7) (N := 9) hx hb hts in_X7_firsts_X7 hown hK.1 hP 0 rfl rfl 4 (by decide) (hts (.fieldLink RX7 37 "NineHands" "copies" "LNineHands$Copies;") (by decide +kernel)) (fun _ h9 => h9) rfl dX7_firsts_6 ?_
      refine va_getN (D := G.1) (ci := 1) (v := .int v_copies_count) (C := RX1) (T := TX1) (N := 2) hx hb hts in_X7_firsts_X1 hown hK.1 hP 1 rfl rfl 1 (by decide) (va_Nw.use rfl (hK.2.1.1 ("NineHands", 226, "NineHands$Copies", "count", "I", "NineHands") (by decide +kernel))) (fun _ h9 => h9) rfl dX7_firsts_9 ?_
      refine lv_icmp_ge (tgt := 40) hx hb dX7_firsts_12 (by decide) (fun c12 => ?_) (fun c12 => ?_)
      · have h := zt c12 h
        exact hk _ _ _ _ h hP hD hS (lv_sub hl [1] rfl)
      · have h := zf c12 h
        refine lv_aload_n hx hb dX7_firsts_15 rfl (lv_at hl 0 rfl) ?_
        refine va_get (D := G.1) (ci := 7) (v := .ref a_copies) (C := RX7) (T := TX7) (N := 9) hx hb hts in_X7_firsts_X7 hown hK.1 hP 0 rfl rfl 4 (by decide) (hts (.fieldLink RX7 37 "NineHands" "copies" "LNineHands$Copies;") (by decide +kernel)) (fun _ h9 => h9) rfl dX7_firsts_16 ?_
        refine lv_iload_n hx hb dX7_firsts_19 rfl (lv_at hl 2 rfl) ?_
        obtain ⟨y20, hc20, h⟩ := zb1_e h
        refine zcV (As := [.int l2_4]) (rest := []) (ws' := (w_X7_firsts G a a_text a_letter a_images a_samples a_copies a_copies_slips a_orders a_office a_draft a_office a_draft v_traced v_copies_count f_copies_slips)) (st1 := [.int y20]) ⟨hx, hb, hml, hown, hts⟩ (c_X1_originOf l G fu a_copies a_copies_slips v_copies_count f_copies_slips l2_4 y20 hc20) (cwV 1 hts gX7_firsts_X1_originOf rfl rfl rfl (by decide +kernel) ⟨Nat.le_of_ble_eq_true rfl, Nat.le_of_ble_eq_true rfl⟩) hK hE hP hD hS hA [1, 2] rfl rfl 0 1 rfl rfl rfl rfl rfl rfl hl.1 rfl (Nat.le_of_ble_eq_true rfl) dX7_firsts_20 (Nat.zero_le _) (Nat.zero_le _) rfl (fun H locs hP hD hS => ?_)
        refine lv_bipush (v := ((-9) : Int32)) hx hb dX7_firsts_23 (by decide) ?_
        refine lv_icmp_ne (tgt := 34) hx hb dX7_firsts_25 (by decide) (fun c25 => ?_) (fun c25 => ?_)
        · have h := zf c25 h
          refine lv_iinc (v := (l2_4 + (1 : Int32))) (lv' := [(2, .int (l2_4 + (1 : Int32))), (0, .ref a), (1, .int l1_4)]) hx hb dX7_firsts_34 hl (k := 2) rfl rfl (by decide) rfl (fun ls hl => ?_)
          refine lv_goto (tgt := 4) hx hb dX7_firsts_37 (by decide) ?_
          exact ih K _ _ _ _ _ h hk hP hD hS (lv_sub hl [1, 2, 0] rfl)
        · have h := zt c25 h
          refine lv_iload_n hx hb dX7_firsts_28 rfl (lv_at hl 1 rfl) ?_
          refine lv_iconst (v := (1 : Int32)) hx hb dX7_firsts_29 (by decide) ?_
          refine lv_iload_n hx hb dX7_firsts_30 rfl (lv_at hl 2 rfl) ?_
          refine lv_ishl hx hb dX7_firsts_31 ?_
          refine lv_ior hx hb dX7_firsts_32 ?_
          refine lv_istore_n (lv' := [(1, .int (l1_4 ||| ((1 : Int32) <<< (l2_4 &&& 31)))), (0, .ref a), (2, .int l2_4)]) hx hb dX7_firsts_33 rfl hl (by decide) rfl (fun ls hl => ?_)
          refine lv_iinc (v := (l2_4 + (1 : Int32))) (lv' := [(2, .int (l2_4 + (1 : Int32))), (1, .int (l1_4 ||| ((1 : Int32) <<< (l2_4 &&& 31)))), (0, .ref a)]) hx hb dX7_firsts_34 hl (k := 2) rfl rfl (by decide) rfl (fun ls hl => ?_)
          refine lv_goto (tgt := 4) hx hb dX7_firsts_37 (by decide) ?_
          exact ih K _ _ _ _ _ h hk hP hD hS (lv_sub hl [2, 1, 0] rfl)
  refine loop_4 fu _ _ _ _ _ _ h (fun l1_4e H locs ls h hP hD hS hl => ?_) hP hD hS (lv_sub hl [2, 1, 0] rfl)
  refine lv_iload_n hx hb dX7_firsts_40 rfl (lv_at hl 0 rfl) ?_
  cases h
  exact W.iret hx hb hr (fun t9 ht9 _ => zend hP hD hS ht9) hS.2.2 dX7_firsts_41
abbrev w_X7_burn (G : zG) (a : Nat) (a_text : Nat) (a_letter : Nat) (a_images : Nat) (a_samples : Nat) (a_copies : Nat) (a_copies_slips : Nat) (a_orders : Nat) (a_office : Nat) (a_draft : Nat) (r_office : Nat) (r_draft : Nat) (v_traced : Int64) (v_copies_count : Int32) : va_W := [(a, .inr (7, [.ref a_text, .ref a_letter, .ref a_images, .ref a_samples, .ref a_copies, .ref a_orders, .ref r_office, .ref r_draft, .long v_traced])), (a_copies, .inr (1, [.ref a_copies_slips, .int v_copies_count]))]
theorem in_X7_burn_X1 : ∀ w ∈ wsX10, w ∈ wsX7_burn := by decide +kernel
theorem in_X7_burn_X7 : ∀ w ∈ wsX70, w ∈ wsX7_burn := by decide +kernel
set_option maxHeartbeats 4000000 in
set_option maxRecDepth 100000 in
theorem c_X7_burn (l : Launch) (G : zG) (a : Nat) (a_text : Nat) (a_letter : Nat) (a_images : Nat) (a_samples : Nat) (a_copies : Nat) (a_copies_slips : Nat) (a_orders : Nat) (a_office : Nat) (a_draft : Nat) (v_traced : Int64) (v_copies_count : Int32) (rv : Int32) (ov_copies_count : Int32) (h : fX7_burn v_copies_count = some (rv, ov_copies_count)) : zC l yX7_burn wsX7_burn 0 0 G [.ref a] (w_X7_burn G a a_text a_letter a_images a_samples a_copies a_copies_slips a_orders a_office a_draft a_office a_draft v_traced v_copies_count) (some (.int rv)) (w_X7_burn G a a_text a_letter a_images a_samples a_copies a_copies_slips a_orders a_office a_draft a_office a_draft v_traced ov_copies_count) := by
  refine fun sz => Met.ofW (cc := cX7_burn) (maxL := 2) (ret := (some .int)) (by decide) rfl ?_
  intro p e s m args below meth c s₁ B hml hv
  obtain ⟨rfl, hsz, hP, hK, hD0, hE⟩ := hv
  have hx := B.exec
  have hb := B.bytes
  have hr := B.returns
  have hts := atoms_spec (ws := wsX7_burn) B.pre
  have hown : s.vm.findClass RX7 = some m.cls := findClass_of_methodNamed B.named
  have hlocks := B.notSynchronized
  subst hsz
  have hD := hD0.self (sz := s.heap.size)
  generalize hAe : va_A (w_X7_burn G a a_text a_letter a_images a_samples a_copies a_copies_slips a_orders a_office a_draft a_office a_draft v_traced v_copies_count) s.heap.size = A at hD hE ⊢
  have hA : ∀ q : Nat, s.heap.size ≤ q → A q := fun q h => by rw [← hAe]; exact Or.inr h
  have hS : va_S A s.heap s.heap [] := va_S.rf
  have hl := lv_entry ([.ref a]) (n := 2) (Nat.le_of_ble_eq_true rfl)
  rw [lg_entry_eq]
  generalize (lg_sl ([.ref a]) ++ List.replicate (2 - (lg_sl ([.ref a])).length) Slot.unset).toArray = ls at hl ⊢
  have hl : lv_has ls 2 [(0, .ref a)] := hl
  have hP : va_P G.1 vwCl (w_X7_burn G a a_text a_letter a_images a_samples a_copies a_copies_slips a_orders a_office a_draft a_office a_draft v_traced v_copies_count) s.heap := hP
  rw [fX7_burn] at h
  refine lv_aload_n hx hb dX7_burn_0 rfl (lv_at hl 0 rfl) ?_
  refine va_get (D := G.1) (ci := 7) (v := .ref a_copies) (C := RX7) (T := TX7) (N := 9) hx hb hts in_X7_burn_X7 hown hK.1 hP 0 rfl rfl 4 (by decide) (hts (.fieldLink RX7 37 "NineHands" "copies" "LNineHands$Copies;") (by decide +kernel)) (fun _ h9 => h9) rfl dX7_burn_1 ?_
  refine va_getN (D := G.1) (ci := 1) (v := .int v_copies_count) (C := RX1) (T := TX1) (N := 2) hx hb hts in_X7_burn_X1 hown hK.1 hP 1 rfl rfl 1 (by decide) (va_Nw.use rfl (hK.2.1.1 ("NineHands", 226, "NineHands$Copies", "count", "I", "NineHands") (by decide +kernel))) (fun _ h9 => h9) rfl dX7_burn_4 ?_
  refine lv_istore_n (lv' := [(1, .int v_copies_count), (0, .ref a)]) hx hb dX7_burn_7 rfl hl (by decide) rfl (fun ls hl => ?_)
  refine lv_aload_n hx hb dX7_burn_8 rfl (lv_at hl 1 rfl) ?_
  refine va_get (D := G.1) (ci := 7) (v := .ref a_copies) (C := RX7) (T := TX7) (N := 9) hx hb hts in_X7_burn_X7 hown hK.1 hP 0 rfl rfl 4 (by decide) (hts (.fieldLink RX7 37 "NineHands" "copies" "LNineHands$Copies;") (by decide +kernel)) (fun _ h9 => h9) rfl dX7_burn_9 ?_
  refine lv_iconst (v := (0 : Int32)) hx hb dX7_burn_12 (by decide) ?_
  refine zputN (D := G.1) (ci := 1) (C := RX1) (T := TX1) (N := 2) (ty := .int) (ws' := (w_X7_burn G a a_text a_letter a_images a_samples a_copies a_copies_slips a_orders a_office a_draft a_office a_draft v_traced (0 : Int32))) hx hb hts in_X7_burn_X1 tyX1 tyX1_ok nmX1 hown hK.1 hP hD hS 1 rfl rfl 1 (by decide) (va_Nw.use rfl (hK.2.1.1 ("NineHands", 226, "NineHands$Copies", "count", "I", "NineHands") (by decide +kernel))) (fun _ h9 => h9) rfl (by decide +kernel) rfl rfl (Nat.le_of_ble_eq_true rfl) rfl dX7_burn_13 (fun H locs hP hD hS => ?_)
  refine lv_iload_n hx hb dX7_burn_16 rfl (lv_at hl 0 rfl) ?_
  cases h
  exact W.iret hx hb hr (fun t9 ht9 _ => zend hP hD hS ht9) hS.2.2 dX7_burn_17
abbrev w_X7_asClerk (G : zG) (a : Nat) (a_text : Nat) (a_letter : Nat) (a_images : Nat) (a_samples : Nat) (a_copies : Nat) (a_orders : Nat) (a_office : Nat) (a_draft : Nat) (a_p0 : Nat) (r_office : Nat) (r_draft : Nat) (v_traced : Int64) (v_p0_lean : Int32) (v_p0_sets : Int32) (v_p0_drops : Int32) (v_p0_keeps : Int32) : va_W := [(a, .inr (7, [.ref a_text, .ref a_letter, .ref a_images, .ref a_samples, .ref a_copies, .ref a_orders, .ref r_office, .ref r_draft, .long v_traced])), (a_p0, .inr (0, [.int v_p0_lean, .int v_p0_sets, .int v_p0_drops, .int v_p0_keeps]))]
theorem in_X7_asClerk_X0 : ∀ w ∈ wsX00, w ∈ wsX7_asClerk := by decide +kernel
theorem in_X7_asClerk_X7 : ∀ w ∈ wsX70, w ∈ wsX7_asClerk := by decide +kernel
set_option maxHeartbeats 4000000 in
set_option maxRecDepth 100000 in
theorem c_X7_asClerk (l : Launch) (G : zG) (a : Nat) (a_text : Nat) (a_letter : Nat) (a_images : Nat) (a_samples : Nat) (a_copies : Nat) (a_orders : Nat) (a_office : Nat) (a_draft : Nat) (a_p0 : Nat) (v_traced : Int64) (v_p0_lean : Int32) (v_p0_sets : Int32) (v_p0_drops : Int32) (v_p0_keeps : Int32) (rv : Int32) (ov_traced : Int64) (h : fX7_asClerk v_traced v_p0_lean = some (rv, ov_traced)) : zC l yX7_asClerk wsX7_asClerk 0 0 G [.ref a, .ref a_p0] (w_X7_asClerk G a a_text a_letter a_images a_samples a_copies a_orders a_office a_draft a_p0 a_office a_draft v_traced v_p0_lean v_p0_sets v_p0_drops v_p0_keeps) (some (.int rv)) (w_X7_asClerk G a a_text a_letter a_images a_samples a_copies a_orders a_office a_draft a_p0 a_office a_draft ov_traced v_p0_lean v_p0_sets v_p0_drops v_p0_keeps) := by
  refine fun sz => Met.ofW (cc := cX7_asClerk) (maxL := 2) (ret := (some .int)) (by decide) rfl ?_
  intro p e s m args below meth c s₁ B hml hv
  obtain ⟨rfl, hsz, hP, hK, hD0, hE⟩ := hv
  have hx := B.exec
  have hb := B.bytes
  have hr := B.returns
  have hts := atoms_spec (ws := wsX7_asClerk) B.pre
  have hown : s.vm.findClass RX7 = some m.cls := findClass_of_methodNamed B.named
  have hlocks := B.notSynchronized
  subst hsz
  have hD := hD0.self (sz := s.heap.size)
  generalize hAe : va_A (w_X7_asClerk G a a_text a_letter a_images a_samples a_copies a_orders a_office a_draft a_p0 a_office a_draft v_traced v_p0_lean v_p0_sets v_p0_drops v_p0_keeps) s.heap.size = A at hD hE ⊢
  have hA : ∀ q : Nat, s.heap.size ≤ q → A q := fun q h => by rw [← hAe]; exact Or.inr h
  have hS : va_S A s.heap s.heap [] := va_S.rf
  have hl := lv_entry ([.ref a, .ref a_p0]) (n := 2) (Nat.le_of_ble_eq_true rfl)
  rw [lg_entry_eq]
  generalize (lg_sl ([.ref a, .ref a_p0]) ++ List.replicate (2 - (lg_sl ([.ref a, .ref a_p0])).length) Slot.unset).toArray = ls at hl ⊢
  have hl : lv_has ls 2 [(0, .ref a), (1, .ref a_p0)] := hl
  have hP : va_P G.1 vwCl (w_X7_asClerk G a a_text a_letter a_images a_samples a_copies a_orders a_office a_draft a_p0 a_office a_draft v_traced v_p0_lean v_p0_sets v_p0_drops v_p0_keeps) s.heap := hP
  rw [fX7_asClerk] at h
  refine lv_aload_n hx hb dX7_asClerk_0 rfl (lv_at hl 0 rfl) ?_
  refine lv_dup hx hb dX7_asClerk_1 rfl ?_
  refine va_get (D := G.1) (ci := 7) (v := .long v_traced) (C := RX7) (T := TX7) (N := 9) hx hb hts in_X7_asClerk_X7 hown hK.1 hP 0 rfl rfl 8 (by decide) (hts (.fieldLink RX7 58 "NineHands" "traced" "J") (by decide +kernel)) (fun _ h9 => h9) rfl dX7_asClerk_2 ?_
  refine lv_lconst (v := (1 : Int64)) hx hb dX7_asClerk_5 (by decide) ?_
  refine lv_ladd hx hb dX7_asClerk_6 ?_
  refine zput1 (D := G.1) (ci := 7) (C := RX7) (T := TX7) (N := 9) (ty := .long) (ws' := (w_X7_asClerk G a a_text a_letter a_images a_samples a_copies a_orders a_office a_draft a_p0 a_office a_draft (v_traced + (1 : Int64)) v_p0_lean v_p0_sets v_p0_drops v_p0_keeps)) hx hb hts in_X7_asClerk_X7 tyX7 tyX7_ok nmX7 hown hK.1 hP hD hS 0 rfl rfl 8 (by decide) (hts (.fieldLink RX7 58 "NineHands" "traced" "J") (by decide +kernel)) (fun _ h9 => h9) rfl (by decide +kernel) rfl rfl (Nat.le_of_ble_eq_true rfl) rfl dX7_asClerk_7 (fun H locs hP hD hS => ?_)
  refine lv_aload_n hx hb dX7_asClerk_10 rfl (lv_at hl 1 rfl) ?_
  refine va_getN (D := G.1) (ci := 0) (v := .int v_p0_lean) (C := RX0) (T := TX0) (N := 4) hx hb hts in_X7_asClerk_X0 hown hK.1 hP 1 rfl rfl 0 (by decide) (va_Nw.use rfl (hK.2.1.1 ("NineHands", 91, "NineHands$Clerk", "lean", "I", "NineHands") (by decide +kernel))) (fun _ h9 => h9) rfl dX7_asClerk_11 ?_
  refine lv_iconst (v := (4 : Int32)) hx hb dX7_asClerk_14 (by decide) ?_
  refine lv_isub hx hb dX7_asClerk_15 ?_
  cases h
  exact W.iret hx hb hr (fun t9 ht9 _ => zend hP hD hS ht9) hS.2.2 dX7_asClerk_16
abbrev w_X7_asTwin (G : zG) (a : Nat) (a_text : Nat) (a_letter : Nat) (a_images : Nat) (a_samples : Nat) (a_copies : Nat) (a_orders : Nat) (a_office : Nat) (a_draft : Nat) (a_p0 : Nat) (r_office : Nat) (r_draft : Nat) (v_traced : Int64) (v_p0_lean : Int32) (v_p0_sets : Int32) (v_p0_drops : Int32) (v_p0_keeps : Int32) : va_W := [(a, .inr (7, [.ref a_text, .ref a_letter, .ref a_images, .ref a_samples, .ref a_copies, .ref a_orders, .ref r_office, .ref r_draft, .long v_traced])), (a_p0, .inr (0, [.int v_p0_lean, .int v_p0_sets, .int v_p0_drops, .int v_p0_keeps]))]
theorem in_X7_asTwin_X0 : ∀ w ∈ wsX00, w ∈ wsX7_asTwin := by decide +kernel
theorem in_X7_asTwin_X7 : ∀ w ∈ wsX70, w ∈ wsX7_asTwin := by decide +kernel
set_option maxHeartbeats 4000000 in
set_option maxRecDepth 100000 in
theorem c_X7_asTwin (l : Launch) (G : zG) (a : Nat) (a_text : Nat) (a_letter : Nat) (a_images : Nat) (a_samples : Nat) (a_copies : Nat) (a_orders : Nat) (a_office : Nat) (a_draft : Nat) (a_p0 : Nat) (v_traced : Int64) (v_p0_lean : Int32) (v_p0_sets : Int32) (v_p0_drops : Int32) (v_p0_keeps : Int32) (rv : Int32) (ov_traced : Int64) (h : fX7_asTwin v_traced v_p0_lean v_p0_sets = some (rv, ov_traced)) : zC l yX7_asTwin wsX7_asTwin 1 21 G [.ref a, .ref a_p0] (w_X7_asTwin G a a_text a_letter a_images a_samples a_copies a_orders a_office a_draft a_p0 a_office a_draft v_traced v_p0_lean v_p0_sets v_p0_drops v_p0_keeps) (some (.int rv)) (w_X7_asTwin G a a_text a_letter a_images a_samples a_copies a_orders a_office a_draft a_p0 a_office a_draft ov_traced v_p0_lean v_p0_sets v_p0_drops v_p0_keeps) := by
  refine fun sz => Met.ofW (cc := cX7_asTwin) (maxL := 2) (ret := (some .int)) (by decide) rfl ?_
  intro p e s m args below meth c s₁ B hml hv
  obtain ⟨rfl, hsz, hP, hK, hD0, hE⟩ := hv
  have hx := B.exec
  have hb := B.bytes
  have hr := B.returns
  have hts := atoms_spec (ws := wsX7_asTwin) B.pre
  have hown : s.vm.findClass RX7 = some m.cls := findClass_of_methodNamed B.named
  have hlocks := B.notSynchronized
  subst hsz
  have hD := hD0.self (sz := s.heap.size)
  generalize hAe : va_A (w_X7_asTwin G a a_text a_letter a_images a_samples a_copies a_orders a_office a_draft a_p0 a_office a_draft v_traced v_p0_lean v_p0_sets v_p0_drops v_p0_keeps) s.heap.size = A at hD hE ⊢
  have hA : ∀ q : Nat, s.heap.size ≤ q → A q := fun q h => by rw [← hAe]; exact Or.inr h
  have hS : va_S A s.heap s.heap [] := va_S.rf
  have hl := lv_entry ([.ref a, .ref a_p0]) (n := 2) (Nat.le_of_ble_eq_true rfl)
  rw [lg_entry_eq]
  generalize (lg_sl ([.ref a, .ref a_p0]) ++ List.replicate (2 - (lg_sl ([.ref a, .ref a_p0])).length) Slot.unset).toArray = ls at hl ⊢
  have hl : lv_has ls 2 [(0, .ref a), (1, .ref a_p0)] := hl
  have hP : va_P G.1 vwCl (w_X7_asTwin G a a_text a_letter a_images a_samples a_copies a_orders a_office a_draft a_p0 a_office a_draft v_traced v_p0_lean v_p0_sets v_p0_drops v_p0_keeps) s.heap := hP
  rw [fX7_asTwin] at h
  refine lv_aload_n hx hb dX7_asTwin_0 rfl (lv_at hl 0 rfl) ?_
  refine lv_dup hx hb dX7_asTwin_1 rfl ?_
  refine va_get (D := G.1) (ci := 7) (v := .long v_traced) (C := RX7) (T := TX7) (N := 9) hx hb hts in_X7_asTwin_X7 hown hK.1 hP 0 rfl rfl 8 (by decide) (hts (.fieldLink RX7 58 "NineHands" "traced" "J") (by decide +kernel)) (fun _ h9 => h9) rfl dX7_asTwin_2 ?_
  refine lv_ldc2 hx hb hown (hts (.constantLong RX7 277 (10)) (by decide +kernel)) dX7_asTwin_5 ?_
  refine lv_ladd hx hb dX7_asTwin_8 ?_
  refine zput1 (D := G.1) (ci := 7) (C := RX7) (T := TX7) (N := 9) (ty := .long) (ws' := (w_X7_asTwin G a a_text a_letter a_images a_samples a_copies a_orders a_office a_draft a_p0 a_office a_draft (v_traced + (10 : Int64)) v_p0_lean v_p0_sets v_p0_drops v_p0_keeps)) hx hb hts in_X7_asTwin_X7 tyX7 tyX7_ok nmX7 hown hK.1 hP hD hS 0 rfl rfl 8 (by decide) (hts (.fieldLink RX7 58 "NineHands" "traced" "J") (by decide +kernel)) (fun _ h9 => h9) rfl (by decide +kernel) rfl rfl (Nat.le_of_ble_eq_true rfl) rfl dX7_asTwin_9 (fun H locs hP hD hS => ?_)
  refine lv_aload_n hx hb dX7_asTwin_12 rfl (lv_at hl 0 rfl) ?_
  refine lv_aload_n hx hb dX7_asTwin_13 rfl (lv_at hl 1 rfl) ?_
  obtain ⟨y14, y14_v_traced, hc14, h⟩ := zb2_e h
  refine zcV (As := [.ref a_p0]) (rest := []) (ws' := (w_X7_asTwin G a a_text a_letter a_images a_samples a_copies a_orders a_office a_draft a_p0 a_office a_draft y14_v_traced v_p0_lean v_p0_sets v_p0_drops v_p0_keeps)) (st1 := [.int y14]) ⟨hx, hb, hml, hown, hts⟩ (c_X7_asClerk l G a a_text a_letter a_images a_samples a_copies a_orders a_office a_draft a_p0 (v_traced + (10 : Int64)) v_p0_lean v_p0_sets v_p0_drops v_p0_keeps y14 y14_v_traced hc14) (cwV 1 hts gX7_asTwin_X7_asClerk rfl rfl rfl (by decide +kernel) ⟨Nat.le_of_ble_eq_true rfl, Nat.le_of_ble_eq_true rfl⟩) hK hE hP hD hS hA [0, 1] rfl rfl 0 7 rfl rfl rfl rfl rfl rfl hl.1 rfl (Nat.le_of_ble_eq_true rfl) dX7_asTwin_14 (Nat.zero_le _) (Nat.zero_le _) rfl (fun H locs hP hD hS => ?_)
  refine lv_aload_n hx hb dX7_asTwin_17 rfl (lv_at hl 1 rfl) ?_
  refine va_getN (D := G.1) (ci := 0) (v := .int v_p0_sets) (C := RX0) (T := TX0) (N := 4) hx hb hts in_X7_asTwin_X0 hown hK.1 hP 1 rfl rfl 1 (by decide) (va_Nw.use rfl (hK.2.1.1 ("NineHands", 96, "NineHands$Clerk", "sets", "I", "NineHands") (by decide +kernel))) (fun _ h9 => h9) rfl dX7_asTwin_18 ?_
  obtain ⟨y21, hc21, h⟩ := zb1_e h
  refine zcS (As := [.int v_p0_sets]) (rest := [.int y14]) (ws' := (w_X7_asTwin G a a_text a_letter a_images a_samples a_copies a_orders a_office a_draft a_p0 a_office a_draft y14_v_traced v_p0_lean v_p0_sets v_p0_drops v_p0_keeps)) (st1 := [.int y21, .int y14]) ⟨hx, hb, hml, hown, hts⟩ (c_J6_bitCount_0f7a4 l G v_p0_sets y21 hc21) (va_cwS 1 hts gX7_asTwin_J6_bitCount_0f7a4 rfl rfl rfl (by decide +kernel) ⟨Nat.le_of_ble_eq_true rfl, Nat.le_of_ble_eq_true rfl⟩) hK hE hP hD hS hA [] rfl rfl rfl rfl rfl hl.1 rfl (Nat.le_of_ble_eq_true rfl) dX7_asTwin_21 (Nat.zero_le _) (Nat.zero_le _) rfl (fun H locs hP hD hS => ?_)
  refine lv_iadd hx hb dX7_asTwin_24 ?_
  cases h
  exact W.iret hx hb hr (fun t9 ht9 _ => zend hP hD hS ht9) hS.2.2 dX7_asTwin_25
abbrev w_X7_asMocker (G : zG) (a : Nat) (a_text : Nat) (a_letter : Nat) (a_images : Nat) (a_samples : Nat) (a_copies : Nat) (a_orders : Nat) (a_office : Nat) (a_draft : Nat) (a_p0 : Nat) (r_office : Nat) (r_draft : Nat) (v_traced : Int64) (v_p0_lean : Int32) (v_p0_sets : Int32) (v_p0_drops : Int32) (v_p0_keeps : Int32) : va_W := [(a, .inr (7, [.ref a_text, .ref a_letter, .ref a_images, .ref a_samples, .ref a_copies, .ref a_orders, .ref r_office, .ref r_draft, .long v_traced])), (a_p0, .inr (0, [.int v_p0_lean, .int v_p0_sets, .int v_p0_drops, .int v_p0_keeps]))]
theorem in_X7_asMocker_X0 : ∀ w ∈ wsX00, w ∈ wsX7_asMocker := by decide +kernel
theorem in_X7_asMocker_X7 : ∀ w ∈ wsX70, w ∈ wsX7_asMocker := by decide +kernel
set_option maxHeartbeats 4000000 in
set_option maxRecDepth 100000 in
theorem c_X7_asMocker (l : Launch) (G : zG) (a : Nat) (a_text : Nat) (a_letter : Nat) (a_images : Nat) (a_samples : Nat) (a_copies : Nat) (a_orders : Nat) (a_office : Nat) (a_draft : Nat) (a_p0 : Nat) (v_traced : Int64) (v_p0_lean : Int32) (v_p0_sets : Int32) (v_p0_drops : Int32) (v_p0_keeps : Int32) (rv : Int32) (ov_traced : Int64) (h : fX7_asMocker v_traced v_p0_lean v_p0_drops = some (rv, ov_traced)) : zC l yX7_asMocker wsX7_asMocker 1 21 G [.ref a, .ref a_p0] (w_X7_asMocker G a a_text a_letter a_images a_samples a_copies a_orders a_office a_draft a_p0 a_office a_draft v_traced v_p0_lean v_p0_sets v_p0_drops v_p0_keeps) (some (.int rv)) (w_X7_asMocker G a a_text a_letter a_images a_samples a_copies a_orders a_office a_draft a_p0 a_office a_draft ov_traced v_p0_lean v_p0_sets v_p0_drops v_p0_keeps) := by
  refine fun sz => Met.ofW (cc := cX7_asMocker) (maxL := 2) (ret := (some .int)) (by decide) rfl ?_
  intro p e s m args below meth c s₁ B hml hv
  obtain ⟨rfl, hsz, hP, hK, hD0, hE⟩ := hv
  have hx := B.exec
  have hb := B.bytes
  have hr := B.returns
  have hts := atoms_spec (ws := wsX7_asMocker) B.pre
  have hown : s.vm.findClass RX7 = some m.cls := findClass_of_methodNamed B.named
  have hlocks := B.notSynchronized
  subst hsz
  have hD := hD0.self (sz := s.heap.size)
  generalize hAe : va_A (w_X7_asMocker G a a_text a_letter a_images a_samples a_copies a_orders a_office a_draft a_p0 a_office a_draft v_traced v_p0_lean v_p0_sets v_p0_drops v_p0_keeps) s.heap.size = A at hD hE ⊢
  have hA : ∀ q : Nat, s.heap.size ≤ q → A q := fun q h => by rw [← hAe]; exact Or.inr h
  have hS : va_S A s.heap s.heap [] := va_S.rf
  have hl := lv_entry ([.ref a, .ref a_p0]) (n := 2) (Nat.le_of_ble_eq_true rfl)
  rw [lg_entry_eq]
  generalize (lg_sl ([.ref a, .ref a_p0]) ++ List.replicate (2 - (lg_sl ([.ref a, .ref a_p0])).length) Slot.unset).toArray = ls at hl ⊢
  have hl : lv_has ls 2 [(0, .ref a), (1, .ref a_p0)] := hl
  have hP : va_P G.1 vwCl (w_X7_asMocker G a a_text a_letter a_images a_samples a_copies a_orders a_office a_draft a_p0 a_office a_draft v_traced v_p0_lean v_p0_sets v_p0_drops v_p0_keeps) s.heap := hP
  rw [fX7_asMocker] at h
  refine lv_aload_n hx hb dX7_asMocker_0 rfl (lv_at hl 0 rfl) ?_
  refine lv_dup hx hb dX7_asMocker_1 rfl ?_
  refine va_get (D := G.1) (ci := 7) (v := .long v_traced) (C := RX7) (T := TX7) (N := 9) hx hb hts in_X7_asMocker_X7 hown hK.1 hP 0 rfl rfl 8 (by decide) (hts (.fieldLink RX7 58 "NineHands" "traced" "J") (by decide +kernel)) (fun _ h9 => h9) rfl dX7_asMocker_2 ?_
  refine lv_ldc2 hx hb hown (hts (.constantLong RX7 279 (100)) (by decide +kernel)) dX7_asMocker_5 ?_
  refine lv_ladd hx hb dX7_asMocker_8 ?_
  refine zput1 (D := G.1) (ci := 7) (C := RX7) (T := TX7) (N := 9) (ty := .long) (ws' := (w_X7_asMocker G a a_text a_letter a_images a_samples a_copies a_orders a_office a_draft a_p0 a_office a_draft (v_traced + (100 : Int64)) v_p0_lean v_p0_sets v_p0_drops v_p0_keeps)) hx hb hts in_X7_asMocker_X7 tyX7 tyX7_ok nmX7 hown hK.1 hP hD hS 0 rfl rfl 8 (by decide) (hts (.fieldLink RX7 58 "NineHands" "traced" "J") (by decide +kernel)) (fun _ h9 => h9) rfl (by decide +kernel) rfl rfl (Nat.le_of_ble_eq_true rfl) rfl dX7_asMocker_9 (fun H locs hP hD hS => ?_)
  refine lv_aload_n hx hb dX7_asMocker_12 rfl (lv_at hl 0 rfl) ?_
  refine lv_aload_n hx hb dX7_asMocker_13 rfl (lv_at hl 1 rfl) ?_
  obtain ⟨y14, y14_v_traced, hc14, h⟩ := zb2_e h
  refine zcV (As := [.ref a_p0]) (rest := []) (ws' := (w_X7_asMocker G a a_text a_letter a_images a_samples a_copies a_orders a_office a_draft a_p0 a_office a_draft y14_v_traced v_p0_lean v_p0_sets v_p0_drops v_p0_keeps)) (st1 := [.int y14]) ⟨hx, hb, hml, hown, hts⟩ (c_X7_asClerk l G a a_text a_letter a_images a_samples a_copies a_orders a_office a_draft a_p0 (v_traced + (100 : Int64)) v_p0_lean v_p0_sets v_p0_drops v_p0_keeps y14 y14_v_traced hc14) (cwV 1 hts gX7_asMocker_X7_asClerk rfl rfl rfl (by decide +kernel) ⟨Nat.le_of_ble_eq_true rfl, Nat.le_of_ble_eq_true rfl⟩) hK hE hP hD hS hA [0, 1] rfl rfl 0 7 rfl rfl rfl rfl rfl rfl hl.1 rfl (Nat.le_of_ble_eq_true rfl) dX7_asMocker_14 (Nat.zero_le _) (Nat.zero_le _) rfl (fun H locs hP hD hS => ?_)
  refine lv_aload_n hx hb dX7_asMocker_17 rfl (lv_at hl 1 rfl) ?_
  refine va_getN (D := G.1) (ci := 0) (v := .int v_p0_drops) (C := RX0) (T := TX0) (N := 4) hx hb hts in_X7_asMocker_X0 hown hK.1 hP 1 rfl rfl 2 (by decide) (va_Nw.use rfl (hK.2.1.1 ("NineHands", 99, "NineHands$Clerk", "drops", "I", "NineHands") (by decide +kernel))) (fun _ h9 => h9) rfl dX7_asMocker_18 ?_
  obtain ⟨y21, hc21, h⟩ := zb1_e h
  refine zcS (As := [.int v_p0_drops]) (rest := [.int y14]) (ws' := (w_X7_asMocker G a a_text a_letter a_images a_samples a_copies a_orders a_office a_draft a_p0 a_office a_draft y14_v_traced v_p0_lean v_p0_sets v_p0_drops v_p0_keeps)) (st1 := [.int y21, .int y14]) ⟨hx, hb, hml, hown, hts⟩ (c_J6_bitCount_0f7a4 l G v_p0_drops y21 hc21) (va_cwS 1 hts gX7_asMocker_J6_bitCount_0f7a4 rfl rfl rfl (by decide +kernel) ⟨Nat.le_of_ble_eq_true rfl, Nat.le_of_ble_eq_true rfl⟩) hK hE hP hD hS hA [] rfl rfl rfl rfl rfl hl.1 rfl (Nat.le_of_ble_eq_true rfl) dX7_asMocker_21 (Nat.zero_le _) (Nat.zero_le _) rfl (fun H locs hP hD hS => ?_)
  refine lv_isub hx hb dX7_asMocker_24 ?_
  cases h
  exact W.iret hx hb hr (fun t9 ht9 _ => zend hP hD hS ht9) hS.2.2 dX7_asMocker_25
abbrev w_X7_asConstant (G : zG) (a : Nat) (a_text : Nat) (a_letter : Nat) (a_images : Nat) (a_samples : Nat) (a_copies : Nat) (a_orders : Nat) (a_office : Nat) (a_draft : Nat) (a_p0 : Nat) (r_office : Nat) (r_draft : Nat) (v_traced : Int64) (v_p0_lean : Int32) (v_p0_sets : Int32) (v_p0_drops : Int32) (v_p0_keeps : Int32) : va_W := [(a, .inr (7, [.ref a_text, .ref a_letter, .ref a_images, .ref a_samples, .ref a_copies, .ref a_orders, .ref r_office, .ref r_draft, .long v_traced])), (a_p0, .inr (0, [.int v_p0_lean, .int v_p0_sets, .int v_p0_drops, .int v_p0_keeps]))]
theorem in_X7_asConstant_X7 : ∀ w ∈ wsX70, w ∈ wsX7_asConstant := by decide +kernel
set_option maxHeartbeats 4000000 in
set_option maxRecDepth 100000 in
theorem c_X7_asConstant (l : Launch) (G : zG) (a : Nat) (a_text : Nat) (a_letter : Nat) (a_images : Nat) (a_samples : Nat) (a_copies : Nat) (a_orders : Nat) (a_office : Nat) (a_draft : Nat) (a_p0 : Nat) (v_traced : Int64) (v_p0_lean : Int32) (v_p0_sets : Int32) (v_p0_drops : Int32) (v_p0_keeps : Int32) (rv : Int32) (ov_traced : Int64) (h : fX7_asConstant v_traced v_p0_lean v_p0_sets = some (rv, ov_traced)) : zC l yX7_asConstant wsX7_asConstant 2 42 G [.ref a, .ref a_p0] (w_X7_asConstant G a a_text a_letter a_images a_samples a_copies a_orders a_office a_draft a_p0 a_office a_draft v_traced v_p0_lean v_p0_sets v_p0_drops v_p0_keeps) (some (.int rv)) (w_X7_asConstant G a a_text a_letter a_images a_samples a_copies a_orders a_office a_draft a_p0 a_office a_draft ov_traced v_p0_lean v_p0_sets v_p0_drops v_p0_keeps) := by
  refine fun sz => Met.ofW (cc := cX7_asConstant) (maxL := 2) (ret := (some .int)) (by decide) rfl ?_
  intro p e s m args below meth c s₁ B hml hv
  obtain ⟨rfl, hsz, hP, hK, hD0, hE⟩ := hv
  have hx := B.exec
  have hb := B.bytes
  have hr := B.returns
  have hts := atoms_spec (ws := wsX7_asConstant) B.pre
  have hown : s.vm.findClass RX7 = some m.cls := findClass_of_methodNamed B.named
  have hlocks := B.notSynchronized
  subst hsz
  have hD := hD0.self (sz := s.heap.size)
  generalize hAe : va_A (w_X7_asConstant G a a_text a_letter a_images a_samples a_copies a_orders a_office a_draft a_p0 a_office a_draft v_traced v_p0_lean v_p0_sets v_p0_drops v_p0_keeps) s.heap.size = A at hD hE ⊢
  have hA : ∀ q : Nat, s.heap.size ≤ q → A q := fun q h => by rw [← hAe]; exact Or.inr h
  have hS : va_S A s.heap s.heap [] := va_S.rf
  have hl := lv_entry ([.ref a, .ref a_p0]) (n := 2) (Nat.le_of_ble_eq_true rfl)
  rw [lg_entry_eq]
  generalize (lg_sl ([.ref a, .ref a_p0]) ++ List.replicate (2 - (lg_sl ([.ref a, .ref a_p0])).length) Slot.unset).toArray = ls at hl ⊢
  have hl : lv_has ls 2 [(0, .ref a), (1, .ref a_p0)] := hl
  have hP : va_P G.1 vwCl (w_X7_asConstant G a a_text a_letter a_images a_samples a_copies a_orders a_office a_draft a_p0 a_office a_draft v_traced v_p0_lean v_p0_sets v_p0_drops v_p0_keeps) s.heap := hP
  rw [fX7_asConstant] at h
  refine lv_aload_n hx hb dX7_asConstant_0 rfl (lv_at hl 0 rfl) ?_
  refine lv_dup hx hb dX7_asConstant_1 rfl ?_
  refine va_get (D := G.1) (ci := 7) (v := .long v_traced) (C := RX7) (T := TX7) (N := 9) hx hb hts in_X7_asConstant_X7 hown hK.1 hP 0 rfl rfl 8 (by decide) (hts (.fieldLink RX7 58 "NineHands" "traced" "J") (by decide +kernel)) (fun _ h9 => h9) rfl dX7_asConstant_2 ?_
  refine lv_ldc2 hx hb hown (hts (.constantLong RX7 281 (1000)) (by decide +kernel)) dX7_asConstant_5 ?_
  refine lv_ladd hx hb dX7_asConstant_8 ?_
  refine zput1 (D := G.1) (ci := 7) (C := RX7) (T := TX7) (N := 9) (ty := .long) (ws' := (w_X7_asConstant G a a_text a_letter a_images a_samples a_copies a_orders a_office a_draft a_p0 a_office a_draft (v_traced + (1000 : Int64)) v_p0_lean v_p0_sets v_p0_drops v_p0_keeps)) hx hb hts in_X7_asConstant_X7 tyX7 tyX7_ok nmX7 hown hK.1 hP hD hS 0 rfl rfl 8 (by decide) (hts (.fieldLink RX7 58 "NineHands" "traced" "J") (by decide +kernel)) (fun _ h9 => h9) rfl (by decide +kernel) rfl rfl (Nat.le_of_ble_eq_true rfl) rfl dX7_asConstant_9 (fun H locs hP hD hS => ?_)
  refine lv_iconst (v := (2 : Int32)) hx hb dX7_asConstant_12 (by decide) ?_
  refine lv_aload_n hx hb dX7_asConstant_13 rfl (lv_at hl 0 rfl) ?_
  refine lv_aload_n hx hb dX7_asConstant_14 rfl (lv_at hl 1 rfl) ?_
  obtain ⟨y15, y15_v_traced, hc15, h⟩ := zb2_e h
  refine zcV (As := [.ref a_p0]) (rest := [.int (2 : Int32)]) (ws' := (w_X7_asConstant G a a_text a_letter a_images a_samples a_copies a_orders a_office a_draft a_p0 a_office a_draft y15_v_traced v_p0_lean v_p0_sets v_p0_drops v_p0_keeps)) (st1 := [.int y15, .int (2 : Int32)]) ⟨hx, hb, hml, hown, hts⟩ (c_X7_asTwin l G a a_text a_letter a_images a_samples a_copies a_orders a_office a_draft a_p0 (v_traced + (1000 : Int64)) v_p0_lean v_p0_sets v_p0_drops v_p0_keeps y15 y15_v_traced hc15) (cwV 1 hts gX7_asConstant_X7_asTwin rfl rfl rfl (by decide +kernel) ⟨Nat.le_of_ble_eq_true rfl, Nat.le_of_ble_eq_true rfl⟩) hK hE hP hD hS hA [0, 1] rfl rfl 0 7 rfl rfl rfl rfl rfl rfl hl.1 rfl (Nat.le_of_ble_eq_true rfl) dX7_asConstant_15 (Nat.zero_le _) (Nat.zero_le _) rfl (fun H locs hP hD hS => ?_)
  refine lv_imul hx hb dX7_asConstant_18 ?_
  cases h
  exact W.iret hx hb hr (fun t9 ht9 _ => zend hP hD hS ht9) hS.2.2 dX7_asConstant_19
abbrev w_X7_asLeft (G : zG) (a : Nat) (a_text : Nat) (a_letter : Nat) (a_images : Nat) (a_samples : Nat) (a_copies : Nat) (a_orders : Nat) (a_office : Nat) (a_draft : Nat) (a_p0 : Nat) (r_office : Nat) (r_draft : Nat) (v_traced : Int64) (v_p0_lean : Int32) (v_p0_sets : Int32) (v_p0_drops : Int32) (v_p0_keeps : Int32) : va_W := [(a, .inr (7, [.ref a_text, .ref a_letter, .ref a_images, .ref a_samples, .ref a_copies, .ref a_orders, .ref r_office, .ref r_draft, .long v_traced])), (a_p0, .inr (0, [.int v_p0_lean, .int v_p0_sets, .int v_p0_drops, .int v_p0_keeps]))]
theorem in_X7_asLeft_X7 : ∀ w ∈ wsX70, w ∈ wsX7_asLeft := by decide +kernel
set_option maxHeartbeats 4000000 in
set_option maxRecDepth 100000 in
theorem c_X7_asLeft (l : Launch) (G : zG) (a : Nat) (a_text : Nat) (a_letter : Nat) (a_images : Nat) (a_samples : Nat) (a_copies : Nat) (a_orders : Nat) (a_office : Nat) (a_draft : Nat) (a_p0 : Nat) (v_traced : Int64) (v_p0_lean : Int32) (v_p0_sets : Int32) (v_p0_drops : Int32) (v_p0_keeps : Int32) (x2 : Int32) (rv : Int32) (ov_traced : Int64) (h : fX7_asLeft v_traced v_p0_lean v_p0_drops x2 = some (rv, ov_traced)) : zC l yX7_asLeft wsX7_asLeft 2 42 G [.ref a, .ref a_p0, .int x2] (w_X7_asLeft G a a_text a_letter a_images a_samples a_copies a_orders a_office a_draft a_p0 a_office a_draft v_traced v_p0_lean v_p0_sets v_p0_drops v_p0_keeps) (some (.int rv)) (w_X7_asLeft G a a_text a_letter a_images a_samples a_copies a_orders a_office a_draft a_p0 a_office a_draft ov_traced v_p0_lean v_p0_sets v_p0_drops v_p0_keeps) := by
  refine fun sz => Met.ofW (cc := cX7_asLeft) (maxL := 3) (ret := (some .int)) (by decide) rfl ?_
  intro p e s m args below meth c s₁ B hml hv
  obtain ⟨rfl, hsz, hP, hK, hD0, hE⟩ := hv
  have hx := B.exec
  have hb := B.bytes
  have hr := B.returns
  have hts := atoms_spec (ws := wsX7_asLeft) B.pre
  have hown : s.vm.findClass RX7 = some m.cls := findClass_of_methodNamed B.named
  have hlocks := B.notSynchronized
  subst hsz
  have hD := hD0.self (sz := s.heap.size)
  generalize hAe : va_A (w_X7_asLeft G a a_text a_letter a_images a_samples a_copies a_orders a_office a_draft a_p0 a_office a_draft v_traced v_p0_lean v_p0_sets v_p0_drops v_p0_keeps) s.heap.size = A at hD hE ⊢
  have hA : ∀ q : Nat, s.heap.size ≤ q → A q := fun q h => by rw [← hAe]; exact Or.inr h
  have hS : va_S A s.heap s.heap [] := va_S.rf
  have hl := lv_entry ([.ref a, .ref a_p0, .int x2]) (n := 3) (Nat.le_of_ble_eq_true rfl)
  rw [lg_entry_eq]
  generalize (lg_sl ([.ref a, .ref a_p0, .int x2]) ++ List.replicate (3 - (lg_sl ([.ref a, .ref a_p0, .int x2])).length) Slot.unset).toArray = ls at hl ⊢
  have hl : lv_has ls 3 [(0, .ref a), (1, .ref a_p0), (2, .int x2)] := hl
  have hP : va_P G.1 vwCl (w_X7_asLeft G a a_text a_letter a_images a_samples a_copies a_orders a_office a_draft a_p0 a_office a_draft v_traced v_p0_lean v_p0_sets v_p0_drops v_p0_keeps) s.heap := hP
  rw [fX7_asLeft] at h
  refine lv_aload_n hx hb dX7_asLeft_0 rfl (lv_at hl 0 rfl) ?_
  refine lv_dup hx hb dX7_asLeft_1 rfl ?_
  refine va_get (D := G.1) (ci := 7) (v := .long v_traced) (C := RX7) (T := TX7) (N := 9) hx hb hts in_X7_asLeft_X7 hown hK.1 hP 0 rfl rfl 8 (by decide) (hts (.fieldLink RX7 58 "NineHands" "traced" "J") (by decide +kernel)) (fun _ h9 => h9) rfl dX7_asLeft_2 ?_
  refine lv_ldc2 hx hb hown (hts (.constantLong RX7 283 (10000)) (by decide +kernel)) dX7_asLeft_5 ?_
  refine lv_ladd hx hb dX7_asLeft_8 ?_
  refine lv_topl (fun zl9 el9 => ?_)
  rw [← el9] at h
  refine zput1 (D := G.1) (ci := 7) (C := RX7) (T := TX7) (N := 9) (ty := .long) (ws' := (w_X7_asLeft G a a_text a_letter a_images a_samples a_copies a_orders a_office a_draft a_p0 a_office a_draft zl9 v_p0_lean v_p0_sets v_p0_drops v_p0_keeps)) hx hb hts in_X7_asLeft_X7 tyX7 tyX7_ok nmX7 hown hK.1 hP hD hS 0 rfl rfl 8 (by decide) (hts (.fieldLink RX7 58 "NineHands" "traced" "J") (by decide +kernel)) (fun _ h9 => h9) rfl (by decide +kernel) rfl rfl (Nat.le_of_ble_eq_true rfl) rfl dX7_asLeft_9 (fun H locs hP hD hS => ?_)
  refine lv_aload_n hx hb dX7_asLeft_12 rfl (lv_at hl 0 rfl) ?_
  refine lv_aload_n hx hb dX7_asLeft_13 rfl (lv_at hl 1 rfl) ?_
  obtain ⟨y14, y14_v_traced, hc14, h⟩ := zb2_e h
  refine zcV (As := [.ref a_p0]) (rest := []) (ws' := (w_X7_asLeft G a a_text a_letter a_images a_samples a_copies a_orders a_office a_draft a_p0 a_office a_draft y14_v_traced v_p0_lean v_p0_sets v_p0_drops v_p0_keeps)) (st1 := [.int y14]) ⟨hx, hb, hml, hown, hts⟩ (c_X7_asMocker l G a a_text a_letter a_images a_samples a_copies a_orders a_office a_draft a_p0 zl9 v_p0_lean v_p0_sets v_p0_drops v_p0_keeps y14 y14_v_traced hc14) (cwV 1 hts gX7_asLeft_X7_asMocker rfl rfl rfl (by decide +kernel) ⟨Nat.le_of_ble_eq_true rfl, Nat.le_of_ble_eq_true rfl⟩) hK hE hP hD hS hA [0, 1] rfl rfl 0 7 rfl rfl rfl rfl rfl rfl hl.1 rfl (Nat.le_of_ble_eq_true rfl) dX7_asLeft_14 (Nat.zero_le _) (Nat.zero_le _) rfl (fun H locs hP hD hS => ?_)
  refine lv_iload_n hx hb dX7_asLeft_17 rfl (lv_at hl 2 rfl) ?_
  refine lv_iadd hx hb dX7_asLeft_18 ?_
  cases h
  exact W.iret hx hb hr (fun t9 ht9 _ => zend hP hD hS ht9) hS.2.2 dX7_asLeft_19
abbrev w_X7_asHasty (G : zG) (a : Nat) (a_text : Nat) (a_letter : Nat) (a_images : Nat) (a_samples : Nat) (a_copies : Nat) (a_orders : Nat) (a_office : Nat) (a_draft : Nat) (a_p0 : Nat) (r_office : Nat) (r_draft : Nat) (v_traced : Int64) (v_p0_lean : Int32) (v_p0_sets : Int32) (v_p0_drops : Int32) (v_p0_keeps : Int32) : va_W := [(a, .inr (7, [.ref a_text, .ref a_letter, .ref a_images, .ref a_samples, .ref a_copies, .ref a_orders, .ref r_office, .ref r_draft, .long v_traced])), (a_p0, .inr (0, [.int v_p0_lean, .int v_p0_sets, .int v_p0_drops, .int v_p0_keeps]))]
theorem in_X7_asHasty_X0 : ∀ w ∈ wsX00, w ∈ wsX7_asHasty := by decide +kernel
theorem in_X7_asHasty_X7 : ∀ w ∈ wsX70, w ∈ wsX7_asHasty := by decide +kernel
set_option maxHeartbeats 4000000 in
set_option maxRecDepth 100000 in
theorem c_X7_asHasty (l : Launch) (G : zG) (a : Nat) (a_text : Nat) (a_letter : Nat) (a_images : Nat) (a_samples : Nat) (a_copies : Nat) (a_orders : Nat) (a_office : Nat) (a_draft : Nat) (a_p0 : Nat) (v_traced : Int64) (v_p0_lean : Int32) (v_p0_sets : Int32) (v_p0_drops : Int32) (v_p0_keeps : Int32) (rv : Int32) (ov_traced : Int64) (h : fX7_asHasty v_traced v_p0_lean v_p0_keeps = some (rv, ov_traced)) : zC l yX7_asHasty wsX7_asHasty 1 21 G [.ref a, .ref a_p0] (w_X7_asHasty G a a_text a_letter a_images a_samples a_copies a_orders a_office a_draft a_p0 a_office a_draft v_traced v_p0_lean v_p0_sets v_p0_drops v_p0_keeps) (some (.int rv)) (w_X7_asHasty G a a_text a_letter a_images a_samples a_copies a_orders a_office a_draft a_p0 a_office a_draft ov_traced v_p0_lean v_p0_sets v_p0_drops v_p0_keeps) := by
  refine fun sz => Met.ofW (cc := cX7_asHasty) (maxL := 2) (ret := (some .int)) (by decide) rfl ?_
  intro p e s m args below meth c s₁ B hml hv
  obtain ⟨rfl, hsz, hP, hK, hD0, hE⟩ := hv
  have hx := B.exec
  have hb := B.bytes
  have hr := B.returns
  have hts := atoms_spec (ws := wsX7_asHasty) B.pre
  have hown : s.vm.findClass RX7 = some m.cls := findClass_of_methodNamed B.named
  have hlocks := B.notSynchronized
  subst hsz
  have hD := hD0.self (sz := s.heap.size)
  generalize hAe : va_A (w_X7_asHasty G a a_text a_letter a_images a_samples a_copies a_orders a_office a_draft a_p0 a_office a_draft v_traced v_p0_lean v_p0_sets v_p0_drops v_p0_keeps) s.heap.size = A at hD hE ⊢
  have hA : ∀ q : Nat, s.heap.size ≤ q → A q := fun q h => by rw [← hAe]; exact Or.inr h
  have hS : va_S A s.heap s.heap [] := va_S.rf
  have hl := lv_entry ([.ref a, .ref a_p0]) (n := 2) (Nat.le_of_ble_eq_true rfl)
  rw [lg_entry_eq]
  generalize (lg_sl ([.ref a, .ref a_p0]) ++ List.replicate (2 - (lg_sl ([.ref a, .ref a_p0])).length) Slot.unset).toArray = ls at hl ⊢
  have hl : lv_has ls 2 [(0, .ref a), (1, .ref a_p0)] := hl
  have hP : va_P G.1 vwCl (w_X7_asHasty G a a_text a_letter a_images a_samples a_copies a_orders a_office a_draft a_p0 a_office a_draft v_traced v_p0_lean v_p0_sets v_p0_drops v_p0_keeps) s.heap := hP
  rw [fX7_asHasty] at h
  refine lv_aload_n hx hb dX7_asHasty_0 rfl (lv_at hl 0 rfl) ?_
  refine lv_dup hx hb dX7_asHasty_1 rfl ?_
  refine va_get (D := G.1) (ci := 7) (v := .long v_traced) (C := RX7) (T := TX7) (N := 9) hx hb hts in_X7_asHasty_X7 hown hK.1 hP 0 rfl rfl 8 (by decide) (hts (.fieldLink RX7 58 "NineHands" "traced" "J") (by decide +kernel)) (fun _ h9 => h9) rfl dX7_asHasty_2 ?_
  refine lv_ldc2 hx hb hown (hts (.constantLong RX7 285 (100000)) (by decide +kernel)) dX7_asHasty_5 ?_
  refine lv_ladd hx hb dX7_asHasty_8 ?_
  refine lv_topl (fun zl9 el9 => ?_)
  rw [← el9] at h
  refine zput1 (D := G.1) (ci := 7) (C := RX7) (T := TX7) (N := 9) (ty := .long) (ws' := (w_X7_asHasty G a a_text a_letter a_images a_samples a_copies a_orders a_office a_draft a_p0 a_office a_draft zl9 v_p0_lean v_p0_sets v_p0_drops v_p0_keeps)) hx hb hts in_X7_asHasty_X7 tyX7 tyX7_ok nmX7 hown hK.1 hP hD hS 0 rfl rfl 8 (by decide) (hts (.fieldLink RX7 58 "NineHands" "traced" "J") (by decide +kernel)) (fun _ h9 => h9) rfl (by decide +kernel) rfl rfl (Nat.le_of_ble_eq_true rfl) rfl dX7_asHasty_9 (fun H locs hP hD hS => ?_)
  refine lv_aload_n hx hb dX7_asHasty_12 rfl (lv_at hl 0 rfl) ?_
  refine lv_aload_n hx hb dX7_asHasty_13 rfl (lv_at hl 1 rfl) ?_
  obtain ⟨y14, y14_v_traced, hc14, h⟩ := zb2_e h
  refine zcV (As := [.ref a_p0]) (rest := []) (ws' := (w_X7_asHasty G a a_text a_letter a_images a_samples a_copies a_orders a_office a_draft a_p0 a_office a_draft y14_v_traced v_p0_lean v_p0_sets v_p0_drops v_p0_keeps)) (st1 := [.int y14]) ⟨hx, hb, hml, hown, hts⟩ (c_X7_asClerk l G a a_text a_letter a_images a_samples a_copies a_orders a_office a_draft a_p0 zl9 v_p0_lean v_p0_sets v_p0_drops v_p0_keeps y14 y14_v_traced hc14) (cwV 1 hts gX7_asHasty_X7_asClerk rfl rfl rfl (by decide +kernel) ⟨Nat.le_of_ble_eq_true rfl, Nat.le_of_ble_eq_true rfl⟩) hK hE hP hD hS hA [0, 1] rfl rfl 0 7 rfl rfl rfl rfl rfl rfl hl.1 rfl (Nat.le_of_ble_eq_true rfl) dX7_asHasty_14 (Nat.zero_le _) (Nat.zero_le _) rfl (fun H locs hP hD hS => ?_)
  refine lv_bipush (v := (10 : Int32)) hx hb dX7_asHasty_17 (by decide) ?_
  refine lv_iadd hx hb dX7_asHasty_19 ?_
  refine lv_aload_n hx hb dX7_asHasty_20 rfl (lv_at hl 1 rfl) ?_
  refine va_getN (D := G.1) (ci := 0) (v := .int v_p0_keeps) (C := RX0) (T := TX0) (N := 4) hx hb hts in_X7_asHasty_X0 hown hK.1 hP 1 rfl rfl 3 (by decide) (va_Nw.use rfl (hK.2.1.1 ("NineHands", 102, "NineHands$Clerk", "keeps", "I", "NineHands") (by decide +kernel))) (fun _ h9 => h9) rfl dX7_asHasty_21 ?_
  refine lv_isub hx hb dX7_asHasty_24 ?_
  cases h
  exact W.iret hx hb hr (fun t9 ht9 _ => zend hP hD hS ht9) hS.2.2 dX7_asHasty_25
abbrev w_X7_rate (G : zG) (a : Nat) (a_text : Nat) (a_letter : Nat) (a_images : Nat) (a_samples : Nat) (a_copies : Nat) (a_orders : Nat) (a_office : Nat) (a_office_clerks : Nat) (ca_office_clk : Nat → Nat) (a_draft : Nat) (r_office : Nat) (r_draft : Nat) (v_traced : Int64) (v_office_count : Int32) (v_office_letterTold : Int32) (v_office_firstTone : Int32) (v_office_firstMarks : Int32) (k_office_lean : (Nat → Int32)) (k_office_sets : (Nat → Int32)) (k_office_drops : (Nat → Int32)) (k_office_keeps : (Nat → Int32)) : va_W := [(a, .inr (7, [.ref a_text, .ref a_letter, .ref a_images, .ref a_samples, .ref a_copies, .ref a_orders, .ref r_office, .ref r_draft, .long v_traced])), (a_office, .inr (3, [.ref a_office_clerks, .int v_office_count, .int v_office_letterTold, .int v_office_firstTone, .int v_office_firstMarks])), (a_office_clerks, .inl (zCC G, 6, .inr (.inr (.inr (.inr (fun k => some (ca_office_clk k)))))))] ++ zclks ca_office_clk k_office_lean k_office_sets k_office_drops k_office_keeps
theorem in_X7_rate_X7 : ∀ w ∈ wsX70, w ∈ wsX7_rate := by decide +kernel
set_option maxHeartbeats 4000000 in
set_option maxRecDepth 100000 in
theorem c_X7_rate (l : Launch) (G : zG) (a : Nat) (a_text : Nat) (a_letter : Nat) (a_images : Nat) (a_samples : Nat) (a_copies : Nat) (a_orders : Nat) (a_office : Nat) (a_office_clerks : Nat) (ca_office_clk : Nat → Nat) (a_draft : Nat) (v_traced : Int64) (v_office_count : Int32) (v_office_letterTold : Int32) (v_office_firstTone : Int32) (v_office_firstMarks : Int32) (k_office_lean : (Nat → Int32)) (k_office_sets : (Nat → Int32)) (k_office_drops : (Nat → Int32)) (k_office_keeps : (Nat → Int32)) (x1 : Int32) (x2 : Int32) (rv : Int32) (ov_traced : Int64) (h : fX7_rate v_traced v_office_count k_office_lean k_office_sets k_office_drops k_office_keeps x1 x2 = some (rv, ov_traced)) : zC l yX7_rate wsX7_rate 3 64 G [.ref a, .int x1, .int x2] (w_X7_rate G a a_text a_letter a_images a_samples a_copies a_orders a_office a_office_clerks ca_office_clk a_draft a_office a_draft v_traced v_office_count v_office_letterTold v_office_firstTone v_office_firstMarks k_office_lean k_office_sets k_office_drops k_office_keeps) (some (.int rv)) (w_X7_rate G a a_text a_letter a_images a_samples a_copies a_orders a_office a_office_clerks ca_office_clk a_draft a_office a_draft ov_traced v_office_count v_office_letterTold v_office_firstTone v_office_firstMarks k_office_lean k_office_sets k_office_drops k_office_keeps) := by
  refine fun sz => Met.ofW (cc := cX7_rate) (maxL := 4) (ret := (some .int)) (by decide) rfl ?_
  intro p e s m args below meth c s₁ B hml hv
  obtain ⟨rfl, hsz, hP, hK, hD0, hE⟩ := hv
  have hx := B.exec
  have hb := B.bytes
  have hr := B.returns
  have hts := atoms_spec (ws := wsX7_rate) B.pre
  have hown : s.vm.findClass RX7 = some m.cls := findClass_of_methodNamed B.named
  have hlocks := B.notSynchronized
  subst hsz
  have hD := hD0.self (sz := s.heap.size)
  generalize hAe : va_A (w_X7_rate G a a_text a_letter a_images a_samples a_copies a_orders a_office a_office_clerks ca_office_clk a_draft a_office a_draft v_traced v_office_count v_office_letterTold v_office_firstTone v_office_firstMarks k_office_lean k_office_sets k_office_drops k_office_keeps) s.heap.size = A at hD hE ⊢
  have hA : ∀ q : Nat, s.heap.size ≤ q → A q := fun q h => by rw [← hAe]; exact Or.inr h
  have hS : va_S A s.heap s.heap [] := va_S.rf
  have hl := lv_entry ([.ref a, .int x1, .int x2]) (n := 4) (Nat.le_of_ble_eq_true rfl)
  rw [lg_entry_eq]
  generalize (lg_sl ([.ref a, .int x1, .int x2]) ++ List.replicate (4 - (lg_sl ([.ref a, .int x1, .int x2])).length) Slot.unset).toArray = ls at hl ⊢
  have hl : lv_has ls 4 [(0, .ref a), (1, .int x1), (2, .int x2)] := hl
  have hP : va_P G.1 vwCl (w_X7_rate G a a_text a_letter a_images a_samples a_copies a_orders a_office a_office_clerks ca_office_clk a_draft a_office a_draft v_traced v_office_count v_office_letterTold v_office_firstTone v_office_firstMarks k_office_lean k_office_sets k_office_drops k_office_keeps) s.heap := hP
  rw [fX7_rate] at h
  refine lv_aload_n hx hb dX7_rate_0 rfl (lv_at hl 0 rfl) ?_
  refine va_get (D := G.1) (ci := 7) (v := .ref a_office) (C := RX7) (T := TX7) (N := 9) hx hb hts in_X7_rate_X7 hown hK.1 hP 0 rfl rfl 6 (by decide) (hts (.fieldLink RX7 51 "NineHands" "office" "LNineHands$Office;") (by decide +kernel)) (fun _ h9 => h9) rfl dX7_rate_1 ?_
  refine lv_iload_n hx hb dX7_rate_4 rfl (lv_at hl 2 rfl) ?_
  by_cases c5a : x2 < 0
  · have h := zt c5a h
    refine zcV (As := [.int x2]) (rest := []) (ws' := (w_X7_rate G a a_text a_letter a_images a_samples a_copies a_orders a_office a_office_clerks ca_office_clk a_draft a_office a_draft v_traced v_office_count v_office_letterTold v_office_firstTone v_office_firstMarks k_office_lean k_office_sets k_office_drops k_office_keeps)) (st1 := [.null]) ⟨hx, hb, hml, hown, hts⟩ (c_X3_find l G a_office a_office_clerks ca_office_clk v_office_count v_office_letterTold v_office_firstTone v_office_firstMarks x2 none (by rw [fX3_find, if_pos c5a])) (cwV 1 hts gX7_rate_X3_find rfl rfl rfl (by decide +kernel) ⟨Nat.le_of_ble_eq_true rfl, Nat.le_of_ble_eq_true rfl⟩) hK hE hP hD hS hA [1, 2] rfl rfl 0 3 rfl rfl rfl rfl rfl rfl hl.1 rfl (Nat.le_of_ble_eq_true rfl) dX7_rate_5 (Nat.zero_le _) (Nat.zero_le _) rfl (fun H locs hP hD hS => ?_)
    refine lv_astore_nN (lv' := [(3, .null), (0, .ref a), (1, .int x1), (2, .int x2)]) hx hb dX7_rate_8 rfl hl (by decide) rfl (fun ls hl => ?_)
    refine lv_aload_nN hx hb dX7_rate_9 rfl (lv_at hl 0 rfl) ?_
    refine lv_ifnonnullN hx hb dX7_rate_10 ?_
    refine lv_ldc hx hb hown (hts (.constant RX7 236 (-1000000)) (by decide +kernel)) dX7_rate_13 ?_
    cases h
    exact W.iret hx hb hr (fun t9 ht9 _ => zend hP hD hS ht9) hS.2.2 dX7_rate_15
  have h := zf c5a h
  by_cases c5b : v_office_count ≤ x2
  · have h := zt c5b h
    refine zcV (As := [.int x2]) (rest := []) (ws' := (w_X7_rate G a a_text a_letter a_images a_samples a_copies a_orders a_office a_office_clerks ca_office_clk a_draft a_office a_draft v_traced v_office_count v_office_letterTold v_office_firstTone v_office_firstMarks k_office_lean k_office_sets k_office_drops k_office_keeps)) (st1 := [.null]) ⟨hx, hb, hml, hown, hts⟩ (c_X3_find l G a_office a_office_clerks ca_office_clk v_office_count v_office_letterTold v_office_firstTone v_office_firstMarks x2 none (by rw [fX3_find, if_neg c5a, if_pos c5b])) (cwV 1 hts gX7_rate_X3_find rfl rfl rfl (by decide +kernel) ⟨Nat.le_of_ble_eq_true rfl, Nat.le_of_ble_eq_true rfl⟩) hK hE hP hD hS hA [1, 2] rfl rfl 0 3 rfl rfl rfl rfl rfl rfl hl.1 rfl (Nat.le_of_ble_eq_true rfl) dX7_rate_5 (Nat.zero_le _) (Nat.zero_le _) rfl (fun H locs hP hD hS => ?_)
    refine lv_astore_nN (lv' := [(3, .null), (0, .ref a), (1, .int x1), (2, .int x2)]) hx hb dX7_rate_8 rfl hl (by decide) rfl (fun ls hl => ?_)
    refine lv_aload_nN hx hb dX7_rate_9 rfl (lv_at hl 0 rfl) ?_
    refine lv_ifnonnullN hx hb dX7_rate_10 ?_
    refine lv_ldc hx hb hown (hts (.constant RX7 236 (-1000000)) (by decide +kernel)) dX7_rate_13 ?_
    cases h
    exact W.iret hx hb hr (fun t9 ht9 _ => zend hP hD hS ht9) hS.2.2 dX7_rate_15
  have h := zf c5b h
  obtain ⟨g5, h⟩ := zg h
  refine zcV (As := [.int x2]) (rest := []) (ws' := (w_X7_rate G a a_text a_letter a_images a_samples a_copies a_orders a_office a_office_clerks ca_office_clk a_draft a_office a_draft v_traced v_office_count v_office_letterTold v_office_firstTone v_office_firstMarks k_office_lean k_office_sets k_office_drops k_office_keeps)) (st1 := [.ref (ca_office_clk (x2).toNatClampNeg)]) ⟨hx, hb, hml, hown, hts⟩ (c_X3_find l G a_office a_office_clerks ca_office_clk v_office_count v_office_letterTold v_office_firstTone v_office_firstMarks x2 (some (ca_office_clk (x2).toNatClampNeg)) (by rw [fX3_find, if_neg c5a, if_neg c5b, if_pos g5])) (cwV 1 hts gX7_rate_X3_find rfl rfl rfl (by decide +kernel) ⟨Nat.le_of_ble_eq_true rfl, Nat.le_of_ble_eq_true rfl⟩) hK hE hP hD hS hA [1, 2] rfl rfl 0 3 rfl rfl rfl rfl rfl rfl hl.1 rfl (Nat.le_of_ble_eq_true rfl) dX7_rate_5 (Nat.zero_le _) (Nat.zero_le _) rfl (fun H locs hP hD hS => ?_)
  refine lv_astore_n (lv' := [(3, .ref (ca_office_clk (x2).toNatClampNeg)), (0, .ref a), (1, .int x1), (2, .int x2)]) hx hb dX7_rate_8 rfl hl (by decide) rfl (fun ls hl => ?_)
  refine lv_aload_n hx hb dX7_rate_9 rfl (lv_at hl 0 rfl) ?_
  refine lv_ifnonnull (tgt := 16) hx hb dX7_rate_10 (by decide) ?_
  refine lv_iload_n hx hb dX7_rate_16 rfl (lv_at hl 2 rfl) ?_
  by_cases c17_0 : x1 = (0 : Int32)
  · have h := zt c17_0 h
    refine lv_tableIn (off := 39) (tgt := 56) hx hb dX7_rate_17 (by rw [c17_0]; decide) (by rw [c17_0]; decide) (by rw [c17_0]; rfl) (by decide) ?_
    refine lv_aload_n hx hb dX7_rate_56 rfl (lv_at hl 1 rfl) ?_
    refine lv_aload_n hx hb dX7_rate_57 rfl (lv_at hl 0 rfl) ?_
    obtain ⟨y58, y58_v_traced, hc58, h⟩ := zb2_e h
    refine zcV (As := [.ref (ca_office_clk (x2).toNatClampNeg)]) (rest := []) (ws' := (w_X7_rate G a a_text a_letter a_images a_samples a_copies a_orders a_office a_office_clerks ca_office_clk a_draft a_office a_draft y58_v_traced v_office_count v_office_letterTold v_office_firstTone v_office_firstMarks k_office_lean k_office_sets k_office_drops k_office_keeps)) (st1 := [.int y58]) ⟨hx, hb, hml, hown, hts⟩ (c_X7_asClerk l G a a_text a_letter a_images a_samples a_copies a_orders a_office a_draft (ca_office_clk (x2).toNatClampNeg) v_traced (k_office_lean (x2).toNatClampNeg) (k_office_sets (x2).toNatClampNeg) (k_office_drops (x2).toNatClampNeg) (k_office_keeps (x2).toNatClampNeg) y58 y58_v_traced hc58) (cwV 1 hts gX7_rate_X7_asClerk rfl rfl rfl (by decide +kernel) ⟨Nat.le_of_ble_eq_true rfl, Nat.le_of_ble_eq_true rfl⟩) hK hE hP hD hS hA [0, 3 + (x2).toNatClampNeg] (zclk_nd2 (P := 3) (by decide)) (zclks_map2 (by rfl) (zin_lt g5) rfl) 0 7 rfl rfl rfl rfl ((zclks_put2 (ws2 := (w_X7_rate G a a_text a_letter a_images a_samples a_copies a_orders a_office a_office_clerks ca_office_clk a_draft a_office a_draft y58_v_traced v_office_count v_office_letterTold v_office_firstTone v_office_firstMarks k_office_lean k_office_sets k_office_drops k_office_keeps)) (by rfl) (zin_lt g5) (by decide) rfl)) rfl hl.1 rfl (Nat.le_of_ble_eq_true rfl) dX7_rate_58 (Nat.zero_le _) (Nat.zero_le _) rfl (fun H locs hP hD hS => ?_)
    cases h
    exact W.iret hx hb hr (fun t9 ht9 _ => zend hP hD hS ht9) hS.2.2 dX7_rate_61
  have h := zf c17_0 h
  by_cases c17_1 : x1 = (1 : Int32)
  · have h := zt c17_1 h
    refine lv_tableIn (off := 45) (tgt := 62) hx hb dX7_rate_17 (by rw [c17_1]; decide) (by rw [c17_1]; decide) (by rw [c17_1]; rfl) (by decide) ?_
    refine lv_aload_n hx hb dX7_rate_62 rfl (lv_at hl 1 rfl) ?_
    refine lv_aload_n hx hb dX7_rate_63 rfl (lv_at hl 0 rfl) ?_
    obtain ⟨y64, y64_v_traced, hc64, h⟩ := zb2_e h
    refine zcV (As := [.ref (ca_office_clk (x2).toNatClampNeg)]) (rest := []) (ws' := (w_X7_rate G a a_text a_letter a_images a_samples a_copies a_orders a_office a_office_clerks ca_office_clk a_draft a_office a_draft y64_v_traced v_office_count v_office_letterTold v_office_firstTone v_office_firstMarks k_office_lean k_office_sets k_office_drops k_office_keeps)) (st1 := [.int y64]) ⟨hx, hb, hml, hown, hts⟩ (c_X7_asTwin l G a a_text a_letter a_images a_samples a_copies a_orders a_office a_draft (ca_office_clk (x2).toNatClampNeg) v_traced (k_office_lean (x2).toNatClampNeg) (k_office_sets (x2).toNatClampNeg) (k_office_drops (x2).toNatClampNeg) (k_office_keeps (x2).toNatClampNeg) y64 y64_v_traced hc64) (cwV 1 hts gX7_rate_X7_asTwin rfl rfl rfl (by decide +kernel) ⟨Nat.le_of_ble_eq_true rfl, Nat.le_of_ble_eq_true rfl⟩) hK hE hP hD hS hA [0, 3 + (x2).toNatClampNeg] (zclk_nd2 (P := 3) (by decide)) (zclks_map2 (by rfl) (zin_lt g5) rfl) 0 7 rfl rfl rfl rfl ((zclks_put2 (ws2 := (w_X7_rate G a a_text a_letter a_images a_samples a_copies a_orders a_office a_office_clerks ca_office_clk a_draft a_office a_draft y64_v_traced v_office_count v_office_letterTold v_office_firstTone v_office_firstMarks k_office_lean k_office_sets k_office_drops k_office_keeps)) (by rfl) (zin_lt g5) (by decide) rfl)) rfl hl.1 rfl (Nat.le_of_ble_eq_true rfl) dX7_rate_64 (Nat.zero_le _) (Nat.zero_le _) rfl (fun H locs hP hD hS => ?_)
    cases h
    exact W.iret hx hb hr (fun t9 ht9 _ => zend hP hD hS ht9) hS.2.2 dX7_rate_67
  have h := zf c17_1 h
  by_cases c17_2 : x1 = (2 : Int32)
  · have h := zt c17_2 h
    refine lv_tableIn (off := 51) (tgt := 68) hx hb dX7_rate_17 (by rw [c17_2]; decide) (by rw [c17_2]; decide) (by rw [c17_2]; rfl) (by decide) ?_
    refine lv_aload_n hx hb dX7_rate_68 rfl (lv_at hl 1 rfl) ?_
    refine lv_aload_n hx hb dX7_rate_69 rfl (lv_at hl 0 rfl) ?_
    obtain ⟨y70, y70_v_traced, hc70, h⟩ := zb2_e h
    refine zcV (As := [.ref (ca_office_clk (x2).toNatClampNeg)]) (rest := []) (ws' := (w_X7_rate G a a_text a_letter a_images a_samples a_copies a_orders a_office a_office_clerks ca_office_clk a_draft a_office a_draft y70_v_traced v_office_count v_office_letterTold v_office_firstTone v_office_firstMarks k_office_lean k_office_sets k_office_drops k_office_keeps)) (st1 := [.int y70]) ⟨hx, hb, hml, hown, hts⟩ (c_X7_asMocker l G a a_text a_letter a_images a_samples a_copies a_orders a_office a_draft (ca_office_clk (x2).toNatClampNeg) v_traced (k_office_lean (x2).toNatClampNeg) (k_office_sets (x2).toNatClampNeg) (k_office_drops (x2).toNatClampNeg) (k_office_keeps (x2).toNatClampNeg) y70 y70_v_traced hc70) (cwV 1 hts gX7_rate_X7_asMocker rfl rfl rfl (by decide +kernel) ⟨Nat.le_of_ble_eq_true rfl, Nat.le_of_ble_eq_true rfl⟩) hK hE hP hD hS hA [0, 3 + (x2).toNatClampNeg] (zclk_nd2 (P := 3) (by decide)) (zclks_map2 (by rfl) (zin_lt g5) rfl) 0 7 rfl rfl rfl rfl ((zclks_put2 (ws2 := (w_X7_rate G a a_text a_letter a_images a_samples a_copies a_orders a_office a_office_clerks ca_office_clk a_draft a_office a_draft y70_v_traced v_office_count v_office_letterTold v_office_firstTone v_office_firstMarks k_office_lean k_office_sets k_office_drops k_office_keeps)) (by rfl) (zin_lt g5) (by decide) rfl)) rfl hl.1 rfl (Nat.le_of_ble_eq_true rfl) dX7_rate_70 (Nat.zero_le _) (Nat.zero_le _) rfl (fun H locs hP hD hS => ?_)
    cases h
    exact W.iret hx hb hr (fun t9 ht9 _ => zend hP hD hS ht9) hS.2.2 dX7_rate_73
  have h := zf c17_2 h
  by_cases c17_3 : x1 = (3 : Int32)
  · have h := zt c17_3 h
    refine lv_tableIn (off := 57) (tgt := 74) hx hb dX7_rate_17 (by rw [c17_3]; decide) (by rw [c17_3]; decide) (by rw [c17_3]; rfl) (by decide) ?_
    refine lv_aload_n hx hb dX7_rate_74 rfl (lv_at hl 1 rfl) ?_
    refine lv_aload_n hx hb dX7_rate_75 rfl (lv_at hl 0 rfl) ?_
    obtain ⟨y76, y76_v_traced, hc76, h⟩ := zb2_e h
    refine zcV (As := [.ref (ca_office_clk (x2).toNatClampNeg)]) (rest := []) (ws' := (w_X7_rate G a a_text a_letter a_images a_samples a_copies a_orders a_office a_office_clerks ca_office_clk a_draft a_office a_draft y76_v_traced v_office_count v_office_letterTold v_office_firstTone v_office_firstMarks k_office_lean k_office_sets k_office_drops k_office_keeps)) (st1 := [.int y76]) ⟨hx, hb, hml, hown, hts⟩ (c_X7_asConstant l G a a_text a_letter a_images a_samples a_copies a_orders a_office a_draft (ca_office_clk (x2).toNatClampNeg) v_traced (k_office_lean (x2).toNatClampNeg) (k_office_sets (x2).toNatClampNeg) (k_office_drops (x2).toNatClampNeg) (k_office_keeps (x2).toNatClampNeg) y76 y76_v_traced hc76) (cwV 1 hts gX7_rate_X7_asConstant rfl rfl rfl (by decide +kernel) ⟨Nat.le_of_ble_eq_true rfl, Nat.le_of_ble_eq_true rfl⟩) hK hE hP hD hS hA [0, 3 + (x2).toNatClampNeg] (zclk_nd2 (P := 3) (by decide)) (zclks_map2 (by rfl) (zin_lt g5) rfl) 0 7 rfl rfl rfl rfl ((zclks_put2 (ws2 := (w_X7_rate G a a_text a_letter a_images a_samples a_copies a_orders a_office a_office_clerks ca_office_clk a_draft a_office a_draft y76_v_traced v_office_count v_office_letterTold v_office_firstTone v_office_firstMarks k_office_lean k_office_sets k_office_drops k_office_keeps)) (by rfl) (zin_lt g5) (by decide) rfl)) rfl hl.1 rfl (Nat.le_of_ble_eq_true rfl) dX7_rate_76 (Nat.zero_le _) (Nat.zero_le _) rfl (fun H locs hP hD hS => ?_)
    cases h
    exact W.iret hx hb hr (fun t9 ht9 _ => zend hP hD hS ht9) hS.2.2 dX7_rate_79
  have h := zf c17_3 h
  by_cases c17_4 : x1 = (4 : Int32)
  · have h := zt c17_4 h
    refine lv_tableIn (off := 63) (tgt := 80) hx hb dX7_rate_17 (by rw [c17_4]; decide) (by rw [c17_4]; decide) (by rw [c17_4]; rfl) (by decide) ?_
    refine lv_aload_n hx hb dX7_rate_80 rfl (lv_at hl 1 rfl) ?_
    refine lv_aload_n hx hb dX7_rate_81 rfl (lv_at hl 0 rfl) ?_
    refine lv_iload_n hx hb dX7_rate_82 rfl (lv_at hl 3 rfl) ?_
    obtain ⟨y83, y83_v_traced, hc83, h⟩ := zb2_e h
    refine zcV (As := [.ref (ca_office_clk (x2).toNatClampNeg), .int x2]) (rest := []) (ws' := (w_X7_rate G a a_text a_letter a_images a_samples a_copies a_orders a_office a_office_clerks ca_office_clk a_draft a_office a_draft y83_v_traced v_office_count v_office_letterTold v_office_firstTone v_office_firstMarks k_office_lean k_office_sets k_office_drops k_office_keeps)) (st1 := [.int y83]) ⟨hx, hb, hml, hown, hts⟩ (c_X7_asLeft l G a a_text a_letter a_images a_samples a_copies a_orders a_office a_draft (ca_office_clk (x2).toNatClampNeg) v_traced (k_office_lean (x2).toNatClampNeg) (k_office_sets (x2).toNatClampNeg) (k_office_drops (x2).toNatClampNeg) (k_office_keeps (x2).toNatClampNeg) x2 y83 y83_v_traced hc83) (cwV 2 hts gX7_rate_X7_asLeft rfl rfl rfl (by decide +kernel) ⟨Nat.le_of_ble_eq_true rfl, Nat.le_of_ble_eq_true rfl⟩) hK hE hP hD hS hA [0, 3 + (x2).toNatClampNeg] (zclk_nd2 (P := 3) (by decide)) (zclks_map2 (by rfl) (zin_lt g5) rfl) 0 7 rfl rfl rfl rfl ((zclks_put2 (ws2 := (w_X7_rate G a a_text a_letter a_images a_samples a_copies a_orders a_office a_office_clerks ca_office_clk a_draft a_office a_draft y83_v_traced v_office_count v_office_letterTold v_office_firstTone v_office_firstMarks k_office_lean k_office_sets k_office_drops k_office_keeps)) (by rfl) (zin_lt g5) (by decide) rfl)) rfl hl.1 rfl (Nat.le_of_ble_eq_true rfl) dX7_rate_83 (Nat.zero_le _) (Nat.zero_le _) rfl (fun H locs hP hD hS => ?_)
    cases h
    exact W.iret hx hb hr (fun t9 ht9 _ => zend hP hD hS ht9) hS.2.2 dX7_rate_86
  have h := zf c17_4 h
  by_cases c17_5 : x1 = (5 : Int32)
  · have h := zt c17_5 h
    refine lv_tableIn (off := 70) (tgt := 87) hx hb dX7_rate_17 (by rw [c17_5]; decide) (by rw [c17_5]; decide) (by rw [c17_5]; rfl) (by decide) ?_
    refine lv_aload_n hx hb dX7_rate_87 rfl (lv_at hl 1 rfl) ?_
    refine lv_aload_n hx hb dX7_rate_88 rfl (lv_at hl 0 rfl) ?_
    obtain ⟨y89, y89_v_traced, hc89, h⟩ := zb2_e h
    refine zcV (As := [.ref (ca_office_clk (x2).toNatClampNeg)]) (rest := []) (ws' := (w_X7_rate G a a_text a_letter a_images a_samples a_copies a_orders a_office a_office_clerks ca_office_clk a_draft a_office a_draft y89_v_traced v_office_count v_office_letterTold v_office_firstTone v_office_firstMarks k_office_lean k_office_sets k_office_drops k_office_keeps)) (st1 := [.int y89]) ⟨hx, hb, hml, hown, hts⟩ (c_X7_asHasty l G a a_text a_letter a_images a_samples a_copies a_orders a_office a_draft (ca_office_clk (x2).toNatClampNeg) v_traced (k_office_lean (x2).toNatClampNeg) (k_office_sets (x2).toNatClampNeg) (k_office_drops (x2).toNatClampNeg) (k_office_keeps (x2).toNatClampNeg) y89 y89_v_traced hc89) (cwV 1 hts gX7_rate_X7_asHasty rfl rfl rfl (by decide +kernel) ⟨Nat.le_of_ble_eq_true rfl, Nat.le_of_ble_eq_true rfl⟩) hK hE hP hD hS hA [0, 3 + (x2).toNatClampNeg] (zclk_nd2 (P := 3) (by decide)) (zclks_map2 (by rfl) (zin_lt g5) rfl) 0 7 rfl rfl rfl rfl ((zclks_put2 (ws2 := (w_X7_rate G a a_text a_letter a_images a_samples a_copies a_orders a_office a_office_clerks ca_office_clk a_draft a_office a_draft y89_v_traced v_office_count v_office_letterTold v_office_firstTone v_office_firstMarks k_office_lean k_office_sets k_office_drops k_office_keeps)) (by rfl) (zin_lt g5) (by decide) rfl)) rfl hl.1 rfl (Nat.le_of_ble_eq_true rfl) dX7_rate_89 (Nat.zero_le _) (Nat.zero_le _) rfl (fun H locs hP hD hS => ?_)
    cases h
    exact W.iret hx hb hr (fun t9 ht9 _ => zend hP hD hS ht9) hS.2.2 dX7_rate_92
  have h := zf c17_5 h
  refine lv_tableOut (tgt := 93) hx hb dX7_rate_17 (by have e0 := lv_neT c17_0 (a := 0) (by decide); have e1 := lv_neT c17_1 (a := 1) (by decide); have e2 := lv_neT c17_2 (a := 2) (by decide); have e3 := lv_neT c17_3 (a := 3) (by decide); have e4 := lv_neT c17_4 (a := 4) (by decide); have e5 := lv_neT c17_5 (a := 5) (by decide); omega) (by decide) ?_
  refine lv_ldc hx hb hown (hts (.constant RX7 236 (-1000000)) (by decide +kernel)) dX7_rate_93 ?_
  cases h
  exact W.iret hx hb hr (fun t9 ht9 _ => zend hP hD hS ht9) hS.2.2 dX7_rate_95
abbrev w_X7_keep (G : zG) (a : Nat) (a_text : Nat) (a_letter : Nat) (a_letter_tones : Nat) (a_letter_marks : Nat) (a_letter_writers : Nat) (a_images : Nat) (a_images0 : Nat) (a_images0_tones : Nat) (a_images0_marks : Nat) (a_images0_writers : Nat) (a_images1 : Nat) (a_images1_tones : Nat) (a_images1_marks : Nat) (a_images1_writers : Nat) (a_samples : Nat) (a_copies : Nat) (a_orders : Nat) (a_office : Nat) (a_draft : Nat) (r_office : Nat) (r_draft : Nat) (v_traced : Int64) (v_letter_lines : Int32) (v_letter_luck : Int32) (f_letter_tones : (Nat → Int32)) (f_letter_marks : (Nat → Int32)) (f_letter_writers : (Nat → Int32)) (v_images0_lines : Int32) (v_images0_luck : Int32) (f_images0_tones : (Nat → Int32)) (f_images0_marks : (Nat → Int32)) (f_images0_writers : (Nat → Int32)) (v_images1_lines : Int32) (v_images1_luck : Int32) (f_images1_tones : (Nat → Int32)) (f_images1_marks : (Nat → Int32)) (f_images1_writers : (Nat → Int32)) : va_W := [(a, .inr (7, [.ref a_text, .ref a_letter, .ref a_images, .ref a_samples, .ref a_copies, .ref a_orders, .ref r_office, .ref r_draft, .long v_traced])), (a_letter, .inr (2, [.ref a_letter_tones, .ref a_letter_marks, .ref a_letter_writers, .int v_letter_lines, .int v_letter_luck])), (a_letter_tones, .inl (zCI G, 10, .inl f_letter_tones)), (a_letter_marks, .inl (zCI G, 10, .inl f_letter_marks)), (a_letter_writers, .inl (zCI G, 10, .inl f_letter_writers)), (a_images, .inl (zCL G, 2, .inr (.inr (.inr (.inr (zim a_images0 a_images1)))))), (a_images0, .inr (2, [.ref a_images0_tones, .ref a_images0_marks, .ref a_images0_writers, .int v_images0_lines, .int v_images0_luck])), (a_images0_tones, .inl (zCI G, 10, .inl f_images0_tones)), (a_images0_marks, .inl (zCI G, 10, .inl f_images0_marks)), (a_images0_writers, .inl (zCI G, 10, .inl f_images0_writers)), (a_images1, .inr (2, [.ref a_images1_tones, .ref a_images1_marks, .ref a_images1_writers, .int v_images1_lines, .int v_images1_luck])), (a_images1_tones, .inl (zCI G, 10, .inl f_images1_tones)), (a_images1_marks, .inl (zCI G, 10, .inl f_images1_marks)), (a_images1_writers, .inl (zCI G, 10, .inl f_images1_writers))]
theorem in_X7_keep_X2 : ∀ w ∈ wsX20, w ∈ wsX7_keep := by decide +kernel
theorem in_X7_keep_X7 : ∀ w ∈ wsX70, w ∈ wsX7_keep := by decide +kernel
set_option maxHeartbeats 4000000 in
set_option maxRecDepth 100000 in
theorem c_X7_keep (l : Launch) (G : zG) (a : Nat) (a_text : Nat) (a_letter : Nat) (a_letter_tones : Nat) (a_letter_marks : Nat) (a_letter_writers : Nat) (a_images : Nat) (a_images0 : Nat) (a_images0_tones : Nat) (a_images0_marks : Nat) (a_images0_writers : Nat) (a_images1 : Nat) (a_images1_tones : Nat) (a_images1_marks : Nat) (a_images1_writers : Nat) (a_samples : Nat) (a_copies : Nat) (a_orders : Nat) (a_office : Nat) (a_draft : Nat) (v_traced : Int64) (v_letter_lines : Int32) (v_letter_luck : Int32) (f_letter_tones : (Nat → Int32)) (f_letter_marks : (Nat → Int32)) (f_letter_writers : (Nat → Int32)) (v_images0_lines : Int32) (v_images0_luck : Int32) (f_images0_tones : (Nat → Int32)) (f_images0_marks : (Nat → Int32)) (f_images0_writers : (Nat → Int32)) (v_images1_lines : Int32) (v_images1_luck : Int32) (f_images1_tones : (Nat → Int32)) (f_images1_marks : (Nat → Int32)) (f_images1_writers : (Nat → Int32)) (x1 : Int32) (rv : Int32) (ov_images0_lines : Int32) (ov_images0_luck : Int32) (of_images0_tones : (Nat → Int32)) (of_images0_marks : (Nat → Int32)) (of_images0_writers : (Nat → Int32)) (ov_images1_lines : Int32) (ov_images1_luck : Int32) (of_images1_tones : (Nat → Int32)) (of_images1_marks : (Nat → Int32)) (of_images1_writers : (Nat → Int32)) (h : fX7_keep v_letter_lines v_letter_luck f_letter_tones f_letter_marks f_letter_writers v_images0_lines v_images0_luck f_images0_tones f_images0_marks f_images0_writers v_images1_lines v_images1_luck f_images1_tones f_images1_marks f_images1_writers x1 = some (rv, ov_images0_lines, ov_images0_luck, of_images0_tones, of_images0_marks, of_images0_writers, ov_images1_lines, ov_images1_luck, of_images1_tones, of_images1_marks, of_images1_writers)) : zC l yX7_keep wsX7_keep 2 61 G [.ref a, .int x1] (w_X7_keep G a a_text a_letter a_letter_tones a_letter_marks a_letter_writers a_images a_images0 a_images0_tones a_images0_marks a_images0_writers a_images1 a_images1_tones a_images1_marks a_images1_writers a_samples a_copies a_orders a_office a_draft a_office a_draft v_traced v_letter_lines v_letter_luck f_letter_tones f_letter_marks f_letter_writers v_images0_lines v_images0_luck f_images0_tones f_images0_marks f_images0_writers v_images1_lines v_images1_luck f_images1_tones f_images1_marks f_images1_writers) (some (.int rv)) (w_X7_keep G a a_text a_letter a_letter_tones a_letter_marks a_letter_writers a_images a_images0 a_images0_tones a_images0_marks a_images0_writers a_images1 a_images1_tones a_images1_marks a_images1_writers a_samples a_copies a_orders a_office a_draft a_office a_draft v_traced v_letter_lines v_letter_luck f_letter_tones f_letter_marks f_letter_writers ov_images0_lines ov_images0_luck of_images0_tones of_images0_marks of_images0_writers ov_images1_lines ov_images1_luck of_images1_tones of_images1_marks of_images1_writers) := by
  refine fun sz => Met.ofW (cc := cX7_keep) (maxL := 2) (ret := (some .int)) (by decide) rfl ?_
  intro p e s m args below meth c s₁ B hml hv
  obtain ⟨rfl, hsz, hP, hK, hD0, hE⟩ := hv
  have hx := B.exec
  have hb := B.bytes
  have hr := B.returns
  have hts := atoms_spec (ws := wsX7_keep) B.pre
  have hown : s.vm.findClass RX7 = some m.cls := findClass_of_methodNamed B.named
  have hlocks := B.notSynchronized
  subst hsz
  have hD := hD0.self (sz := s.heap.size)
  generalize hAe : va_A (w_X7_keep G a a_text a_letter a_letter_tones a_letter_marks a_letter_writers a_images a_images0 a_images0_tones a_images0_marks a_images0_writers a_images1 a_images1_tones a_images1_marks a_images1_writers a_samples a_copies a_orders a_office a_draft a_office a_draft v_traced v_letter_lines v_letter_luck f_letter_tones f_letter_marks f_letter_writers v_images0_lines v_images0_luck f_images0_tones f_images0_marks f_images0_writers v_images1_lines v_images1_luck f_images1_tones f_images1_marks f_images1_writers) s.heap.size = A at hD hE ⊢
  have hA : ∀ q : Nat, s.heap.size ≤ q → A q := fun q h => by rw [← hAe]; exact Or.inr h
  have hS : va_S A s.heap s.heap [] := va_S.rf
  have hl := lv_entry ([.ref a, .int x1]) (n := 2) (Nat.le_of_ble_eq_true rfl)
  rw [lg_entry_eq]
  generalize (lg_sl ([.ref a, .int x1]) ++ List.replicate (2 - (lg_sl ([.ref a, .int x1])).length) Slot.unset).toArray = ls at hl ⊢
  have hl : lv_has ls 2 [(0, .ref a), (1, .int x1)] := hl
  have hP : va_P G.1 vwCl (w_X7_keep G a a_text a_letter a_letter_tones a_letter_marks a_letter_writers a_images a_images0 a_images0_tones a_images0_marks a_images0_writers a_images1 a_images1_tones a_images1_marks a_images1_writers a_samples a_copies a_orders a_office a_draft a_office a_draft v_traced v_letter_lines v_letter_luck f_letter_tones f_letter_marks f_letter_writers v_images0_lines v_images0_luck f_images0_tones f_images0_marks f_images0_writers v_images1_lines v_images1_luck f_images1_tones f_images1_marks f_images1_writers) s.heap := hP
  rw [fX7_keep] at h
  refine lv_iload_n hx hb dX7_keep_0 rfl (lv_at hl 1 rfl) ?_
  refine lv_if_lt (tgt := 9) hx hb dX7_keep_1 (by decide) (fun c1 => ?_) (fun c1 => ?_)
  · have h := zt c1 h
    refine lv_iconst (v := ((-1) : Int32)) hx hb dX7_keep_9 (by decide) ?_
    simp only [Option.some.injEq, Prod.mk.injEq] at h
    obtain ⟨rfl, rfl, rfl, rfl, rfl, rfl, rfl, rfl, rfl, rfl, rfl⟩ := h
    exact W.iret hx hb hr (fun t9 ht9 _ => zend hP hD hS ht9) hS.2.2 dX7_keep_10
  · have h := zf c1 h
    refine lv_iload_n hx hb dX7_keep_4 rfl (lv_at hl 1 rfl) ?_
    refine lv_iconst (v := (2 : Int32)) hx hb dX7_keep_5 (by decide) ?_
    refine lv_icmp_lt (tgt := 11) hx hb dX7_keep_6 (by decide) (fun c6 => ?_) (fun c6 => ?_)
    · have h := zt c6 h
      refine lv_aload_n hx hb dX7_keep_11 rfl (lv_at hl 0 rfl) ?_
      refine va_get (D := G.1) (ci := 7) (v := .ref a_images) (C := RX7) (T := TX7) (N := 9) hx hb hts in_X7_keep_X7 hown hK.1 hP 0 rfl rfl 2 (by decide) (hts (.fieldLink RX7 23 "NineHands" "images" "[LNineHands$Letter;") (by decide +kernel)) (fun _ h9 => h9) rfl dX7_keep_12 ?_
      refine lv_iload_n hx hb dX7_keep_15 rfl (lv_at hl 1 rfl) ?_
      by_cases c16_0 : x1 = (0 : Int32)
      · have h := zt c16_0 h
        refine zaldq hx hb hK.1 hP 5 4 rfl rfl (by rw [c16_0]; exact (show ¬ ((0 : Int32) < 0 ∨ 2 ≤ ((0 : Int32)).toNatClampNeg) by decide)) (q := a_images0) (by rw [c16_0]; rfl) dX7_keep_16 ?_
        refine lv_aload_n hx hb dX7_keep_17 rfl (lv_at hl 0 rfl) ?_
        refine va_get (D := G.1) (ci := 7) (v := .ref a_letter) (C := RX7) (T := TX7) (N := 9) hx hb hts in_X7_keep_X7 hown hK.1 hP 0 rfl rfl 1 (by decide) (hts (.fieldLink RX7 19 "NineHands" "letter" "LNineHands$Letter;") (by decide +kernel)) (fun _ h9 => h9) rfl dX7_keep_18 ?_
        obtain ⟨y21_v_lines, y21_v_luck, y21_f_tones, y21_f_marks, y21_f_writers, hc21, h⟩ := zb5_e h
        refine zcV (As := [.ref a_letter]) (rest := []) (ws' := (w_X7_keep G a a_text a_letter a_letter_tones a_letter_marks a_letter_writers a_images a_images0 a_images0_tones a_images0_marks a_images0_writers a_images1 a_images1_tones a_images1_marks a_images1_writers a_samples a_copies a_orders a_office a_draft a_office a_draft v_traced v_letter_lines v_letter_luck f_letter_tones f_letter_marks f_letter_writers y21_v_lines y21_v_luck y21_f_tones y21_f_marks y21_f_writers v_images1_lines v_images1_luck f_images1_tones f_images1_marks f_images1_writers)) (st1 := []) ⟨hx, hb, hml, hown, hts⟩ (c_X2_become l G a_images0 a_images0_tones a_images0_marks a_images0_writers a_letter a_letter_tones a_letter_marks a_letter_writers v_images0_lines v_images0_luck f_images0_tones f_images0_marks f_images0_writers v_letter_lines v_letter_luck f_letter_tones f_letter_marks f_letter_writers y21_v_lines y21_v_luck y21_f_tones y21_f_marks y21_f_writers hc21) (cwV 1 hts gX7_keep_X2_become rfl rfl rfl (by decide +kernel) ⟨Nat.le_of_ble_eq_true rfl, Nat.le_of_ble_eq_true rfl⟩) hK hE hP hD hS hA [6, 7, 8, 9, 1, 2, 3, 4] rfl rfl 0 2 rfl rfl rfl rfl rfl rfl hl.1 rfl (Nat.le_of_ble_eq_true rfl) dX7_keep_21 (Nat.zero_le _) (Nat.zero_le _) rfl (fun H locs hP hD hS => ?_)
        refine lv_aload_n hx hb dX7_keep_24 rfl (lv_at hl 0 rfl) ?_
        refine va_get (D := G.1) (ci := 7) (v := .ref a_letter) (C := RX7) (T := TX7) (N := 9) hx hb hts in_X7_keep_X7 hown hK.1 hP 0 rfl rfl 1 (by decide) (hts (.fieldLink RX7 19 "NineHands" "letter" "LNineHands$Letter;") (by decide +kernel)) (fun _ h9 => h9) rfl dX7_keep_25 ?_
        refine va_getN (D := G.1) (ci := 2) (v := .int v_letter_lines) (C := RX2) (T := TX2) (N := 5) hx hb hts in_X7_keep_X2 hown hK.1 hP 1 rfl rfl 3 (by decide) (va_Nw.use rfl (hK.2.1.1 ("NineHands", 105, "NineHands$Letter", "lines", "I", "NineHands") (by decide +kernel))) (fun _ h9 => h9) rfl dX7_keep_28 ?_
        simp only [Option.some.injEq, Prod.mk.injEq] at h
        obtain ⟨rfl, rfl, rfl, rfl, rfl, rfl, rfl, rfl, rfl, rfl, rfl⟩ := h
        exact W.iret hx hb hr (fun t9 ht9 _ => zend hP hD hS ht9) hS.2.2 dX7_keep_31
      have h := zf c16_0 h
      by_cases c16_1 : x1 = (1 : Int32)
      · have h := zt c16_1 h
        refine zaldq hx hb hK.1 hP 5 4 rfl rfl (by rw [c16_1]; exact (show ¬ ((1 : Int32) < 0 ∨ 2 ≤ ((1 : Int32)).toNatClampNeg) by decide)) (q := a_images1) (by rw [c16_1]; rfl) dX7_keep_16 ?_
        refine lv_aload_n hx hb dX7_keep_17 rfl (lv_at hl 0 rfl) ?_
        refine va_get (D := G.1) (ci := 7) (v := .ref a_letter) (C := RX7) (T := TX7) (N := 9) hx hb hts in_X7_keep_X7 hown hK.1 hP 0 rfl rfl 1 (by decide) (hts (.fieldLink RX7 19 "NineHands" "letter" "LNineHands$Letter;") (by decide +kernel)) (fun _ h9 => h9) rfl dX7_keep_18 ?_
        obtain ⟨y21_v_lines, y21_v_luck, y21_f_tones, y21_f_marks, y21_f_writers, hc21, h⟩ := zb5_e h
        refine zcV (As := [.ref a_letter]) (rest := []) (ws' := (w_X7_keep G a a_text a_letter a_letter_tones a_letter_marks a_letter_writers a_images a_images0 a_images0_tones a_images0_marks a_images0_writers a_images1 a_images1_tones a_images1_marks a_images1_writers a_samples a_copies a_orders a_office a_draft a_office a_draft v_traced v_letter_lines v_letter_luck f_letter_tones f_letter_marks f_letter_writers v_images0_lines v_images0_luck f_images0_tones f_images0_marks f_images0_writers y21_v_lines y21_v_luck y21_f_tones y21_f_marks y21_f_writers)) (st1 := []) ⟨hx, hb, hml, hown, hts⟩ (c_X2_become l G a_images1 a_images1_tones a_images1_marks a_images1_writers a_letter a_letter_tones a_letter_marks a_letter_writers v_images1_lines v_images1_luck f_images1_tones f_images1_marks f_images1_writers v_letter_lines v_letter_luck f_letter_tones f_letter_marks f_letter_writers y21_v_lines y21_v_luck y21_f_tones y21_f_marks y21_f_writers hc21) (cwV 1 hts gX7_keep_X2_become rfl rfl rfl (by decide +kernel) ⟨Nat.le_of_ble_eq_true rfl, Nat.le_of_ble_eq_true rfl⟩) hK hE hP hD hS hA [10, 11, 12, 13, 1, 2, 3, 4] rfl rfl 0 2 rfl rfl rfl rfl rfl rfl hl.1 rfl (Nat.le_of_ble_eq_true rfl) dX7_keep_21 (Nat.zero_le _) (Nat.zero_le _) rfl (fun H locs hP hD hS => ?_)
        refine lv_aload_n hx hb dX7_keep_24 rfl (lv_at hl 0 rfl) ?_
        refine va_get (D := G.1) (ci := 7) (v := .ref a_letter) (C := RX7) (T := TX7) (N := 9) hx hb hts in_X7_keep_X7 hown hK.1 hP 0 rfl rfl 1 (by decide) (hts (.fieldLink RX7 19 "NineHands" "letter" "LNineHands$Letter;") (by decide +kernel)) (fun _ h9 => h9) rfl dX7_keep_25 ?_
        refine va_getN (D := G.1) (ci := 2) (v := .int v_letter_lines) (C := RX2) (T := TX2) (N := 5) hx hb hts in_X7_keep_X2 hown hK.1 hP 1 rfl rfl 3 (by decide) (va_Nw.use rfl (hK.2.1.1 ("NineHands", 105, "NineHands$Letter", "lines", "I", "NineHands") (by decide +kernel))) (fun _ h9 => h9) rfl dX7_keep_28 ?_
        simp only [Option.some.injEq, Prod.mk.injEq] at h
        obtain ⟨rfl, rfl, rfl, rfl, rfl, rfl, rfl, rfl, rfl, rfl, rfl⟩ := h
        exact W.iret hx hb hr (fun t9 ht9 _ => zend hP hD hS ht9) hS.2.2 dX7_keep_31
      have h := zf c16_1 h
      cases h
    · have h := zf c6 h
      refine lv_iconst (v := ((-1) : Int32)) hx hb dX7_keep_9 (by decide) ?_
      simp only [Option.some.injEq, Prod.mk.injEq] at h
      obtain ⟨rfl, rfl, rfl, rfl, rfl, rfl, rfl, rfl, rfl, rfl, rfl⟩ := h
      exact W.iret hx hb hr (fun t9 ht9 _ => zend hP hD hS ht9) hS.2.2 dX7_keep_10
abbrev w_X7_back (G : zG) (a : Nat) (a_text : Nat) (a_letter : Nat) (a_letter_tones : Nat) (a_letter_marks : Nat) (a_letter_writers : Nat) (a_images : Nat) (a_images0 : Nat) (a_images0_tones : Nat) (a_images0_marks : Nat) (a_images0_writers : Nat) (a_images1 : Nat) (a_images1_tones : Nat) (a_images1_marks : Nat) (a_images1_writers : Nat) (a_samples : Nat) (a_copies : Nat) (a_orders : Nat) (a_office : Nat) (a_draft : Nat) (r_office : Nat) (r_draft : Nat) (v_traced : Int64) (v_letter_lines : Int32) (v_letter_luck : Int32) (f_letter_tones : (Nat → Int32)) (f_letter_marks : (Nat → Int32)) (f_letter_writers : (Nat → Int32)) (v_images0_lines : Int32) (v_images0_luck : Int32) (f_images0_tones : (Nat → Int32)) (f_images0_marks : (Nat → Int32)) (f_images0_writers : (Nat → Int32)) (v_images1_lines : Int32) (v_images1_luck : Int32) (f_images1_tones : (Nat → Int32)) (f_images1_marks : (Nat → Int32)) (f_images1_writers : (Nat → Int32)) : va_W := [(a, .inr (7, [.ref a_text, .ref a_letter, .ref a_images, .ref a_samples, .ref a_copies, .ref a_orders, .ref r_office, .ref r_draft, .long v_traced])), (a_letter, .inr (2, [.ref a_letter_tones, .ref a_letter_marks, .ref a_letter_writers, .int v_letter_lines, .int v_letter_luck])), (a_letter_tones, .inl (zCI G, 10, .inl f_letter_tones)), (a_letter_marks, .inl (zCI G, 10, .inl f_letter_marks)), (a_letter_writers, .inl (zCI G, 10, .inl f_letter_writers)), (a_images, .inl (zCL G, 2, .inr (.inr (.inr (.inr (zim a_images0 a_images1)))))), (a_images0, .inr (2, [.ref a_images0_tones, .ref a_images0_marks, .ref a_images0_writers, .int v_images0_lines, .int v_images0_luck])), (a_images0_tones, .inl (zCI G, 10, .inl f_images0_tones)), (a_images0_marks, .inl (zCI G, 10, .inl f_images0_marks)), (a_images0_writers, .inl (zCI G, 10, .inl f_images0_writers)), (a_images1, .inr (2, [.ref a_images1_tones, .ref a_images1_marks, .ref a_images1_writers, .int v_images1_lines, .int v_images1_luck])), (a_images1_tones, .inl (zCI G, 10, .inl f_images1_tones)), (a_images1_marks, .inl (zCI G, 10, .inl f_images1_marks)), (a_images1_writers, .inl (zCI G, 10, .inl f_images1_writers))]
theorem in_X7_back_X2 : ∀ w ∈ wsX20, w ∈ wsX7_back := by decide +kernel
theorem in_X7_back_X7 : ∀ w ∈ wsX70, w ∈ wsX7_back := by decide +kernel
set_option maxHeartbeats 4000000 in
set_option maxRecDepth 100000 in
theorem c_X7_back (l : Launch) (G : zG) (a : Nat) (a_text : Nat) (a_letter : Nat) (a_letter_tones : Nat) (a_letter_marks : Nat) (a_letter_writers : Nat) (a_images : Nat) (a_images0 : Nat) (a_images0_tones : Nat) (a_images0_marks : Nat) (a_images0_writers : Nat) (a_images1 : Nat) (a_images1_tones : Nat) (a_images1_marks : Nat) (a_images1_writers : Nat) (a_samples : Nat) (a_copies : Nat) (a_orders : Nat) (a_office : Nat) (a_draft : Nat) (v_traced : Int64) (v_letter_lines : Int32) (v_letter_luck : Int32) (f_letter_tones : (Nat → Int32)) (f_letter_marks : (Nat → Int32)) (f_letter_writers : (Nat → Int32)) (v_images0_lines : Int32) (v_images0_luck : Int32) (f_images0_tones : (Nat → Int32)) (f_images0_marks : (Nat → Int32)) (f_images0_writers : (Nat → Int32)) (v_images1_lines : Int32) (v_images1_luck : Int32) (f_images1_tones : (Nat → Int32)) (f_images1_marks : (Nat → Int32)) (f_images1_writers : (Nat → Int32)) (x1 : Int32) (rv : Int32) (ov_letter_lines : Int32) (ov_letter_luck : Int32) (of_letter_tones : (Nat → Int32)) (of_letter_marks : (Nat → Int32)) (of_letter_writers : (Nat → Int32)) (h : fX7_back v_letter_lines v_letter_luck f_letter_tones f_letter_marks f_letter_writers v_images0_lines v_images0_luck f_images0_tones f_images0_marks f_images0_writers v_images1_lines v_images1_luck f_images1_tones f_images1_marks f_images1_writers x1 = some (rv, ov_letter_lines, ov_letter_luck, of_letter_tones, of_letter_marks, of_letter_writers)) : zC l yX7_back wsX7_back 2 61 G [.ref a, .int x1] (w_X7_back G a a_text a_letter a_letter_tones a_letter_marks a_letter_writers a_images a_images0 a_images0_tones a_images0_marks a_images0_writers a_images1 a_images1_tones a_images1_marks a_images1_writers a_samples a_copies a_orders a_office a_draft a_office a_draft v_traced v_letter_lines v_letter_luck f_letter_tones f_letter_marks f_letter_writers v_images0_lines v_images0_luck f_images0_tones f_images0_marks f_images0_writers v_images1_lines v_images1_luck f_images1_tones f_images1_marks f_images1_writers) (some (.int rv)) (w_X7_back G a a_text a_letter a_letter_tones a_letter_marks a_letter_writers a_images a_images0 a_images0_tones a_images0_marks a_images0_writers a_images1 a_images1_tones a_images1_marks a_images1_writers a_samples a_copies a_orders a_office a_draft a_office a_draft v_traced ov_letter_lines ov_letter_luck of_letter_tones of_letter_marks of_letter_writers v_images0_lines v_images0_luck f_images0_tones f_images0_marks f_images0_writers v_images1_lines v_images1_luck f_images1_tones f_images1_marks f_images1_writers) := by
  refine fun sz => Met.ofW (cc := cX7_back) (maxL := 2) (ret := (some .int)) (by decide) rfl ?_
  intro p e s m args below meth c s₁ B hml hv
  obtain ⟨rfl, hsz, hP, hK, hD0, hE⟩ := hv
  have hx := B.exec
  have hb := B.bytes
  have hr := B.returns
  have hts := atoms_spec (ws := wsX7_back) B.pre
  have hown : s.vm.findClass RX7 = some m.cls := findClass_of_methodNamed B.named
  have hlocks := B.notSynchronized
  subst hsz
  have hD := hD0.self (sz := s.heap.size)
  generalize hAe : va_A (w_X7_back G a a_text a_letter a_letter_tones a_letter_marks a_letter_writers a_images a_images0 a_images0_tones a_images0_marks a_images0_writers a_images1 a_images1_tones a_images1_marks a_images1_writers a_samples a_copies a_orders a_office a_draft a_office a_draft v_traced v_letter_lines v_letter_luck f_letter_tones f_letter_marks f_letter_writers v_images0_lines v_images0_luck f_images0_tones f_images0_marks f_images0_writers v_images1_lines v_images1_luck f_images1_tones f_images1_marks f_images1_writers) s.heap.size = A at hD hE ⊢
  have hA : ∀ q : Nat, s.heap.size ≤ q → A q := fun q h => by rw [← hAe]; exact Or.inr h
  have hS : va_S A s.heap s.heap [] := va_S.rf
  have hl := lv_entry ([.ref a, .int x1]) (n := 2) (Nat.le_of_ble_eq_true rfl)
  rw [lg_entry_eq]
  generalize (lg_sl ([.ref a, .int x1]) ++ List.replicate (2 - (lg_sl ([.ref a, .int x1])).length) Slot.unset).toArray = ls at hl ⊢
  have hl : lv_has ls 2 [(0, .ref a), (1, .int x1)] := hl
  have hP : va_P G.1 vwCl (w_X7_back G a a_text a_letter a_letter_tones a_letter_marks a_letter_writers a_images a_images0 a_images0_tones a_images0_marks a_images0_writers a_images1 a_images1_tones a_images1_marks a_images1_writers a_samples a_copies a_orders a_office a_draft a_office a_draft v_traced v_letter_lines v_letter_luck f_letter_tones f_letter_marks f_letter_writers v_images0_lines v_images0_luck f_images0_tones f_images0_marks f_images0_writers v_images1_lines v_images1_luck f_images1_tones f_images1_marks f_images1_writers) s.heap := hP
  rw [fX7_back] at h
  refine lv_iload_n hx hb dX7_back_0 rfl (lv_at hl 1 rfl) ?_
  refine lv_if_lt (tgt := 9) hx hb dX7_back_1 (by decide) (fun c1 => ?_) (fun c1 => ?_)
  · have h := zt c1 h
    refine lv_iconst (v := ((-1) : Int32)) hx hb dX7_back_9 (by decide) ?_
    cases h
    exact W.iret hx hb hr (fun t9 ht9 _ => zend hP hD hS ht9) hS.2.2 dX7_back_10
  · have h := zf c1 h
    refine lv_iload_n hx hb dX7_back_4 rfl (lv_at hl 1 rfl) ?_
    refine lv_iconst (v := (2 : Int32)) hx hb dX7_back_5 (by decide) ?_
    refine lv_icmp_lt (tgt := 11) hx hb dX7_back_6 (by decide) (fun c6 => ?_) (fun c6 => ?_)
    · have h := zt c6 h
      refine lv_aload_n hx hb dX7_back_11 rfl (lv_at hl 0 rfl) ?_
      refine va_get (D := G.1) (ci := 7) (v := .ref a_images) (C := RX7) (T := TX7) (N := 9) hx hb hts in_X7_back_X7 hown hK.1 hP 0 rfl rfl 2 (by decide) (hts (.fieldLink RX7 23 "NineHands" "images" "[LNineHands$Letter;") (by decide +kernel)) (fun _ h9 => h9) rfl dX7_back_12 ?_
      refine lv_iload_n hx hb dX7_back_15 rfl (lv_at hl 1 rfl) ?_
      by_cases c16_0 : x1 = (0 : Int32)
      · have h := zt c16_0 h
        refine zaldq hx hb hK.1 hP 5 4 rfl rfl (by rw [c16_0]; exact (show ¬ ((0 : Int32) < 0 ∨ 2 ≤ ((0 : Int32)).toNatClampNeg) by decide)) (q := a_images0) (by rw [c16_0]; rfl) dX7_back_16 ?_
        obtain ⟨y17, hc17, h⟩ := zb1_e h
        refine zcV (As := []) (rest := []) (ws' := (w_X7_back G a a_text a_letter a_letter_tones a_letter_marks a_letter_writers a_images a_images0 a_images0_tones a_images0_marks a_images0_writers a_images1 a_images1_tones a_images1_marks a_images1_writers a_samples a_copies a_orders a_office a_draft a_office a_draft v_traced v_letter_lines v_letter_luck f_letter_tones f_letter_marks f_letter_writers v_images0_lines v_images0_luck f_images0_tones f_images0_marks f_images0_writers v_images1_lines v_images1_luck f_images1_tones f_images1_marks f_images1_writers)) (st1 := [.int y17]) ⟨hx, hb, hml, hown, hts⟩ (c_X2_isBlank l G a_images0 a_images0_tones a_images0_marks a_images0_writers v_images0_lines v_images0_luck y17 hc17) (cwV 0 hts gX7_back_X2_isBlank rfl rfl rfl (by decide +kernel) ⟨Nat.le_of_ble_eq_true rfl, Nat.le_of_ble_eq_true rfl⟩) hK hE hP hD hS hA [6] rfl rfl 0 2 rfl rfl rfl rfl rfl rfl hl.1 rfl (Nat.le_of_ble_eq_true rfl) dX7_back_17 (Nat.zero_le _) (Nat.zero_le _) rfl (fun H locs hP hD hS => ?_)
        refine lv_if_eq (tgt := 26) hx hb dX7_back_20 (by decide) (fun c20 => ?_) (fun c20 => ?_)
        · have h := zt c20 h
          refine lv_aload_n hx hb dX7_back_26 rfl (lv_at hl 0 rfl) ?_
          refine va_get (D := G.1) (ci := 7) (v := .ref a_letter) (C := RX7) (T := TX7) (N := 9) hx hb hts in_X7_back_X7 hown hK.1 hP 0 rfl rfl 1 (by decide) (hts (.fieldLink RX7 19 "NineHands" "letter" "LNineHands$Letter;") (by decide +kernel)) (fun _ h9 => h9) rfl dX7_back_27 ?_
          refine lv_aload_n hx hb dX7_back_30 rfl (lv_at hl 0 rfl) ?_
          refine va_get (D := G.1) (ci := 7) (v := .ref a_images) (C := RX7) (T := TX7) (N := 9) hx hb hts in_X7_back_X7 hown hK.1 hP 0 rfl rfl 2 (by decide) (hts (.fieldLink RX7 23 "NineHands" "images" "[LNineHands$Letter;") (by decide +kernel)) (fun _ h9 => h9) rfl dX7_back_31 ?_
          refine lv_iload_n hx hb dX7_back_34 rfl (lv_at hl 1 rfl) ?_
          by_cases c35_0 : x1 = (0 : Int32)
          · have h := zt c35_0 h
            refine zaldq hx hb hK.1 hP 5 4 rfl rfl (by rw [c35_0]; exact (show ¬ ((0 : Int32) < 0 ∨ 2 ≤ ((0 : Int32)).toNatClampNeg) by decide)) (q := a_images0) (by rw [c35_0]; rfl) dX7_back_35 ?_
            obtain ⟨y36_v_lines, y36_v_luck, y36_f_tones, y36_f_marks, y36_f_writers, hc36, h⟩ := zb5_e h
            refine zcV (As := [.ref a_images0]) (rest := []) (ws' := (w_X7_back G a a_text a_letter a_letter_tones a_letter_marks a_letter_writers a_images a_images0 a_images0_tones a_images0_marks a_images0_writers a_images1 a_images1_tones a_images1_marks a_images1_writers a_samples a_copies a_orders a_office a_draft a_office a_draft v_traced y36_v_lines y36_v_luck y36_f_tones y36_f_marks y36_f_writers v_images0_lines v_images0_luck f_images0_tones f_images0_marks f_images0_writers v_images1_lines v_images1_luck f_images1_tones f_images1_marks f_images1_writers)) (st1 := []) ⟨hx, hb, hml, hown, hts⟩ (c_X2_become l G a_letter a_letter_tones a_letter_marks a_letter_writers a_images0 a_images0_tones a_images0_marks a_images0_writers v_letter_lines v_letter_luck f_letter_tones f_letter_marks f_letter_writers v_images0_lines v_images0_luck f_images0_tones f_images0_marks f_images0_writers y36_v_lines y36_v_luck y36_f_tones y36_f_marks y36_f_writers hc36) (cwV 1 hts gX7_back_X2_become rfl rfl rfl (by decide +kernel) ⟨Nat.le_of_ble_eq_true rfl, Nat.le_of_ble_eq_true rfl⟩) hK hE hP hD hS hA [1, 2, 3, 4, 6, 7, 8, 9] rfl rfl 0 2 rfl rfl rfl rfl rfl rfl hl.1 rfl (Nat.le_of_ble_eq_true rfl) dX7_back_36 (Nat.zero_le _) (Nat.zero_le _) rfl (fun H locs hP hD hS => ?_)
            refine lv_aload_n hx hb dX7_back_39 rfl (lv_at hl 0 rfl) ?_
            refine va_get (D := G.1) (ci := 7) (v := .ref a_letter) (C := RX7) (T := TX7) (N := 9) hx hb hts in_X7_back_X7 hown hK.1 hP 0 rfl rfl 1 (by decide) (hts (.fieldLink RX7 19 "NineHands" "letter" "LNineHands$Letter;") (by decide +kernel)) (fun _ h9 => h9) rfl dX7_back_40 ?_
            refine va_getN (D := G.1) (ci := 2) (v := .int y36_v_lines) (C := RX2) (T := TX2) (N := 5) hx hb hts in_X7_back_X2 hown hK.1 hP 1 rfl rfl 3 (by decide) (va_Nw.use rfl (hK.2.1.1 ("NineHands", 105, "NineHands$Letter", "lines", "I", "NineHands") (by decide +kernel))) (fun _ h9 => h9) rfl dX7_back_43 ?_
            cases h
            exact W.iret hx hb hr (fun t9 ht9 _ => zend hP hD hS ht9) hS.2.2 dX7_back_46
          have h := zf c35_0 h
          by_cases c35_1 : x1 = (1 : Int32)
          · have h := zt c35_1 h
            refine zaldq hx hb hK.1 hP 5 4 rfl rfl (by rw [c35_1]; exact (show ¬ ((1 : Int32) < 0 ∨ 2 ≤ ((1 : Int32)).toNatClampNeg) by decide)) (q := a_images1) (by rw [c35_1]; rfl) dX7_back_35 ?_
            obtain ⟨y36_v_lines, y36_v_luck, y36_f_tones, y36_f_marks, y36_f_writers, hc36, h⟩ := zb5_e h
            refine zcV (As := [.ref a_images1]) (rest := []) (ws' := (w_X7_back G a a_text a_letter a_letter_tones a_letter_marks a_letter_writers a_images a_images0 a_images0_tones a_images0_marks a_images0_writers a_images1 a_images1_tones a_images1_marks a_images1_writers a_samples a_copies a_orders a_office a_draft a_office a_draft v_traced y36_v_lines y36_v_luck y36_f_tones y36_f_marks y36_f_writers v_images0_lines v_images0_luck f_images0_tones f_images0_marks f_images0_writers v_images1_lines v_images1_luck f_images1_tones f_images1_marks f_images1_writers)) (st1 := []) ⟨hx, hb, hml, hown, hts⟩ (c_X2_become l G a_letter a_letter_tones a_letter_marks a_letter_writers a_images1 a_images1_tones a_images1_marks a_images1_writers v_letter_lines v_letter_luck f_letter_tones f_letter_marks f_letter_writers v_images1_lines v_images1_luck f_images1_tones f_images1_marks f_images1_writers y36_v_lines y36_v_luck y36_f_tones y36_f_marks y36_f_writers hc36) (cwV 1 hts gX7_back_X2_become rfl rfl rfl (by decide +kernel) ⟨Nat.le_of_ble_eq_true rfl, Nat.le_of_ble_eq_true rfl⟩) hK hE hP hD hS hA [1, 2, 3, 4, 10, 11, 12, 13] rfl rfl 0 2 rfl rfl rfl rfl rfl rfl hl.1 rfl (Nat.le_of_ble_eq_true rfl) dX7_back_36 (Nat.zero_le _) (Nat.zero_le _) rfl (fun H locs hP hD hS => ?_)
            refine lv_aload_n hx hb dX7_back_39 rfl (lv_at hl 0 rfl) ?_
            refine va_get (D := G.1) (ci := 7) (v := .ref a_letter) (C := RX7) (T := TX7) (N := 9) hx hb hts in_X7_back_X7 hown hK.1 hP 0 rfl rfl 1 (by decide) (hts (.fieldLink RX7 19 "NineHands" "letter" "LNineHands$Letter;") (by decide +kernel)) (fun _ h9 => h9) rfl dX7_back_40 ?_
            refine va_getN (D := G.1) (ci := 2) (v := .int y36_v_lines) (C := RX2) (T := TX2) (N := 5) hx hb hts in_X7_back_X2 hown hK.1 hP 1 rfl rfl 3 (by decide) (va_Nw.use rfl (hK.2.1.1 ("NineHands", 105, "NineHands$Letter", "lines", "I", "NineHands") (by decide +kernel))) (fun _ h9 => h9) rfl dX7_back_43 ?_
            cases h
            exact W.iret hx hb hr (fun t9 ht9 _ => zend hP hD hS ht9) hS.2.2 dX7_back_46
          have h := zf c35_1 h
          cases h
        · have h := zf c20 h
          refine lv_bipush (v := ((-2) : Int32)) hx hb dX7_back_23 (by decide) ?_
          cases h
          exact W.iret hx hb hr (fun t9 ht9 _ => zend hP hD hS ht9) hS.2.2 dX7_back_25
      have h := zf c16_0 h
      by_cases c16_1 : x1 = (1 : Int32)
      · have h := zt c16_1 h
        refine zaldq hx hb hK.1 hP 5 4 rfl rfl (by rw [c16_1]; exact (show ¬ ((1 : Int32) < 0 ∨ 2 ≤ ((1 : Int32)).toNatClampNeg) by decide)) (q := a_images1) (by rw [c16_1]; rfl) dX7_back_16 ?_
        obtain ⟨y17, hc17, h⟩ := zb1_e h
        refine zcV (As := []) (rest := []) (ws' := (w_X7_back G a a_text a_letter a_letter_tones a_letter_marks a_letter_writers a_images a_images0 a_images0_tones a_images0_marks a_images0_writers a_images1 a_images1_tones a_images1_marks a_images1_writers a_samples a_copies a_orders a_office a_draft a_office a_draft v_traced v_letter_lines v_letter_luck f_letter_tones f_letter_marks f_letter_writers v_images0_lines v_images0_luck f_images0_tones f_images0_marks f_images0_writers v_images1_lines v_images1_luck f_images1_tones f_images1_marks f_images1_writers)) (st1 := [.int y17]) ⟨hx, hb, hml, hown, hts⟩ (c_X2_isBlank l G a_images1 a_images1_tones a_images1_marks a_images1_writers v_images1_lines v_images1_luck y17 hc17) (cwV 0 hts gX7_back_X2_isBlank rfl rfl rfl (by decide +kernel) ⟨Nat.le_of_ble_eq_true rfl, Nat.le_of_ble_eq_true rfl⟩) hK hE hP hD hS hA [10] rfl rfl 0 2 rfl rfl rfl rfl rfl rfl hl.1 rfl (Nat.le_of_ble_eq_true rfl) dX7_back_17 (Nat.zero_le _) (Nat.zero_le _) rfl (fun H locs hP hD hS => ?_)
        refine lv_if_eq (tgt := 26) hx hb dX7_back_20 (by decide) (fun c20 => ?_) (fun c20 => ?_)
        · have h := zt c20 h
          refine lv_aload_n hx hb dX7_back_26 rfl (lv_at hl 0 rfl) ?_
          refine va_get (D := G.1) (ci := 7) (v := .ref a_letter) (C := RX7) (T := TX7) (N := 9) hx hb hts in_X7_back_X7 hown hK.1 hP 0 rfl rfl 1 (by decide) (hts (.fieldLink RX7 19 "NineHands" "letter" "LNineHands$Letter;") (by decide +kernel)) (fun _ h9 => h9) rfl dX7_back_27 ?_
          refine lv_aload_n hx hb dX7_back_30 rfl (lv_at hl 0 rfl) ?_
          refine va_get (D := G.1) (ci := 7) (v := .ref a_images) (C := RX7) (T := TX7) (N := 9) hx hb hts in_X7_back_X7 hown hK.1 hP 0 rfl rfl 2 (by decide) (hts (.fieldLink RX7 23 "NineHands" "images" "[LNineHands$Letter;") (by decide +kernel)) (fun _ h9 => h9) rfl dX7_back_31 ?_
          refine lv_iload_n hx hb dX7_back_34 rfl (lv_at hl 1 rfl) ?_
          by_cases c35_0 : x1 = (0 : Int32)
          · have h := zt c35_0 h
            refine zaldq hx hb hK.1 hP 5 4 rfl rfl (by rw [c35_0]; exact (show ¬ ((0 : Int32) < 0 ∨ 2 ≤ ((0 : Int32)).toNatClampNeg) by decide)) (q := a_images0) (by rw [c35_0]; rfl) dX7_back_35 ?_
            obtain ⟨y36_v_lines, y36_v_luck, y36_f_tones, y36_f_marks, y36_f_writers, hc36, h⟩ := zb5_e h
            refine zcV (As := [.ref a_images0]) (rest := []) (ws' := (w_X7_back G a a_text a_letter a_letter_tones a_letter_marks a_letter_writers a_images a_images0 a_images0_tones a_images0_marks a_images0_writers a_images1 a_images1_tones a_images1_marks a_images1_writers a_samples a_copies a_orders a_office a_draft a_office a_draft v_traced y36_v_lines y36_v_luck y36_f_tones y36_f_marks y36_f_writers v_images0_lines v_images0_luck f_images0_tones f_images0_marks f_images0_writers v_images1_lines v_images1_luck f_images1_tones f_images1_marks f_images1_writers)) (st1 := []) ⟨hx, hb, hml, hown, hts⟩ (c_X2_become l G a_letter a_letter_tones a_letter_marks a_letter_writers a_images0 a_images0_tones a_images0_marks a_images0_writers v_letter_lines v_letter_luck f_letter_tones f_letter_marks f_letter_writers v_images0_lines v_images0_luck f_images0_tones f_images0_marks f_images0_writers y36_v_lines y36_v_luck y36_f_tones y36_f_marks y36_f_writers hc36) (cwV 1 hts gX7_back_X2_become rfl rfl rfl (by decide +kernel) ⟨Nat.le_of_ble_eq_true rfl, Nat.le_of_ble_eq_true rfl⟩) hK hE hP hD hS hA [1, 2, 3, 4, 6, 7, 8, 9] rfl rfl 0 2 rfl rfl rfl rfl rfl rfl hl.1 rfl (Nat.le_of_ble_eq_true rfl) dX7_back_36 (Nat.zero_le _) (Nat.zero_le _) rfl (fun H locs hP hD hS => ?_)
            refine lv_aload_n hx hb dX7_back_39 rfl (lv_at hl 0 rfl) ?_
            refine va_get (D := G.1) (ci := 7) (v := .ref a_letter) (C := RX7) (T := TX7) (N := 9) hx hb hts in_X7_back_X7 hown hK.1 hP 0 rfl rfl 1 (by decide) (hts (.fieldLink RX7 19 "NineHands" "letter" "LNineHands$Letter;") (by decide +kernel)) (fun _ h9 => h9) rfl dX7_back_40 ?_
            refine va_getN (D := G.1) (ci := 2) (v := .int y36_v_lines) (C := RX2) (T := TX2) (N := 5) hx hb hts in_X7_back_X2 hown hK.1 hP 1 rfl rfl 3 (by decide) (va_Nw.use rfl (hK.2.1.1 ("NineHands", 105, "NineHands$Letter", "lines", "I", "NineHands") (by decide +kernel))) (fun _ h9 => h9) rfl dX7_back_43 ?_
            cases h
            exact W.iret hx hb hr (fun t9 ht9 _ => zend hP hD hS ht9) hS.2.2 dX7_back_46
          have h := zf c35_0 h
          by_cases c35_1 : x1 = (1 : Int32)
          · have h := zt c35_1 h
            refine zaldq hx hb hK.1 hP 5 4 rfl rfl (by rw [c35_1]; exact (show ¬ ((1 : Int32) < 0 ∨ 2 ≤ ((1 : Int32)).toNatClampNeg) by decide)) (q := a_images1) (by rw [c35_1]; rfl) dX7_back_35 ?_
            obtain ⟨y36_v_lines, y36_v_luck, y36_f_tones, y36_f_marks, y36_f_writers, hc36, h⟩ := zb5_e h
            refine zcV (As := [.ref a_images1]) (rest := []) (ws' := (w_X7_back G a a_text a_letter a_letter_tones a_letter_marks a_letter_writers a_images a_images0 a_images0_tones a_images0_marks a_images0_writers a_images1 a_images1_tones a_images1_marks a_images1_writers a_samples a_copies a_orders a_office a_draft a_office a_draft v_traced y36_v_lines y36_v_luck y36_f_tones y36_f_marks y36_f_writers v_images0_lines v_images0_luck f_images0_tones f_images0_marks f_images0_writers v_images1_lines v_images1_luck f_images1_tones f_images1_marks f_images1_writers)) (st1 := []) ⟨hx, hb, hml, hown, hts⟩ (c_X2_become l G a_letter a_letter_tones a_letter_marks a_letter_writers a_images1 a_images1_tones a_images1_marks a_images1_writers v_letter_lines v_letter_luck f_letter_tones f_letter_marks f_letter_writers v_images1_lines v_images1_luck f_images1_tones f_images1_marks f_images1_writers y36_v_lines y36_v_luck y36_f_tones y36_f_marks y36_f_writers hc36) (cwV 1 hts gX7_back_X2_become rfl rfl rfl (by decide +kernel) ⟨Nat.le_of_ble_eq_true rfl, Nat.le_of_ble_eq_true rfl⟩) hK hE hP hD hS hA [1, 2, 3, 4, 10, 11, 12, 13] rfl rfl 0 2 rfl rfl rfl rfl rfl rfl hl.1 rfl (Nat.le_of_ble_eq_true rfl) dX7_back_36 (Nat.zero_le _) (Nat.zero_le _) rfl (fun H locs hP hD hS => ?_)
            refine lv_aload_n hx hb dX7_back_39 rfl (lv_at hl 0 rfl) ?_
            refine va_get (D := G.1) (ci := 7) (v := .ref a_letter) (C := RX7) (T := TX7) (N := 9) hx hb hts in_X7_back_X7 hown hK.1 hP 0 rfl rfl 1 (by decide) (hts (.fieldLink RX7 19 "NineHands" "letter" "LNineHands$Letter;") (by decide +kernel)) (fun _ h9 => h9) rfl dX7_back_40 ?_
            refine va_getN (D := G.1) (ci := 2) (v := .int y36_v_lines) (C := RX2) (T := TX2) (N := 5) hx hb hts in_X7_back_X2 hown hK.1 hP 1 rfl rfl 3 (by decide) (va_Nw.use rfl (hK.2.1.1 ("NineHands", 105, "NineHands$Letter", "lines", "I", "NineHands") (by decide +kernel))) (fun _ h9 => h9) rfl dX7_back_43 ?_
            cases h
            exact W.iret hx hb hr (fun t9 ht9 _ => zend hP hD hS ht9) hS.2.2 dX7_back_46
          have h := zf c35_1 h
          cases h
        · have h := zf c20 h
          refine lv_bipush (v := ((-2) : Int32)) hx hb dX7_back_23 (by decide) ?_
          cases h
          exact W.iret hx hb hr (fun t9 ht9 _ => zend hP hD hS ht9) hS.2.2 dX7_back_25
      have h := zf c16_1 h
      cases h
    · have h := zf c6 h
      refine lv_iconst (v := ((-1) : Int32)) hx hb dX7_back_9 (by decide) ?_
      cases h
      exact W.iret hx hb hr (fun t9 ht9 _ => zend hP hD hS ht9) hS.2.2 dX7_back_10
abbrev w_X7_count (G : zG) (a : Nat) (a_text : Nat) (a_text_bytes : Nat) (a_letter : Nat) (a_letter_tones : Nat) (a_letter_marks : Nat) (a_letter_writers : Nat) (a_images : Nat) (a_samples : Nat) (a_samples_tones : Nat) (a_samples_marks : Nat) (a_samples_thenTones : Nat) (a_samples_thenMarks : Nat) (a_copies : Nat) (a_copies_slips : Nat) (a_orders : Nat) (a_office : Nat) (a_office_clerks : Nat) (a_draft : Nat) (r_office : Nat) (r_draft : Nat) (v_traced : Int64) (v_text_length : Int32) (v_text_next : Int32) (v_text_start : Int32) (v_text_number : Int32) (v_letter_lines : Int32) (v_letter_luck : Int32) (v_samples_count : Int32) (v_copies_count : Int32) (v_office_count : Int32) (v_office_letterTold : Int32) (v_office_firstTone : Int32) (v_office_firstMarks : Int32) : va_W := [(a, .inr (7, [.ref a_text, .ref a_letter, .ref a_images, .ref a_samples, .ref a_copies, .ref a_orders, .ref r_office, .ref r_draft, .long v_traced])), (a_text, .inr (6, [.ref a_text_bytes, .int v_text_length, .int v_text_next, .int v_text_start, .int v_text_number])), (a_letter, .inr (2, [.ref a_letter_tones, .ref a_letter_marks, .ref a_letter_writers, .int v_letter_lines, .int v_letter_luck])), (a_samples, .inr (5, [.ref a_samples_tones, .ref a_samples_marks, .ref a_samples_thenTones, .ref a_samples_thenMarks, .int v_samples_count])), (a_copies, .inr (1, [.ref a_copies_slips, .int v_copies_count])), (a_office, .inr (3, [.ref a_office_clerks, .int v_office_count, .int v_office_letterTold, .int v_office_firstTone, .int v_office_firstMarks]))]
theorem in_X7_count_X1 : ∀ w ∈ wsX10, w ∈ wsX7_count := by decide +kernel
theorem in_X7_count_X2 : ∀ w ∈ wsX20, w ∈ wsX7_count := by decide +kernel
theorem in_X7_count_X3 : ∀ w ∈ wsX30, w ∈ wsX7_count := by decide +kernel
theorem in_X7_count_X5 : ∀ w ∈ wsX50, w ∈ wsX7_count := by decide +kernel
theorem in_X7_count_X6 : ∀ w ∈ wsX60, w ∈ wsX7_count := by decide +kernel
theorem in_X7_count_X7 : ∀ w ∈ wsX70, w ∈ wsX7_count := by decide +kernel
set_option maxHeartbeats 4000000 in
set_option maxRecDepth 100000 in
theorem c_X7_count (l : Launch) (G : zG) (a : Nat) (a_text : Nat) (a_text_bytes : Nat) (a_letter : Nat) (a_letter_tones : Nat) (a_letter_marks : Nat) (a_letter_writers : Nat) (a_images : Nat) (a_samples : Nat) (a_samples_tones : Nat) (a_samples_marks : Nat) (a_samples_thenTones : Nat) (a_samples_thenMarks : Nat) (a_copies : Nat) (a_copies_slips : Nat) (a_orders : Nat) (a_office : Nat) (a_office_clerks : Nat) (a_draft : Nat) (v_traced : Int64) (v_text_length : Int32) (v_text_next : Int32) (v_text_start : Int32) (v_text_number : Int32) (v_letter_lines : Int32) (v_letter_luck : Int32) (v_samples_count : Int32) (v_copies_count : Int32) (v_office_count : Int32) (v_office_letterTold : Int32) (v_office_firstTone : Int32) (v_office_firstMarks : Int32) (x1 : Int32) (rv : Int32) (h : fX7_count v_text_length v_letter_lines v_samples_count v_copies_count v_office_count x1 = some rv) : zC l yX7_count wsX7_count 0 0 G [.ref a, .int x1] (w_X7_count G a a_text a_text_bytes a_letter a_letter_tones a_letter_marks a_letter_writers a_images a_samples a_samples_tones a_samples_marks a_samples_thenTones a_samples_thenMarks a_copies a_copies_slips a_orders a_office a_office_clerks a_draft a_office a_draft v_traced v_text_length v_text_next v_text_start v_text_number v_letter_lines v_letter_luck v_samples_count v_copies_count v_office_count v_office_letterTold v_office_firstTone v_office_firstMarks) (some (.int rv)) (w_X7_count G a a_text a_text_bytes a_letter a_letter_tones a_letter_marks a_letter_writers a_images a_samples a_samples_tones a_samples_marks a_samples_thenTones a_samples_thenMarks a_copies a_copies_slips a_orders a_office a_office_clerks a_draft a_office a_draft v_traced v_text_length v_text_next v_text_start v_text_number v_letter_lines v_letter_luck v_samples_count v_copies_count v_office_count v_office_letterTold v_office_firstTone v_office_firstMarks) := by
  refine fun sz => Met.ofW (cc := cX7_count) (maxL := 2) (ret := (some .int)) (by decide) rfl ?_
  intro p e s m args below meth c s₁ B hml hv
  obtain ⟨rfl, hsz, hP, hK, hD0, hE⟩ := hv
  have hx := B.exec
  have hb := B.bytes
  have hr := B.returns
  have hts := atoms_spec (ws := wsX7_count) B.pre
  have hown : s.vm.findClass RX7 = some m.cls := findClass_of_methodNamed B.named
  have hlocks := B.notSynchronized
  subst hsz
  have hD := hD0.self (sz := s.heap.size)
  generalize hAe : va_A (w_X7_count G a a_text a_text_bytes a_letter a_letter_tones a_letter_marks a_letter_writers a_images a_samples a_samples_tones a_samples_marks a_samples_thenTones a_samples_thenMarks a_copies a_copies_slips a_orders a_office a_office_clerks a_draft a_office a_draft v_traced v_text_length v_text_next v_text_start v_text_number v_letter_lines v_letter_luck v_samples_count v_copies_count v_office_count v_office_letterTold v_office_firstTone v_office_firstMarks) s.heap.size = A at hD hE ⊢
  have hA : ∀ q : Nat, s.heap.size ≤ q → A q := fun q h => by rw [← hAe]; exact Or.inr h
  have hS : va_S A s.heap s.heap [] := va_S.rf
  have hl := lv_entry ([.ref a, .int x1]) (n := 2) (Nat.le_of_ble_eq_true rfl)
  rw [lg_entry_eq]
  generalize (lg_sl ([.ref a, .int x1]) ++ List.replicate (2 - (lg_sl ([.ref a, .int x1])).length) Slot.unset).toArray = ls at hl ⊢
  have hl : lv_has ls 2 [(0, .ref a), (1, .int x1)] := hl
  have hP : va_P G.1 vwCl (w_X7_count G a a_text a_text_bytes a_letter a_letter_tones a_letter_marks a_letter_writers a_images a_samples a_samples_tones a_samples_marks a_samples_thenTones a_samples_thenMarks a_copies a_copies_slips a_orders a_office a_office_clerks a_draft a_office a_draft v_traced v_text_length v_text_next v_text_start v_text_number v_letter_lines v_letter_luck v_samples_count v_copies_count v_office_count v_office_letterTold v_office_firstTone v_office_firstMarks) s.heap := hP
  rw [fX7_count] at h
  refine lv_iload_n hx hb dX7_count_0 rfl (lv_at hl 1 rfl) ?_
  by_cases c1_0 : x1 = (0 : Int32)
  · have h := zt c1_0 h
    refine lv_tableIn (off := 35) (tgt := 36) hx hb dX7_count_1 (by rw [c1_0]; decide) (by rw [c1_0]; decide) (by rw [c1_0]; rfl) (by decide) ?_
    refine lv_aload_n hx hb dX7_count_36 rfl (lv_at hl 0 rfl) ?_
    refine va_get (D := G.1) (ci := 7) (v := .ref a_office) (C := RX7) (T := TX7) (N := 9) hx hb hts in_X7_count_X7 hown hK.1 hP 0 rfl rfl 6 (by decide) (hts (.fieldLink RX7 51 "NineHands" "office" "LNineHands$Office;") (by decide +kernel)) (fun _ h9 => h9) rfl dX7_count_37 ?_
    refine va_getN (D := G.1) (ci := 3) (v := .int v_office_count) (C := RX3) (T := TX3) (N := 5) hx hb hts in_X7_count_X3 hown hK.1 hP 5 rfl rfl 1 (by decide) (va_Nw.use rfl (hK.2.1.1 ("NineHands", 264, "NineHands$Office", "count", "I", "NineHands") (by decide +kernel))) (fun _ h9 => h9) rfl dX7_count_40 ?_
    cases h
    exact W.iret hx hb hr (fun t9 ht9 _ => zend hP hD hS ht9) hS.2.2 dX7_count_43
  have h := zf c1_0 h
  by_cases c1_1 : x1 = (1 : Int32)
  · have h := zt c1_1 h
    refine lv_tableIn (off := 43) (tgt := 44) hx hb dX7_count_1 (by rw [c1_1]; decide) (by rw [c1_1]; decide) (by rw [c1_1]; rfl) (by decide) ?_
    refine lv_aload_n hx hb dX7_count_44 rfl (lv_at hl 0 rfl) ?_
    refine va_get (D := G.1) (ci := 7) (v := .ref a_letter) (C := RX7) (T := TX7) (N := 9) hx hb hts in_X7_count_X7 hown hK.1 hP 0 rfl rfl 1 (by decide) (hts (.fieldLink RX7 19 "NineHands" "letter" "LNineHands$Letter;") (by decide +kernel)) (fun _ h9 => h9) rfl dX7_count_45 ?_
    refine va_getN (D := G.1) (ci := 2) (v := .int v_letter_lines) (C := RX2) (T := TX2) (N := 5) hx hb hts in_X7_count_X2 hown hK.1 hP 2 rfl rfl 3 (by decide) (va_Nw.use rfl (hK.2.1.1 ("NineHands", 105, "NineHands$Letter", "lines", "I", "NineHands") (by decide +kernel))) (fun _ h9 => h9) rfl dX7_count_48 ?_
    cases h
    exact W.iret hx hb hr (fun t9 ht9 _ => zend hP hD hS ht9) hS.2.2 dX7_count_51
  have h := zf c1_1 h
  by_cases c1_2 : x1 = (2 : Int32)
  · have h := zt c1_2 h
    refine lv_tableIn (off := 51) (tgt := 52) hx hb dX7_count_1 (by rw [c1_2]; decide) (by rw [c1_2]; decide) (by rw [c1_2]; rfl) (by decide) ?_
    refine lv_aload_n hx hb dX7_count_52 rfl (lv_at hl 0 rfl) ?_
    refine va_get (D := G.1) (ci := 7) (v := .ref a_samples) (C := RX7) (T := TX7) (N := 9) hx hb hts in_X7_count_X7 hown hK.1 hP 0 rfl rfl 3 (by decide) (hts (.fieldLink RX7 30 "NineHands" "samples" "LNineHands$Samples;") (by decide +kernel)) (fun _ h9 => h9) rfl dX7_count_53 ?_
    refine va_getN (D := G.1) (ci := 5) (v := .int v_samples_count) (C := RX5) (T := TX5) (N := 5) hx hb hts in_X7_count_X5 hown hK.1 hP 3 rfl rfl 4 (by decide) (va_Nw.use rfl (hK.2.1.1 ("NineHands", 198, "NineHands$Samples", "count", "I", "NineHands") (by decide +kernel))) (fun _ h9 => h9) rfl dX7_count_56 ?_
    cases h
    exact W.iret hx hb hr (fun t9 ht9 _ => zend hP hD hS ht9) hS.2.2 dX7_count_59
  have h := zf c1_2 h
  by_cases c1_3 : x1 = (3 : Int32)
  · have h := zt c1_3 h
    refine lv_tableIn (off := 59) (tgt := 60) hx hb dX7_count_1 (by rw [c1_3]; decide) (by rw [c1_3]; decide) (by rw [c1_3]; rfl) (by decide) ?_
    refine lv_aload_n hx hb dX7_count_60 rfl (lv_at hl 0 rfl) ?_
    refine va_get (D := G.1) (ci := 7) (v := .ref a_copies) (C := RX7) (T := TX7) (N := 9) hx hb hts in_X7_count_X7 hown hK.1 hP 0 rfl rfl 4 (by decide) (hts (.fieldLink RX7 37 "NineHands" "copies" "LNineHands$Copies;") (by decide +kernel)) (fun _ h9 => h9) rfl dX7_count_61 ?_
    refine va_getN (D := G.1) (ci := 1) (v := .int v_copies_count) (C := RX1) (T := TX1) (N := 2) hx hb hts in_X7_count_X1 hown hK.1 hP 4 rfl rfl 1 (by decide) (va_Nw.use rfl (hK.2.1.1 ("NineHands", 226, "NineHands$Copies", "count", "I", "NineHands") (by decide +kernel))) (fun _ h9 => h9) rfl dX7_count_64 ?_
    cases h
    exact W.iret hx hb hr (fun t9 ht9 _ => zend hP hD hS ht9) hS.2.2 dX7_count_67
  have h := zf c1_3 h
  by_cases c1_4 : x1 = (4 : Int32)
  · have h := zt c1_4 h
    refine lv_tableIn (off := 67) (tgt := 68) hx hb dX7_count_1 (by rw [c1_4]; decide) (by rw [c1_4]; decide) (by rw [c1_4]; rfl) (by decide) ?_
    refine lv_aload_n hx hb dX7_count_68 rfl (lv_at hl 0 rfl) ?_
    refine va_get (D := G.1) (ci := 7) (v := .ref a_text) (C := RX7) (T := TX7) (N := 9) hx hb hts in_X7_count_X7 hown hK.1 hP 0 rfl rfl 0 (by decide) (hts (.fieldLink RX7 10 "NineHands" "text" "LNineHands$Text;") (by decide +kernel)) (fun _ h9 => h9) rfl dX7_count_69 ?_
    refine va_getN (D := G.1) (ci := 6) (v := .int v_text_length) (C := RX6) (T := TX6) (N := 5) hx hb hts in_X7_count_X6 hown hK.1 hP 1 rfl rfl 1 (by decide) (va_Nw.use rfl (hK.2.1.1 ("NineHands", 73, "NineHands$Text", "length", "I", "NineHands") (by decide +kernel))) (fun _ h9 => h9) rfl dX7_count_72 ?_
    cases h
    exact W.iret hx hb hr (fun t9 ht9 _ => zend hP hD hS ht9) hS.2.2 dX7_count_75
  have h := zf c1_4 h
  refine lv_tableOut (tgt := 76) hx hb dX7_count_1 (by have e0 := lv_neT c1_0 (a := 0) (by decide); have e1 := lv_neT c1_1 (a := 1) (by decide); have e2 := lv_neT c1_2 (a := 2) (by decide); have e3 := lv_neT c1_3 (a := 3) (by decide); have e4 := lv_neT c1_4 (a := 4) (by decide); omega) (by decide) ?_
  refine lv_iconst (v := ((-1) : Int32)) hx hb dX7_count_76 (by decide) ?_
  cases h
  exact W.iret hx hb hr (fun t9 ht9 _ => zend hP hD hS ht9) hS.2.2 dX7_count_77
abbrev w_X7_trace (G : zG) (a : Nat) (a_text : Nat) (a_letter : Nat) (a_images : Nat) (a_samples : Nat) (a_copies : Nat) (a_orders : Nat) (a_office : Nat) (a_draft : Nat) (r_office : Nat) (r_draft : Nat) (v_traced : Int64) : va_W := [(a, .inr (7, [.ref a_text, .ref a_letter, .ref a_images, .ref a_samples, .ref a_copies, .ref a_orders, .ref r_office, .ref r_draft, .long v_traced]))]
theorem in_X7_trace_X7 : ∀ w ∈ wsX70, w ∈ wsX7_trace := by decide +kernel
set_option maxHeartbeats 4000000 in
set_option maxRecDepth 100000 in
theorem c_X7_trace (l : Launch) (G : zG) (a : Nat) (a_text : Nat) (a_letter : Nat) (a_images : Nat) (a_samples : Nat) (a_copies : Nat) (a_orders : Nat) (a_office : Nat) (a_draft : Nat) (v_traced : Int64) (rv : Int64) (h : fX7_trace v_traced = some rv) : zC l yX7_trace wsX7_trace 0 0 G [.ref a] (w_X7_trace G a a_text a_letter a_images a_samples a_copies a_orders a_office a_draft a_office a_draft v_traced) (some (.long rv)) (w_X7_trace G a a_text a_letter a_images a_samples a_copies a_orders a_office a_draft a_office a_draft v_traced) := by
  refine fun sz => Met.ofW (cc := cX7_trace) (maxL := 1) (ret := (some .long)) (by decide) rfl ?_
  intro p e s m args below meth c s₁ B hml hv
  obtain ⟨rfl, hsz, hP, hK, hD0, hE⟩ := hv
  have hx := B.exec
  have hb := B.bytes
  have hr := B.returns
  have hts := atoms_spec (ws := wsX7_trace) B.pre
  have hown : s.vm.findClass RX7 = some m.cls := findClass_of_methodNamed B.named
  have hlocks := B.notSynchronized
  subst hsz
  have hD := hD0.self (sz := s.heap.size)
  generalize hAe : va_A (w_X7_trace G a a_text a_letter a_images a_samples a_copies a_orders a_office a_draft a_office a_draft v_traced) s.heap.size = A at hD hE ⊢
  have hA : ∀ q : Nat, s.heap.size ≤ q → A q := fun q h => by rw [← hAe]; exact Or.inr h
  have hS : va_S A s.heap s.heap [] := va_S.rf
  have hl := lv_entry ([.ref a]) (n := 1) (Nat.le_of_ble_eq_true rfl)
  rw [lg_entry_eq]
  generalize (lg_sl ([.ref a]) ++ List.replicate (1 - (lg_sl ([.ref a])).length) Slot.unset).toArray = ls at hl ⊢
  have hl : lv_has ls 1 [(0, .ref a)] := hl
  have hP : va_P G.1 vwCl (w_X7_trace G a a_text a_letter a_images a_samples a_copies a_orders a_office a_draft a_office a_draft v_traced) s.heap := hP
  rw [fX7_trace] at h
  refine lv_aload_n hx hb dX7_trace_0 rfl (lv_at hl 0 rfl) ?_
  refine va_get (D := G.1) (ci := 7) (v := .long v_traced) (C := RX7) (T := TX7) (N := 9) hx hb hts in_X7_trace_X7 hown hK.1 hP 0 rfl rfl 8 (by decide) (hts (.fieldLink RX7 58 "NineHands" "traced" "J") (by decide +kernel)) (fun _ h9 => h9) rfl dX7_trace_1 ?_
  cases h
  exact W.lret hx hb hr (fun t9 ht9 _ => zend hP hD hS ht9) hS.2.2 dX7_trace_4
