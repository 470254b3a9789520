abbrev w_X2_isFull (G : zG) (a : Nat) (a_tones : Nat) (a_marks : Nat) (a_writers : Nat) (v_lines : Int32) (v_luck : Int32) : va_W := [(a, .inr (2, [.ref a_tones, .ref a_marks, .ref a_writers, .int v_lines, .int v_luck]))]
theorem in_X2_isFull_X2 : ∀ w ∈ wsX20, w ∈ wsX2_isFull := by decide +kernel
set_option maxHeartbeats 4000000 in
set_option maxRecDepth 100000 in
theorem c_X2_isFull (l : Launch) (G : zG) (a : Nat) (a_tones : Nat) (a_marks : Nat) (a_writers : Nat) (v_lines : Int32) (v_luck : Int32) (rv : Int32) (h : fX2_isFull v_lines = some rv) : zC l yX2_isFull wsX2_isFull 0 0 G [.ref a] (w_X2_isFull G a a_tones a_marks a_writers v_lines v_luck) (some (.int rv)) (w_X2_isFull G a a_tones a_marks a_writers v_lines v_luck) := by
  refine fun sz => Met.ofW (cc := cX2_isFull) (maxL := 1) (ret := (some .boolean)) (by decide) rfl ?_
  intro p e s m args below meth c s₁ B hml hv
  obtain ⟨rfl, hsz, hP, hK, hD0, hE⟩ := hv
  have hx := B.exec
  have hb := B.bytes
  have hr := B.returns
  have hts := atoms_spec (ws := wsX2_isFull) B.pre
  have hown : s.vm.findClass RX2 = some m.cls := findClass_of_methodNamed B.named
  have hlocks := B.notSynchronized
  subst hsz
  have hD := hD0.self (sz := s.heap.size)
  generalize hAe : va_A (w_X2_isFull G a a_tones a_marks a_writers v_lines v_luck) s.heap.size = A at hD hE ⊢
  have hA : ∀ q : Nat, s.heap.size ≤ q → A q := fun q h => by rw [← hAe]; exact Or.inr h
  have hS : va_S A s.heap s.heap [] := va_S.rf
  have hl := lv_entry ([.ref a]) (n := 1) (Nat.le_of_ble_eq_true rfl)
  rw [lg_entry_eq]
  generalize (lg_sl ([.ref a]) ++ List.replicate (1 - (lg_sl ([.ref a])).length) Slot.unset).toArray = ls at hl ⊢
  have hl : lv_has ls 1 [(0, .ref a)] := hl
  have hP : va_P G.1 vwCl (w_X2_isFull G a a_tones a_marks a_writers v_lines v_luck) s.heap := hP
  rw [fX2_isFull] at h
  refine lv_aload_n hx hb dX2_isFull_0 rfl (lv_at hl 0 rfl) ?_
  refine va_get (D := G.1) (ci := 2) (v := .int v_lines) (C := RX2) (T := TX2) (N := 5) hx hb hts in_X2_isFull_X2 hown hK.1 hP 0 rfl rfl 3 (by decide) (hts (.fieldLink RX2 21 "NineHands$Letter" "lines" "I") (by decide +kernel)) (fun _ h9 => h9) rfl dX2_isFull_1 ?_
  refine lv_bipush (v := (10 : Int32)) hx hb dX2_isFull_4 (by decide) ?_
  refine lv_icmp_lt (tgt := 13) hx hb dX2_isFull_6 (by decide) (fun c6 => ?_) (fun c6 => ?_)
  · have h := zt c6 h
    refine lv_iconst (v := (0 : Int32)) hx hb dX2_isFull_13 (by decide) ?_
    cases h
    exact W.zret (ty := .boolean) hx hb hr rfl (fun t9 ht9 _ => zend hP hD hS ht9) hS.2.2 dX2_isFull_14
  · have h := zf c6 h
    refine lv_iconst (v := (1 : Int32)) hx hb dX2_isFull_9 (by decide) ?_
    refine lv_goto (tgt := 14) hx hb dX2_isFull_10 (by decide) ?_
    cases h
    exact W.zret (ty := .boolean) hx hb hr rfl (fun t9 ht9 _ => zend hP hD hS ht9) hS.2.2 dX2_isFull_14
abbrev w_X2_add (G : zG) (a : Nat) (a_tones : Nat) (a_marks : Nat) (a_writers : Nat) (v_lines : Int32) (v_luck : Int32) (f_tones : (Nat → Int32)) (f_marks : (Nat → Int32)) (f_writers : (Nat → Int32)) : va_W := [(a, .inr (2, [.ref a_tones, .ref a_marks, .ref a_writers, .int v_lines, .int v_luck])), (a_tones, .inl (zCI G, 10, .inl f_tones)), (a_marks, .inl (zCI G, 10, .inl f_marks)), (a_writers, .inl (zCI G, 10, .inl f_writers))]
theorem in_X2_add_X2 : ∀ w ∈ wsX20, w ∈ wsX2_add := by decide +kernel
set_option maxHeartbeats 4000000 in
set_option maxRecDepth 100000 in
theorem c_X2_add (l : Launch) (G : zG) (a : Nat) (a_tones : Nat) (a_marks : Nat) (a_writers : Nat) (v_lines : Int32) (v_luck : Int32) (f_tones : (Nat → Int32)) (f_marks : (Nat → Int32)) (f_writers : (Nat → Int32)) (x1 : Int32) (x2 : Int32) (x3 : Int32) (ov_lines : Int32) (of_tones : (Nat → Int32)) (of_marks : (Nat → Int32)) (of_writers : (Nat → Int32)) (h : fX2_add v_lines f_tones f_marks f_writers x1 x2 x3 = some (ov_lines, of_tones, of_marks, of_writers)) : zC l yX2_add wsX2_add 1 20 G [.ref a, .int x1, .int x2, .int x3] (w_X2_add G a a_tones a_marks a_writers v_lines v_luck f_tones f_marks f_writers) none (w_X2_add G a a_tones a_marks a_writers ov_lines v_luck of_tones of_marks of_writers) := by
  refine fun sz => Met.ofW (cc := cX2_add) (maxL := 4) (ret := none) (by decide) rfl ?_
  intro p e s m args below meth c s₁ B hml hv
  obtain ⟨rfl, hsz, hP, hK, hD0, hE⟩ := hv
  have hx := B.exec
  have hb := B.bytes
  have hr := B.returns
  have hts := atoms_spec (ws := wsX2_add) B.pre
  have hown : s.vm.findClass RX2 = some m.cls := findClass_of_methodNamed B.named
  have hlocks := B.notSynchronized
  subst hsz
  have hD := hD0.self (sz := s.heap.size)
  generalize hAe : va_A (w_X2_add G a a_tones a_marks a_writers v_lines v_luck f_tones f_marks f_writers) s.heap.size = A at hD hE ⊢
  have hA : ∀ q : Nat, s.heap.size ≤ q → A q := fun q h => by rw [← hAe]; exact Or.inr h
  have hS : va_S A s.heap s.heap [] := va_S.rf
  have hl := lv_entry ([.ref a, .int x1, .int x2, .int x3]) (n := 4) (Nat.le_of_ble_eq_true rfl)
  rw [lg_entry_eq]
  generalize (lg_sl ([.ref a, .int x1, .int x2, .int x3]) ++ List.replicate (4 - (lg_sl ([.ref a, .int x1, .int x2, .int x3])).length) Slot.unset).toArray = ls at hl ⊢
  have hl : lv_has ls 4 [(0, .ref a), (1, .int x1), (2, .int x2), (3, .int x3)] := hl
  have hP : va_P G.1 vwCl (w_X2_add G a a_tones a_marks a_writers v_lines v_luck f_tones f_marks f_writers) s.heap := hP
  rw [fX2_add] at h
  refine lv_aload_n hx hb dX2_add_0 rfl (lv_at hl 0 rfl) ?_
  obtain ⟨y1, hc1, h⟩ := zb1_e h
  refine zcV (As := []) (rest := []) (ws' := (w_X2_add G a a_tones a_marks a_writers v_lines v_luck f_tones f_marks f_writers)) (st1 := [.int y1]) ⟨hx, hb, hml, hown, hts⟩ (c_X2_isFull l G a a_tones a_marks a_writers v_lines v_luck y1 hc1) (cwV 0 hts gX2_add_X2_isFull rfl rfl rfl (by decide +kernel) ⟨Nat.le_of_ble_eq_true rfl, Nat.le_of_ble_eq_true rfl⟩) hK hE hP hD hS hA [0] rfl rfl 0 2 rfl rfl rfl rfl rfl rfl hl.1 rfl (Nat.le_of_ble_eq_true rfl) dX2_add_1 (Nat.zero_le _) (Nat.zero_le _) rfl (fun H locs hP hD hS => ?_)
  refine lv_if_eq (tgt := 8) hx hb dX2_add_4 (by decide) (fun c4 => ?_) (fun c4 => ?_)
  · have h := zt c4 h
    refine lv_aload_n hx hb dX2_add_8 rfl (lv_at hl 0 rfl) ?_
    refine va_get (D := G.1) (ci := 2) (v := .ref a_tones) (C := RX2) (T := TX2) (N := 5) hx hb hts in_X2_add_X2 hown hK.1 hP 0 rfl rfl 0 (by decide) (hts (.fieldLink RX2 9 "NineHands$Letter" "tones" "[I") (by decide +kernel)) (fun _ h9 => h9) rfl dX2_add_9 ?_
    refine lv_aload_n hx hb dX2_add_12 rfl (lv_at hl 0 rfl) ?_
    refine va_get (D := G.1) (ci := 2) (v := .int v_lines) (C := RX2) (T := TX2) (N := 5) hx hb hts in_X2_add_X2 hown hK.1 hP 0 rfl rfl 3 (by decide) (hts (.fieldLink RX2 21 "NineHands$Letter" "lines" "I") (by decide +kernel)) (fun _ h9 => h9) rfl dX2_add_13 ?_
    refine lv_iload_n hx hb dX2_add_16 rfl (lv_at hl 1 rfl) ?_
    obtain ⟨g17, h⟩ := zg h
    refine zast hx hb hK.1 hP hD hS 1 0 rfl rfl g17 (j := (v_lines).toNatClampNeg) rfl (ws' := (w_X2_add G a a_tones a_marks a_writers v_lines v_luck (upd f_tones (v_lines).toNatClampNeg x1) f_marks f_writers)) rfl dX2_add_17 (fun H locs hP hD hS => ?_)
    refine lv_aload_n hx hb dX2_add_18 rfl (lv_at hl 0 rfl) ?_
    refine va_get (D := G.1) (ci := 2) (v := .ref a_marks) (C := RX2) (T := TX2) (N := 5) hx hb hts in_X2_add_X2 hown hK.1 hP 0 rfl rfl 1 (by decide) (hts (.fieldLink RX2 15 "NineHands$Letter" "marks" "[I") (by decide +kernel)) (fun _ h9 => h9) rfl dX2_add_19 ?_
    refine lv_aload_n hx hb dX2_add_22 rfl (lv_at hl 0 rfl) ?_
    refine va_get (D := G.1) (ci := 2) (v := .int v_lines) (C := RX2) (T := TX2) (N := 5) hx hb hts in_X2_add_X2 hown hK.1 hP 0 rfl rfl 3 (by decide) (hts (.fieldLink RX2 21 "NineHands$Letter" "lines" "I") (by decide +kernel)) (fun _ h9 => h9) rfl dX2_add_23 ?_
    refine lv_iload_n hx hb dX2_add_26 rfl (lv_at hl 2 rfl) ?_
    refine zast hx hb hK.1 hP hD hS 2 0 rfl rfl g17 (j := (v_lines).toNatClampNeg) rfl (ws' := (w_X2_add G a a_tones a_marks a_writers v_lines v_luck (upd f_tones (v_lines).toNatClampNeg x1) (upd f_marks (v_lines).toNatClampNeg x2) f_writers)) rfl dX2_add_27 (fun H locs hP hD hS => ?_)
    refine lv_aload_n hx hb dX2_add_28 rfl (lv_at hl 0 rfl) ?_
    refine va_get (D := G.1) (ci := 2) (v := .ref a_writers) (C := RX2) (T := TX2) (N := 5) hx hb hts in_X2_add_X2 hown hK.1 hP 0 rfl rfl 2 (by decide) (hts (.fieldLink RX2 18 "NineHands$Letter" "writers" "[I") (by decide +kernel)) (fun _ h9 => h9) rfl dX2_add_29 ?_
    refine lv_aload_n hx hb dX2_add_32 rfl (lv_at hl 0 rfl) ?_
    refine va_get (D := G.1) (ci := 2) (v := .int v_lines) (C := RX2) (T := TX2) (N := 5) hx hb hts in_X2_add_X2 hown hK.1 hP 0 rfl rfl 3 (by decide) (hts (.fieldLink RX2 21 "NineHands$Letter" "lines" "I") (by decide +kernel)) (fun _ h9 => h9) rfl dX2_add_33 ?_
    refine lv_iload_n hx hb dX2_add_36 rfl (lv_at hl 3 rfl) ?_
    refine zast hx hb hK.1 hP hD hS 3 0 rfl rfl g17 (j := (v_lines).toNatClampNeg) rfl (ws' := (w_X2_add G a a_tones a_marks a_writers v_lines v_luck (upd f_tones (v_lines).toNatClampNeg x1) (upd f_marks (v_lines).toNatClampNeg x2) (upd f_writers (v_lines).toNatClampNeg x3))) rfl dX2_add_37 (fun H locs hP hD hS => ?_)
    refine lv_aload_n hx hb dX2_add_38 rfl (lv_at hl 0 rfl) ?_
    refine lv_dup hx hb dX2_add_39 rfl ?_
    refine va_get (D := G.1) (ci := 2) (v := .int v_lines) (C := RX2) (T := TX2) (N := 5) hx hb hts in_X2_add_X2 hown hK.1 hP 0 rfl rfl 3 (by decide) (hts (.fieldLink RX2 21 "NineHands$Letter" "lines" "I") (by decide +kernel)) (fun _ h9 => h9) rfl dX2_add_40 ?_
    refine lv_iconst (v := (1 : Int32)) hx hb dX2_add_43 (by decide) ?_
    refine lv_iadd hx hb dX2_add_44 ?_
    refine zput1 (D := G.1) (ci := 2) (C := RX2) (T := TX2) (N := 5) (ty := .int) (ws' := (w_X2_add G a a_tones a_marks a_writers (v_lines + (1 : Int32)) v_luck (upd f_tones (v_lines).toNatClampNeg x1) (upd f_marks (v_lines).toNatClampNeg x2) (upd f_writers (v_lines).toNatClampNeg x3))) hx hb hts in_X2_add_X2 tyX2 tyX2_ok nmX2 hown hK.1 hP hD hS 0 rfl rfl 3 (by decide) (hts (.fieldLink RX2 21 "NineHands$Letter" "lines" "I") (by decide +kernel)) (fun _ h9 => h9) rfl (by decide +kernel) rfl rfl (Nat.le_of_ble_eq_true rfl) rfl dX2_add_45 (fun H locs hP hD hS => ?_)
    cases h
    exact W.vret hx hb hr (fun t9 ht9 _ => zend hP hD hS ht9) hS.2.2 dX2_add_48
  · have h := zf c4 h
    cases h
    exact W.vret hx hb hr (fun t9 ht9 _ => zend hP hD hS ht9) hS.2.2 dX2_add_7
abbrev w_X2_begin (G : zG) (a : Nat) (a_tones : Nat) (a_marks : Nat) (a_writers : Nat) (v_lines : Int32) (v_luck : Int32) (f_tones : (Nat → Int32)) (f_marks : (Nat → Int32)) (f_writers : (Nat → Int32)) : va_W := [(a, .inr (2, [.ref a_tones, .ref a_marks, .ref a_writers, .int v_lines, .int v_luck])), (a_tones, .inl (zCI G, 10, .inl f_tones)), (a_marks, .inl (zCI G, 10, .inl f_marks)), (a_writers, .inl (zCI G, 10, .inl f_writers))]
theorem in_X2_begin_X2 : ∀ w ∈ wsX20, w ∈ wsX2_begin := by decide +kernel
set_option maxHeartbeats 4000000 in
set_option maxRecDepth 100000 in
theorem c_X2_begin (l : Launch) (G : zG) (a : Nat) (a_tones : Nat) (a_marks : Nat) (a_writers : Nat) (v_lines : Int32) (v_luck : Int32) (f_tones : (Nat → Int32)) (f_marks : (Nat → Int32)) (f_writers : (Nat → Int32)) (x1 : Int32) (x2 : Int32) (ov_lines : Int32) (of_tones : (Nat → Int32)) (of_marks : (Nat → Int32)) (of_writers : (Nat → Int32)) (h : fX2_begin v_lines f_tones f_marks f_writers x1 x2 = some (ov_lines, of_tones, of_marks, of_writers)) : zC l yX2_begin wsX2_begin 2 43 G [.ref a, .int x1, .int x2] (w_X2_begin G a a_tones a_marks a_writers v_lines v_luck f_tones f_marks f_writers) none (w_X2_begin G a a_tones a_marks a_writers ov_lines v_luck of_tones of_marks of_writers) := by
  refine fun sz => Met.ofW (cc := cX2_begin) (maxL := 3) (ret := none) (by decide) rfl ?_
  intro p e s m args below meth c s₁ B hml hv
  obtain ⟨rfl, hsz, hP, hK, hD0, hE⟩ := hv
  have hx := B.exec
  have hb := B.bytes
  have hr := B.returns
  have hts := atoms_spec (ws := wsX2_begin) B.pre
  have hown : s.vm.findClass RX2 = some m.cls := findClass_of_methodNamed B.named
  have hlocks := B.notSynchronized
  subst hsz
  have hD := hD0.self (sz := s.heap.size)
  generalize hAe : va_A (w_X2_begin G a a_tones a_marks a_writers v_lines v_luck f_tones f_marks f_writers) s.heap.size = A at hD hE ⊢
  have hA : ∀ q : Nat, s.heap.size ≤ q → A q := fun q h => by rw [← hAe]; exact Or.inr h
  have hS : va_S A s.heap s.heap [] := va_S.rf
  have hl := lv_entry ([.ref a, .int x1, .int x2]) (n := 3) (Nat.le_of_ble_eq_true rfl)
  rw [lg_entry_eq]
  generalize (lg_sl ([.ref a, .int x1, .int x2]) ++ List.replicate (3 - (lg_sl ([.ref a, .int x1, .int x2])).length) Slot.unset).toArray = ls at hl ⊢
  have hl : lv_has ls 3 [(0, .ref a), (1, .int x1), (2, .int x2)] := hl
  have hP : va_P G.1 vwCl (w_X2_begin G a a_tones a_marks a_writers v_lines v_luck f_tones f_marks f_writers) s.heap := hP
  rw [fX2_begin] at h
  refine lv_aload_n hx hb dX2_begin_0 rfl (lv_at hl 0 rfl) ?_
  refine lv_iconst (v := (0 : Int32)) hx hb dX2_begin_1 (by decide) ?_
  refine zput1 (D := G.1) (ci := 2) (C := RX2) (T := TX2) (N := 5) (ty := .int) (ws' := (w_X2_begin G a a_tones a_marks a_writers (0 : Int32) v_luck f_tones f_marks f_writers)) hx hb hts in_X2_begin_X2 tyX2 tyX2_ok nmX2 hown hK.1 hP hD hS 0 rfl rfl 3 (by decide) (hts (.fieldLink RX2 21 "NineHands$Letter" "lines" "I") (by decide +kernel)) (fun _ h9 => h9) rfl (by decide +kernel) rfl rfl (Nat.le_of_ble_eq_true rfl) rfl dX2_begin_2 (fun H locs hP hD hS => ?_)
  refine lv_aload_n hx hb dX2_begin_5 rfl (lv_at hl 0 rfl) ?_
  refine lv_iload_n hx hb dX2_begin_6 rfl (lv_at hl 1 rfl) ?_
  refine lv_iload_n hx hb dX2_begin_7 rfl (lv_at hl 2 rfl) ?_
  refine lv_bipush (v := ((-9) : Int32)) hx hb dX2_begin_8 (by decide) ?_
  obtain ⟨y10_v_lines, y10_f_tones, y10_f_marks, y10_f_writers, hc10, h⟩ := zb4_e h
  refine zcV (As := [.int x1, .int x2, .int ((-9) : Int32)]) (rest := []) (ws' := (w_X2_begin G a a_tones a_marks a_writers y10_v_lines v_luck y10_f_tones y10_f_marks y10_f_writers)) (st1 := []) ⟨hx, hb, hml, hown, hts⟩ (c_X2_add l G a a_tones a_marks a_writers (0 : Int32) v_luck f_tones f_marks f_writers x1 x2 ((-9) : Int32) y10_v_lines y10_f_tones y10_f_marks y10_f_writers hc10) (cwV 3 hts gX2_begin_X2_add rfl rfl rfl (by decide +kernel) ⟨Nat.le_of_ble_eq_true rfl, Nat.le_of_ble_eq_true rfl⟩) hK hE hP hD hS hA [0, 1, 2, 3] rfl rfl 0 2 rfl rfl rfl rfl rfl rfl hl.1 rfl (Nat.le_of_ble_eq_true rfl) dX2_begin_10 (Nat.zero_le _) (Nat.zero_le _) rfl (fun H locs hP hD hS => ?_)
  cases h
  exact W.vret hx hb hr (fun t9 ht9 _ => zend hP hD hS ht9) hS.2.2 dX2_begin_13
abbrev w_X2_isBlank (G : zG) (a : Nat) (a_tones : Nat) (a_marks : Nat) (a_writers : Nat) (v_lines : Int32) (v_luck : Int32) : va_W := [(a, .inr (2, [.ref a_tones, .ref a_marks, .ref a_writers, .int v_lines, .int v_luck]))]
theorem in_X2_isBlank_X2 : ∀ w ∈ wsX20, w ∈ wsX2_isBlank := by decide +kernel
set_option maxHeartbeats 4000000 in
set_option maxRecDepth 100000 in
theorem c_X2_isBlank (l : Launch) (G : zG) (a : Nat) (a_tones : Nat) (a_marks : Nat) (a_writers : Nat) (v_lines : Int32) (v_luck : Int32) (rv : Int32) (h : fX2_isBlank v_lines = some rv) : zC l yX2_isBlank wsX2_isBlank 0 0 G [.ref a] (w_X2_isBlank G a a_tones a_marks a_writers v_lines v_luck) (some (.int rv)) (w_X2_isBlank G a a_tones a_marks a_writers v_lines v_luck) := by
  refine fun sz => Met.ofW (cc := cX2_isBlank) (maxL := 1) (ret := (some .boolean)) (by decide) rfl ?_
  intro p e s m args below meth c s₁ B hml hv
  obtain ⟨rfl, hsz, hP, hK, hD0, hE⟩ := hv
  have hx := B.exec
  have hb := B.bytes
  have hr := B.returns
  have hts := atoms_spec (ws := wsX2_isBlank) B.pre
  have hown : s.vm.findClass RX2 = some m.cls := findClass_of_methodNamed B.named
  have hlocks := B.notSynchronized
  subst hsz
  have hD := hD0.self (sz := s.heap.size)
  generalize hAe : va_A (w_X2_isBlank G a a_tones a_marks a_writers v_lines v_luck) s.heap.size = A at hD hE ⊢
  have hA : ∀ q : Nat, s.heap.size ≤ q → A q := fun q h => by rw [← hAe]; exact Or.inr h
  have hS : va_S A s.heap s.heap [] := va_S.rf
  have hl := lv_entry ([.ref a]) (n := 1) (Nat.le_of_ble_eq_true rfl)
  rw [lg_entry_eq]
  generalize (lg_sl ([.ref a]) ++ List.replicate (1 - (lg_sl ([.ref a])).length) Slot.unset).toArray = ls at hl ⊢
  have hl : lv_has ls 1 [(0, .ref a)] := hl
  have hP : va_P G.1 vwCl (w_X2_isBlank G a a_tones a_marks a_writers v_lines v_luck) s.heap := hP
  rw [fX2_isBlank] at h
  refine lv_aload_n hx hb dX2_isBlank_0 rfl (lv_at hl 0 rfl) ?_
  refine va_get (D := G.1) (ci := 2) (v := .int v_lines) (C := RX2) (T := TX2) (N := 5) hx hb hts in_X2_isBlank_X2 hown hK.1 hP 0 rfl rfl 3 (by decide) (hts (.fieldLink RX2 21 "NineHands$Letter" "lines" "I") (by decide +kernel)) (fun _ h9 => h9) rfl dX2_isBlank_1 ?_
  refine lv_if_gt (tgt := 11) hx hb dX2_isBlank_4 (by decide) (fun c4 => ?_) (fun c4 => ?_)
  · have h := zt c4 h
    refine lv_iconst (v := (0 : Int32)) hx hb dX2_isBlank_11 (by decide) ?_
    cases h
    exact W.zret (ty := .boolean) hx hb hr rfl (fun t9 ht9 _ => zend hP hD hS ht9) hS.2.2 dX2_isBlank_12
  · have h := zf c4 h
    refine lv_iconst (v := (1 : Int32)) hx hb dX2_isBlank_7 (by decide) ?_
    refine lv_goto (tgt := 12) hx hb dX2_isBlank_8 (by decide) ?_
    cases h
    exact W.zret (ty := .boolean) hx hb hr rfl (fun t9 ht9 _ => zend hP hD hS ht9) hS.2.2 dX2_isBlank_12
abbrev w_X2_lastTone (G : zG) (a : Nat) (a_tones : Nat) (a_marks : Nat) (a_writers : Nat) (v_lines : Int32) (v_luck : Int32) (f_tones : (Nat → Int32)) : va_W := [(a, .inr (2, [.ref a_tones, .ref a_marks, .ref a_writers, .int v_lines, .int v_luck])), (a_tones, .inl (zCI G, 10, .inl f_tones))]
theorem in_X2_lastTone_X2 : ∀ w ∈ wsX20, w ∈ wsX2_lastTone := by decide +kernel
set_option maxHeartbeats 4000000 in
set_option maxRecDepth 100000 in
theorem c_X2_lastTone (l : Launch) (G : zG) (a : Nat) (a_tones : Nat) (a_marks : Nat) (a_writers : Nat) (v_lines : Int32) (v_luck : Int32) (f_tones : (Nat → Int32)) (rv : Int32) (h : fX2_lastTone v_lines f_tones = some rv) : zC l yX2_lastTone wsX2_lastTone 1 20 G [.ref a] (w_X2_lastTone G a a_tones a_marks a_writers v_lines v_luck f_tones) (some (.int rv)) (w_X2_lastTone G a a_tones a_marks a_writers v_lines v_luck f_tones) := by
  refine fun sz => Met.ofW (cc := cX2_lastTone) (maxL := 1) (ret := (some .int)) (by decide) rfl ?_
  intro p e s m args below meth c s₁ B hml hv
  obtain ⟨rfl, hsz, hP, hK, hD0, hE⟩ := hv
  have hx := B.exec
  have hb := B.bytes
  have hr := B.returns
  have hts := atoms_spec (ws := wsX2_lastTone) B.pre
  have hown : s.vm.findClass RX2 = some m.cls := findClass_of_methodNamed B.named
  have hlocks := B.notSynchronized
  subst hsz
  have hD := hD0.self (sz := s.heap.size)
  generalize hAe : va_A (w_X2_lastTone G a a_tones a_marks a_writers v_lines v_luck f_tones) s.heap.size = A at hD hE ⊢
  have hA : ∀ q : Nat, s.heap.size ≤ q → A q := fun q h => by rw [← hAe]; exact Or.inr h
  have hS : va_S A s.heap s.heap [] := va_S.rf
  have hl := lv_entry ([.ref a]) (n := 1) (Nat.le_of_ble_eq_true rfl)
  rw [lg_entry_eq]
  generalize (lg_sl ([.ref a]) ++ List.replicate (1 - (lg_sl ([.ref a])).length) Slot.unset).toArray = ls at hl ⊢
  have hl : lv_has ls 1 [(0, .ref a)] := hl
  have hP : va_P G.1 vwCl (w_X2_lastTone G a a_tones a_marks a_writers v_lines v_luck f_tones) s.heap := hP
  rw [fX2_lastTone] at h
  refine lv_aload_n hx hb dX2_lastTone_0 rfl (lv_at hl 0 rfl) ?_
  obtain ⟨y1, hc1, h⟩ := zb1_e h
  refine zcV (As := []) (rest := []) (ws' := (w_X2_lastTone G a a_tones a_marks a_writers v_lines v_luck f_tones)) (st1 := [.int y1]) ⟨hx, hb, hml, hown, hts⟩ (c_X2_isBlank l G a a_tones a_marks a_writers v_lines v_luck y1 hc1) (cwV 0 hts gX2_lastTone_X2_isBlank rfl rfl rfl (by decide +kernel) ⟨Nat.le_of_ble_eq_true rfl, Nat.le_of_ble_eq_true rfl⟩) hK hE hP hD hS hA [0] rfl rfl 0 2 rfl rfl rfl rfl rfl rfl hl.1 rfl (Nat.le_of_ble_eq_true rfl) dX2_lastTone_1 (Nat.zero_le _) (Nat.zero_le _) rfl (fun H locs hP hD hS => ?_)
  refine lv_if_eq (tgt := 11) hx hb dX2_lastTone_4 (by decide) (fun c4 => ?_) (fun c4 => ?_)
  · have h := zt c4 h
    refine lv_aload_n hx hb dX2_lastTone_11 rfl (lv_at hl 0 rfl) ?_
    refine va_get (D := G.1) (ci := 2) (v := .ref a_tones) (C := RX2) (T := TX2) (N := 5) hx hb hts in_X2_lastTone_X2 hown hK.1 hP 0 rfl rfl 0 (by decide) (hts (.fieldLink RX2 9 "NineHands$Letter" "tones" "[I") (by decide +kernel)) (fun _ h9 => h9) rfl dX2_lastTone_12 ?_
    refine lv_aload_n hx hb dX2_lastTone_15 rfl (lv_at hl 0 rfl) ?_
    refine va_get (D := G.1) (ci := 2) (v := .int v_lines) (C := RX2) (T := TX2) (N := 5) hx hb hts in_X2_lastTone_X2 hown hK.1 hP 0 rfl rfl 3 (by decide) (hts (.fieldLink RX2 21 "NineHands$Letter" "lines" "I") (by decide +kernel)) (fun _ h9 => h9) rfl dX2_lastTone_16 ?_
    refine lv_iconst (v := (1 : Int32)) hx hb dX2_lastTone_19 (by decide) ?_
    refine lv_isub hx hb dX2_lastTone_20 ?_
    obtain ⟨g21, h⟩ := zg h
    refine zald hx hb hK.1 hP 1 0 rfl rfl g21 (j := ((v_lines - (1 : Int32))).toNatClampNeg) rfl dX2_lastTone_21 ?_
    cases h
    exact W.iret hx hb hr (fun t9 ht9 _ => zend hP hD hS ht9) hS.2.2 dX2_lastTone_22
  · have h := zf c4 h
    refine lv_iconst (v := (0 : Int32)) hx hb dX2_lastTone_7 (by decide) ?_
    refine lv_goto (tgt := 22) hx hb dX2_lastTone_8 (by decide) ?_
    cases h
    exact W.iret hx hb hr (fun t9 ht9 _ => zend hP hD hS ht9) hS.2.2 dX2_lastTone_22
abbrev w_X2_lastMarks (G : zG) (a : Nat) (a_tones : Nat) (a_marks : Nat) (a_writers : Nat) (v_lines : Int32) (v_luck : Int32) (f_marks : (Nat → Int32)) : va_W := [(a, .inr (2, [.ref a_tones, .ref a_marks, .ref a_writers, .int v_lines, .int v_luck])), (a_marks, .inl (zCI G, 10, .inl f_marks))]
theorem in_X2_lastMarks_X2 : ∀ w ∈ wsX20, w ∈ wsX2_lastMarks := by decide +kernel
set_option maxHeartbeats 4000000 in
set_option maxRecDepth 100000 in
theorem c_X2_lastMarks (l : Launch) (G : zG) (a : Nat) (a_tones : Nat) (a_marks : Nat) (a_writers : Nat) (v_lines : Int32) (v_luck : Int32) (f_marks : (Nat → Int32)) (rv : Int32) (h : fX2_lastMarks v_lines f_marks = some rv) : zC l yX2_lastMarks wsX2_lastMarks 1 20 G [.ref a] (w_X2_lastMarks G a a_tones a_marks a_writers v_lines v_luck f_marks) (some (.int rv)) (w_X2_lastMarks G a a_tones a_marks a_writers v_lines v_luck f_marks) := by
  refine fun sz => Met.ofW (cc := cX2_lastMarks) (maxL := 1) (ret := (some .int)) (by decide) rfl ?_
  intro p e s m args below meth c s₁ B hml hv
  obtain ⟨rfl, hsz, hP, hK, hD0, hE⟩ := hv
  have hx := B.exec
  have hb := B.bytes
  have hr := B.returns
  have hts := atoms_spec (ws := wsX2_lastMarks) B.pre
  have hown : s.vm.findClass RX2 = some m.cls := findClass_of_methodNamed B.named
  have hlocks := B.notSynchronized
  subst hsz
  have hD := hD0.self (sz := s.heap.size)
  generalize hAe : va_A (w_X2_lastMarks G a a_tones a_marks a_writers v_lines v_luck f_marks) s.heap.size = A at hD hE ⊢
  have hA : ∀ q : Nat, s.heap.size ≤ q → A q := fun q h => by rw [← hAe]; exact Or.inr h
  have hS : va_S A s.heap s.heap [] := va_S.rf
  have hl := lv_entry ([.ref a]) (n := 1) (Nat.le_of_ble_eq_true rfl)
  rw [lg_entry_eq]
  generalize (lg_sl ([.ref a]) ++ List.replicate (1 - (lg_sl ([.ref a])).length) Slot.unset).toArray = ls at hl ⊢
  have hl : lv_has ls 1 [(0, .ref a)] := hl
  have hP : va_P G.1 vwCl (w_X2_lastMarks G a a_tones a_marks a_writers v_lines v_luck f_marks) s.heap := hP
  rw [fX2_lastMarks] at h
  refine lv_aload_n hx hb dX2_lastMarks_0 rfl (lv_at hl 0 rfl) ?_
  obtain ⟨y1, hc1, h⟩ := zb1_e h
  refine zcV (As := []) (rest := []) (ws' := (w_X2_lastMarks G a a_tones a_marks a_writers v_lines v_luck f_marks)) (st1 := [.int y1]) ⟨hx, hb, hml, hown, hts⟩ (c_X2_isBlank l G a a_tones a_marks a_writers v_lines v_luck y1 hc1) (cwV 0 hts gX2_lastMarks_X2_isBlank rfl rfl rfl (by decide +kernel) ⟨Nat.le_of_ble_eq_true rfl, Nat.le_of_ble_eq_true rfl⟩) hK hE hP hD hS hA [0] rfl rfl 0 2 rfl rfl rfl rfl rfl rfl hl.1 rfl (Nat.le_of_ble_eq_true rfl) dX2_lastMarks_1 (Nat.zero_le _) (Nat.zero_le _) rfl (fun H locs hP hD hS => ?_)
  refine lv_if_eq (tgt := 11) hx hb dX2_lastMarks_4 (by decide) (fun c4 => ?_) (fun c4 => ?_)
  · have h := zt c4 h
    refine lv_aload_n hx hb dX2_lastMarks_11 rfl (lv_at hl 0 rfl) ?_
    refine va_get (D := G.1) (ci := 2) (v := .ref a_marks) (C := RX2) (T := TX2) (N := 5) hx hb hts in_X2_lastMarks_X2 hown hK.1 hP 0 rfl rfl 1 (by decide) (hts (.fieldLink RX2 15 "NineHands$Letter" "marks" "[I") (by decide +kernel)) (fun _ h9 => h9) rfl dX2_lastMarks_12 ?_
    refine lv_aload_n hx hb dX2_lastMarks_15 rfl (lv_at hl 0 rfl) ?_
    refine va_get (D := G.1) (ci := 2) (v := .int v_lines) (C := RX2) (T := TX2) (N := 5) hx hb hts in_X2_lastMarks_X2 hown hK.1 hP 0 rfl rfl 3 (by decide) (hts (.fieldLink RX2 21 "NineHands$Letter" "lines" "I") (by decide +kernel)) (fun _ h9 => h9) rfl dX2_lastMarks_16 ?_
    refine lv_iconst (v := (1 : Int32)) hx hb dX2_lastMarks_19 (by decide) ?_
    refine lv_isub hx hb dX2_lastMarks_20 ?_
    obtain ⟨g21, h⟩ := zg h
    refine zald hx hb hK.1 hP 1 0 rfl rfl g21 (j := ((v_lines - (1 : Int32))).toNatClampNeg) rfl dX2_lastMarks_21 ?_
    cases h
    exact W.iret hx hb hr (fun t9 ht9 _ => zend hP hD hS ht9) hS.2.2 dX2_lastMarks_22
  · have h := zf c4 h
    refine lv_iconst (v := (0 : Int32)) hx hb dX2_lastMarks_7 (by decide) ?_
    refine lv_goto (tgt := 22) hx hb dX2_lastMarks_8 (by decide) ?_
    cases h
    exact W.iret hx hb hr (fun t9 ht9 _ => zend hP hD hS ht9) hS.2.2 dX2_lastMarks_22
abbrev w_X2_draw (G : zG) (a : Nat) (a_tones : Nat) (a_marks : Nat) (a_writers : Nat) (v_lines : Int32) (v_luck : Int32) : va_W := [(a, .inr (2, [.ref a_tones, .ref a_marks, .ref a_writers, .int v_lines, .int v_luck]))]
theorem in_X2_draw_X2 : ∀ w ∈ wsX20, w ∈ wsX2_draw := by decide +kernel
set_option maxHeartbeats 4000000 in
set_option maxRecDepth 100000 in
theorem c_X2_draw (l : Launch) (G : zG) (a : Nat) (a_tones : Nat) (a_marks : Nat) (a_writers : Nat) (v_lines : Int32) (v_luck : Int32) (rv : Int32) (ov_luck : Int32) (h : fX2_draw v_luck = some (rv, ov_luck)) : zC l yX2_draw wsX2_draw 0 0 G [.ref a] (w_X2_draw G a a_tones a_marks a_writers v_lines v_luck) (some (.int rv)) (w_X2_draw G a a_tones a_marks a_writers v_lines ov_luck) := by
  refine fun sz => Met.ofW (cc := cX2_draw) (maxL := 1) (ret := (some .int)) (by decide) rfl ?_
  intro p e s m args below meth c s₁ B hml hv
  obtain ⟨rfl, hsz, hP, hK, hD0, hE⟩ := hv
  have hx := B.exec
  have hb := B.bytes
  have hr := B.returns
  have hts := atoms_spec (ws := wsX2_draw) B.pre
  have hown : s.vm.findClass RX2 = some m.cls := findClass_of_methodNamed B.named
  have hlocks := B.notSynchronized
  subst hsz
  have hD := hD0.self (sz := s.heap.size)
  generalize hAe : va_A (w_X2_draw G a a_tones a_marks a_writers v_lines v_luck) s.heap.size = A at hD hE ⊢
  have hA : ∀ q : Nat, s.heap.size ≤ q → A q := fun q h => by rw [← hAe]; exact Or.inr h
  have hS : va_S A s.heap s.heap [] := va_S.rf
  have hl := lv_entry ([.ref a]) (n := 1) (Nat.le_of_ble_eq_true rfl)
  rw [lg_entry_eq]
  generalize (lg_sl ([.ref a]) ++ List.replicate (1 - (lg_sl ([.ref a])).length) Slot.unset).toArray = ls at hl ⊢
  have hl : lv_has ls 1 [(0, .ref a)] := hl
  have hP : va_P G.1 vwCl (w_X2_draw G a a_tones a_marks a_writers v_lines v_luck) s.heap := hP
  rw [fX2_draw] at h
  refine lv_aload_n hx hb dX2_draw_0 rfl (lv_at hl 0 rfl) ?_
  refine lv_aload_n hx hb dX2_draw_1 rfl (lv_at hl 0 rfl) ?_
  refine va_get (D := G.1) (ci := 2) (v := .int v_luck) (C := RX2) (T := TX2) (N := 5) hx hb hts in_X2_draw_X2 hown hK.1 hP 0 rfl rfl 4 (by decide) (hts (.fieldLink RX2 25 "NineHands$Letter" "luck" "I") (by decide +kernel)) (fun _ h9 => h9) rfl dX2_draw_2 ?_
  refine lv_ldc hx hb hown (hts (.constant RX2 39 (1103515245)) (by decide +kernel)) dX2_draw_5 ?_
  refine lv_imul hx hb dX2_draw_7 ?_
  refine lv_sipush (v := (12345 : Int32)) hx hb dX2_draw_8 (by decide) ?_
  refine lv_iadd hx hb dX2_draw_11 ?_
  refine zput1 (D := G.1) (ci := 2) (C := RX2) (T := TX2) (N := 5) (ty := .int) (ws' := (w_X2_draw G a a_tones a_marks a_writers v_lines ((v_luck * (1103515245 : Int32)) + (12345 : Int32)))) hx hb hts in_X2_draw_X2 tyX2 tyX2_ok nmX2 hown hK.1 hP hD hS 0 rfl rfl 4 (by decide) (hts (.fieldLink RX2 25 "NineHands$Letter" "luck" "I") (by decide +kernel)) (fun _ h9 => h9) rfl (by decide +kernel) rfl rfl (Nat.le_of_ble_eq_true rfl) rfl dX2_draw_12 (fun H locs hP hD hS => ?_)
  refine lv_aload_n hx hb dX2_draw_15 rfl (lv_at hl 0 rfl) ?_
  refine va_get (D := G.1) (ci := 2) (v := .int ((v_luck * (1103515245 : Int32)) + (12345 : Int32))) (C := RX2) (T := TX2) (N := 5) hx hb hts in_X2_draw_X2 hown hK.1 hP 0 rfl rfl 4 (by decide) (hts (.fieldLink RX2 25 "NineHands$Letter" "luck" "I") (by decide +kernel)) (fun _ h9 => h9) rfl dX2_draw_16 ?_
  refine lv_bipush (v := (16 : Int32)) hx hb dX2_draw_19 (by decide) ?_
  refine lv_iushr (v := (((((v_luck * (1103515245 : Int32)) + (12345 : Int32))).toUInt32 >>> (((16 : Int32)).toUInt32 &&& Int32.toUInt32 31)).toInt32)) hx hb dX2_draw_21 rfl ?_
  refine lv_bipush (v := (10 : Int32)) hx hb dX2_draw_22 (by decide) ?_
  refine lv_irem hx hb dX2_draw_24 (by decide) ?_
  cases h
  exact W.iret hx hb hr (fun t9 ht9 _ => zend hP hD hS ht9) hS.2.2 dX2_draw_25
abbrev w_X2_become (G : zG) (a : Nat) (a_tones : Nat) (a_marks : Nat) (a_writers : Nat) (a_p0 : Nat) (a_p0_tones : Nat) (a_p0_marks : Nat) (a_p0_writers : Nat) (v_lines : Int32) (v_luck : Int32) (f_tones : (Nat → Int32)) (f_marks : (Nat → Int32)) (f_writers : (Nat → Int32)) (v_p0_lines : Int32) (v_p0_luck : Int32) (f_p0_tones : (Nat → Int32)) (f_p0_marks : (Nat → Int32)) (f_p0_writers : (Nat → Int32)) : va_W := [(a, .inr (2, [.ref a_tones, .ref a_marks, .ref a_writers, .int v_lines, .int v_luck])), (a_tones, .inl (zCI G, 10, .inl f_tones)), (a_marks, .inl (zCI G, 10, .inl f_marks)), (a_writers, .inl (zCI G, 10, .inl f_writers)), (a_p0, .inr (2, [.ref a_p0_tones, .ref a_p0_marks, .ref a_p0_writers, .int v_p0_lines, .int v_p0_luck])), (a_p0_tones, .inl (zCI G, 10, .inl f_p0_tones)), (a_p0_marks, .inl (zCI G, 10, .inl f_p0_marks)), (a_p0_writers, .inl (zCI G, 10, .inl f_p0_writers))]
theorem in_X2_become_X2 : ∀ w ∈ wsX20, w ∈ wsX2_become := by decide +kernel
set_option maxHeartbeats 4000000 in
set_option maxRecDepth 100000 in
theorem c_X2_become (l : Launch) (G : zG) (a : Nat) (a_tones : Nat) (a_marks : Nat) (a_writers : Nat) (a_p0 : Nat) (a_p0_tones : Nat) (a_p0_marks : Nat) (a_p0_writers : Nat) (v_lines : Int32) (v_luck : Int32) (f_tones : (Nat → Int32)) (f_marks : (Nat → Int32)) (f_writers : (Nat → Int32)) (v_p0_lines : Int32) (v_p0_luck : Int32) (f_p0_tones : (Nat → Int32)) (f_p0_marks : (Nat → Int32)) (f_p0_writers : (Nat → Int32)) (ov_lines : Int32) (ov_luck : Int32) (of_tones : (Nat → Int32)) (of_marks : (Nat → Int32)) (of_writers : (Nat → Int32)) (h : fX2_become v_lines v_luck f_tones f_marks f_writers v_p0_lines v_p0_luck f_p0_tones f_p0_marks f_p0_writers = some (ov_lines, ov_luck, of_tones, of_marks, of_writers)) : zC l yX2_become wsX2_become 1 40 G [.ref a, .ref a_p0] (w_X2_become G a a_tones a_marks a_writers a_p0 a_p0_tones a_p0_marks a_p0_writers v_lines v_luck f_tones f_marks f_writers v_p0_lines v_p0_luck f_p0_tones f_p0_marks f_p0_writers) none (w_X2_become G a a_tones a_marks a_writers a_p0 a_p0_tones a_p0_marks a_p0_writers ov_lines ov_luck of_tones of_marks of_writers v_p0_lines v_p0_luck f_p0_tones f_p0_marks f_p0_writers) := by
  refine fun sz => Met.ofW (cc := cX2_become) (maxL := 2) (ret := none) (by decide) rfl ?_
  intro p e s m args below meth c s₁ B hml hv
  obtain ⟨rfl, hsz, hP, hK, hD0, hE⟩ := hv
  have hx := B.exec
  have hb := B.bytes
  have hr := B.returns
  have hts := atoms_spec (ws := wsX2_become) B.pre
  have hown : s.vm.findClass RX2 = some m.cls := findClass_of_methodNamed B.named
  have hlocks := B.notSynchronized
  subst hsz
  have hD := hD0.self (sz := s.heap.size)
  generalize hAe : va_A (w_X2_become G a a_tones a_marks a_writers a_p0 a_p0_tones a_p0_marks a_p0_writers v_lines v_luck f_tones f_marks f_writers v_p0_lines v_p0_luck f_p0_tones f_p0_marks f_p0_writers) s.heap.size = A at hD hE ⊢
  have hA : ∀ q : Nat, s.heap.size ≤ q → A q := fun q h => by rw [← hAe]; exact Or.inr h
  have hS : va_S A s.heap s.heap [] := va_S.rf
  have hl := lv_entry ([.ref a, .ref a_p0]) (n := 2) (Nat.le_of_ble_eq_true rfl)
  rw [lg_entry_eq]
  generalize (lg_sl ([.ref a, .ref a_p0]) ++ List.replicate (2 - (lg_sl ([.ref a, .ref a_p0])).length) Slot.unset).toArray = ls at hl ⊢
  have hl : lv_has ls 2 [(0, .ref a), (1, .ref a_p0)] := hl
  have hP : va_P G.1 vwCl (w_X2_become G a a_tones a_marks a_writers a_p0 a_p0_tones a_p0_marks a_p0_writers v_lines v_luck f_tones f_marks f_writers v_p0_lines v_p0_luck f_p0_tones f_p0_marks f_p0_writers) s.heap := hP
  rw [fX2_become] at h
  refine lv_aload_n hx hb dX2_become_0 rfl (lv_at hl 1 rfl) ?_
  refine va_get (D := G.1) (ci := 2) (v := .ref a_p0_tones) (C := RX2) (T := TX2) (N := 5) hx hb hts in_X2_become_X2 hown hK.1 hP 4 rfl rfl 0 (by decide) (hts (.fieldLink RX2 9 "NineHands$Letter" "tones" "[I") (by decide +kernel)) (fun _ h9 => h9) rfl dX2_become_1 ?_
  refine lv_iconst (v := (0 : Int32)) hx hb dX2_become_4 (by decide) ?_
  refine lv_aload_n hx hb dX2_become_5 rfl (lv_at hl 0 rfl) ?_
  refine va_get (D := G.1) (ci := 2) (v := .ref a_tones) (C := RX2) (T := TX2) (N := 5) hx hb hts in_X2_become_X2 hown hK.1 hP 0 rfl rfl 0 (by decide) (hts (.fieldLink RX2 9 "NineHands$Letter" "tones" "[I") (by decide +kernel)) (fun _ h9 => h9) rfl dX2_become_6 ?_
  refine lv_iconst (v := (0 : Int32)) hx hb dX2_become_9 (by decide) ?_
  refine lv_bipush (v := (10 : Int32)) hx hb dX2_become_10 (by decide) ?_
  refine zcpy hx hb (hml.trans hl.1.symm) hown (hts (.methodLink RX2 40 arraycopyName) (by decide +kernel)) (hts (.native arraycopyName) (by decide +kernel)) (hts (.static arraycopyName) (by decide +kernel)) (hts (.initialized "java/lang/System") (by decide +kernel)) hK.1 hP hD hS 5 1 0 rfl rfl rfl (by decide) (k := 10) (by decide) (by decide) (ws' := (w_X2_become G a a_tones a_marks a_writers a_p0 a_p0_tones a_p0_marks a_p0_writers v_lines v_luck (va_cpy f_p0_tones f_tones 0 0 10) f_marks f_writers v_p0_lines v_p0_luck f_p0_tones f_p0_marks f_p0_writers)) rfl (Nat.le_of_ble_eq_true rfl) (Nat.le_of_ble_eq_true rfl) dX2_become_12 (fun H locs hP hD hS => ?_)
  refine lv_aload_n hx hb dX2_become_15 rfl (lv_at hl 1 rfl) ?_
  refine va_get (D := G.1) (ci := 2) (v := .ref a_p0_marks) (C := RX2) (T := TX2) (N := 5) hx hb hts in_X2_become_X2 hown hK.1 hP 4 rfl rfl 1 (by decide) (hts (.fieldLink RX2 15 "NineHands$Letter" "marks" "[I") (by decide +kernel)) (fun _ h9 => h9) rfl dX2_become_16 ?_
  refine lv_iconst (v := (0 : Int32)) hx hb dX2_become_19 (by decide) ?_
  refine lv_aload_n hx hb dX2_become_20 rfl (lv_at hl 0 rfl) ?_
  refine va_get (D := G.1) (ci := 2) (v := .ref a_marks) (C := RX2) (T := TX2) (N := 5) hx hb hts in_X2_become_X2 hown hK.1 hP 0 rfl rfl 1 (by decide) (hts (.fieldLink RX2 15 "NineHands$Letter" "marks" "[I") (by decide +kernel)) (fun _ h9 => h9) rfl dX2_become_21 ?_
  refine lv_iconst (v := (0 : Int32)) hx hb dX2_become_24 (by decide) ?_
  refine lv_bipush (v := (10 : Int32)) hx hb dX2_become_25 (by decide) ?_
  refine zcpy hx hb (hml.trans hl.1.symm) hown (hts (.methodLink RX2 40 arraycopyName) (by decide +kernel)) (hts (.native arraycopyName) (by decide +kernel)) (hts (.static arraycopyName) (by decide +kernel)) (hts (.initialized "java/lang/System") (by decide +kernel)) hK.1 hP hD hS 6 2 0 rfl rfl rfl (by decide) (k := 10) (by decide) (by decide) (ws' := (w_X2_become G a a_tones a_marks a_writers a_p0 a_p0_tones a_p0_marks a_p0_writers v_lines v_luck (va_cpy f_p0_tones f_tones 0 0 10) (va_cpy f_p0_marks f_marks 0 0 10) f_writers v_p0_lines v_p0_luck f_p0_tones f_p0_marks f_p0_writers)) rfl (Nat.le_of_ble_eq_true rfl) (Nat.le_of_ble_eq_true rfl) dX2_become_27 (fun H locs hP hD hS => ?_)
  refine lv_aload_n hx hb dX2_become_30 rfl (lv_at hl 1 rfl) ?_
  refine va_get (D := G.1) (ci := 2) (v := .ref a_p0_writers) (C := RX2) (T := TX2) (N := 5) hx hb hts in_X2_become_X2 hown hK.1 hP 4 rfl rfl 2 (by decide) (hts (.fieldLink RX2 18 "NineHands$Letter" "writers" "[I") (by decide +kernel)) (fun _ h9 => h9) rfl dX2_become_31 ?_
  refine lv_iconst (v := (0 : Int32)) hx hb dX2_become_34 (by decide) ?_
  refine lv_aload_n hx hb dX2_become_35 rfl (lv_at hl 0 rfl) ?_
  refine va_get (D := G.1) (ci := 2) (v := .ref a_writers) (C := RX2) (T := TX2) (N := 5) hx hb hts in_X2_become_X2 hown hK.1 hP 0 rfl rfl 2 (by decide) (hts (.fieldLink RX2 18 "NineHands$Letter" "writers" "[I") (by decide +kernel)) (fun _ h9 => h9) rfl dX2_become_36 ?_
  refine lv_iconst (v := (0 : Int32)) hx hb dX2_become_39 (by decide) ?_
  refine lv_bipush (v := (10 : Int32)) hx hb dX2_become_40 (by decide) ?_
  refine zcpy hx hb (hml.trans hl.1.symm) hown (hts (.methodLink RX2 40 arraycopyName) (by decide +kernel)) (hts (.native arraycopyName) (by decide +kernel)) (hts (.static arraycopyName) (by decide +kernel)) (hts (.initialized "java/lang/System") (by decide +kernel)) hK.1 hP hD hS 7 3 0 rfl rfl rfl (by decide) (k := 10) (by decide) (by decide) (ws' := (w_X2_become G a a_tones a_marks a_writers a_p0 a_p0_tones a_p0_marks a_p0_writers v_lines v_luck (va_cpy f_p0_tones f_tones 0 0 10) (va_cpy f_p0_marks f_marks 0 0 10) (va_cpy f_p0_writers f_writers 0 0 10) v_p0_lines v_p0_luck f_p0_tones f_p0_marks f_p0_writers)) rfl (Nat.le_of_ble_eq_true rfl) (Nat.le_of_ble_eq_true rfl) dX2_become_42 (fun H locs hP hD hS => ?_)
  refine lv_aload_n hx hb dX2_become_45 rfl (lv_at hl 0 rfl) ?_
  refine lv_aload_n hx hb dX2_become_46 rfl (lv_at hl 1 rfl) ?_
  refine va_get (D := G.1) (ci := 2) (v := .int v_p0_lines) (C := RX2) (T := TX2) (N := 5) hx hb hts in_X2_become_X2 hown hK.1 hP 4 rfl rfl 3 (by decide) (hts (.fieldLink RX2 21 "NineHands$Letter" "lines" "I") (by decide +kernel)) (fun _ h9 => h9) rfl dX2_become_47 ?_
  refine zput1 (D := G.1) (ci := 2) (C := RX2) (T := TX2) (N := 5) (ty := .int) (ws' := (w_X2_become G a a_tones a_marks a_writers a_p0 a_p0_tones a_p0_marks a_p0_writers v_p0_lines v_luck (va_cpy f_p0_tones f_tones 0 0 10) (va_cpy f_p0_marks f_marks 0 0 10) (va_cpy f_p0_writers f_writers 0 0 10) v_p0_lines v_p0_luck f_p0_tones f_p0_marks f_p0_writers)) hx hb hts in_X2_become_X2 tyX2 tyX2_ok nmX2 hown hK.1 hP hD hS 0 rfl rfl 3 (by decide) (hts (.fieldLink RX2 21 "NineHands$Letter" "lines" "I") (by decide +kernel)) (fun _ h9 => h9) rfl (by decide +kernel) rfl rfl (Nat.le_of_ble_eq_true rfl) rfl dX2_become_50 (fun H locs hP hD hS => ?_)
  refine lv_aload_n hx hb dX2_become_53 rfl (lv_at hl 0 rfl) ?_
  refine lv_aload_n hx hb dX2_become_54 rfl (lv_at hl 1 rfl) ?_
  refine va_get (D := G.1) (ci := 2) (v := .int v_p0_luck) (C := RX2) (T := TX2) (N := 5) hx hb hts in_X2_become_X2 hown hK.1 hP 4 rfl rfl 4 (by decide) (hts (.fieldLink RX2 25 "NineHands$Letter" "luck" "I") (by decide +kernel)) (fun _ h9 => h9) rfl dX2_become_55 ?_
  refine zput1 (D := G.1) (ci := 2) (C := RX2) (T := TX2) (N := 5) (ty := .int) (ws' := (w_X2_become G a a_tones a_marks a_writers a_p0 a_p0_tones a_p0_marks a_p0_writers v_p0_lines v_p0_luck (va_cpy f_p0_tones f_tones 0 0 10) (va_cpy f_p0_marks f_marks 0 0 10) (va_cpy f_p0_writers f_writers 0 0 10) v_p0_lines v_p0_luck f_p0_tones f_p0_marks f_p0_writers)) hx hb hts in_X2_become_X2 tyX2 tyX2_ok nmX2 hown hK.1 hP hD hS 0 rfl rfl 4 (by decide) (hts (.fieldLink RX2 25 "NineHands$Letter" "luck" "I") (by decide +kernel)) (fun _ h9 => h9) rfl (by decide +kernel) rfl rfl (Nat.le_of_ble_eq_true rfl) rfl dX2_become_58 (fun H locs hP hD hS => ?_)
  cases h
  exact W.vret hx hb hr (fun t9 ht9 _ => zend hP hD hS ht9) hS.2.2 dX2_become_61
abbrev w_X3_begin (G : zG) (a : Nat) (a_clerks : Nat) (v_count : Int32) (v_letterTold : Int32) (v_firstTone : Int32) (v_firstMarks : Int32) : va_W := [(a, .inr (3, [.ref a_clerks, .int v_count, .int v_letterTold, .int v_firstTone, .int v_firstMarks]))]
theorem in_X3_begin_X3 : ∀ w ∈ wsX30, w ∈ wsX3_begin := by decide +kernel
set_option maxHeartbeats 4000000 in
set_option maxRecDepth 100000 in
theorem c_X3_begin (l : Launch) (G : zG) (a : Nat) (a_clerks : Nat) (v_count : Int32) (v_letterTold : Int32) (v_firstTone : Int32) (v_firstMarks : Int32) (ov_count : Int32) (ov_letterTold : Int32) (ov_firstTone : Int32) (ov_firstMarks : Int32) (h : fX3_begin v_count v_letterTold v_firstTone v_firstMarks = some (ov_count, ov_letterTold, ov_firstTone, ov_firstMarks)) : zC l yX3_begin wsX3_begin 0 0 G [.ref a] (w_X3_begin G a a_clerks v_count v_letterTold v_firstTone v_firstMarks) none (w_X3_begin G a a_clerks ov_count ov_letterTold ov_firstTone ov_firstMarks) := by
  refine fun sz => Met.ofW (cc := cX3_begin) (maxL := 1) (ret := none) (by decide) rfl ?_
  intro p e s m args below meth c s₁ B hml hv
  obtain ⟨rfl, hsz, hP, hK, hD0, hE⟩ := hv
  have hx := B.exec
  have hb := B.bytes
  have hr := B.returns
  have hts := atoms_spec (ws := wsX3_begin) B.pre
  have hown : s.vm.findClass RX3 = some m.cls := findClass_of_methodNamed B.named
  have hlocks := B.notSynchronized
  subst hsz
  have hD := hD0.self (sz := s.heap.size)
  generalize hAe : va_A (w_X3_begin G a a_clerks v_count v_letterTold v_firstTone v_firstMarks) s.heap.size = A at hD hE ⊢
  have hA : ∀ q : Nat, s.heap.size ≤ q → A q := fun q h => by rw [← hAe]; exact Or.inr h
  have hS : va_S A s.heap s.heap [] := va_S.rf
  have hl := lv_entry ([.ref a]) (n := 1) (Nat.le_of_ble_eq_true rfl)
  rw [lg_entry_eq]
  generalize (lg_sl ([.ref a]) ++ List.replicate (1 - (lg_sl ([.ref a])).length) Slot.unset).toArray = ls at hl ⊢
  have hl : lv_has ls 1 [(0, .ref a)] := hl
  have hP : va_P G.1 vwCl (w_X3_begin G a a_clerks v_count v_letterTold v_firstTone v_firstMarks) s.heap := hP
  rw [fX3_begin] at h
  refine lv_aload_n hx hb dX3_begin_0 rfl (lv_at hl 0 rfl) ?_
  refine lv_iconst (v := (0 : Int32)) hx hb dX3_begin_1 (by decide) ?_
  refine zput1 (D := G.1) (ci := 3) (C := RX3) (T := TX3) (N := 5) (ty := .int) (ws' := (w_X3_begin G a a_clerks (0 : Int32) v_letterTold v_firstTone v_firstMarks)) hx hb hts in_X3_begin_X3 tyX3 tyX3_ok nmX3 hown hK.1 hP hD hS 0 rfl rfl 1 (by decide) (hts (.fieldLink RX3 21 "NineHands$Office" "count" "I") (by decide +kernel)) (fun _ h9 => h9) rfl (by decide +kernel) rfl rfl (Nat.le_of_ble_eq_true rfl) rfl dX3_begin_2 (fun H locs hP hD hS => ?_)
  refine lv_aload_n hx hb dX3_begin_5 rfl (lv_at hl 0 rfl) ?_
  refine lv_iconst (v := (0 : Int32)) hx hb dX3_begin_6 (by decide) ?_
  refine zput1 (D := G.1) (ci := 3) (C := RX3) (T := TX3) (N := 5) (ty := .boolean) (ws' := (w_X3_begin G a a_clerks (0 : Int32) (0 : Int32) v_firstTone v_firstMarks)) hx hb hts in_X3_begin_X3 tyX3 tyX3_ok nmX3 hown hK.1 hP hD hS 0 rfl rfl 2 (by decide) (hts (.fieldLink RX3 25 "NineHands$Office" "letterTold" "Z") (by decide +kernel)) (fun _ h9 => h9) rfl (by decide +kernel) rfl rfl (Nat.le_of_ble_eq_true rfl) rfl dX3_begin_7 (fun H locs hP hD hS => ?_)
  refine lv_aload_n hx hb dX3_begin_10 rfl (lv_at hl 0 rfl) ?_
  refine lv_iconst (v := (5 : Int32)) hx hb dX3_begin_11 (by decide) ?_
  refine zput1 (D := G.1) (ci := 3) (C := RX3) (T := TX3) (N := 5) (ty := .int) (ws' := (w_X3_begin G a a_clerks (0 : Int32) (0 : Int32) (5 : Int32) v_firstMarks)) hx hb hts in_X3_begin_X3 tyX3 tyX3_ok nmX3 hown hK.1 hP hD hS 0 rfl rfl 3 (by decide) (hts (.fieldLink RX3 29 "NineHands$Office" "firstTone" "I") (by decide +kernel)) (fun _ h9 => h9) rfl (by decide +kernel) rfl rfl (Nat.le_of_ble_eq_true rfl) rfl dX3_begin_12 (fun H locs hP hD hS => ?_)
  refine lv_aload_n hx hb dX3_begin_15 rfl (lv_at hl 0 rfl) ?_
  refine lv_iconst (v := (0 : Int32)) hx hb dX3_begin_16 (by decide) ?_
  refine zput1 (D := G.1) (ci := 3) (C := RX3) (T := TX3) (N := 5) (ty := .int) (ws' := (w_X3_begin G a a_clerks (0 : Int32) (0 : Int32) (5 : Int32) (0 : Int32))) hx hb hts in_X3_begin_X3 tyX3 tyX3_ok nmX3 hown hK.1 hP hD hS 0 rfl rfl 4 (by decide) (hts (.fieldLink RX3 32 "NineHands$Office" "firstMarks" "I") (by decide +kernel)) (fun _ h9 => h9) rfl (by decide +kernel) rfl rfl (Nat.le_of_ble_eq_true rfl) rfl dX3_begin_17 (fun H locs hP hD hS => ?_)
  cases h
  exact W.vret hx hb hr (fun t9 ht9 _ => zend hP hD hS ht9) hS.2.2 dX3_begin_20
abbrev w_X3_find (G : zG) (a : Nat) (a_clerks : Nat) (ca_clk : Nat → Nat) (v_count : Int32) (v_letterTold : Int32) (v_firstTone : Int32) (v_firstMarks : Int32) : va_W := [(a, .inr (3, [.ref a_clerks, .int v_count, .int v_letterTold, .int v_firstTone, .int v_firstMarks])), (a_clerks, .inl (zCC G, 6, .inr (.inr (.inr (.inr (fun k => some (ca_clk k)))))))]
theorem in_X3_find_X3 : ∀ w ∈ wsX30, w ∈ wsX3_find := by decide +kernel
set_option maxHeartbeats 4000000 in
set_option maxRecDepth 100000 in
theorem c_X3_find (l : Launch) (G : zG) (a : Nat) (a_clerks : Nat) (ca_clk : Nat → Nat) (v_count : Int32) (v_letterTold : Int32) (v_firstTone : Int32) (v_firstMarks : Int32) (x1 : Int32) (rv : (Option Nat)) (h : fX3_find ca_clk v_count x1 = some rv) : zC l yX3_find wsX3_find 0 0 G [.ref a, .int x1] (w_X3_find G a a_clerks ca_clk v_count v_letterTold v_firstTone v_firstMarks) (some (va_rf rv)) (w_X3_find G a a_clerks ca_clk v_count v_letterTold v_firstTone v_firstMarks) := by
  refine fun sz => Met.ofW (cc := cX3_find) (maxL := 2) (ret := (some (.object "NineHands$Clerk"))) (by decide) rfl ?_
  intro p e s m args below meth c s₁ B hml hv
  obtain ⟨rfl, hsz, hP, hK, hD0, hE⟩ := hv
  have hx := B.exec
  have hb := B.bytes
  have hr := B.returns
  have hts := atoms_spec (ws := wsX3_find) B.pre
  have hown : s.vm.findClass RX3 = some m.cls := findClass_of_methodNamed B.named
  have hlocks := B.notSynchronized
  subst hsz
  have hD := hD0.self (sz := s.heap.size)
  generalize hAe : va_A (w_X3_find G a a_clerks ca_clk v_count v_letterTold v_firstTone v_firstMarks) s.heap.size = A at hD hE ⊢
  have hA : ∀ q : Nat, s.heap.size ≤ q → A q := fun q h => by rw [← hAe]; exact Or.inr h
  have hS : va_S A s.heap s.heap [] := va_S.rf
  have hl := lv_entry ([.ref a, .int x1]) (n := 2) (Nat.le_of_ble_eq_true rfl)
  rw [lg_entry_eq]
  generalize (lg_sl ([.ref a, .int x1]) ++ List.replicate (2 - (lg_sl ([.ref a, .int x1])).length) Slot.unset).toArray = ls at hl ⊢
  have hl : lv_has ls 2 [(0, .ref a), (1, .int x1)] := hl
  have hP : va_P G.1 vwCl (w_X3_find G a a_clerks ca_clk v_count v_letterTold v_firstTone v_firstMarks) s.heap := hP
  rw [fX3_find] at h
  refine lv_iload_n hx hb dX3_find_0 rfl (lv_at hl 1 rfl) ?_
  refine lv_if_lt (tgt := 21) hx hb dX3_find_1 (by decide) (fun c1 => ?_) (fun c1 => ?_)
  · have h := zt c1 h
    refine lv_null hx hb dX3_find_21 ?_
    cases h
    exact W.aret hx hb hr (Or.inl ⟨_, rfl⟩) (by first | exact Or.inl rfl | exact Or.inr ⟨_, rfl⟩) (fun t9 ht9 _ => zend hP hD hS ht9) hS.2.2 dX3_find_22
  · have h := zf c1 h
    refine lv_iload_n hx hb dX3_find_4 rfl (lv_at hl 1 rfl) ?_
    refine lv_aload_n hx hb dX3_find_5 rfl (lv_at hl 0 rfl) ?_
    refine va_get (D := G.1) (ci := 3) (v := .int v_count) (C := RX3) (T := TX3) (N := 5) hx hb hts in_X3_find_X3 hown hK.1 hP 0 rfl rfl 1 (by decide) (hts (.fieldLink RX3 21 "NineHands$Office" "count" "I") (by decide +kernel)) (fun _ h9 => h9) rfl dX3_find_6 ?_
    refine lv_icmp_ge (tgt := 21) hx hb dX3_find_9 (by decide) (fun c9 => ?_) (fun c9 => ?_)
    · have h := zt c9 h
      refine lv_null hx hb dX3_find_21 ?_
      cases h
      exact W.aret hx hb hr (Or.inl ⟨_, rfl⟩) (by first | exact Or.inl rfl | exact Or.inr ⟨_, rfl⟩) (fun t9 ht9 _ => zend hP hD hS ht9) hS.2.2 dX3_find_22
    · have h := zf c9 h
      refine lv_aload_n hx hb dX3_find_12 rfl (lv_at hl 0 rfl) ?_
      refine va_get (D := G.1) (ci := 3) (v := .ref a_clerks) (C := RX3) (T := TX3) (N := 5) hx hb hts in_X3_find_X3 hown hK.1 hP 0 rfl rfl 0 (by decide) (hts (.fieldLink RX3 11 "NineHands$Office" "clerks" "[LNineHands$Clerk;") (by decide +kernel)) (fun _ h9 => h9) rfl dX3_find_13 ?_
      refine lv_iload_n hx hb dX3_find_16 rfl (lv_at hl 1 rfl) ?_
      obtain ⟨g17, h⟩ := zg h
      refine zaldq hx hb hK.1 hP 1 3 rfl rfl g17 (q := (ca_clk (x1).toNatClampNeg)) rfl dX3_find_17 ?_
      refine lv_goto (tgt := 22) hx hb dX3_find_18 (by decide) ?_
      cases h
      exact W.aret hx hb hr (Or.inl ⟨_, rfl⟩) (by first | exact Or.inl rfl | exact Or.inr ⟨_, rfl⟩) (fun t9 ht9 _ => zend hP hD hS ht9) hS.2.2 dX3_find_22
abbrev w_X3_hasAll (G : zG) (a : Nat) (a_clerks : Nat) (v_count : Int32) (v_letterTold : Int32) (v_firstTone : Int32) (v_firstMarks : Int32) : va_W := [(a, .inr (3, [.ref a_clerks, .int v_count, .int v_letterTold, .int v_firstTone, .int v_firstMarks]))]
theorem in_X3_hasAll_X3 : ∀ w ∈ wsX30, w ∈ wsX3_hasAll := by decide +kernel
set_option maxHeartbeats 4000000 in
set_option maxRecDepth 100000 in
theorem c_X3_hasAll (l : Launch) (G : zG) (a : Nat) (a_clerks : Nat) (v_count : Int32) (v_letterTold : Int32) (v_firstTone : Int32) (v_firstMarks : Int32) (x1 : Int32) (rv : Int32) (h : fX3_hasAll v_count x1 = some rv) : zC l yX3_hasAll wsX3_hasAll 0 0 G [.ref a, .int x1] (w_X3_hasAll G a a_clerks v_count v_letterTold v_firstTone v_firstMarks) (some (.int rv)) (w_X3_hasAll G a a_clerks v_count v_letterTold v_firstTone v_firstMarks) := by
  refine fun sz => Met.ofW (cc := cX3_hasAll) (maxL := 2) (ret := (some .boolean)) (by decide) rfl ?_
  intro p e s m args below meth c s₁ B hml hv
  obtain ⟨rfl, hsz, hP, hK, hD0, hE⟩ := hv
  have hx := B.exec
  have hb := B.bytes
  have hr := B.returns
  have hts := atoms_spec (ws := wsX3_hasAll) B.pre
  have hown : s.vm.findClass RX3 = some m.cls := findClass_of_methodNamed B.named
  have hlocks := B.notSynchronized
  subst hsz
  have hD := hD0.self (sz := s.heap.size)
  generalize hAe : va_A (w_X3_hasAll G a a_clerks v_count v_letterTold v_firstTone v_firstMarks) s.heap.size = A at hD hE ⊢
  have hA : ∀ q : Nat, s.heap.size ≤ q → A q := fun q h => by rw [← hAe]; exact Or.inr h
  have hS : va_S A s.heap s.heap [] := va_S.rf
  have hl := lv_entry ([.ref a, .int x1]) (n := 2) (Nat.le_of_ble_eq_true rfl)
  rw [lg_entry_eq]
  generalize (lg_sl ([.ref a, .int x1]) ++ List.replicate (2 - (lg_sl ([.ref a, .int x1])).length) Slot.unset).toArray = ls at hl ⊢
  have hl : lv_has ls 2 [(0, .ref a), (1, .int x1)] := hl
  have hP : va_P G.1 vwCl (w_X3_hasAll G a a_clerks v_count v_letterTold v_firstTone v_firstMarks) s.heap := hP
  rw [fX3_hasAll] at h
  refine lv_iload_n hx hb dX3_hasAll_0 rfl (lv_at hl 1 rfl) ?_
  refine lv_if_lt (tgt := 18) hx hb dX3_hasAll_1 (by decide) (fun c1 => ?_) (fun c1 => ?_)
  · have h := zt c1 h
    refine lv_iconst (v := (0 : Int32)) hx hb dX3_hasAll_18 (by decide) ?_
    cases h
    exact W.zret (ty := .boolean) hx hb hr rfl (fun t9 ht9 _ => zend hP hD hS ht9) hS.2.2 dX3_hasAll_19
  · have h := zf c1 h
    refine lv_iload_n hx hb dX3_hasAll_4 rfl (lv_at hl 1 rfl) ?_
    refine lv_iconst (v := (1 : Int32)) hx hb dX3_hasAll_5 (by decide) ?_
    refine lv_aload_n hx hb dX3_hasAll_6 rfl (lv_at hl 0 rfl) ?_
    refine va_get (D := G.1) (ci := 3) (v := .int v_count) (C := RX3) (T := TX3) (N := 5) hx hb hts in_X3_hasAll_X3 hown hK.1 hP 0 rfl rfl 1 (by decide) (hts (.fieldLink RX3 21 "NineHands$Office" "count" "I") (by decide +kernel)) (fun _ h9 => h9) rfl dX3_hasAll_7 ?_
    refine lv_ishl hx hb dX3_hasAll_10 ?_
    refine lv_icmp_ge (tgt := 18) hx hb dX3_hasAll_11 (by decide) (fun c11 => ?_) (fun c11 => ?_)
    · have h := zt c11 h
      refine lv_iconst (v := (0 : Int32)) hx hb dX3_hasAll_18 (by decide) ?_
      cases h
      exact W.zret (ty := .boolean) hx hb hr rfl (fun t9 ht9 _ => zend hP hD hS ht9) hS.2.2 dX3_hasAll_19
    · have h := zf c11 h
      refine lv_iconst (v := (1 : Int32)) hx hb dX3_hasAll_14 (by decide) ?_
      refine lv_goto (tgt := 19) hx hb dX3_hasAll_15 (by decide) ?_
      cases h
      exact W.zret (ty := .boolean) hx hb hr rfl (fun t9 ht9 _ => zend hP hD hS ht9) hS.2.2 dX3_hasAll_19
abbrev w_X3_isFull (G : zG) (a : Nat) (a_clerks : Nat) (v_count : Int32) (v_letterTold : Int32) (v_firstTone : Int32) (v_firstMarks : Int32) : va_W := [(a, .inr (3, [.ref a_clerks, .int v_count, .int v_letterTold, .int v_firstTone, .int v_firstMarks]))]
theorem in_X3_isFull_X3 : ∀ w ∈ wsX30, w ∈ wsX3_isFull := by decide +kernel
set_option maxHeartbeats 4000000 in
set_option maxRecDepth 100000 in
theorem c_X3_isFull (l : Launch) (G : zG) (a : Nat) (a_clerks : Nat) (v_count : Int32) (v_letterTold : Int32) (v_firstTone : Int32) (v_firstMarks : Int32) (rv : Int32) (h : fX3_isFull v_count = some rv) : zC l yX3_isFull wsX3_isFull 0 0 G [.ref a] (w_X3_isFull G a a_clerks v_count v_letterTold v_firstTone v_firstMarks) (some (.int rv)) (w_X3_isFull G a a_clerks v_count v_letterTold v_firstTone v_firstMarks) := by
  refine fun sz => Met.ofW (cc := cX3_isFull) (maxL := 1) (ret := (some .boolean)) (by decide) rfl ?_
  intro p e s m args below meth c s₁ B hml hv
  obtain ⟨rfl, hsz, hP, hK, hD0, hE⟩ := hv
  have hx := B.exec
  have hb := B.bytes
  have hr := B.returns
  have hts := atoms_spec (ws := wsX3_isFull) B.pre
  have hown : s.vm.findClass RX3 = some m.cls := findClass_of_methodNamed B.named
  have hlocks := B.notSynchronized
  subst hsz
  have hD := hD0.self (sz := s.heap.size)
  generalize hAe : va_A (w_X3_isFull G a a_clerks v_count v_letterTold v_firstTone v_firstMarks) s.heap.size = A at hD hE ⊢
  have hA : ∀ q : Nat, s.heap.size ≤ q → A q := fun q h => by rw [← hAe]; exact Or.inr h
  have hS : va_S A s.heap s.heap [] := va_S.rf
  have hl := lv_entry ([.ref a]) (n := 1) (Nat.le_of_ble_eq_true rfl)
  rw [lg_entry_eq]
  generalize (lg_sl ([.ref a]) ++ List.replicate (1 - (lg_sl ([.ref a])).length) Slot.unset).toArray = ls at hl ⊢
  have hl : lv_has ls 1 [(0, .ref a)] := hl
  have hP : va_P G.1 vwCl (w_X3_isFull G a a_clerks v_count v_letterTold v_firstTone v_firstMarks) s.heap := hP
  rw [fX3_isFull] at h
  refine lv_aload_n hx hb dX3_isFull_0 rfl (lv_at hl 0 rfl) ?_
  refine va_get (D := G.1) (ci := 3) (v := .int v_count) (C := RX3) (T := TX3) (N := 5) hx hb hts in_X3_isFull_X3 hown hK.1 hP 0 rfl rfl 1 (by decide) (hts (.fieldLink RX3 21 "NineHands$Office" "count" "I") (by decide +kernel)) (fun _ h9 => h9) rfl dX3_isFull_1 ?_
  refine lv_bipush (v := (6 : Int32)) hx hb dX3_isFull_4 (by decide) ?_
  refine lv_icmp_lt (tgt := 13) hx hb dX3_isFull_6 (by decide) (fun c6 => ?_) (fun c6 => ?_)
  · have h := zt c6 h
    refine lv_iconst (v := (0 : Int32)) hx hb dX3_isFull_13 (by decide) ?_
    cases h
    exact W.zret (ty := .boolean) hx hb hr rfl (fun t9 ht9 _ => zend hP hD hS ht9) hS.2.2 dX3_isFull_14
  · have h := zf c6 h
    refine lv_iconst (v := (1 : Int32)) hx hb dX3_isFull_9 (by decide) ?_
    refine lv_goto (tgt := 14) hx hb dX3_isFull_10 (by decide) ?_
    cases h
    exact W.zret (ty := .boolean) hx hb hr rfl (fun t9 ht9 _ => zend hP hD hS ht9) hS.2.2 dX3_isFull_14
abbrev w_X3_add (G : zG) (a : Nat) (a_clerks : Nat) (ca_clk : Nat → Nat) (v_count : Int32) (v_letterTold : Int32) (v_firstTone : Int32) (v_firstMarks : Int32) (k_lean : (Nat → Int32)) (k_sets : (Nat → Int32)) (k_drops : (Nat → Int32)) (k_keeps : (Nat → Int32)) : va_W := [(a, .inr (3, [.ref a_clerks, .int v_count, .int v_letterTold, .int v_firstTone, .int v_firstMarks])), (a_clerks, .inl (zCC G, 6, .inr (.inr (.inr (.inr (fun k => some (ca_clk k)))))))] ++ zclks ca_clk k_lean k_sets k_drops k_keeps
theorem in_X3_add_X0 : ∀ w ∈ wsX00, w ∈ wsX3_add := by decide +kernel
theorem in_X3_add_X3 : ∀ w ∈ wsX30, w ∈ wsX3_add := by decide +kernel
set_option maxHeartbeats 4000000 in
set_option maxRecDepth 100000 in
theorem c_X3_add (l : Launch) (G : zG) (a : Nat) (a_clerks : Nat) (ca_clk : Nat → Nat) (v_count : Int32) (v_letterTold : Int32) (v_firstTone : Int32) (v_firstMarks : Int32) (k_lean : (Nat → Int32)) (k_sets : (Nat → Int32)) (k_drops : (Nat → Int32)) (k_keeps : (Nat → Int32)) (x1 : Int32) (x2 : Int32) (x3 : Int32) (x4 : Int32) (ov_count : Int32) (ok_lean : (Nat → Int32)) (ok_sets : (Nat → Int32)) (ok_drops : (Nat → Int32)) (ok_keeps : (Nat → Int32)) (h : fX3_add v_count k_lean k_sets k_drops k_keeps x1 x2 x3 x4 = some (ov_count, ok_lean, ok_sets, ok_drops, ok_keeps)) : zC l yX3_add wsX3_add 1 20 G [.ref a, .int x1, .int x2, .int x3, .int x4] (w_X3_add G a a_clerks ca_clk v_count v_letterTold v_firstTone v_firstMarks k_lean k_sets k_drops k_keeps) none (w_X3_add G a a_clerks ca_clk ov_count v_letterTold v_firstTone v_firstMarks ok_lean ok_sets ok_drops ok_keeps) := by
  refine fun sz => Met.ofW (cc := cX3_add) (maxL := 6) (ret := none) (by decide) rfl ?_
  intro p e s m args below meth c s₁ B hml hv
  obtain ⟨rfl, hsz, hP, hK, hD0, hE⟩ := hv
  have hx := B.exec
  have hb := B.bytes
  have hr := B.returns
  have hts := atoms_spec (ws := wsX3_add) B.pre
  have hown : s.vm.findClass RX3 = some m.cls := findClass_of_methodNamed B.named
  have hlocks := B.notSynchronized
  subst hsz
  have hD := hD0.self (sz := s.heap.size)
  generalize hAe : va_A (w_X3_add G a a_clerks ca_clk v_count v_letterTold v_firstTone v_firstMarks k_lean k_sets k_drops k_keeps) s.heap.size = A at hD hE ⊢
  have hA : ∀ q : Nat, s.heap.size ≤ q → A q := fun q h => by rw [← hAe]; exact Or.inr h
  have hS : va_S A s.heap s.heap [] := va_S.rf
  have hl := lv_entry ([.ref a, .int x1, .int x2, .int x3, .int x4]) (n := 6) (Nat.le_of_ble_eq_true rfl)
  rw [lg_entry_eq]
  generalize (lg_sl ([.ref a, .int x1, .int x2, .int x3, .int x4]) ++ List.replicate (6 - (lg_sl ([.ref a, .int x1, .int x2, .int x3, .int x4])).length) Slot.unset).toArray = ls at hl ⊢
  have hl : lv_has ls 6 [(0, .ref a), (1, .int x1), (2, .int x2), (3, .int x3), (4, .int x4)] := hl
  have hP : va_P G.1 vwCl (w_X3_add G a a_clerks ca_clk v_count v_letterTold v_firstTone v_firstMarks k_lean k_sets k_drops k_keeps) s.heap := hP
  rw [fX3_add] at h
  refine lv_aload_n hx hb dX3_add_0 rfl (lv_at hl 0 rfl) ?_
  obtain ⟨y1, hc1, h⟩ := zb1_e h
  refine zcV (As := []) (rest := []) (ws' := (w_X3_add G a a_clerks ca_clk v_count v_letterTold v_firstTone v_firstMarks k_lean k_sets k_drops k_keeps)) (st1 := [.int y1]) ⟨hx, hb, hml, hown, hts⟩ (c_X3_isFull l G a a_clerks v_count v_letterTold v_firstTone v_firstMarks y1 hc1) (cwV 0 hts gX3_add_X3_isFull rfl rfl rfl (by decide +kernel) ⟨Nat.le_of_ble_eq_true rfl, Nat.le_of_ble_eq_true rfl⟩) hK hE hP hD hS hA [0] rfl rfl 0 3 rfl rfl rfl rfl rfl rfl hl.1 rfl (Nat.le_of_ble_eq_true rfl) dX3_add_1 (Nat.zero_le _) (Nat.zero_le _) rfl (fun H locs hP hD hS => ?_)
  refine lv_if_eq (tgt := 8) hx hb dX3_add_4 (by decide) (fun c4 => ?_) (fun c4 => ?_)
  · have h := zt c4 h
    refine lv_aload_n hx hb dX3_add_8 rfl (lv_at hl 0 rfl) ?_
    refine va_get (D := G.1) (ci := 3) (v := .ref a_clerks) (C := RX3) (T := TX3) (N := 5) hx hb hts in_X3_add_X3 hown hK.1 hP 0 rfl rfl 0 (by decide) (hts (.fieldLink RX3 11 "NineHands$Office" "clerks" "[LNineHands$Clerk;") (by decide +kernel)) (fun _ h9 => h9) rfl dX3_add_9 ?_
    refine lv_aload_n hx hb dX3_add_12 rfl (lv_at hl 0 rfl) ?_
    refine va_get (D := G.1) (ci := 3) (v := .int v_count) (C := RX3) (T := TX3) (N := 5) hx hb hts in_X3_add_X3 hown hK.1 hP 0 rfl rfl 1 (by decide) (hts (.fieldLink RX3 21 "NineHands$Office" "count" "I") (by decide +kernel)) (fun _ h9 => h9) rfl dX3_add_13 ?_
    obtain ⟨g16, h⟩ := zg h
    refine zaldq hx hb hK.1 hP 1 3 rfl rfl g16 (q := (ca_clk (v_count).toNatClampNeg)) rfl dX3_add_16 ?_
    refine lv_astore (lv' := [(5, .ref (ca_clk (v_count).toNatClampNeg)), (0, .ref a), (1, .int x1), (2, .int x2), (3, .int x3), (4, .int x4)]) hx hb dX3_add_17 hl (by decide) rfl (fun ls hl => ?_)
    refine lv_aload hx hb dX3_add_19 (lv_at hl 0 rfl) ?_
    refine lv_iload_n hx hb dX3_add_21 rfl (lv_at hl 2 rfl) ?_
    refine zputN (D := G.1) (ci := 0) (C := RX0) (T := TX0) (N := 4) (ty := .int) (ws' := (w_X3_add G a a_clerks ca_clk v_count v_letterTold v_firstTone v_firstMarks (upd k_lean (v_count).toNatClampNeg x1) k_sets k_drops k_keeps)) hx hb hts in_X3_add_X0 tyX0 tyX0_ok nmX0 hown hK.1 hP hD hS (2 + (v_count).toNatClampNeg) (zclks_in (by rfl) (zin_lt g16)) rfl 0 (by decide) (va_Nw.use rfl (hK.2.1.1 ("NineHands$Office", 39, "NineHands$Clerk", "lean", "I", "NineHands") (by decide +kernel))) (fun _ h9 => h9) rfl (by decide +kernel) rfl rfl (Nat.le_of_ble_eq_true rfl) (zclks_len (by rfl) (zin_lt g16) _ (by simp [zclk, upd]) (fun i _ hne => by simp [upd, hne])) dX3_add_22 (fun H locs hP hD hS => ?_)
    refine lv_aload hx hb dX3_add_25 (lv_at hl 0 rfl) ?_
    refine lv_iload_n hx hb dX3_add_27 rfl (lv_at hl 3 rfl) ?_
    refine zputN (D := G.1) (ci := 0) (C := RX0) (T := TX0) (N := 4) (ty := .int) (ws' := (w_X3_add G a a_clerks ca_clk v_count v_letterTold v_firstTone v_firstMarks (upd k_lean (v_count).toNatClampNeg x1) (upd k_sets (v_count).toNatClampNeg x2) k_drops k_keeps)) hx hb hts in_X3_add_X0 tyX0 tyX0_ok nmX0 hown hK.1 hP hD hS (2 + (v_count).toNatClampNeg) (zclks_in (by rfl) (zin_lt g16)) rfl 1 (by decide) (va_Nw.use rfl (hK.2.1.1 ("NineHands$Office", 42, "NineHands$Clerk", "sets", "I", "NineHands") (by decide +kernel))) (fun _ h9 => h9) rfl (by decide +kernel) rfl rfl (Nat.le_of_ble_eq_true rfl) (zclks_len (by rfl) (zin_lt g16) _ (by simp [zclk, upd]) (fun i _ hne => by simp [upd, hne])) dX3_add_28 (fun H locs hP hD hS => ?_)
    refine lv_aload hx hb dX3_add_31 (lv_at hl 0 rfl) ?_
    refine lv_iload_n hx hb dX3_add_33 rfl (lv_at hl 4 rfl) ?_
    refine zputN (D := G.1) (ci := 0) (C := RX0) (T := TX0) (N := 4) (ty := .int) (ws' := (w_X3_add G a a_clerks ca_clk v_count v_letterTold v_firstTone v_firstMarks (upd k_lean (v_count).toNatClampNeg x1) (upd k_sets (v_count).toNatClampNeg x2) (upd k_drops (v_count).toNatClampNeg x3) k_keeps)) hx hb hts in_X3_add_X0 tyX0 tyX0_ok nmX0 hown hK.1 hP hD hS (2 + (v_count).toNatClampNeg) (zclks_in (by rfl) (zin_lt g16)) rfl 2 (by decide) (va_Nw.use rfl (hK.2.1.1 ("NineHands$Office", 45, "NineHands$Clerk", "drops", "I", "NineHands") (by decide +kernel))) (fun _ h9 => h9) rfl (by decide +kernel) rfl rfl (Nat.le_of_ble_eq_true rfl) (zclks_len (by rfl) (zin_lt g16) _ (by simp [zclk, upd]) (fun i _ hne => by simp [upd, hne])) dX3_add_34 (fun H locs hP hD hS => ?_)
    refine lv_aload hx hb dX3_add_37 (lv_at hl 0 rfl) ?_
    refine lv_iload hx hb dX3_add_39 (lv_at hl 5 rfl) ?_
    refine zputN (D := G.1) (ci := 0) (C := RX0) (T := TX0) (N := 4) (ty := .int) (ws' := (w_X3_add G a a_clerks ca_clk v_count v_letterTold v_firstTone v_firstMarks (upd k_lean (v_count).toNatClampNeg x1) (upd k_sets (v_count).toNatClampNeg x2) (upd k_drops (v_count).toNatClampNeg x3) (upd k_keeps (v_count).toNatClampNeg x4))) hx hb hts in_X3_add_X0 tyX0 tyX0_ok nmX0 hown hK.1 hP hD hS (2 + (v_count).toNatClampNeg) (zclks_in (by rfl) (zin_lt g16)) rfl 3 (by decide) (va_Nw.use rfl (hK.2.1.1 ("NineHands$Office", 48, "NineHands$Clerk", "keeps", "I", "NineHands") (by decide +kernel))) (fun _ h9 => h9) rfl (by decide +kernel) rfl rfl (Nat.le_of_ble_eq_true rfl) (zclks_len (by rfl) (zin_lt g16) _ (by simp [zclk, upd]) (fun i _ hne => by simp [upd, hne])) dX3_add_41 (fun H locs hP hD hS => ?_)
    refine lv_aload_n hx hb dX3_add_44 rfl (lv_at hl 1 rfl) ?_
    refine lv_dup hx hb dX3_add_45 rfl ?_
    refine va_get (D := G.1) (ci := 3) (v := .int v_count) (C := RX3) (T := TX3) (N := 5) hx hb hts in_X3_add_X3 hown hK.1 hP 0 rfl rfl 1 (by decide) (hts (.fieldLink RX3 21 "NineHands$Office" "count" "I") (by decide +kernel)) (fun _ h9 => h9) rfl dX3_add_46 ?_
    refine lv_iconst (v := (1 : Int32)) hx hb dX3_add_49 (by decide) ?_
    refine lv_iadd hx hb dX3_add_50 ?_
    refine zput1 (D := G.1) (ci := 3) (C := RX3) (T := TX3) (N := 5) (ty := .int) (ws' := (w_X3_add G a a_clerks ca_clk (v_count + (1 : Int32)) v_letterTold v_firstTone v_firstMarks (upd k_lean (v_count).toNatClampNeg x1) (upd k_sets (v_count).toNatClampNeg x2) (upd k_drops (v_count).toNatClampNeg x3) (upd k_keeps (v_count).toNatClampNeg x4))) hx hb hts in_X3_add_X3 tyX3 tyX3_ok nmX3 hown hK.1 hP hD hS 0 rfl rfl 1 (by decide) (hts (.fieldLink RX3 21 "NineHands$Office" "count" "I") (by decide +kernel)) (fun _ h9 => h9) rfl (by decide +kernel) rfl rfl (Nat.le_of_ble_eq_true rfl) rfl dX3_add_51 (fun H locs hP hD hS => ?_)
    cases h
    exact W.vret hx hb hr (fun t9 ht9 _ => zend hP hD hS ht9) hS.2.2 dX3_add_54
  · have h := zf c4 h
    cases h
    exact W.vret hx hb hr (fun t9 ht9 _ => zend hP hD hS ht9) hS.2.2 dX3_add_7
abbrev w_X5_isFull (G : zG) (a : Nat) (a_tones : Nat) (a_marks : Nat) (a_thenTones : Nat) (a_thenMarks : Nat) (v_count : Int32) : va_W := [(a, .inr (5, [.ref a_tones, .ref a_marks, .ref a_thenTones, .ref a_thenMarks, .int v_count]))]
theorem in_X5_isFull_X5 : ∀ w ∈ wsX50, w ∈ wsX5_isFull := by decide +kernel
set_option maxHeartbeats 4000000 in
set_option maxRecDepth 100000 in
theorem c_X5_isFull (l : Launch) (G : zG) (a : Nat) (a_tones : Nat) (a_marks : Nat) (a_thenTones : Nat) (a_thenMarks : Nat) (v_count : Int32) (rv : Int32) (h : fX5_isFull v_count = some rv) : zC l yX5_isFull wsX5_isFull 0 0 G [.ref a] (w_X5_isFull G a a_tones a_marks a_thenTones a_thenMarks v_count) (some (.int rv)) (w_X5_isFull G a a_tones a_marks a_thenTones a_thenMarks v_count) := by
  refine fun sz => Met.ofW (cc := cX5_isFull) (maxL := 1) (ret := (some .boolean)) (by decide) rfl ?_
  intro p e s m args below meth c s₁ B hml hv
  obtain ⟨rfl, hsz, hP, hK, hD0, hE⟩ := hv
  have hx := B.exec
  have hb := B.bytes
  have hr := B.returns
  have hts := atoms_spec (ws := wsX5_isFull) B.pre
  have hown : s.vm.findClass RX5 = some m.cls := findClass_of_methodNamed B.named
  have hlocks := B.notSynchronized
  subst hsz
  have hD := hD0.self (sz := s.heap.size)
  generalize hAe : va_A (w_X5_isFull G a a_tones a_marks a_thenTones a_thenMarks v_count) s.heap.size = A at hD hE ⊢
  have hA : ∀ q : Nat, s.heap.size ≤ q → A q := fun q h => by rw [← hAe]; exact Or.inr h
  have hS : va_S A s.heap s.heap [] := va_S.rf
  have hl := lv_entry ([.ref a]) (n := 1) (Nat.le_of_ble_eq_true rfl)
  rw [lg_entry_eq]
  generalize (lg_sl ([.ref a]) ++ List.replicate (1 - (lg_sl ([.ref a])).length) Slot.unset).toArray = ls at hl ⊢
  have hl : lv_has ls 1 [(0, .ref a)] := hl
  have hP : va_P G.1 vwCl (w_X5_isFull G a a_tones a_marks a_thenTones a_thenMarks v_count) s.heap := hP
  rw [fX5_isFull] at h
  refine lv_aload_n hx hb dX5_isFull_0 rfl (lv_at hl 0 rfl) ?_
  refine va_get (D := G.1) (ci := 5) (v := .int v_count) (C := RX5) (T := TX5) (N := 5) hx hb hts in_X5_isFull_X5 hown hK.1 hP 0 rfl rfl 4 (by decide) (hts (.fieldLink RX5 24 "NineHands$Samples" "count" "I") (by decide +kernel)) (fun _ h9 => h9) rfl dX5_isFull_1 ?_
  refine lv_bipush (v := (8 : Int32)) hx hb dX5_isFull_4 (by decide) ?_
  refine lv_icmp_lt (tgt := 13) hx hb dX5_isFull_6 (by decide) (fun c6 => ?_) (fun c6 => ?_)
  · have h := zt c6 h
    refine lv_iconst (v := (0 : Int32)) hx hb dX5_isFull_13 (by decide) ?_
    cases h
    exact W.zret (ty := .boolean) hx hb hr rfl (fun t9 ht9 _ => zend hP hD hS ht9) hS.2.2 dX5_isFull_14
  · have h := zf c6 h
    refine lv_iconst (v := (1 : Int32)) hx hb dX5_isFull_9 (by decide) ?_
    refine lv_goto (tgt := 14) hx hb dX5_isFull_10 (by decide) ?_
    cases h
    exact W.zret (ty := .boolean) hx hb hr rfl (fun t9 ht9 _ => zend hP hD hS ht9) hS.2.2 dX5_isFull_14
abbrev w_X5_add (G : zG) (a : Nat) (a_tones : Nat) (a_marks : Nat) (a_thenTones : Nat) (a_thenMarks : Nat) (v_count : Int32) (f_tones : (Nat → Int32)) (f_marks : (Nat → Int32)) (f_thenTones : (Nat → Int32)) (f_thenMarks : (Nat → Int32)) : va_W := [(a, .inr (5, [.ref a_tones, .ref a_marks, .ref a_thenTones, .ref a_thenMarks, .int v_count])), (a_tones, .inl (zCI G, 8, .inl f_tones)), (a_marks, .inl (zCI G, 8, .inl f_marks)), (a_thenTones, .inl (zCI G, 8, .inl f_thenTones)), (a_thenMarks, .inl (zCI G, 8, .inl f_thenMarks))]
theorem in_X5_add_X5 : ∀ w ∈ wsX50, w ∈ wsX5_add := by decide +kernel
set_option maxHeartbeats 4000000 in
set_option maxRecDepth 100000 in
theorem c_X5_add (l : Launch) (G : zG) (a : Nat) (a_tones : Nat) (a_marks : Nat) (a_thenTones : Nat) (a_thenMarks : Nat) (v_count : Int32) (f_tones : (Nat → Int32)) (f_marks : (Nat → Int32)) (f_thenTones : (Nat → Int32)) (f_thenMarks : (Nat → Int32)) (x1 : Int32) (x2 : Int32) (x3 : Int32) (x4 : Int32) (ov_count : Int32) (of_tones : (Nat → Int32)) (of_marks : (Nat → Int32)) (of_thenTones : (Nat → Int32)) (of_thenMarks : (Nat → Int32)) (h : fX5_add v_count f_tones f_marks f_thenTones f_thenMarks x1 x2 x3 x4 = some (ov_count, of_tones, of_marks, of_thenTones, of_thenMarks)) : zC l yX5_add wsX5_add 1 20 G [.ref a, .int x1, .int x2, .int x3, .int x4] (w_X5_add G a a_tones a_marks a_thenTones a_thenMarks v_count f_tones f_marks f_thenTones f_thenMarks) none (w_X5_add G a a_tones a_marks a_thenTones a_thenMarks ov_count of_tones of_marks of_thenTones of_thenMarks) := by
  refine fun sz => Met.ofW (cc := cX5_add) (maxL := 5) (ret := none) (by decide) rfl ?_
  intro p e s m args below meth c s₁ B hml hv
  obtain ⟨rfl, hsz, hP, hK, hD0, hE⟩ := hv
  have hx := B.exec
  have hb := B.bytes
  have hr := B.returns
  have hts := atoms_spec (ws := wsX5_add) B.pre
  have hown : s.vm.findClass RX5 = some m.cls := findClass_of_methodNamed B.named
  have hlocks := B.notSynchronized
  subst hsz
  have hD := hD0.self (sz := s.heap.size)
  generalize hAe : va_A (w_X5_add G a a_tones a_marks a_thenTones a_thenMarks v_count f_tones f_marks f_thenTones f_thenMarks) s.heap.size = A at hD hE ⊢
  have hA : ∀ q : Nat, s.heap.size ≤ q → A q := fun q h => by rw [← hAe]; exact Or.inr h
  have hS : va_S A s.heap s.heap [] := va_S.rf
  have hl := lv_entry ([.ref a, .int x1, .int x2, .int x3, .int x4]) (n := 5) (Nat.le_of_ble_eq_true rfl)
  rw [lg_entry_eq]
  generalize (lg_sl ([.ref a, .int x1, .int x2, .int x3, .int x4]) ++ List.replicate (5 - (lg_sl ([.ref a, .int x1, .int x2, .int x3, .int x4])).length) Slot.unset).toArray = ls at hl ⊢
  have hl : lv_has ls 5 [(0, .ref a), (1, .int x1), (2, .int x2), (3, .int x3), (4, .int x4)] := hl
  have hP : va_P G.1 vwCl (w_X5_add G a a_tones a_marks a_thenTones a_thenMarks v_count f_tones f_marks f_thenTones f_thenMarks) s.heap := hP
  rw [fX5_add] at h
  refine lv_aload_n hx hb dX5_add_0 rfl (lv_at hl 0 rfl) ?_
  obtain ⟨y1, hc1, h⟩ := zb1_e h
  refine zcV (As := []) (rest := []) (ws' := (w_X5_add G a a_tones a_marks a_thenTones a_thenMarks v_count f_tones f_marks f_thenTones f_thenMarks)) (st1 := [.int y1]) ⟨hx, hb, hml, hown, hts⟩ (c_X5_isFull l G a a_tones a_marks a_thenTones a_thenMarks v_count y1 hc1) (cwV 0 hts gX5_add_X5_isFull rfl rfl rfl (by decide +kernel) ⟨Nat.le_of_ble_eq_true rfl, Nat.le_of_ble_eq_true rfl⟩) hK hE hP hD hS hA [0] rfl rfl 0 5 rfl rfl rfl rfl rfl rfl hl.1 rfl (Nat.le_of_ble_eq_true rfl) dX5_add_1 (Nat.zero_le _) (Nat.zero_le _) rfl (fun H locs hP hD hS => ?_)
  refine lv_if_eq (tgt := 8) hx hb dX5_add_4 (by decide) (fun c4 => ?_) (fun c4 => ?_)
  · have h := zt c4 h
    refine lv_aload_n hx hb dX5_add_8 rfl (lv_at hl 0 rfl) ?_
    refine va_get (D := G.1) (ci := 5) (v := .ref a_tones) (C := RX5) (T := TX5) (N := 5) hx hb hts in_X5_add_X5 hown hK.1 hP 0 rfl rfl 0 (by decide) (hts (.fieldLink RX5 9 "NineHands$Samples" "tones" "[I") (by decide +kernel)) (fun _ h9 => h9) rfl dX5_add_9 ?_
    refine lv_aload_n hx hb dX5_add_12 rfl (lv_at hl 0 rfl) ?_
    refine va_get (D := G.1) (ci := 5) (v := .int v_count) (C := RX5) (T := TX5) (N := 5) hx hb hts in_X5_add_X5 hown hK.1 hP 0 rfl rfl 4 (by decide) (hts (.fieldLink RX5 24 "NineHands$Samples" "count" "I") (by decide +kernel)) (fun _ h9 => h9) rfl dX5_add_13 ?_
    refine lv_iload_n hx hb dX5_add_16 rfl (lv_at hl 1 rfl) ?_
    obtain ⟨g17, h⟩ := zg h
    refine zast hx hb hK.1 hP hD hS 1 0 rfl rfl g17 (j := (v_count).toNatClampNeg) rfl (ws' := (w_X5_add G a a_tones a_marks a_thenTones a_thenMarks v_count (upd f_tones (v_count).toNatClampNeg x1) f_marks f_thenTones f_thenMarks)) rfl dX5_add_17 (fun H locs hP hD hS => ?_)
    refine lv_aload_n hx hb dX5_add_18 rfl (lv_at hl 0 rfl) ?_
    refine va_get (D := G.1) (ci := 5) (v := .ref a_marks) (C := RX5) (T := TX5) (N := 5) hx hb hts in_X5_add_X5 hown hK.1 hP 0 rfl rfl 1 (by decide) (hts (.fieldLink RX5 15 "NineHands$Samples" "marks" "[I") (by decide +kernel)) (fun _ h9 => h9) rfl dX5_add_19 ?_
    refine lv_aload_n hx hb dX5_add_22 rfl (lv_at hl 0 rfl) ?_
    refine va_get (D := G.1) (ci := 5) (v := .int v_count) (C := RX5) (T := TX5) (N := 5) hx hb hts in_X5_add_X5 hown hK.1 hP 0 rfl rfl 4 (by decide) (hts (.fieldLink RX5 24 "NineHands$Samples" "count" "I") (by decide +kernel)) (fun _ h9 => h9) rfl dX5_add_23 ?_
    refine lv_iload_n hx hb dX5_add_26 rfl (lv_at hl 2 rfl) ?_
    refine zast hx hb hK.1 hP hD hS 2 0 rfl rfl g17 (j := (v_count).toNatClampNeg) rfl (ws' := (w_X5_add G a a_tones a_marks a_thenTones a_thenMarks v_count (upd f_tones (v_count).toNatClampNeg x1) (upd f_marks (v_count).toNatClampNeg x2) f_thenTones f_thenMarks)) rfl dX5_add_27 (fun H locs hP hD hS => ?_)
    refine lv_aload_n hx hb dX5_add_28 rfl (lv_at hl 0 rfl) ?_
    refine va_get (D := G.1) (ci := 5) (v := .ref a_thenTones) (C := RX5) (T := TX5) (N := 5) hx hb hts in_X5_add_X5 hown hK.1 hP 0 rfl rfl 2 (by decide) (hts (.fieldLink RX5 18 "NineHands$Samples" "thenTones" "[I") (by decide +kernel)) (fun _ h9 => h9) rfl dX5_add_29 ?_
    refine lv_aload_n hx hb dX5_add_32 rfl (lv_at hl 0 rfl) ?_
    refine va_get (D := G.1) (ci := 5) (v := .int v_count) (C := RX5) (T := TX5) (N := 5) hx hb hts in_X5_add_X5 hown hK.1 hP 0 rfl rfl 4 (by decide) (hts (.fieldLink RX5 24 "NineHands$Samples" "count" "I") (by decide +kernel)) (fun _ h9 => h9) rfl dX5_add_33 ?_
    refine lv_iload_n hx hb dX5_add_36 rfl (lv_at hl 3 rfl) ?_
    refine zast hx hb hK.1 hP hD hS 3 0 rfl rfl g17 (j := (v_count).toNatClampNeg) rfl (ws' := (w_X5_add G a a_tones a_marks a_thenTones a_thenMarks v_count (upd f_tones (v_count).toNatClampNeg x1) (upd f_marks (v_count).toNatClampNeg x2) (upd f_thenTones (v_count).toNatClampNeg x3) f_thenMarks)) rfl dX5_add_37 (fun H locs hP hD hS => ?_)
    refine lv_aload_n hx hb dX5_add_38 rfl (lv_at hl 0 rfl) ?_
    refine va_get (D := G.1) (ci := 5) (v := .ref a_thenMarks) (C := RX5) (T := TX5) (N := 5) hx hb hts in_X5_add_X5 hown hK.1 hP 0 rfl rfl 3 (by decide) (hts (.fieldLink RX5 21 "NineHands$Samples" "thenMarks" "[I") (by decide +kernel)) (fun _ h9 => h9) rfl dX5_add_39 ?_
    refine lv_aload_n hx hb dX5_add_42 rfl (lv_at hl 0 rfl) ?_
    refine va_get (D := G.1) (ci := 5) (v := .int v_count) (C := RX5) (T := TX5) (N := 5) hx hb hts in_X5_add_X5 hown hK.1 hP 0 rfl rfl 4 (by decide) (hts (.fieldLink RX5 24 "NineHands$Samples" "count" "I") (by decide +kernel)) (fun _ h9 => h9) rfl dX5_add_43 ?_
    refine lv_iload hx hb dX5_add_46 (lv_at hl 4 rfl) ?_
    refine zast hx hb hK.1 hP hD hS 4 0 rfl rfl g17 (j := (v_count).toNatClampNeg) rfl (ws' := (w_X5_add G a a_tones a_marks a_thenTones a_thenMarks v_count (upd f_tones (v_count).toNatClampNeg x1) (upd f_marks (v_count).toNatClampNeg x2) (upd f_thenTones (v_count).toNatClampNeg x3) (upd f_thenMarks (v_count).toNatClampNeg x4))) rfl dX5_add_48 (fun H locs hP hD hS => ?_)
    refine lv_aload_n hx hb dX5_add_49 rfl (lv_at hl 0 rfl) ?_
    refine lv_dup hx hb dX5_add_50 rfl ?_
    refine va_get (D := G.1) (ci := 5) (v := .int v_count) (C := RX5) (T := TX5) (N := 5) hx hb hts in_X5_add_X5 hown hK.1 hP 0 rfl rfl 4 (by decide) (hts (.fieldLink RX5 24 "NineHands$Samples" "count" "I") (by decide +kernel)) (fun _ h9 => h9) rfl dX5_add_51 ?_
    refine lv_iconst (v := (1 : Int32)) hx hb dX5_add_54 (by decide) ?_
    refine lv_iadd hx hb dX5_add_55 ?_
    refine zput1 (D := G.1) (ci := 5) (C := RX5) (T := TX5) (N := 5) (ty := .int) (ws' := (w_X5_add G a a_tones a_marks a_thenTones a_thenMarks (v_count + (1 : Int32)) (upd f_tones (v_count).toNatClampNeg x1) (upd f_marks (v_count).toNatClampNeg x2) (upd f_thenTones (v_count).toNatClampNeg x3) (upd f_thenMarks (v_count).toNatClampNeg x4))) hx hb hts in_X5_add_X5 tyX5 tyX5_ok nmX5 hown hK.1 hP hD hS 0 rfl rfl 4 (by decide) (hts (.fieldLink RX5 24 "NineHands$Samples" "count" "I") (by decide +kernel)) (fun _ h9 => h9) rfl (by decide +kernel) rfl rfl (Nat.le_of_ble_eq_true rfl) rfl dX5_add_56 (fun H locs hP hD hS => ?_)
    cases h
    exact W.vret hx hb hr (fun t9 ht9 _ => zend hP hD hS ht9) hS.2.2 dX5_add_59
  · have h := zf c4 h
    cases h
    exact W.vret hx hb hr (fun t9 ht9 _ => zend hP hD hS ht9) hS.2.2 dX5_add_7
abbrev w_X5_leanFits (G : zG) (a : Nat) (a_tones : Nat) (a_marks : Nat) (a_thenTones : Nat) (a_thenMarks : Nat) (v_count : Int32) (f_tones : (Nat → Int32)) (f_thenTones : (Nat → Int32)) : va_W := [(a, .inr (5, [.ref a_tones, .ref a_marks, .ref a_thenTones, .ref a_thenMarks, .int v_count])), (a_tones, .inl (zCI G, 8, .inl f_tones)), (a_thenTones, .inl (zCI G, 8, .inl f_thenTones))]
theorem in_X5_leanFits_X5 : ∀ w ∈ wsX50, w ∈ wsX5_leanFits := by decide +kernel
set_option maxHeartbeats 4000000 in
set_option maxRecDepth 100000 in
theorem c_X5_leanFits (l : Launch) (G : zG) (fu : Nat) (a : Nat) (a_tones : Nat) (a_marks : Nat) (a_thenTones : Nat) (a_thenMarks : Nat) (v_count : Int32) (f_tones : (Nat → Int32)) (f_thenTones : (Nat → Int32)) (x1 : Int32) (rv : Int32) (h : fX5_leanFits fu v_count f_tones f_thenTones x1 = some rv) : zC l yX5_leanFits wsX5_leanFits 2 45 G [.ref a, .int x1] (w_X5_leanFits G a a_tones a_marks a_thenTones a_thenMarks v_count f_tones f_thenTones) (some (.int rv)) (w_X5_leanFits G a a_tones a_marks a_thenTones a_thenMarks v_count f_tones f_thenTones) := by
  refine fun sz => Met.ofW (cc := cX5_leanFits) (maxL := 3) (ret := (some .boolean)) (by decide) rfl ?_
  intro p e s m args below meth c s₁ B hml hv
  obtain ⟨rfl, hsz, hP, hK, hD0, hE⟩ := hv
  have hx := B.exec
  have hb := B.bytes
  have hr := B.returns
  have hts := atoms_spec (ws := wsX5_leanFits) B.pre
  have hown : s.vm.findClass RX5 = some m.cls := findClass_of_methodNamed B.named
  have hlocks := B.notSynchronized
  subst hsz
  have hD := hD0.self (sz := s.heap.size)
  generalize hAe : va_A (w_X5_leanFits G a a_tones a_marks a_thenTones a_thenMarks v_count f_tones f_thenTones) s.heap.size = A at hD hE ⊢
  have hA : ∀ q : Nat, s.heap.size ≤ q → A q := fun q h => by rw [← hAe]; exact Or.inr h
  have hS : va_S A s.heap s.heap [] := va_S.rf
  have hl := lv_entry ([.ref a, .int x1]) (n := 3) (Nat.le_of_ble_eq_true rfl)
  rw [lg_entry_eq]
  generalize (lg_sl ([.ref a, .int x1]) ++ List.replicate (3 - (lg_sl ([.ref a, .int x1])).length) Slot.unset).toArray = ls at hl ⊢
  have hl : lv_has ls 3 [(0, .ref a), (1, .int x1)] := hl
  have hP : va_P G.1 vwCl (w_X5_leanFits G a a_tones a_marks a_thenTones a_thenMarks v_count f_tones f_thenTones) s.heap := hP
  rw [fX5_leanFits] at h
  refine lv_iconst (v := (0 : Int32)) hx hb dX5_leanFits_0 (by decide) ?_
  refine lv_istore_n (lv' := [(2, .int (0 : Int32)), (0, .ref a), (1, .int x1)]) hx hb dX5_leanFits_1 rfl hl (by decide) rfl (fun ls hl => ?_)
  have loop_2 : ∀ (n : Nat) (K : Option Int32) (l2_2 : Int32) (H : Heap) (locs : List Loc) (ls : Array Slot), fX5_leanFits_L2 fu x1 v_count f_tones f_thenTones K n l2_2 = some rv → (∀ (H : Heap) (locs : List Loc) (ls : Array Slot), K  = some rv → va_P G.1 vwCl (w_X5_leanFits G a a_tones a_marks a_thenTones a_thenMarks v_count f_tones f_thenTones) H → va_D A (w_X5_leanFits G a a_tones a_marks a_thenTones a_thenMarks v_count f_tones f_thenTones) → va_S A s.heap H locs → lv_has ls 3 [] → W p l e (headSpec wsX5_leanFits { frames := 2, cells := 0, slots := 0, locals := 45 }).room s m ([.ref a, .int x1] : List Value).toArray below meth c H locs 0 0 (MQ below (zQ (some (.int rv)) G (w_X5_leanFits G a a_tones a_marks a_thenTones a_thenMarks v_count f_tones f_thenTones) A) ([.ref a, .int x1] : List Value).toArray s 0 0 A) (F0 m 37 ls [])) → va_P G.1 vwCl (w_X5_leanFits G a a_tones a_marks a_thenTones a_thenMarks v_count f_tones f_thenTones) H → va_D A (w_X5_leanFits G a a_tones a_marks a_thenTones a_thenMarks v_count f_tones f_thenTones) → va_S A s.heap H locs → lv_has ls 3 [(0, .ref a), (1, .int x1), (2, .int l2_2)] → W p l e (headSpec wsX5_leanFits { frames := 2, cells := 0, slots := 0, locals := 45 }).room s m ([.ref a, .int x1] : List Value).toArray below meth c H locs 0 0 (MQ below (zQ (some (.int rv)) G (w_X5_leanFits G a a_tones a_marks a_thenTones a_thenMarks v_count f_tones f_thenTones) A) ([.ref a, .int x1] : List Value).toArray s 0 0 A) (F0 m 2 ls []) := by
    intro n
    induction n with
    | zero => intro K l2_2 H locs ls h; rw [fX5_leanFits_L2] at h; cases h
    | succ n ih =>
      intro K l2_2 H locs ls h hk hP hD hS hl
      rw [fX5_leanFits_L2] at h
      refine lv_iload_n hx hb dX5_leanFits_2 rfl (lv_at hl 2 rfl) ?_
      refine lv_aload_n hx hb dX5_leanFits_3 rfl (lv_at hl 0 rfl) ?_
      refine va_get (D := G.1) (ci := 5) (v := .int v_count) (C := RX5) (T := TX5) (N := 5) hx hb hts in_X5_leanFits_X5 hown hK.1 hP 0 rfl rfl 4 (by decide) (hts (.fieldLink RX5 24 "NineHands$Samples" "count" "I") (by decide +kernel)) (fun _ h9 => h9) rfl dX5_leanFits_4 ?_
      refine lv_icmp_ge (tgt := 37) hx hb dX5_leanFits_7 (by decide) (fun c7 => ?_) (fun c7 => ?_)
      · have h := zt c7 h
        exact hk  _ _ _ h hP hD hS (lv_sub hl [] rfl)
      · have h := zf c7 h
        refine lv_aload_n hx hb dX5_leanFits_10 rfl (lv_at hl 0 rfl) ?_
        refine va_get (D := G.1) (ci := 5) (v := .ref a_tones) (C := RX5) (T := TX5) (N := 5) hx hb hts in_X5_leanFits_X5 hown hK.1 hP 0 rfl rfl 0 (by decide) (hts (.fieldLink RX5 9 "NineHands$Samples" "tones" "[I") (by decide +kernel)) (fun _ h9 => h9) rfl dX5_leanFits_11 ?_
        refine lv_iload_n hx hb dX5_leanFits_14 rfl (lv_at hl 2 rfl) ?_
        obtain ⟨g15, h⟩ := zg h
        refine zald hx hb hK.1 hP 1 0 rfl rfl g15 (j := (l2_2).toNatClampNeg) rfl dX5_leanFits_15 ?_
        refine lv_iload_n hx hb dX5_leanFits_16 rfl (lv_at hl 1 rfl) ?_
        obtain ⟨y17, hc17, h⟩ := zb1_e h
        refine zcSN (As := [.int (f_tones (l2_2).toNatClampNeg), .int x1]) (rest := []) (ws' := (w_X5_leanFits G a a_tones a_marks a_thenTones a_thenMarks v_count f_tones f_thenTones)) (st1 := [.int y17]) ⟨hx, hb, hml, hown, hts⟩ (c_X7_leant l G (f_tones (l2_2).toNatClampNeg) x1 y17 hc17) ⟨va_cnB 2 hts gX5_leanFits_X7_leant_n36 rfl rfl rfl (hK.2.1.2 ("NineHands$Samples", 36, yX7_leant, "NineHands") (by decide +kernel)) (hts (.initialized RX7) (by decide +kernel)) (by decide +kernel) ⟨Nat.le_of_ble_eq_true rfl, Nat.le_of_ble_eq_true rfl⟩, (hts (.static yX7_leant) (by decide +kernel)), trivial⟩ hK hE hP hD hS hA [] rfl rfl rfl rfl rfl hl.1 rfl (Nat.le_of_ble_eq_true rfl) dX5_leanFits_17 (Nat.zero_le _) (Nat.zero_le _) rfl (fun H locs hP hD hS => ?_)
        refine lv_aload_n hx hb dX5_leanFits_20 rfl (lv_at hl 0 rfl) ?_
        refine va_get (D := G.1) (ci := 5) (v := .ref a_thenTones) (C := RX5) (T := TX5) (N := 5) hx hb hts in_X5_leanFits_X5 hown hK.1 hP 0 rfl rfl 2 (by decide) (hts (.fieldLink RX5 18 "NineHands$Samples" "thenTones" "[I") (by decide +kernel)) (fun _ h9 => h9) rfl dX5_leanFits_21 ?_
        refine lv_iload_n hx hb dX5_leanFits_24 rfl (lv_at hl 2 rfl) ?_
        refine zald hx hb hK.1 hP 2 0 rfl rfl g15 (j := (l2_2).toNatClampNeg) rfl dX5_leanFits_25 ?_
        refine lv_icmp_eq (tgt := 31) hx hb dX5_leanFits_26 (by decide) (fun c26 => ?_) (fun c26 => ?_)
        · have h := zt c26 h
          refine lv_iinc (v := (l2_2 + (1 : Int32))) (lv' := [(2, .int (l2_2 + (1 : Int32))), (0, .ref a), (1, .int x1)]) hx hb dX5_leanFits_31 hl (k := 2) rfl rfl (by decide) rfl (fun ls hl => ?_)
          refine lv_goto (tgt := 2) hx hb dX5_leanFits_34 (by decide) ?_
          exact ih K _ _ _ _ h hk hP hD hS (lv_sub hl [1, 2, 0] rfl)
        · have h := zf c26 h
          refine lv_iconst (v := (0 : Int32)) hx hb dX5_leanFits_29 (by decide) ?_
          cases h
          exact W.zret (ty := .boolean) hx hb hr rfl (fun t9 ht9 _ => zend hP hD hS ht9) hS.2.2 dX5_leanFits_30
  refine loop_2 fu _ _ _ _ _ h (fun  H locs ls h hP hD hS hl => ?_) hP hD hS (lv_sub hl [1, 2, 0] rfl)
  refine lv_iconst (v := (1 : Int32)) hx hb dX5_leanFits_37 (by decide) ?_
  cases h
  exact W.zret (ty := .boolean) hx hb hr rfl (fun t9 ht9 _ => zend hP hD hS ht9) hS.2.2 dX5_leanFits_38
abbrev w_X5_leastLean (G : zG) (a : Nat) (a_tones : Nat) (a_marks : Nat) (a_thenTones : Nat) (a_thenMarks : Nat) (v_count : Int32) (f_tones : (Nat → Int32)) (f_thenTones : (Nat → Int32)) : va_W := [(a, .inr (5, [.ref a_tones, .ref a_marks, .ref a_thenTones, .ref a_thenMarks, .int v_count])), (a_tones, .inl (zCI G, 8, .inl f_tones)), (a_thenTones, .inl (zCI G, 8, .inl f_thenTones))]
set_option maxHeartbeats 4000000 in
set_option maxRecDepth 100000 in
theorem c_X5_leastLean (l : Launch) (G : zG) (fu : Nat) (a : Nat) (a_tones : Nat) (a_marks : Nat) (a_thenTones : Nat) (a_thenMarks : Nat) (v_count : Int32) (f_tones : (Nat → Int32)) (f_thenTones : (Nat → Int32)) (rv : Int32) (h : fX5_leastLean fu v_count f_tones f_thenTones = some rv) : zC l yX5_leastLean wsX5_leastLean 3 67 G [.ref a] (w_X5_leastLean G a a_tones a_marks a_thenTones a_thenMarks v_count f_tones f_thenTones) (some (.int rv)) (w_X5_leastLean G a a_tones a_marks a_thenTones a_thenMarks v_count f_tones f_thenTones) := by
  refine fun sz => Met.ofW (cc := cX5_leastLean) (maxL := 2) (ret := (some .int)) (by decide) rfl ?_
  intro p e s m args below meth c s₁ B hml hv
  obtain ⟨rfl, hsz, hP, hK, hD0, hE⟩ := hv
  have hx := B.exec
  have hb := B.bytes
  have hr := B.returns
  have hts := atoms_spec (ws := wsX5_leastLean) B.pre
  have hown : s.vm.findClass RX5 = some m.cls := findClass_of_methodNamed B.named
  have hlocks := B.notSynchronized
  subst hsz
  have hD := hD0.self (sz := s.heap.size)
  generalize hAe : va_A (w_X5_leastLean G a a_tones a_marks a_thenTones a_thenMarks v_count f_tones f_thenTones) s.heap.size = A at hD hE ⊢
  have hA : ∀ q : Nat, s.heap.size ≤ q → A q := fun q h => by rw [← hAe]; exact Or.inr h
  have hS : va_S A s.heap s.heap [] := va_S.rf
  have hl := lv_entry ([.ref a]) (n := 2) (Nat.le_of_ble_eq_true rfl)
  rw [lg_entry_eq]
  generalize (lg_sl ([.ref a]) ++ List.replicate (2 - (lg_sl ([.ref a])).length) Slot.unset).toArray = ls at hl ⊢
  have hl : lv_has ls 2 [(0, .ref a)] := hl
  have hP : va_P G.1 vwCl (w_X5_leastLean G a a_tones a_marks a_thenTones a_thenMarks v_count f_tones f_thenTones) s.heap := hP
  rw [fX5_leastLean] at h
  refine lv_iconst (v := (0 : Int32)) hx hb dX5_leastLean_0 (by decide) ?_
  refine lv_istore_n (lv' := [(1, .int (0 : Int32)), (0, .ref a)]) hx hb dX5_leastLean_1 rfl hl (by decide) rfl (fun ls hl => ?_)
  have loop_2 : ∀ (n : Nat) (K : Option Int32) (l1_2 : Int32) (H : Heap) (locs : List Loc) (ls : Array Slot), fX5_leastLean_L2 fu v_count f_tones f_thenTones K n l1_2 = some rv → (∀ (H : Heap) (locs : List Loc) (ls : Array Slot), K  = some rv → va_P G.1 vwCl (w_X5_leastLean G a a_tones a_marks a_thenTones a_thenMarks v_count f_tones f_thenTones) H → va_D A (w_X5_leastLean G a a_tones a_marks a_thenTones a_thenMarks v_count f_tones f_thenTones) → va_S A s.heap H locs → lv_has ls 2 [] → W p l e (headSpec wsX5_leastLean { frames := 3, cells := 0, slots := 0, locals := 67 }).room s m ([.ref a] : List Value).toArray below meth c H locs 0 0 (MQ below (zQ (some (.int rv)) G (w_X5_leastLean G a a_tones a_marks a_thenTones a_thenMarks v_count f_tones f_thenTones) A) ([.ref a] : List Value).toArray s 0 0 A) (F0 m 24 ls [])) → va_P G.1 vwCl (w_X5_leastLean G a a_tones a_marks a_thenTones a_thenMarks v_count f_tones f_thenTones) H → va_D A (w_X5_leastLean G a a_tones a_marks a_thenTones a_thenMarks v_count f_tones f_thenTones) → va_S A s.heap H locs → lv_has ls 2 [(0, .ref a), (1, .int l1_2)] → W p l e (headSpec wsX5_leastLean { frames := 3, cells := 0, slots := 0, locals := 67 }).room s m ([.ref a] : List Value).toArray below meth c H locs 0 0 (MQ below (zQ (some (.int rv)) G (w_X5_leastLean G a a_tones a_marks a_thenTones a_thenMarks v_count f_tones f_thenTones) A) ([.ref a] : List Value).toArray s 0 0 A) (F0 m 2 ls []) := by
    intro n
    induction n with
    | zero => intro K l1_2 H locs ls h; rw [fX5_leastLean_L2] at h; cases h
    | succ n ih =>
      intro K l1_2 H locs ls h hk hP hD hS hl
      rw [fX5_leastLean_L2] at h
      refine lv_iload_n hx hb dX5_leastLean_2 rfl (lv_at hl 1 rfl) ?_
      refine lv_bipush (v := (8 : Int32)) hx hb dX5_leastLean_3 (by decide) ?_
      refine lv_icmp_gt (tgt := 24) hx hb dX5_leastLean_5 (by decide) (fun c5 => ?_) (fun c5 => ?_)
      · have h := zt c5 h
        exact hk  _ _ _ h hP hD hS (lv_sub hl [] rfl)
      · have h := zf c5 h
        refine lv_aload_n hx hb dX5_leastLean_8 rfl (lv_at hl 0 rfl) ?_
        refine lv_iload_n hx hb dX5_leastLean_9 rfl (lv_at hl 1 rfl) ?_
        obtain ⟨y10, hc10, h⟩ := zb1_e h
        refine zcV (As := [.int l1_2]) (rest := []) (ws' := (w_X5_leastLean G a a_tones a_marks a_thenTones a_thenMarks v_count f_tones f_thenTones)) (st1 := [.int y10]) ⟨hx, hb, hml, hown, hts⟩ (c_X5_leanFits l G fu a a_tones a_marks a_thenTones a_thenMarks v_count f_tones f_thenTones l1_2 y10 hc10) (cwV 1 hts gX5_leastLean_X5_leanFits rfl rfl rfl (by decide +kernel) ⟨Nat.le_of_ble_eq_true rfl, Nat.le_of_ble_eq_true rfl⟩) hK hE hP hD hS hA [0, 1, 2] rfl rfl 0 5 rfl rfl rfl rfl rfl rfl hl.1 rfl (Nat.le_of_ble_eq_true rfl) dX5_leastLean_10 (Nat.zero_le _) (Nat.zero_le _) rfl (fun H locs hP hD hS => ?_)
        refine lv_if_eq (tgt := 18) hx hb dX5_leastLean_13 (by decide) (fun c13 => ?_) (fun c13 => ?_)
        · have h := zt c13 h
          refine lv_iinc (v := (l1_2 + (1 : Int32))) (lv' := [(1, .int (l1_2 + (1 : Int32))), (0, .ref a)]) hx hb dX5_leastLean_18 hl (k := 1) rfl rfl (by decide) rfl (fun ls hl => ?_)
          refine lv_goto (tgt := 2) hx hb dX5_leastLean_21 (by decide) ?_
          exact ih K _ _ _ _ h hk hP hD hS (lv_sub hl [1, 0] rfl)
        · have h := zf c13 h
          refine lv_iload_n hx hb dX5_leastLean_16 rfl (lv_at hl 1 rfl) ?_
          cases h
          exact W.iret hx hb hr (fun t9 ht9 _ => zend hP hD hS ht9) hS.2.2 dX5_leastLean_17
  refine loop_2 fu _ _ _ _ _ h (fun  H locs ls h hP hD hS hl => ?_) hP hD hS (lv_sub hl [1, 0] rfl)
  refine lv_bipush (v := ((-9) : Int32)) hx hb dX5_leastLean_24 (by decide) ?_
  cases h
  exact W.iret hx hb hr (fun t9 ht9 _ => zend hP hD hS ht9) hS.2.2 dX5_leastLean_26
abbrev w_X5_greatestLean (G : zG) (a : Nat) (a_tones : Nat) (a_marks : Nat) (a_thenTones : Nat) (a_thenMarks : Nat) (v_count : Int32) (f_tones : (Nat → Int32)) (f_thenTones : (Nat → Int32)) : va_W := [(a, .inr (5, [.ref a_tones, .ref a_marks, .ref a_thenTones, .ref a_thenMarks, .int v_count])), (a_tones, .inl (zCI G, 8, .inl f_tones)), (a_thenTones, .inl (zCI G, 8, .inl f_thenTones))]
set_option maxHeartbeats 4000000 in
set_option maxRecDepth 100000 in
theorem c_X5_greatestLean (l : Launch) (G : zG) (fu : Nat) (a : Nat) (a_tones : Nat) (a_marks : Nat) (a_thenTones : Nat) (a_thenMarks : Nat) (v_count : Int32) (f_tones : (Nat → Int32)) (f_thenTones : (Nat → Int32)) (rv : Int32) (h : fX5_greatestLean fu v_count f_tones f_thenTones = some rv) : zC l yX5_greatestLean wsX5_greatestLean 3 67 G [.ref a] (w_X5_greatestLean G a a_tones a_marks a_thenTones a_thenMarks v_count f_tones f_thenTones) (some (.int rv)) (w_X5_greatestLean G a a_tones a_marks a_thenTones a_thenMarks v_count f_tones f_thenTones) := by
  refine fun sz => Met.ofW (cc := cX5_greatestLean) (maxL := 2) (ret := (some .int)) (by decide) rfl ?_
  intro p e s m args below meth c s₁ B hml hv
  obtain ⟨rfl, hsz, hP, hK, hD0, hE⟩ := hv
  have hx := B.exec
  have hb := B.bytes
  have hr := B.returns
  have hts := atoms_spec (ws := wsX5_greatestLean) B.pre
  have hown : s.vm.findClass RX5 = some m.cls := findClass_of_methodNamed B.named
  have hlocks := B.notSynchronized
  subst hsz
  have hD := hD0.self (sz := s.heap.size)
  generalize hAe : va_A (w_X5_greatestLean G a a_tones a_marks a_thenTones a_thenMarks v_count f_tones f_thenTones) s.heap.size = A at hD hE ⊢
  have hA : ∀ q : Nat, s.heap.size ≤ q → A q := fun q h => by rw [← hAe]; exact Or.inr h
  have hS : va_S A s.heap s.heap [] := va_S.rf
  have hl := lv_entry ([.ref a]) (n := 2) (Nat.le_of_ble_eq_true rfl)
  rw [lg_entry_eq]
  generalize (lg_sl ([.ref a]) ++ List.replicate (2 - (lg_sl ([.ref a])).length) Slot.unset).toArray = ls at hl ⊢
  have hl : lv_has ls 2 [(0, .ref a)] := hl
  have hP : va_P G.1 vwCl (w_X5_greatestLean G a a_tones a_marks a_thenTones a_thenMarks v_count f_tones f_thenTones) s.heap := hP
  rw [fX5_greatestLean] at h
  refine lv_bipush (v := (8 : Int32)) hx hb dX5_greatestLean_0 (by decide) ?_
  refine lv_istore_n (lv' := [(1, .int (8 : Int32)), (0, .ref a)]) hx hb dX5_greatestLean_2 rfl hl (by decide) rfl (fun ls hl => ?_)
  have loop_3 : ∀ (n : Nat) (K : Option Int32) (l1_3 : Int32) (H : Heap) (locs : List Loc) (ls : Array Slot), fX5_greatestLean_L3 fu v_count f_tones f_thenTones K n l1_3 = some rv → (∀ (H : Heap) (locs : List Loc) (ls : Array Slot), K  = some rv → va_P G.1 vwCl (w_X5_greatestLean G a a_tones a_marks a_thenTones a_thenMarks v_count f_tones f_thenTones) H → va_D A (w_X5_greatestLean G a a_tones a_marks a_thenTones a_thenMarks v_count f_tones f_thenTones) → va_S A s.heap H locs → lv_has ls 2 [] → W p l e (headSpec wsX5_greatestLean { frames := 3, cells := 0, slots := 0, locals := 67 }).room s m ([.ref a] : List Value).toArray below meth c H locs 0 0 (MQ below (zQ (some (.int rv)) G (w_X5_greatestLean G a a_tones a_marks a_thenTones a_thenMarks v_count f_tones f_thenTones) A) ([.ref a] : List Value).toArray s 0 0 A) (F0 m 23 ls [])) → va_P G.1 vwCl (w_X5_greatestLean G a a_tones a_marks a_thenTones a_thenMarks v_count f_tones f_thenTones) H → va_D A (w_X5_greatestLean G a a_tones a_marks a_thenTones a_thenMarks v_count f_tones f_thenTones) → va_S A s.heap H locs → lv_has ls 2 [(0, .ref a), (1, .int l1_3)] → W p l e (headSpec wsX5_greatestLean { frames := 3, cells := 0, slots := 0, locals := 67 }).room s m ([.ref a] : List Value).toArray below meth c H locs 0 0 (MQ below (zQ (some (.int rv)) G (w_X5_greatestLean G a a_tones a_marks a_thenTones a_thenMarks v_count f_tones f_thenTones) A) ([.ref a] : List Value).toArray s 0 0 A) (F0 m 3 ls []) := by
    intro n
    induction n with
    | zero => intro K l1_3 H locs ls h; rw [fX5_greatestLean_L3] at h; cases h
    | succ n ih =>
      intro K l1_3 H locs ls h hk hP hD hS hl
      rw [fX5_greatestLean_L3] at h
      refine lv_iload_n hx hb dX5_greatestLean_3 rfl (lv_at hl 1 rfl) ?_
      refine lv_if_lt (tgt := 23) hx hb dX5_greatestLean_4 (by decide) (fun c4 => ?_) (fun c4 => ?_)
      · have h := zt c4 h
        exact hk  _ _ _ h hP hD hS (lv_sub hl [] rfl)
      · have h := zf c4 h
        refine lv_aload_n hx hb dX5_greatestLean_7 rfl (lv_at hl 0 rfl) ?_
        refine lv_iload_n hx hb dX5_greatestLean_8 rfl (lv_at hl 1 rfl) ?_
        obtain ⟨y9, hc9, h⟩ := zb1_e h
        refine zcV (As := [.int l1_3]) (rest := []) (ws' := (w_X5_greatestLean G a a_tones a_marks a_thenTones a_thenMarks v_count f_tones f_thenTones)) (st1 := [.int y9]) ⟨hx, hb, hml, hown, hts⟩ (c_X5_leanFits l G fu a a_tones a_marks a_thenTones a_thenMarks v_count f_tones f_thenTones l1_3 y9 hc9) (cwV 1 hts gX5_greatestLean_X5_leanFits rfl rfl rfl (by decide +kernel) ⟨Nat.le_of_ble_eq_true rfl, Nat.le_of_ble_eq_true rfl⟩) hK hE hP hD hS hA [0, 1, 2] rfl rfl 0 5 rfl rfl rfl rfl rfl rfl hl.1 rfl (Nat.le_of_ble_eq_true rfl) dX5_greatestLean_9 (Nat.zero_le _) (Nat.zero_le _) rfl (fun H locs hP hD hS => ?_)
        refine lv_if_eq (tgt := 17) hx hb dX5_greatestLean_12 (by decide) (fun c12 => ?_) (fun c12 => ?_)
        · have h := zt c12 h
          refine lv_iinc (v := (l1_3 + ((-1) : Int32))) (lv' := [(1, .int (l1_3 + ((-1) : Int32))), (0, .ref a)]) hx hb dX5_greatestLean_17 hl (k := 1) rfl rfl (by decide) rfl (fun ls hl => ?_)
          refine lv_goto (tgt := 3) hx hb dX5_greatestLean_20 (by decide) ?_
          exact ih K _ _ _ _ h hk hP hD hS (lv_sub hl [1, 0] rfl)
        · have h := zf c12 h
          refine lv_iload_n hx hb dX5_greatestLean_15 rfl (lv_at hl 1 rfl) ?_
          cases h
          exact W.iret hx hb hr (fun t9 ht9 _ => zend hP hD hS ht9) hS.2.2 dX5_greatestLean_16
  refine loop_3 fu _ _ _ _ _ h (fun  H locs ls h hP hD hS hl => ?_) hP hD hS (lv_sub hl [1, 0] rfl)
  refine lv_bipush (v := ((-9) : Int32)) hx hb dX5_greatestLean_23 (by decide) ?_
  cases h
  exact W.iret hx hb hr (fun t9 ht9 _ => zend hP hD hS ht9) hS.2.2 dX5_greatestLean_25
abbrev w_X5_maySet (G : zG) (a : Nat) (a_tones : Nat) (a_marks : Nat) (a_thenTones : Nat) (a_thenMarks : Nat) (v_count : Int32) (f_thenMarks : (Nat → Int32)) : va_W := [(a, .inr (5, [.ref a_tones, .ref a_marks, .ref a_thenTones, .ref a_thenMarks, .int v_count])), (a_thenMarks, .inl (zCI G, 8, .inl f_thenMarks))]
theorem in_X5_maySet_X5 : ∀ w ∈ wsX50, w ∈ wsX5_maySet := by decide +kernel
set_option maxHeartbeats 4000000 in
set_option maxRecDepth 100000 in
theorem c_X5_maySet (l : Launch) (G : zG) (fu : Nat) (a : Nat) (a_tones : Nat) (a_marks : Nat) (a_thenTones : Nat) (a_thenMarks : Nat) (v_count : Int32) (f_thenMarks : (Nat → Int32)) (rv : Int32) (h : fX5_maySet fu v_count f_thenMarks = some rv) : zC l yX5_maySet wsX5_maySet 0 0 G [.ref a] (w_X5_maySet G a a_tones a_marks a_thenTones a_thenMarks v_count f_thenMarks) (some (.int rv)) (w_X5_maySet G a a_tones a_marks a_thenTones a_thenMarks v_count f_thenMarks) := by
  refine fun sz => Met.ofW (cc := cX5_maySet) (maxL := 3) (ret := (some .int)) (by decide) rfl ?_
  intro p e s m args below meth c s₁ B hml hv
  obtain ⟨rfl, hsz, hP, hK, hD0, hE⟩ := hv
  have hx := B.exec
  have hb := B.bytes
  have hr := B.returns
  have hts := atoms_spec (ws := wsX5_maySet) B.pre
  have hown : s.vm.findClass RX5 = some m.cls := findClass_of_methodNamed B.named
  have hlocks := B.notSynchronized
  subst hsz
  have hD := hD0.self (sz := s.heap.size)
  generalize hAe : va_A (w_X5_maySet G a a_tones a_marks a_thenTones a_thenMarks v_count f_thenMarks) s.heap.size = A at hD hE ⊢
  have hA : ∀ q : Nat, s.heap.size ≤ q → A q := fun q h => by rw [← hAe]; exact Or.inr h
  have hS : va_S A s.heap s.heap [] := va_S.rf
  have hl := lv_entry ([.ref a]) (n := 3) (Nat.le_of_ble_eq_true rfl)
  rw [lg_entry_eq]
  generalize (lg_sl ([.ref a]) ++ List.replicate (3 - (lg_sl ([.ref a])).length) Slot.unset).toArray = ls at hl ⊢
  have hl : lv_has ls 3 [(0, .ref a)] := hl
  have hP : va_P G.1 vwCl (w_X5_maySet G a a_tones a_marks a_thenTones a_thenMarks v_count f_thenMarks) s.heap := hP
  rw [fX5_maySet] at h
  refine lv_bipush (v := (7 : Int32)) hx hb dX5_maySet_0 (by decide) ?_
  refine lv_istore_n (lv' := [(1, .int (7 : Int32)), (0, .ref a)]) hx hb dX5_maySet_2 rfl hl (by decide) rfl (fun ls hl => ?_)
  refine lv_iconst (v := (0 : Int32)) hx hb dX5_maySet_3 (by decide) ?_
  refine lv_istore_n (lv' := [(2, .int (0 : Int32)), (1, .int (7 : Int32)), (0, .ref a)]) hx hb dX5_maySet_4 rfl hl (by decide) rfl (fun ls hl => ?_)
  have loop_5 : ∀ (n : Nat) (K : Int32 → Option Int32) (l1_5 : Int32) (l2_5 : Int32) (H : Heap) (locs : List Loc) (ls : Array Slot), fX5_maySet_L5 fu v_count f_thenMarks K n l1_5 l2_5 = some rv → (∀ (l1_5e : Int32) (H : Heap) (locs : List Loc) (ls : Array Slot), K l1_5e = some rv → va_P G.1 vwCl (w_X5_maySet G a a_tones a_marks a_thenTones a_thenMarks v_count f_thenMarks) H → va_D A (w_X5_maySet G a a_tones a_marks a_thenTones a_thenMarks v_count f_thenMarks) → va_S A s.heap H locs → lv_has ls 3 [(1, .int l1_5e)] → W p l e (headSpec wsX5_maySet { frames := 0, cells := 0, slots := 0, locals := 0 }).room s m ([.ref a] : List Value).toArray below meth c H locs 0 0 (MQ below (zQ (some (.int rv)) G (w_X5_maySet G a a_tones a_marks a_thenTones a_thenMarks v_count f_thenMarks) A) ([.ref a] : List Value).toArray s 0 0 A) (F0 m 28 ls [])) → va_P G.1 vwCl (w_X5_maySet G a a_tones a_marks a_thenTones a_thenMarks v_count f_thenMarks) H → va_D A (w_X5_maySet G a a_tones a_marks a_thenTones a_thenMarks v_count f_thenMarks) → va_S A s.heap H locs → lv_has ls 3 [(0, .ref a), (1, .int l1_5), (2, .int l2_5)] → W p l e (headSpec wsX5_maySet { frames := 0, cells := 0, slots := 0, locals := 0 }).room s m ([.ref a] : List Value).toArray below meth c H locs 0 0 (MQ below (zQ (some (.int rv)) G (w_X5_maySet G a a_tones a_marks a_thenTones a_thenMarks v_count f_thenMarks) A) ([.ref a] : List Value).toArray s 0 0 A) (F0 m 5 ls []) := by
    intro n
    induction n with
    | zero => intro K l1_5 l2_5 H locs ls h; rw [fX5_maySet_L5] at h; cases h
    | succ n ih =>
      intro K l1_5 l2_5 H locs ls h hk hP hD hS hl
      rw [fX5_maySet_L5] at h
      refine lv_iload_n hx hb dX5_maySet_5 rfl (lv_at hl 2 rfl) ?_
      refine lv_aload_n hx hb dX5_maySet_6 rfl (lv_at hl 0 rfl) ?_
      refine va_get (D := G.1) (ci := 5) (v := .int v_count) (C := RX5) (T := TX5) (N := 5) hx hb hts in_X5_maySet_X5 hown hK.1 hP 0 rfl rfl 4 (by decide) (hts (.fieldLink RX5 24 "NineHands$Samples" "count" "I") (by decide +kernel)) (fun _ h9 => h9) rfl dX5_maySet_7 ?_
      refine lv_icmp_ge (tgt := 28) hx hb dX5_maySet_10 (by decide) (fun c10 => ?_) (fun c10 => ?_)
      · have h := zt c10 h
        exact hk _ _ _ _ h hP hD hS (lv_sub hl [1] rfl)
      · have h := zf c10 h
        refine lv_iload_n hx hb dX5_maySet_13 rfl (lv_at hl 1 rfl) ?_
        refine lv_aload_n hx hb dX5_maySet_14 rfl (lv_at hl 0 rfl) ?_
        refine va_get (D := G.1) (ci := 5) (v := .ref a_thenMarks) (C := RX5) (T := TX5) (N := 5) hx hb hts in_X5_maySet_X5 hown hK.1 hP 0 rfl rfl 3 (by decide) (hts (.fieldLink RX5 21 "NineHands$Samples" "thenMarks" "[I") (by decide +kernel)) (fun _ h9 => h9) rfl dX5_maySet_15 ?_
        refine lv_iload_n hx hb dX5_maySet_18 rfl (lv_at hl 2 rfl) ?_
        obtain ⟨g19, h⟩ := zg h
        refine zald hx hb hK.1 hP 1 0 rfl rfl g19 (j := (l2_5).toNatClampNeg) rfl dX5_maySet_19 ?_
        refine lv_iand hx hb dX5_maySet_20 ?_
        refine lv_istore_n (lv' := [(1, .int (l1_5 &&& (f_thenMarks (l2_5).toNatClampNeg))), (0, .ref a), (2, .int l2_5)]) hx hb dX5_maySet_21 rfl hl (by decide) rfl (fun ls hl => ?_)
        refine lv_iinc (v := (l2_5 + (1 : Int32))) (lv' := [(2, .int (l2_5 + (1 : Int32))), (1, .int (l1_5 &&& (f_thenMarks (l2_5).toNatClampNeg))), (0, .ref a)]) hx hb dX5_maySet_22 hl (k := 2) rfl rfl (by decide) rfl (fun ls hl => ?_)
        refine lv_goto (tgt := 5) hx hb dX5_maySet_25 (by decide) ?_
        exact ih K _ _ _ _ _ h hk hP hD hS (lv_sub hl [2, 1, 0] rfl)
  refine loop_5 fu _ _ _ _ _ _ h (fun l1_5e H locs ls h hP hD hS hl => ?_) hP hD hS (lv_sub hl [2, 1, 0] rfl)
  refine lv_iload_n hx hb dX5_maySet_28 rfl (lv_at hl 0 rfl) ?_
  cases h
  exact W.iret hx hb hr (fun t9 ht9 _ => zend hP hD hS ht9) hS.2.2 dX5_maySet_29
abbrev w_X5_mayDrop (G : zG) (a : Nat) (a_tones : Nat) (a_marks : Nat) (a_thenTones : Nat) (a_thenMarks : Nat) (v_count : Int32) (f_thenMarks : (Nat → Int32)) : va_W := [(a, .inr (5, [.ref a_tones, .ref a_marks, .ref a_thenTones, .ref a_thenMarks, .int v_count])), (a_thenMarks, .inl (zCI G, 8, .inl f_thenMarks))]
theorem in_X5_mayDrop_X5 : ∀ w ∈ wsX50, w ∈ wsX5_mayDrop := by decide +kernel
set_option maxHeartbeats 4000000 in
set_option maxRecDepth 100000 in
theorem c_X5_mayDrop (l : Launch) (G : zG) (fu : Nat) (a : Nat) (a_tones : Nat) (a_marks : Nat) (a_thenTones : Nat) (a_thenMarks : Nat) (v_count : Int32) (f_thenMarks : (Nat → Int32)) (rv : Int32) (h : fX5_mayDrop fu v_count f_thenMarks = some rv) : zC l yX5_mayDrop wsX5_mayDrop 0 0 G [.ref a] (w_X5_mayDrop G a a_tones a_marks a_thenTones a_thenMarks v_count f_thenMarks) (some (.int rv)) (w_X5_mayDrop G a a_tones a_marks a_thenTones a_thenMarks v_count f_thenMarks) := by
  refine fun sz => Met.ofW (cc := cX5_mayDrop) (maxL := 3) (ret := (some .int)) (by decide) rfl ?_
  intro p e s m args below meth c s₁ B hml hv
  obtain ⟨rfl, hsz, hP, hK, hD0, hE⟩ := hv
  have hx := B.exec
  have hb := B.bytes
  have hr := B.returns
  have hts := atoms_spec (ws := wsX5_mayDrop) B.pre
  have hown : s.vm.findClass RX5 = some m.cls := findClass_of_methodNamed B.named
  have hlocks := B.notSynchronized
  subst hsz
  have hD := hD0.self (sz := s.heap.size)
  generalize hAe : va_A (w_X5_mayDrop G a a_tones a_marks a_thenTones a_thenMarks v_count f_thenMarks) s.heap.size = A at hD hE ⊢
  have hA : ∀ q : Nat, s.heap.size ≤ q → A q := fun q h => by rw [← hAe]; exact Or.inr h
  have hS : va_S A s.heap s.heap [] := va_S.rf
  have hl := lv_entry ([.ref a]) (n := 3) (Nat.le_of_ble_eq_true rfl)
  rw [lg_entry_eq]
  generalize (lg_sl ([.ref a]) ++ List.replicate (3 - (lg_sl ([.ref a])).length) Slot.unset).toArray = ls at hl ⊢
  have hl : lv_has ls 3 [(0, .ref a)] := hl
  have hP : va_P G.1 vwCl (w_X5_mayDrop G a a_tones a_marks a_thenTones a_thenMarks v_count f_thenMarks) s.heap := hP
  rw [fX5_mayDrop] at h
  refine lv_bipush (v := (7 : Int32)) hx hb dX5_mayDrop_0 (by decide) ?_
  refine lv_istore_n (lv' := [(1, .int (7 : Int32)), (0, .ref a)]) hx hb dX5_mayDrop_2 rfl hl (by decide) rfl (fun ls hl => ?_)
  refine lv_iconst (v := (0 : Int32)) hx hb dX5_mayDrop_3 (by decide) ?_
  refine lv_istore_n (lv' := [(2, .int (0 : Int32)), (1, .int (7 : Int32)), (0, .ref a)]) hx hb dX5_mayDrop_4 rfl hl (by decide) rfl (fun ls hl => ?_)
  have loop_5 : ∀ (n : Nat) (K : Int32 → Option Int32) (l1_5 : Int32) (l2_5 : Int32) (H : Heap) (locs : List Loc) (ls : Array Slot), fX5_mayDrop_L5 fu v_count f_thenMarks K n l1_5 l2_5 = some rv → (∀ (l1_5e : Int32) (H : Heap) (locs : List Loc) (ls : Array Slot), K l1_5e = some rv → va_P G.1 vwCl (w_X5_mayDrop G a a_tones a_marks a_thenTones a_thenMarks v_count f_thenMarks) H → va_D A (w_X5_mayDrop G a a_tones a_marks a_thenTones a_thenMarks v_count f_thenMarks) → va_S A s.heap H locs → lv_has ls 3 [(1, .int l1_5e)] → W p l e (headSpec wsX5_mayDrop { frames := 0, cells := 0, slots := 0, locals := 0 }).room s m ([.ref a] : List Value).toArray below meth c H locs 0 0 (MQ below (zQ (some (.int rv)) G (w_X5_mayDrop G a a_tones a_marks a_thenTones a_thenMarks v_count f_thenMarks) A) ([.ref a] : List Value).toArray s 0 0 A) (F0 m 30 ls [])) → va_P G.1 vwCl (w_X5_mayDrop G a a_tones a_marks a_thenTones a_thenMarks v_count f_thenMarks) H → va_D A (w_X5_mayDrop G a a_tones a_marks a_thenTones a_thenMarks v_count f_thenMarks) → va_S A s.heap H locs → lv_has ls 3 [(0, .ref a), (1, .int l1_5), (2, .int l2_5)] → W p l e (headSpec wsX5_mayDrop { frames := 0, cells := 0, slots := 0, locals := 0 }).room s m ([.ref a] : List Value).toArray below meth c H locs 0 0 (MQ below (zQ (some (.int rv)) G (w_X5_mayDrop G a a_tones a_marks a_thenTones a_thenMarks v_count f_thenMarks) A) ([.ref a] : List Value).toArray s 0 0 A) (F0 m 5 ls []) := by
    intro n
    induction n with
    | zero => intro K l1_5 l2_5 H locs ls h; rw [fX5_mayDrop_L5] at h; cases h
    | succ n ih =>
      intro K l1_5 l2_5 H locs ls h hk hP hD hS hl
      rw [fX5_mayDrop_L5] at h
      refine lv_iload_n hx hb dX5_mayDrop_5 rfl (lv_at hl 2 rfl) ?_
      refine lv_aload_n hx hb dX5_mayDrop_6 rfl (lv_at hl 0 rfl) ?_
      refine va_get (D := G.1) (ci := 5) (v := .int v_count) (C := RX5) (T := TX5) (N := 5) hx hb hts in_X5_mayDrop_X5 hown hK.1 hP 0 rfl rfl 4 (by decide) (hts (.fieldLink RX5 24 "NineHands$Samples" "count" "I") (by decide +kernel)) (fun _ h9 => h9) rfl dX5_mayDrop_7 ?_
      refine lv_icmp_ge (tgt := 30) hx hb dX5_mayDrop_10 (by decide) (fun c10 => ?_) (fun c10 => ?_)
      · have h := zt c10 h
        exact hk _ _ _ _ h hP hD hS (lv_sub hl [1] rfl)
      · have h := zf c10 h
        refine lv_iload_n hx hb dX5_mayDrop_13 rfl (lv_at hl 1 rfl) ?_
        refine lv_aload_n hx hb dX5_mayDrop_14 rfl (lv_at hl 0 rfl) ?_
        refine va_get (D := G.1) (ci := 5) (v := .ref a_thenMarks) (C := RX5) (T := TX5) (N := 5) hx hb hts in_X5_mayDrop_X5 hown hK.1 hP 0 rfl rfl 3 (by decide) (hts (.fieldLink RX5 21 "NineHands$Samples" "thenMarks" "[I") (by decide +kernel)) (fun _ h9 => h9) rfl dX5_mayDrop_15 ?_
        refine lv_iload_n hx hb dX5_mayDrop_18 rfl (lv_at hl 2 rfl) ?_
        obtain ⟨g19, h⟩ := zg h
        refine zald hx hb hK.1 hP 1 0 rfl rfl g19 (j := (l2_5).toNatClampNeg) rfl dX5_mayDrop_19 ?_
        refine lv_iconst (v := ((-1) : Int32)) hx hb dX5_mayDrop_20 (by decide) ?_
        refine lv_ixor hx hb dX5_mayDrop_21 ?_
        refine lv_iand hx hb dX5_mayDrop_22 ?_
        refine lv_istore_n (lv' := [(1, .int (l1_5 &&& ((f_thenMarks (l2_5).toNatClampNeg) ^^^ ((-1) : Int32)))), (0, .ref a), (2, .int l2_5)]) hx hb dX5_mayDrop_23 rfl hl (by decide) rfl (fun ls hl => ?_)
        refine lv_iinc (v := (l2_5 + (1 : Int32))) (lv' := [(2, .int (l2_5 + (1 : Int32))), (1, .int (l1_5 &&& ((f_thenMarks (l2_5).toNatClampNeg) ^^^ ((-1) : Int32)))), (0, .ref a)]) hx hb dX5_mayDrop_24 hl (k := 2) rfl rfl (by decide) rfl (fun ls hl => ?_)
        refine lv_goto (tgt := 5) hx hb dX5_mayDrop_27 (by decide) ?_
        exact ih K _ _ _ _ _ h hk hP hD hS (lv_sub hl [2, 1, 0] rfl)
  refine loop_5 fu _ _ _ _ _ _ h (fun l1_5e H locs ls h hP hD hS hl => ?_) hP hD hS (lv_sub hl [2, 1, 0] rfl)
  refine lv_iload_n hx hb dX5_mayDrop_30 rfl (lv_at hl 0 rfl) ?_
  cases h
  exact W.iret hx hb hr (fun t9 ht9 _ => zend hP hD hS ht9) hS.2.2 dX5_mayDrop_31
abbrev w_X5_mayLeave (G : zG) (a : Nat) (a_tones : Nat) (a_marks : Nat) (a_thenTones : Nat) (a_thenMarks : Nat) (v_count : Int32) (f_marks : (Nat → Int32)) (f_thenMarks : (Nat → Int32)) : va_W := [(a, .inr (5, [.ref a_tones, .ref a_marks, .ref a_thenTones, .ref a_thenMarks, .int v_count])), (a_marks, .inl (zCI G, 8, .inl f_marks)), (a_thenMarks, .inl (zCI G, 8, .inl f_thenMarks))]
theorem in_X5_mayLeave_X5 : ∀ w ∈ wsX50, w ∈ wsX5_mayLeave := by decide +kernel
set_option maxHeartbeats 4000000 in
set_option maxRecDepth 100000 in
theorem c_X5_mayLeave (l : Launch) (G : zG) (fu : Nat) (a : Nat) (a_tones : Nat) (a_marks : Nat) (a_thenTones : Nat) (a_thenMarks : Nat) (v_count : Int32) (f_marks : (Nat → Int32)) (f_thenMarks : (Nat → Int32)) (rv : Int32) (h : fX5_mayLeave fu v_count f_marks f_thenMarks = some rv) : zC l yX5_mayLeave wsX5_mayLeave 0 0 G [.ref a] (w_X5_mayLeave G a a_tones a_marks a_thenTones a_thenMarks v_count f_marks f_thenMarks) (some (.int rv)) (w_X5_mayLeave G a a_tones a_marks a_thenTones a_thenMarks v_count f_marks f_thenMarks) := by
  refine fun sz => Met.ofW (cc := cX5_mayLeave) (maxL := 3) (ret := (some .int)) (by decide) rfl ?_
  intro p e s m args below meth c s₁ B hml hv
  obtain ⟨rfl, hsz, hP, hK, hD0, hE⟩ := hv
  have hx := B.exec
  have hb := B.bytes
  have hr := B.returns
  have hts := atoms_spec (ws := wsX5_mayLeave) B.pre
  have hown : s.vm.findClass RX5 = some m.cls := findClass_of_methodNamed B.named
  have hlocks := B.notSynchronized
  subst hsz
  have hD := hD0.self (sz := s.heap.size)
  generalize hAe : va_A (w_X5_mayLeave G a a_tones a_marks a_thenTones a_thenMarks v_count f_marks f_thenMarks) s.heap.size = A at hD hE ⊢
  have hA : ∀ q : Nat, s.heap.size ≤ q → A q := fun q h => by rw [← hAe]; exact Or.inr h
  have hS : va_S A s.heap s.heap [] := va_S.rf
  have hl := lv_entry ([.ref a]) (n := 3) (Nat.le_of_ble_eq_true rfl)
  rw [lg_entry_eq]
  generalize (lg_sl ([.ref a]) ++ List.replicate (3 - (lg_sl ([.ref a])).length) Slot.unset).toArray = ls at hl ⊢
  have hl : lv_has ls 3 [(0, .ref a)] := hl
  have hP : va_P G.1 vwCl (w_X5_mayLeave G a a_tones a_marks a_thenTones a_thenMarks v_count f_marks f_thenMarks) s.heap := hP
  rw [fX5_mayLeave] at h
  refine lv_bipush (v := (7 : Int32)) hx hb dX5_mayLeave_0 (by decide) ?_
  refine lv_istore_n (lv' := [(1, .int (7 : Int32)), (0, .ref a)]) hx hb dX5_mayLeave_2 rfl hl (by decide) rfl (fun ls hl => ?_)
  refine lv_iconst (v := (0 : Int32)) hx hb dX5_mayLeave_3 (by decide) ?_
  refine lv_istore_n (lv' := [(2, .int (0 : Int32)), (1, .int (7 : Int32)), (0, .ref a)]) hx hb dX5_mayLeave_4 rfl hl (by decide) rfl (fun ls hl => ?_)
  have loop_5 : ∀ (n : Nat) (K : Int32 → Option Int32) (l1_5 : Int32) (l2_5 : Int32) (H : Heap) (locs : List Loc) (ls : Array Slot), fX5_mayLeave_L5 fu v_count f_marks f_thenMarks K n l1_5 l2_5 = some rv → (∀ (l1_5e : Int32) (H : Heap) (locs : List Loc) (ls : Array Slot), K l1_5e = some rv → va_P G.1 vwCl (w_X5_mayLeave G a a_tones a_marks a_thenTones a_thenMarks v_count f_marks f_thenMarks) H → va_D A (w_X5_mayLeave G a a_tones a_marks a_thenTones a_thenMarks v_count f_marks f_thenMarks) → va_S A s.heap H locs → lv_has ls 3 [(1, .int l1_5e)] → W p l e (headSpec wsX5_mayLeave { frames := 0, cells := 0, slots := 0, locals := 0 }).room s m ([.ref a] : List Value).toArray below meth c H locs 0 0 (MQ below (zQ (some (.int rv)) G (w_X5_mayLeave G a a_tones a_marks a_thenTones a_thenMarks v_count f_marks f_thenMarks) A) ([.ref a] : List Value).toArray s 0 0 A) (F0 m 37 ls [])) → va_P G.1 vwCl (w_X5_mayLeave G a a_tones a_marks a_thenTones a_thenMarks v_count f_marks f_thenMarks) H → va_D A (w_X5_mayLeave G a a_tones a_marks a_thenTones a_thenMarks v_count f_marks f_thenMarks) → va_S A s.heap H locs → lv_has ls 3 [(0, .ref a), (1, .int l1_5), (2, .int l2_5)] → W p l e (headSpec wsX5_mayLeave { frames := 0, cells := 0, slots := 0, locals := 0 }).room s m ([.ref a] : List Value).toArray below meth c H locs 0 0 (MQ below (zQ (some (.int rv)) G (w_X5_mayLeave G a a_tones a_marks a_thenTones a_thenMarks v_count f_marks f_thenMarks) A) ([.ref a] : List Value).toArray s 0 0 A) (F0 m 5 ls []) := by
    intro n
    induction n with
    | zero => intro K l1_5 l2_5 H locs ls h; rw [fX5_mayLeave_L5] at h; cases h
    | succ n ih =>
      intro K l1_5 l2_5 H locs ls h hk hP hD hS hl
      rw [fX5_mayLeave_L5] at h
      refine lv_iload_n hx hb dX5_mayLeave_5 rfl (lv_at hl 2 rfl) ?_
      refine lv_aload_n hx hb dX5_mayLeave_6 rfl (lv_at hl 0 rfl) ?_
      refine va_get (D := G.1) (ci := 5) (v := .int v_count) (C := RX5) (T := TX5) (N := 5) hx hb hts in_X5_mayLeave_X5 hown hK.1 hP 0 rfl rfl 4 (by decide) (hts (.fieldLink RX5 24 "NineHands$Samples" "count" "I") (by decide +kernel)) (fun _ h9 => h9) rfl dX5_mayLeave_7 ?_
      refine lv_icmp_ge (tgt := 37) hx hb dX5_mayLeave_10 (by decide) (fun c10 => ?_) (fun c10 => ?_)
      · have h := zt c10 h
        exact hk _ _ _ _ h hP hD hS (lv_sub hl [1] rfl)
      · have h := zf c10 h
        refine lv_iload_n hx hb dX5_mayLeave_13 rfl (lv_at hl 1 rfl) ?_
        refine lv_aload_n hx hb dX5_mayLeave_14 rfl (lv_at hl 0 rfl) ?_
        refine va_get (D := G.1) (ci := 5) (v := .ref a_marks) (C := RX5) (T := TX5) (N := 5) hx hb hts in_X5_mayLeave_X5 hown hK.1 hP 0 rfl rfl 1 (by decide) (hts (.fieldLink RX5 15 "NineHands$Samples" "marks" "[I") (by decide +kernel)) (fun _ h9 => h9) rfl dX5_mayLeave_15 ?_
        refine lv_iload_n hx hb dX5_mayLeave_18 rfl (lv_at hl 2 rfl) ?_
        obtain ⟨g19, h⟩ := zg h
        refine zald hx hb hK.1 hP 1 0 rfl rfl g19 (j := (l2_5).toNatClampNeg) rfl dX5_mayLeave_19 ?_
        refine lv_aload_n hx hb dX5_mayLeave_20 rfl (lv_at hl 0 rfl) ?_
        refine va_get (D := G.1) (ci := 5) (v := .ref a_thenMarks) (C := RX5) (T := TX5) (N := 5) hx hb hts in_X5_mayLeave_X5 hown hK.1 hP 0 rfl rfl 3 (by decide) (hts (.fieldLink RX5 21 "NineHands$Samples" "thenMarks" "[I") (by decide +kernel)) (fun _ h9 => h9) rfl dX5_mayLeave_21 ?_
        refine lv_iload_n hx hb dX5_mayLeave_24 rfl (lv_at hl 2 rfl) ?_
        refine zald hx hb hK.1 hP 2 0 rfl rfl g19 (j := (l2_5).toNatClampNeg) rfl dX5_mayLeave_25 ?_
        refine lv_ixor hx hb dX5_mayLeave_26 ?_
        refine lv_iconst (v := ((-1) : Int32)) hx hb dX5_mayLeave_27 (by decide) ?_
        refine lv_ixor hx hb dX5_mayLeave_28 ?_
        refine lv_iand hx hb dX5_mayLeave_29 ?_
        refine lv_istore_n (lv' := [(1, .int (l1_5 &&& (((f_marks (l2_5).toNatClampNeg) ^^^ (f_thenMarks (l2_5).toNatClampNeg)) ^^^ ((-1) : Int32)))), (0, .ref a), (2, .int l2_5)]) hx hb dX5_mayLeave_30 rfl hl (by decide) rfl (fun ls hl => ?_)
        refine lv_iinc (v := (l2_5 + (1 : Int32))) (lv' := [(2, .int (l2_5 + (1 : Int32))), (1, .int (l1_5 &&& (((f_marks (l2_5).toNatClampNeg) ^^^ (f_thenMarks (l2_5).toNatClampNeg)) ^^^ ((-1) : Int32)))), (0, .ref a)]) hx hb dX5_mayLeave_31 hl (k := 2) rfl rfl (by decide) rfl (fun ls hl => ?_)
        refine lv_goto (tgt := 5) hx hb dX5_mayLeave_34 (by decide) ?_
        exact ih K _ _ _ _ _ h hk hP hD hS (lv_sub hl [2, 1, 0] rfl)
  refine loop_5 fu _ _ _ _ _ _ h (fun l1_5e H locs ls h hP hD hS hl => ?_) hP hD hS (lv_sub hl [2, 1, 0] rfl)
  refine lv_iload_n hx hb dX5_mayLeave_37 rfl (lv_at hl 0 rfl) ?_
  cases h
  exact W.iret hx hb hr (fun t9 ht9 _ => zend hP hD hS ht9) hS.2.2 dX5_mayLeave_38
abbrev w_X5_fitOneHabit (G : zG) (a : Nat) (a_tones : Nat) (a_marks : Nat) (a_thenTones : Nat) (a_thenMarks : Nat) (v_count : Int32) (f_tones : (Nat → Int32)) (f_marks : (Nat → Int32)) (f_thenTones : (Nat → Int32)) (f_thenMarks : (Nat → Int32)) : va_W := [(a, .inr (5, [.ref a_tones, .ref a_marks, .ref a_thenTones, .ref a_thenMarks, .int v_count])), (a_tones, .inl (zCI G, 8, .inl f_tones)), (a_marks, .inl (zCI G, 8, .inl f_marks)), (a_thenTones, .inl (zCI G, 8, .inl f_thenTones)), (a_thenMarks, .inl (zCI G, 8, .inl f_thenMarks))]
set_option maxHeartbeats 4000000 in
set_option maxRecDepth 100000 in
theorem c_X5_fitOneHabit (l : Launch) (G : zG) (fu : Nat) (a : Nat) (a_tones : Nat) (a_marks : Nat) (a_thenTones : Nat) (a_thenMarks : Nat) (v_count : Int32) (f_tones : (Nat → Int32)) (f_marks : (Nat → Int32)) (f_thenTones : (Nat → Int32)) (f_thenMarks : (Nat → Int32)) (rv : Int32) (h : fX5_fitOneHabit fu v_count f_tones f_marks f_thenTones f_thenMarks = some rv) : zC l yX5_fitOneHabit wsX5_fitOneHabit 4 88 G [.ref a] (w_X5_fitOneHabit G a a_tones a_marks a_thenTones a_thenMarks v_count f_tones f_marks f_thenTones f_thenMarks) (some (.int rv)) (w_X5_fitOneHabit G a a_tones a_marks a_thenTones a_thenMarks v_count f_tones f_marks f_thenTones f_thenMarks) := by
  refine fun sz => Met.ofW (cc := cX5_fitOneHabit) (maxL := 1) (ret := (some .boolean)) (by decide) rfl ?_
  intro p e s m args below meth c s₁ B hml hv
  obtain ⟨rfl, hsz, hP, hK, hD0, hE⟩ := hv
  have hx := B.exec
  have hb := B.bytes
  have hr := B.returns
  have hts := atoms_spec (ws := wsX5_fitOneHabit) B.pre
  have hown : s.vm.findClass RX5 = some m.cls := findClass_of_methodNamed B.named
  have hlocks := B.notSynchronized
  subst hsz
  have hD := hD0.self (sz := s.heap.size)
  generalize hAe : va_A (w_X5_fitOneHabit G a a_tones a_marks a_thenTones a_thenMarks v_count f_tones f_marks f_thenTones f_thenMarks) s.heap.size = A at hD hE ⊢
  have hA : ∀ q : Nat, s.heap.size ≤ q → A q := fun q h => by rw [← hAe]; exact Or.inr h
  have hS : va_S A s.heap s.heap [] := va_S.rf
  have hl := lv_entry ([.ref a]) (n := 1) (Nat.le_of_ble_eq_true rfl)
  rw [lg_entry_eq]
  generalize (lg_sl ([.ref a]) ++ List.replicate (1 - (lg_sl ([.ref a])).length) Slot.unset).toArray = ls at hl ⊢
  have hl : lv_has ls 1 [(0, .ref a)] := hl
  have hP : va_P G.1 vwCl (w_X5_fitOneHabit G a a_tones a_marks a_thenTones a_thenMarks v_count f_tones f_marks f_thenTones f_thenMarks) s.heap := hP
  rw [fX5_fitOneHabit] at h
  refine lv_aload_n hx hb dX5_fitOneHabit_0 rfl (lv_at hl 0 rfl) ?_
  obtain ⟨y1, hc1, h⟩ := zb1_e h
  refine zcV (As := []) (rest := []) (ws' := (w_X5_fitOneHabit G a a_tones a_marks a_thenTones a_thenMarks v_count f_tones f_marks f_thenTones f_thenMarks)) (st1 := [.int y1]) ⟨hx, hb, hml, hown, hts⟩ (c_X5_leastLean l G fu a a_tones a_marks a_thenTones a_thenMarks v_count f_tones f_thenTones y1 hc1) (cwV 0 hts gX5_fitOneHabit_X5_leastLean rfl rfl rfl (by decide +kernel) ⟨Nat.le_of_ble_eq_true rfl, Nat.le_of_ble_eq_true rfl⟩) hK hE hP hD hS hA [0, 1, 3] rfl rfl 0 5 rfl rfl rfl rfl rfl rfl hl.1 rfl (Nat.le_of_ble_eq_true rfl) dX5_fitOneHabit_1 (Nat.zero_le _) (Nat.zero_le _) rfl (fun H locs hP hD hS => ?_)
  refine lv_bipush (v := ((-9) : Int32)) hx hb dX5_fitOneHabit_4 (by decide) ?_
  refine lv_icmp_eq (tgt := 32) hx hb dX5_fitOneHabit_6 (by decide) (fun c6 => ?_) (fun c6 => ?_)
  · have h := zt c6 h
    refine lv_iconst (v := (0 : Int32)) hx hb dX5_fitOneHabit_32 (by decide) ?_
    cases h
    exact W.zret (ty := .boolean) hx hb hr rfl (fun t9 ht9 _ => zend hP hD hS ht9) hS.2.2 dX5_fitOneHabit_33
  · have h := zf c6 h
    refine lv_aload_n hx hb dX5_fitOneHabit_9 rfl (lv_at hl 0 rfl) ?_
    obtain ⟨y10, hc10, h⟩ := zb1_e h
    refine zcV (As := []) (rest := []) (ws' := (w_X5_fitOneHabit G a a_tones a_marks a_thenTones a_thenMarks v_count f_tones f_marks f_thenTones f_thenMarks)) (st1 := [.int y10]) ⟨hx, hb, hml, hown, hts⟩ (c_X5_maySet l G fu a a_tones a_marks a_thenTones a_thenMarks v_count f_thenMarks y10 hc10) (cwV 0 hts gX5_fitOneHabit_X5_maySet rfl rfl rfl (by decide +kernel) ⟨Nat.le_of_ble_eq_true rfl, Nat.le_of_ble_eq_true rfl⟩) hK hE hP hD hS hA [0, 4] rfl rfl 0 5 rfl rfl rfl rfl rfl rfl hl.1 rfl (Nat.le_of_ble_eq_true rfl) dX5_fitOneHabit_10 (Nat.zero_le _) (Nat.zero_le _) rfl (fun H locs hP hD hS => ?_)
    refine lv_aload_n hx hb dX5_fitOneHabit_13 rfl (lv_at hl 0 rfl) ?_
    obtain ⟨y14, hc14, h⟩ := zb1_e h
    refine zcV (As := []) (rest := [.int y10]) (ws' := (w_X5_fitOneHabit G a a_tones a_marks a_thenTones a_thenMarks v_count f_tones f_marks f_thenTones f_thenMarks)) (st1 := [.int y14, .int y10]) ⟨hx, hb, hml, hown, hts⟩ (c_X5_mayDrop l G fu a a_tones a_marks a_thenTones a_thenMarks v_count f_thenMarks y14 hc14) (cwV 0 hts gX5_fitOneHabit_X5_mayDrop rfl rfl rfl (by decide +kernel) ⟨Nat.le_of_ble_eq_true rfl, Nat.le_of_ble_eq_true rfl⟩) hK hE hP hD hS hA [0, 4] rfl rfl 0 5 rfl rfl rfl rfl rfl rfl hl.1 rfl (Nat.le_of_ble_eq_true rfl) dX5_fitOneHabit_14 (Nat.zero_le _) (Nat.zero_le _) rfl (fun H locs hP hD hS => ?_)
    refine lv_ior hx hb dX5_fitOneHabit_17 ?_
    refine lv_aload_n hx hb dX5_fitOneHabit_18 rfl (lv_at hl 0 rfl) ?_
    obtain ⟨y19, hc19, h⟩ := zb1_e h
    refine zcV (As := []) (rest := [.int (y10 ||| y14)]) (ws' := (w_X5_fitOneHabit G a a_tones a_marks a_thenTones a_thenMarks v_count f_tones f_marks f_thenTones f_thenMarks)) (st1 := [.int y19, .int (y10 ||| y14)]) ⟨hx, hb, hml, hown, hts⟩ (c_X5_mayLeave l G fu a a_tones a_marks a_thenTones a_thenMarks v_count f_marks f_thenMarks y19 hc19) (cwV 0 hts gX5_fitOneHabit_X5_mayLeave rfl rfl rfl (by decide +kernel) ⟨Nat.le_of_ble_eq_true rfl, Nat.le_of_ble_eq_true rfl⟩) hK hE hP hD hS hA [0, 2, 4] rfl rfl 0 5 rfl rfl rfl rfl rfl rfl hl.1 rfl (Nat.le_of_ble_eq_true rfl) dX5_fitOneHabit_19 (Nat.zero_le _) (Nat.zero_le _) rfl (fun H locs hP hD hS => ?_)
    refine lv_ior hx hb dX5_fitOneHabit_22 ?_
    refine lv_bipush (v := (7 : Int32)) hx hb dX5_fitOneHabit_23 (by decide) ?_
    refine lv_icmp_ne (tgt := 32) hx hb dX5_fitOneHabit_25 (by decide) (fun c25 => ?_) (fun c25 => ?_)
    · have h := zf c25 h
      refine lv_iconst (v := (0 : Int32)) hx hb dX5_fitOneHabit_32 (by decide) ?_
      cases h
      exact W.zret (ty := .boolean) hx hb hr rfl (fun t9 ht9 _ => zend hP hD hS ht9) hS.2.2 dX5_fitOneHabit_33
    · have h := zt c25 h
      refine lv_iconst (v := (1 : Int32)) hx hb dX5_fitOneHabit_28 (by decide) ?_
      refine lv_goto (tgt := 33) hx hb dX5_fitOneHabit_29 (by decide) ?_
      cases h
      exact W.zret (ty := .boolean) hx hb hr rfl (fun t9 ht9 _ => zend hP hD hS ht9) hS.2.2 dX5_fitOneHabit_33
abbrev w_X5_mustSet (G : zG) (a : Nat) (a_tones : Nat) (a_marks : Nat) (a_thenTones : Nat) (a_thenMarks : Nat) (v_count : Int32) (f_marks : (Nat → Int32)) (f_thenMarks : (Nat → Int32)) : va_W := [(a, .inr (5, [.ref a_tones, .ref a_marks, .ref a_thenTones, .ref a_thenMarks, .int v_count])), (a_marks, .inl (zCI G, 8, .inl f_marks)), (a_thenMarks, .inl (zCI G, 8, .inl f_thenMarks))]
set_option maxHeartbeats 4000000 in
set_option maxRecDepth 100000 in
theorem c_X5_mustSet (l : Launch) (G : zG) (fu : Nat) (a : Nat) (a_tones : Nat) (a_marks : Nat) (a_thenTones : Nat) (a_thenMarks : Nat) (v_count : Int32) (f_marks : (Nat → Int32)) (f_thenMarks : (Nat → Int32)) (rv : Int32) (h : fX5_mustSet fu v_count f_marks f_thenMarks = some rv) : zC l yX5_mustSet wsX5_mustSet 1 22 G [.ref a] (w_X5_mustSet G a a_tones a_marks a_thenTones a_thenMarks v_count f_marks f_thenMarks) (some (.int rv)) (w_X5_mustSet G a a_tones a_marks a_thenTones a_thenMarks v_count f_marks f_thenMarks) := by
  refine fun sz => Met.ofW (cc := cX5_mustSet) (maxL := 1) (ret := (some .int)) (by decide) rfl ?_
  intro p e s m args below meth c s₁ B hml hv
  obtain ⟨rfl, hsz, hP, hK, hD0, hE⟩ := hv
  have hx := B.exec
  have hb := B.bytes
  have hr := B.returns
  have hts := atoms_spec (ws := wsX5_mustSet) B.pre
  have hown : s.vm.findClass RX5 = some m.cls := findClass_of_methodNamed B.named
  have hlocks := B.notSynchronized
  subst hsz
  have hD := hD0.self (sz := s.heap.size)
  generalize hAe : va_A (w_X5_mustSet G a a_tones a_marks a_thenTones a_thenMarks v_count f_marks f_thenMarks) s.heap.size = A at hD hE ⊢
  have hA : ∀ q : Nat, s.heap.size ≤ q → A q := fun q h => by rw [← hAe]; exact Or.inr h
  have hS : va_S A s.heap s.heap [] := va_S.rf
  have hl := lv_entry ([.ref a]) (n := 1) (Nat.le_of_ble_eq_true rfl)
  rw [lg_entry_eq]
  generalize (lg_sl ([.ref a]) ++ List.replicate (1 - (lg_sl ([.ref a])).length) Slot.unset).toArray = ls at hl ⊢
  have hl : lv_has ls 1 [(0, .ref a)] := hl
  have hP : va_P G.1 vwCl (w_X5_mustSet G a a_tones a_marks a_thenTones a_thenMarks v_count f_marks f_thenMarks) s.heap := hP
  rw [fX5_mustSet] at h
  refine lv_aload_n hx hb dX5_mustSet_0 rfl (lv_at hl 0 rfl) ?_
  obtain ⟨y1, hc1, h⟩ := zb1_e h
  refine zcV (As := []) (rest := []) (ws' := (w_X5_mustSet G a a_tones a_marks a_thenTones a_thenMarks v_count f_marks f_thenMarks)) (st1 := [.int y1]) ⟨hx, hb, hml, hown, hts⟩ (c_X5_maySet l G fu a a_tones a_marks a_thenTones a_thenMarks v_count f_thenMarks y1 hc1) (cwV 0 hts gX5_mustSet_X5_maySet rfl rfl rfl (by decide +kernel) ⟨Nat.le_of_ble_eq_true rfl, Nat.le_of_ble_eq_true rfl⟩) hK hE hP hD hS hA [0, 2] rfl rfl 0 5 rfl rfl rfl rfl rfl rfl hl.1 rfl (Nat.le_of_ble_eq_true rfl) dX5_mustSet_1 (Nat.zero_le _) (Nat.zero_le _) rfl (fun H locs hP hD hS => ?_)
  refine lv_aload_n hx hb dX5_mustSet_4 rfl (lv_at hl 0 rfl) ?_
  obtain ⟨y5, hc5, h⟩ := zb1_e h
  refine zcV (As := []) (rest := [.int y1]) (ws' := (w_X5_mustSet G a a_tones a_marks a_thenTones a_thenMarks v_count f_marks f_thenMarks)) (st1 := [.int y5, .int y1]) ⟨hx, hb, hml, hown, hts⟩ (c_X5_mayDrop l G fu a a_tones a_marks a_thenTones a_thenMarks v_count f_thenMarks y5 hc5) (cwV 0 hts gX5_mustSet_X5_mayDrop rfl rfl rfl (by decide +kernel) ⟨Nat.le_of_ble_eq_true rfl, Nat.le_of_ble_eq_true rfl⟩) hK hE hP hD hS hA [0, 2] rfl rfl 0 5 rfl rfl rfl rfl rfl rfl hl.1 rfl (Nat.le_of_ble_eq_true rfl) dX5_mustSet_5 (Nat.zero_le _) (Nat.zero_le _) rfl (fun H locs hP hD hS => ?_)
  refine lv_iconst (v := ((-1) : Int32)) hx hb dX5_mustSet_8 (by decide) ?_
  refine lv_ixor hx hb dX5_mustSet_9 ?_
  refine lv_iand hx hb dX5_mustSet_10 ?_
  refine lv_aload_n hx hb dX5_mustSet_11 rfl (lv_at hl 0 rfl) ?_
  obtain ⟨y12, hc12, h⟩ := zb1_e h
  refine zcV (As := []) (rest := [.int (y1 &&& (y5 ^^^ ((-1) : Int32)))]) (ws' := (w_X5_mustSet G a a_tones a_marks a_thenTones a_thenMarks v_count f_marks f_thenMarks)) (st1 := [.int y12, .int (y1 &&& (y5 ^^^ ((-1) : Int32)))]) ⟨hx, hb, hml, hown, hts⟩ (c_X5_mayLeave l G fu a a_tones a_marks a_thenTones a_thenMarks v_count f_marks f_thenMarks y12 hc12) (cwV 0 hts gX5_mustSet_X5_mayLeave rfl rfl rfl (by decide +kernel) ⟨Nat.le_of_ble_eq_true rfl, Nat.le_of_ble_eq_true rfl⟩) hK hE hP hD hS hA [0, 1, 2] rfl rfl 0 5 rfl rfl rfl rfl rfl rfl hl.1 rfl (Nat.le_of_ble_eq_true rfl) dX5_mustSet_12 (Nat.zero_le _) (Nat.zero_le _) rfl (fun H locs hP hD hS => ?_)
  refine lv_iconst (v := ((-1) : Int32)) hx hb dX5_mustSet_15 (by decide) ?_
  refine lv_ixor hx hb dX5_mustSet_16 ?_
  refine lv_iand hx hb dX5_mustSet_17 ?_
  cases h
  exact W.iret hx hb hr (fun t9 ht9 _ => zend hP hD hS ht9) hS.2.2 dX5_mustSet_18
abbrev w_X5_mustDrop (G : zG) (a : Nat) (a_tones : Nat) (a_marks : Nat) (a_thenTones : Nat) (a_thenMarks : Nat) (v_count : Int32) (f_marks : (Nat → Int32)) (f_thenMarks : (Nat → Int32)) : va_W := [(a, .inr (5, [.ref a_tones, .ref a_marks, .ref a_thenTones, .ref a_thenMarks, .int v_count])), (a_marks, .inl (zCI G, 8, .inl f_marks)), (a_thenMarks, .inl (zCI G, 8, .inl f_thenMarks))]
set_option maxHeartbeats 4000000 in
set_option maxRecDepth 100000 in
theorem c_X5_mustDrop (l : Launch) (G : zG) (fu : Nat) (a : Nat) (a_tones : Nat) (a_marks : Nat) (a_thenTones : Nat) (a_thenMarks : Nat) (v_count : Int32) (f_marks : (Nat → Int32)) (f_thenMarks : (Nat → Int32)) (rv : Int32) (h : fX5_mustDrop fu v_count f_marks f_thenMarks = some rv) : zC l yX5_mustDrop wsX5_mustDrop 1 22 G [.ref a] (w_X5_mustDrop G a a_tones a_marks a_thenTones a_thenMarks v_count f_marks f_thenMarks) (some (.int rv)) (w_X5_mustDrop G a a_tones a_marks a_thenTones a_thenMarks v_count f_marks f_thenMarks) := by
  refine fun sz => Met.ofW (cc := cX5_mustDrop) (maxL := 1) (ret := (some .int)) (by decide) rfl ?_
  intro p e s m args below meth c s₁ B hml hv
  obtain ⟨rfl, hsz, hP, hK, hD0, hE⟩ := hv
  have hx := B.exec
  have hb := B.bytes
  have hr := B.returns
  have hts := atoms_spec (ws := wsX5_mustDrop) B.pre
  have hown : s.vm.findClass RX5 = some m.cls := findClass_of_methodNamed B.named
  have hlocks := B.notSynchronized
  subst hsz
  have hD := hD0.self (sz := s.heap.size)
  generalize hAe : va_A (w_X5_mustDrop G a a_tones a_marks a_thenTones a_thenMarks v_count f_marks f_thenMarks) s.heap.size = A at hD hE ⊢
  have hA : ∀ q : Nat, s.heap.size ≤ q → A q := fun q h => by rw [← hAe]; exact Or.inr h
  have hS : va_S A s.heap s.heap [] := va_S.rf
  have hl := lv_entry ([.ref a]) (n := 1) (Nat.le_of_ble_eq_true rfl)
  rw [lg_entry_eq]
  generalize (lg_sl ([.ref a]) ++ List.replicate (1 - (lg_sl ([.ref a])).length) Slot.unset).toArray = ls at hl ⊢
  have hl : lv_has ls 1 [(0, .ref a)] := hl
  have hP : va_P G.1 vwCl (w_X5_mustDrop G a a_tones a_marks a_thenTones a_thenMarks v_count f_marks f_thenMarks) s.heap := hP
  rw [fX5_mustDrop] at h
  refine lv_aload_n hx hb dX5_mustDrop_0 rfl (lv_at hl 0 rfl) ?_
  obtain ⟨y1, hc1, h⟩ := zb1_e h
  refine zcV (As := []) (rest := []) (ws' := (w_X5_mustDrop G a a_tones a_marks a_thenTones a_thenMarks v_count f_marks f_thenMarks)) (st1 := [.int y1]) ⟨hx, hb, hml, hown, hts⟩ (c_X5_mayDrop l G fu a a_tones a_marks a_thenTones a_thenMarks v_count f_thenMarks y1 hc1) (cwV 0 hts gX5_mustDrop_X5_mayDrop rfl rfl rfl (by decide +kernel) ⟨Nat.le_of_ble_eq_true rfl, Nat.le_of_ble_eq_true rfl⟩) hK hE hP hD hS hA [0, 2] rfl rfl 0 5 rfl rfl rfl rfl rfl rfl hl.1 rfl (Nat.le_of_ble_eq_true rfl) dX5_mustDrop_1 (Nat.zero_le _) (Nat.zero_le _) rfl (fun H locs hP hD hS => ?_)
  refine lv_aload_n hx hb dX5_mustDrop_4 rfl (lv_at hl 0 rfl) ?_
  obtain ⟨y5, hc5, h⟩ := zb1_e h
  refine zcV (As := []) (rest := [.int y1]) (ws' := (w_X5_mustDrop G a a_tones a_marks a_thenTones a_thenMarks v_count f_marks f_thenMarks)) (st1 := [.int y5, .int y1]) ⟨hx, hb, hml, hown, hts⟩ (c_X5_maySet l G fu a a_tones a_marks a_thenTones a_thenMarks v_count f_thenMarks y5 hc5) (cwV 0 hts gX5_mustDrop_X5_maySet rfl rfl rfl (by decide +kernel) ⟨Nat.le_of_ble_eq_true rfl, Nat.le_of_ble_eq_true rfl⟩) hK hE hP hD hS hA [0, 2] rfl rfl 0 5 rfl rfl rfl rfl rfl rfl hl.1 rfl (Nat.le_of_ble_eq_true rfl) dX5_mustDrop_5 (Nat.zero_le _) (Nat.zero_le _) rfl (fun H locs hP hD hS => ?_)
  refine lv_iconst (v := ((-1) : Int32)) hx hb dX5_mustDrop_8 (by decide) ?_
  refine lv_ixor hx hb dX5_mustDrop_9 ?_
  refine lv_iand hx hb dX5_mustDrop_10 ?_
  refine lv_aload_n hx hb dX5_mustDrop_11 rfl (lv_at hl 0 rfl) ?_
  obtain ⟨y12, hc12, h⟩ := zb1_e h
  refine zcV (As := []) (rest := [.int (y1 &&& (y5 ^^^ ((-1) : Int32)))]) (ws' := (w_X5_mustDrop G a a_tones a_marks a_thenTones a_thenMarks v_count f_marks f_thenMarks)) (st1 := [.int y12, .int (y1 &&& (y5 ^^^ ((-1) : Int32)))]) ⟨hx, hb, hml, hown, hts⟩ (c_X5_mayLeave l G fu a a_tones a_marks a_thenTones a_thenMarks v_count f_marks f_thenMarks y12 hc12) (cwV 0 hts gX5_mustDrop_X5_mayLeave rfl rfl rfl (by decide +kernel) ⟨Nat.le_of_ble_eq_true rfl, Nat.le_of_ble_eq_true rfl⟩) hK hE hP hD hS hA [0, 1, 2] rfl rfl 0 5 rfl rfl rfl rfl rfl rfl hl.1 rfl (Nat.le_of_ble_eq_true rfl) dX5_mustDrop_12 (Nat.zero_le _) (Nat.zero_le _) rfl (fun H locs hP hD hS => ?_)
  refine lv_iconst (v := ((-1) : Int32)) hx hb dX5_mustDrop_15 (by decide) ?_
  refine lv_ixor hx hb dX5_mustDrop_16 ?_
  refine lv_iand hx hb dX5_mustDrop_17 ?_
  cases h
  exact W.iret hx hb hr (fun t9 ht9 _ => zend hP hD hS ht9) hS.2.2 dX5_mustDrop_18
