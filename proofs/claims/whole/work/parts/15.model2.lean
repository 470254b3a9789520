abbrev w_X8_waysOf (G : zG) (a : Nat) (a_text : Nat) (a_clerk : Nat) (a_s : Nat) (a_kept : Nat) (a_isKept : Nat) (a_signed : Nat) (a_slips : Nat) (a_row : Nat) (a_best : Nat) (v_thrown : Int32) (v_trace : Int64) (v_typed : Int32) (v_next : Int32) (v_token : Int32) (v_place : Int32) (v_value : Int32) (v_fault : Int32) (v_clerks : Int32) (v_draftClerks : Int32) (v_draftLine : Int32) (v_signMany : Int32) (v_copies : Int32) (v_rowMany : Int32) (f_clerk : (Nat → Int32)) (f_s : (Nat → Int32)) : va_W := [(a, .inr (8, [.int v_thrown, .long v_trace, .ref a_text, .int v_typed, .int v_next, .int v_token, .int v_place, .int v_value, .int v_fault, .ref a_clerk, .int v_clerks, .int v_draftClerks, .int v_draftLine, .ref a_s, .ref a_kept, .ref a_isKept, .ref a_signed, .int v_signMany, .ref a_slips, .int v_copies, .ref a_row, .ref a_best, .int v_rowMany])), (a_clerk, .inl (zCI G, 48, .inl f_clerk)), (a_s, .inl (zCI G, 22, .inl f_s))]
theorem in_X8_waysOf_X8 : ∀ w ∈ wsX80, w ∈ wsX8_waysOf := by decide +kernel
set_option maxHeartbeats 4000000 in
set_option maxRecDepth 100000 in
theorem c_X8_waysOf (l : Launch) (G : zG) (a : Nat) (a_text : Nat) (a_clerk : Nat) (a_s : Nat) (a_kept : Nat) (a_isKept : Nat) (a_signed : Nat) (a_slips : Nat) (a_row : Nat) (a_best : Nat) (v_thrown : Int32) (v_trace : Int64) (v_typed : Int32) (v_next : Int32) (v_token : Int32) (v_place : Int32) (v_value : Int32) (v_fault : Int32) (v_clerks : Int32) (v_draftClerks : Int32) (v_draftLine : Int32) (v_signMany : Int32) (v_copies : Int32) (v_rowMany : Int32) (f_clerk : (Nat → Int32)) (f_s : (Nat → Int32)) (x1 : Int32) (x2 : Int32) (rv : Int32) (h : fX8_waysOf f_clerk f_s x1 x2 = some rv) : zC l yX8_waysOf wsX8_waysOf 2 46 G [.ref a, .int x1, .int x2] (w_X8_waysOf G a a_text a_clerk a_s a_kept a_isKept a_signed a_slips a_row a_best v_thrown v_trace v_typed v_next v_token v_place v_value v_fault v_clerks v_draftClerks v_draftLine v_signMany v_copies v_rowMany f_clerk f_s) (some (.int rv)) (w_X8_waysOf G a a_text a_clerk a_s a_kept a_isKept a_signed a_slips a_row a_best v_thrown v_trace v_typed v_next v_token v_place v_value v_fault v_clerks v_draftClerks v_draftLine v_signMany v_copies v_rowMany f_clerk f_s) := by
  refine fun sz => Met.ofW (cc := cX8_waysOf) (maxL := 6) (ret := (some .int)) (by decide) rfl ?_
  intro p e s m args below meth c s₁ B hml hv
  obtain ⟨rfl, hsz, hP, hK, hD0, hE⟩ := hv
  have hx := B.exec
  have hb := B.bytes
  have hr := B.returns
  have hts := atoms_spec (ws := wsX8_waysOf) B.pre
  have hown : s.vm.findClass RX8 = some m.cls := findClass_of_methodNamed B.named
  have hlocks := B.notSynchronized
  subst hsz
  have hD := hD0.self (sz := s.heap.size)
  generalize hAe : va_A (w_X8_waysOf G a a_text a_clerk a_s a_kept a_isKept a_signed a_slips a_row a_best v_thrown v_trace v_typed v_next v_token v_place v_value v_fault v_clerks v_draftClerks v_draftLine v_signMany v_copies v_rowMany f_clerk f_s) s.heap.size = A at hD hE ⊢
  have hA : ∀ q : Nat, s.heap.size ≤ q → A q := fun q h => by rw [← hAe]; exact Or.inr h
  have hS : va_S A s.heap s.heap [] := va_S.rf
  have hl := lv_entry ([.ref a, .int x1, .int x2]) (n := 6) (Nat.le_of_ble_eq_true rfl)
  rw [lg_entry_eq]
  generalize (lg_sl ([.ref a, .int x1, .int x2]) ++ List.replicate (6 - (lg_sl ([.ref a, .int x1, .int x2])).length) Slot.unset).toArray = ls at hl ⊢
  have hl : lv_has ls 6 [(0, .ref a), (1, .int x1), (2, .int x2)] := hl
  have hP : va_P G.1 vwCl (w_X8_waysOf G a a_text a_clerk a_s a_kept a_isKept a_signed a_slips a_row a_best v_thrown v_trace v_typed v_next v_token v_place v_value v_fault v_clerks v_draftClerks v_draftLine v_signMany v_copies v_rowMany f_clerk f_s) s.heap := hP
  rw [fX8_waysOf] at h
  have join_50 : ∀ (s0_50 : Int32) (l3_50 : Int32) (l4_50 : Int32) (l5_50 : Int32) (H : Heap) (locs : List Loc) (ls : Array Slot), fX8_waysOf_J50 s0_50 l3_50 l4_50 l5_50 = some rv → va_P G.1 vwCl (w_X8_waysOf G a a_text a_clerk a_s a_kept a_isKept a_signed a_slips a_row a_best v_thrown v_trace v_typed v_next v_token v_place v_value v_fault v_clerks v_draftClerks v_draftLine v_signMany v_copies v_rowMany f_clerk f_s) H → va_D A (w_X8_waysOf G a a_text a_clerk a_s a_kept a_isKept a_signed a_slips a_row a_best v_thrown v_trace v_typed v_next v_token v_place v_value v_fault v_clerks v_draftClerks v_draftLine v_signMany v_copies v_rowMany f_clerk f_s) → va_S A s.heap H locs → lv_has ls 6 [(3, .int l3_50), (4, .int l4_50), (5, .int l5_50)] → W p l e (headSpec wsX8_waysOf { frames := 2, cells := 0, slots := 0, locals := 46 }).room s m ([.ref a, .int x1, .int x2] : List Value).toArray below meth c H locs 0 0 (MQ below (zQ (some (.int rv)) G (w_X8_waysOf G a a_text a_clerk a_s a_kept a_isKept a_signed a_slips a_row a_best v_thrown v_trace v_typed v_next v_token v_place v_value v_fault v_clerks v_draftClerks v_draftLine v_signMany v_copies v_rowMany f_clerk f_s) A) ([.ref a, .int x1, .int x2] : List Value).toArray s 0 0 A) (F0 m 50 ls [.int s0_50]) := by
    intro s0_50 l3_50 l4_50 l5_50 H locs ls h hP hD hS hl
    rw [fX8_waysOf_J50] at h
    refine lv_iload_n hx hb dX8_waysOf_50 rfl (lv_at hl 0 rfl) ?_
    refine lv_iload hx hb dX8_waysOf_51 (lv_at hl 1 rfl) ?_
    refine lv_icmp_ne (tgt := 64) hx hb dX8_waysOf_53 (by decide) (fun c53 => ?_) (fun c53 => ?_)
    · have h := zf c53 h
      refine lv_iconst (v := (0 : Int32)) hx hb dX8_waysOf_64 (by decide) ?_
      refine lv_iadd hx hb dX8_waysOf_65 ?_
      cases h
      exact W.iret hx hb hr (fun t9 ht9 _ => zend hP hD hS ht9) hS.2.2 dX8_waysOf_66
    · have h := zt c53 h
      refine lv_bipush (v := (10 : Int32)) hx hb dX8_waysOf_56 (by decide) ?_
      refine lv_iload hx hb dX8_waysOf_58 (lv_at hl 2 rfl) ?_
      refine lv_isub hx hb dX8_waysOf_60 ?_
      refine lv_goto (tgt := 65) hx hb dX8_waysOf_61 (by decide) ?_
      refine lv_iadd hx hb dX8_waysOf_65 ?_
      cases h
      exact W.iret hx hb hr (fun t9 ht9 _ => zend hP hD hS ht9) hS.2.2 dX8_waysOf_66
  refine lv_aload_n hx hb dX8_waysOf_0 rfl (lv_at hl 0 rfl) ?_
  refine va_get (D := G.1) (ci := 8) (v := .ref a_s) (C := RX8) (T := TX8) (N := 23) hx hb hts in_X8_waysOf_X8 hown hK.1 hP 0 rfl rfl 13 (by decide) (hts (.fieldLink RX8 16 "NineHandsModel" "s" "[I") (by decide +kernel)) (fun _ h9 => h9) rfl dX8_waysOf_1 ?_
  refine lv_iconst (v := (2 : Int32)) hx hb dX8_waysOf_4 (by decide) ?_
  refine lv_iload_n hx hb dX8_waysOf_5 rfl (lv_at hl 2 rfl) ?_
  refine lv_imul hx hb dX8_waysOf_6 ?_
  refine lv_iconst (v := (2 : Int32)) hx hb dX8_waysOf_7 (by decide) ?_
  refine lv_isub hx hb dX8_waysOf_8 ?_
  obtain ⟨g9, h⟩ := zg h
  refine zald hx hb hK.1 hP 2 0 rfl rfl g9 (j := ((((2 : Int32) * x2) - (2 : Int32))).toNatClampNeg) rfl dX8_waysOf_9 ?_
  refine lv_istore_n (lv' := [(3, .int (f_s ((((2 : Int32) * x2) - (2 : Int32))).toNatClampNeg)), (0, .ref a), (1, .int x1), (2, .int x2)]) hx hb dX8_waysOf_10 rfl hl (by decide) rfl (fun ls hl => ?_)
  refine lv_aload_n hx hb dX8_waysOf_11 rfl (lv_at hl 1 rfl) ?_
  refine va_get (D := G.1) (ci := 8) (v := .ref a_s) (C := RX8) (T := TX8) (N := 23) hx hb hts in_X8_waysOf_X8 hown hK.1 hP 0 rfl rfl 13 (by decide) (hts (.fieldLink RX8 16 "NineHandsModel" "s" "[I") (by decide +kernel)) (fun _ h9 => h9) rfl dX8_waysOf_12 ?_
  refine lv_iconst (v := (2 : Int32)) hx hb dX8_waysOf_15 (by decide) ?_
  refine lv_iload_n hx hb dX8_waysOf_16 rfl (lv_at hl 3 rfl) ?_
  refine lv_imul hx hb dX8_waysOf_17 ?_
  obtain ⟨g18, h⟩ := zg h
  refine zald hx hb hK.1 hP 2 0 rfl rfl g18 (j := (((2 : Int32) * x2)).toNatClampNeg) rfl dX8_waysOf_18 ?_
  refine lv_istore (lv' := [(4, .int (f_s (((2 : Int32) * x2)).toNatClampNeg)), (3, .int (f_s ((((2 : Int32) * x2) - (2 : Int32))).toNatClampNeg)), (0, .ref a), (1, .int x1), (2, .int x2)]) hx hb dX8_waysOf_19 hl (by decide) rfl (fun ls hl => ?_)
  refine lv_aload_n hx hb dX8_waysOf_21 rfl (lv_at hl 2 rfl) ?_
  refine va_get (D := G.1) (ci := 8) (v := .ref a_clerk) (C := RX8) (T := TX8) (N := 23) hx hb hts in_X8_waysOf_X8 hown hK.1 hP 0 rfl rfl 9 (by decide) (hts (.fieldLink RX8 13 "NineHandsModel" "clerk" "[I") (by decide +kernel)) (fun _ h9 => h9) rfl dX8_waysOf_22 ?_
  refine lv_iconst (v := (4 : Int32)) hx hb dX8_waysOf_25 (by decide) ?_
  refine lv_iload_n hx hb dX8_waysOf_26 rfl (lv_at hl 3 rfl) ?_
  refine lv_imul hx hb dX8_waysOf_27 ?_
  refine lv_iconst (v := (3 : Int32)) hx hb dX8_waysOf_28 (by decide) ?_
  refine lv_iadd hx hb dX8_waysOf_29 ?_
  obtain ⟨g30, h⟩ := zg h
  refine zald hx hb hK.1 hP 1 0 rfl rfl g30 (j := ((((4 : Int32) * x1) + (3 : Int32))).toNatClampNeg) rfl dX8_waysOf_30 ?_
  refine lv_istore (lv' := [(5, .int (f_clerk ((((4 : Int32) * x1) + (3 : Int32))).toNatClampNeg)), (4, .int (f_s (((2 : Int32) * x2)).toNatClampNeg)), (3, .int (f_s ((((2 : Int32) * x2) - (2 : Int32))).toNatClampNeg)), (0, .ref a), (1, .int x1), (2, .int x2)]) hx hb dX8_waysOf_31 hl (by decide) rfl (fun ls hl => ?_)
  refine lv_aload_n hx hb dX8_waysOf_33 rfl (lv_at hl 3 rfl) ?_
  refine lv_iload_n hx hb dX8_waysOf_34 rfl (lv_at hl 4 rfl) ?_
  refine lv_iload_n hx hb dX8_waysOf_35 rfl (lv_at hl 2 rfl) ?_
  obtain ⟨y36, hc36, h⟩ := zb1_e h
  refine zcV (As := [.int x1, .int (f_s ((((2 : Int32) * x2) - (2 : Int32))).toNatClampNeg)]) (rest := []) (ws' := (w_X8_waysOf G a a_text a_clerk a_s a_kept a_isKept a_signed a_slips a_row a_best v_thrown v_trace v_typed v_next v_token v_place v_value v_fault v_clerks v_draftClerks v_draftLine v_signMany v_copies v_rowMany f_clerk f_s)) (st1 := [.int y36]) ⟨hx, hb, hml, hown, hts⟩ (c_X8_madeBy l G a a_text a_clerk a_s a_kept a_isKept a_signed a_slips a_row a_best v_thrown v_trace v_typed v_next v_token v_place v_value v_fault v_clerks v_draftClerks v_draftLine v_signMany v_copies v_rowMany f_clerk x1 (f_s ((((2 : Int32) * x2) - (2 : Int32))).toNatClampNeg) y36 hc36) (cwV 2 hts gX8_waysOf_X8_madeBy rfl rfl rfl (by decide +kernel) ⟨Nat.le_of_ble_eq_true rfl, Nat.le_of_ble_eq_true rfl⟩) hK hE hP hD hS hA [0, 1] rfl rfl 0 8 rfl rfl rfl rfl rfl rfl hl.1 rfl (Nat.le_of_ble_eq_true rfl) dX8_waysOf_36 (Nat.zero_le _) (Nat.zero_le _) rfl (fun H locs hP hD hS => ?_)
  refine lv_iload hx hb dX8_waysOf_39 (lv_at hl 1 rfl) ?_
  refine lv_icmp_ne (tgt := 49) hx hb dX8_waysOf_41 (by decide) (fun c41 => ?_) (fun c41 => ?_)
  · have h := zf c41 h
    refine lv_iconst (v := (0 : Int32)) hx hb dX8_waysOf_49 (by decide) ?_
    exact join_50 _ _ _ _ _ _ _ h hP hD hS (lv_sub hl [2, 1, 0] rfl)
  · have h := zt c41 h
    refine lv_iload hx hb dX8_waysOf_44 (lv_at hl 0 rfl) ?_
    refine lv_goto (tgt := 50) hx hb dX8_waysOf_46 (by decide) ?_
    exact join_50 _ _ _ _ _ _ _ h hP hD hS (lv_sub hl [2, 1, 0] rfl)
abbrev w_X8_whoOf (G : zG) (a : Nat) (a_text : Nat) (a_clerk : Nat) (a_s : Nat) (a_kept : Nat) (a_isKept : Nat) (a_signed : Nat) (a_slips : Nat) (a_row : Nat) (a_best : Nat) (v_thrown : Int32) (v_trace : Int64) (v_typed : Int32) (v_next : Int32) (v_token : Int32) (v_place : Int32) (v_value : Int32) (v_fault : Int32) (v_clerks : Int32) (v_draftClerks : Int32) (v_draftLine : Int32) (v_signMany : Int32) (v_copies : Int32) (v_rowMany : Int32) (f_clerk : (Nat → Int32)) (f_s : (Nat → Int32)) : va_W := [(a, .inr (8, [.int v_thrown, .long v_trace, .ref a_text, .int v_typed, .int v_next, .int v_token, .int v_place, .int v_value, .int v_fault, .ref a_clerk, .int v_clerks, .int v_draftClerks, .int v_draftLine, .ref a_s, .ref a_kept, .ref a_isKept, .ref a_signed, .int v_signMany, .ref a_slips, .int v_copies, .ref a_row, .ref a_best, .int v_rowMany])), (a_clerk, .inl (zCI G, 48, .inl f_clerk)), (a_s, .inl (zCI G, 22, .inl f_s))]
theorem in_X8_whoOf_X8 : ∀ w ∈ wsX80, w ∈ wsX8_whoOf := by decide +kernel
set_option maxHeartbeats 4000000 in
set_option maxRecDepth 100000 in
theorem c_X8_whoOf (l : Launch) (G : zG) (fu : Nat) (a : Nat) (a_text : Nat) (a_clerk : Nat) (a_s : Nat) (a_kept : Nat) (a_isKept : Nat) (a_signed : Nat) (a_slips : Nat) (a_row : Nat) (a_best : Nat) (v_thrown : Int32) (v_trace : Int64) (v_typed : Int32) (v_next : Int32) (v_token : Int32) (v_place : Int32) (v_value : Int32) (v_fault : Int32) (v_clerks : Int32) (v_draftClerks : Int32) (v_draftLine : Int32) (v_signMany : Int32) (v_copies : Int32) (v_rowMany : Int32) (f_clerk : (Nat → Int32)) (f_s : (Nat → Int32)) (x1 : Int32) (rv : Int32) (h : fX8_whoOf fu v_clerks f_clerk f_s x1 = some rv) : zC l yX8_whoOf wsX8_whoOf 3 71 G [.ref a, .int x1] (w_X8_whoOf G a a_text a_clerk a_s a_kept a_isKept a_signed a_slips a_row a_best v_thrown v_trace v_typed v_next v_token v_place v_value v_fault v_clerks v_draftClerks v_draftLine v_signMany v_copies v_rowMany f_clerk f_s) (some (.int rv)) (w_X8_whoOf G a a_text a_clerk a_s a_kept a_isKept a_signed a_slips a_row a_best v_thrown v_trace v_typed v_next v_token v_place v_value v_fault v_clerks v_draftClerks v_draftLine v_signMany v_copies v_rowMany f_clerk f_s) := by
  refine fun sz => Met.ofW (cc := cX8_whoOf) (maxL := 4) (ret := (some .int)) (by decide) rfl ?_
  intro p e s m args below meth c s₁ B hml hv
  obtain ⟨rfl, hsz, hP, hK, hD0, hE⟩ := hv
  have hx := B.exec
  have hb := B.bytes
  have hr := B.returns
  have hts := atoms_spec (ws := wsX8_whoOf) B.pre
  have hown : s.vm.findClass RX8 = some m.cls := findClass_of_methodNamed B.named
  have hlocks := B.notSynchronized
  subst hsz
  have hD := hD0.self (sz := s.heap.size)
  generalize hAe : va_A (w_X8_whoOf G a a_text a_clerk a_s a_kept a_isKept a_signed a_slips a_row a_best v_thrown v_trace v_typed v_next v_token v_place v_value v_fault v_clerks v_draftClerks v_draftLine v_signMany v_copies v_rowMany f_clerk f_s) s.heap.size = A at hD hE ⊢
  have hA : ∀ q : Nat, s.heap.size ≤ q → A q := fun q h => by rw [← hAe]; exact Or.inr h
  have hS : va_S A s.heap s.heap [] := va_S.rf
  have hl := lv_entry ([.ref a, .int x1]) (n := 4) (Nat.le_of_ble_eq_true rfl)
  rw [lg_entry_eq]
  generalize (lg_sl ([.ref a, .int x1]) ++ List.replicate (4 - (lg_sl ([.ref a, .int x1])).length) Slot.unset).toArray = ls at hl ⊢
  have hl : lv_has ls 4 [(0, .ref a), (1, .int x1)] := hl
  have hP : va_P G.1 vwCl (w_X8_whoOf G a a_text a_clerk a_s a_kept a_isKept a_signed a_slips a_row a_best v_thrown v_trace v_typed v_next v_token v_place v_value v_fault v_clerks v_draftClerks v_draftLine v_signMany v_copies v_rowMany f_clerk f_s) s.heap := hP
  rw [fX8_whoOf] at h
  refine lv_iconst (v := (0 : Int32)) hx hb dX8_whoOf_0 (by decide) ?_
  refine lv_istore_n (lv' := [(2, .int (0 : Int32)), (0, .ref a), (1, .int x1)]) hx hb dX8_whoOf_1 rfl hl (by decide) rfl (fun ls hl => ?_)
  refine lv_iconst (v := (0 : Int32)) hx hb dX8_whoOf_2 (by decide) ?_
  refine lv_istore_n (lv' := [(3, .int (0 : Int32)), (2, .int (0 : Int32)), (0, .ref a), (1, .int x1)]) hx hb dX8_whoOf_3 rfl hl (by decide) rfl (fun ls hl => ?_)
  have loop_4 : ∀ (n : Nat) (K : Int32 → Option Int32) (l2_4 : Int32) (l3_4 : Int32) (H : Heap) (locs : List Loc) (ls : Array Slot), fX8_whoOf_L4 fu x1 v_clerks f_clerk f_s K n l2_4 l3_4 = some rv → (∀ (l2_4e : Int32) (H : Heap) (locs : List Loc) (ls : Array Slot), K l2_4e = some rv → va_P G.1 vwCl (w_X8_whoOf G a a_text a_clerk a_s a_kept a_isKept a_signed a_slips a_row a_best v_thrown v_trace v_typed v_next v_token v_place v_value v_fault v_clerks v_draftClerks v_draftLine v_signMany v_copies v_rowMany f_clerk f_s) H → va_D A (w_X8_whoOf G a a_text a_clerk a_s a_kept a_isKept a_signed a_slips a_row a_best v_thrown v_trace v_typed v_next v_token v_place v_value v_fault v_clerks v_draftClerks v_draftLine v_signMany v_copies v_rowMany f_clerk f_s) → va_S A s.heap H locs → lv_has ls 4 [(2, .int l2_4e)] → W p l e (headSpec wsX8_whoOf { frames := 3, cells := 0, slots := 0, locals := 71 }).room s m ([.ref a, .int x1] : List Value).toArray below meth c H locs 0 0 (MQ below (zQ (some (.int rv)) G (w_X8_whoOf G a a_text a_clerk a_s a_kept a_isKept a_signed a_slips a_row a_best v_thrown v_trace v_typed v_next v_token v_place v_value v_fault v_clerks v_draftClerks v_draftLine v_signMany v_copies v_rowMany f_clerk f_s) A) ([.ref a, .int x1] : List Value).toArray s 0 0 A) (F0 m 37 ls [])) → va_P G.1 vwCl (w_X8_whoOf G a a_text a_clerk a_s a_kept a_isKept a_signed a_slips a_row a_best v_thrown v_trace v_typed v_next v_token v_place v_value v_fault v_clerks v_draftClerks v_draftLine v_signMany v_copies v_rowMany f_clerk f_s) H → va_D A (w_X8_whoOf G a a_text a_clerk a_s a_kept a_isKept a_signed a_slips a_row a_best v_thrown v_trace v_typed v_next v_token v_place v_value v_fault v_clerks v_draftClerks v_draftLine v_signMany v_copies v_rowMany f_clerk f_s) → va_S A s.heap H locs → lv_has ls 4 [(0, .ref a), (1, .int x1), (2, .int l2_4), (3, .int l3_4)] → W p l e (headSpec wsX8_whoOf { frames := 3, cells := 0, slots := 0, locals := 71 }).room s m ([.ref a, .int x1] : List Value).toArray below meth c H locs 0 0 (MQ below (zQ (some (.int rv)) G (w_X8_whoOf G a a_text a_clerk a_s a_kept a_isKept a_signed a_slips a_row a_best v_thrown v_trace v_typed v_next v_token v_place v_value v_fault v_clerks v_draftClerks v_draftLine v_signMany v_copies v_rowMany f_clerk f_s) A) ([.ref a, .int x1] : List Value).toArray s 0 0 A) (F0 m 4 ls []) := by
    intro n
    induction n with
    | zero => intro K l2_4 l3_4 H locs ls h; rw [fX8_whoOf_L4] at h; cases h
    | succ n ih =>
      intro K l2_4 l3_4 H locs ls h hk hP hD hS hl
      rw [fX8_whoOf_L4] at h
      refine lv_iload_n hx hb dX8_whoOf_4 rfl (lv_at hl 3 rfl) ?_
      refine lv_aload_n hx hb dX8_whoOf_5 rfl (lv_at hl 0 rfl) ?_
      refine va_get (D := G.1) (ci := 8) (v := .int v_clerks) (C := RX8) (T := TX8) (N := 23) hx hb hts in_X8_whoOf_X8 hown hK.1 hP 0 rfl rfl 10 (by decide) (hts (.fieldLink RX8 112 "NineHandsModel" "clerks" "I") (by decide +kernel)) (fun _ h9 => h9) rfl dX8_whoOf_6 ?_
      refine lv_icmp_ge (tgt := 37) hx hb dX8_whoOf_9 (by decide) (fun c9 => ?_) (fun c9 => ?_)
      · have h := zt c9 h
        exact hk _ _ _ _ h hP hD hS (lv_sub hl [2] rfl)
      · have h := zf c9 h
        refine lv_iload_n hx hb dX8_whoOf_12 rfl (lv_at hl 2 rfl) ?_
        refine lv_aload_n hx hb dX8_whoOf_13 rfl (lv_at hl 0 rfl) ?_
        refine lv_iload_n hx hb dX8_whoOf_14 rfl (lv_at hl 3 rfl) ?_
        refine lv_iload_n hx hb dX8_whoOf_15 rfl (lv_at hl 1 rfl) ?_
        obtain ⟨y16, hc16, h⟩ := zb1_e h
        refine zcV (As := [.int l3_4, .int x1]) (rest := [.int l2_4]) (ws' := (w_X8_whoOf G a a_text a_clerk a_s a_kept a_isKept a_signed a_slips a_row a_best v_thrown v_trace v_typed v_next v_token v_place v_value v_fault v_clerks v_draftClerks v_draftLine v_signMany v_copies v_rowMany f_clerk f_s)) (st1 := [.int y16, .int l2_4]) ⟨hx, hb, hml, hown, hts⟩ (c_X8_waysOf l G a a_text a_clerk a_s a_kept a_isKept a_signed a_slips a_row a_best v_thrown v_trace v_typed v_next v_token v_place v_value v_fault v_clerks v_draftClerks v_draftLine v_signMany v_copies v_rowMany f_clerk f_s l3_4 x1 y16 hc16) (cwV 2 hts gX8_whoOf_X8_waysOf rfl rfl rfl (by decide +kernel) ⟨Nat.le_of_ble_eq_true rfl, Nat.le_of_ble_eq_true rfl⟩) hK hE hP hD hS hA [0, 1, 2] rfl rfl 0 8 rfl rfl rfl rfl rfl rfl hl.1 rfl (Nat.le_of_ble_eq_true rfl) dX8_whoOf_16 (Nat.zero_le _) (Nat.zero_le _) rfl (fun H locs hP hD hS => ?_)
        refine lv_if_le (tgt := 28) hx hb dX8_whoOf_19 (by decide) (fun c19 => ?_) (fun c19 => ?_)
        · have h := zt c19 h
          refine lv_iconst (v := (0 : Int32)) hx hb dX8_whoOf_28 (by decide) ?_
          refine lv_ior hx hb dX8_whoOf_29 ?_
          refine lv_istore_n (lv' := [(2, .int (l2_4 ||| (0 : Int32))), (0, .ref a), (1, .int x1), (3, .int l3_4)]) hx hb dX8_whoOf_30 rfl hl (by decide) rfl (fun ls hl => ?_)
          refine lv_iinc (v := (l3_4 + (1 : Int32))) (lv' := [(3, .int (l3_4 + (1 : Int32))), (2, .int (l2_4 ||| (0 : Int32))), (0, .ref a), (1, .int x1)]) hx hb dX8_whoOf_31 hl (k := 3) rfl rfl (by decide) rfl (fun ls hl => ?_)
          refine lv_goto (tgt := 4) hx hb dX8_whoOf_34 (by decide) ?_
          exact ih K _ _ _ _ _ h hk hP hD hS (lv_sub hl [2, 3, 1, 0] rfl)
        · have h := zf c19 h
          refine lv_iconst (v := (1 : Int32)) hx hb dX8_whoOf_22 (by decide) ?_
          refine lv_iload_n hx hb dX8_whoOf_23 rfl (lv_at hl 3 rfl) ?_
          refine lv_ishl hx hb dX8_whoOf_24 ?_
          refine lv_goto (tgt := 29) hx hb dX8_whoOf_25 (by decide) ?_
          refine lv_ior hx hb dX8_whoOf_29 ?_
          refine lv_istore_n (lv' := [(2, .int (l2_4 ||| ((1 : Int32) <<< (l3_4 &&& 31)))), (0, .ref a), (1, .int x1), (3, .int l3_4)]) hx hb dX8_whoOf_30 rfl hl (by decide) rfl (fun ls hl => ?_)
          refine lv_iinc (v := (l3_4 + (1 : Int32))) (lv' := [(3, .int (l3_4 + (1 : Int32))), (2, .int (l2_4 ||| ((1 : Int32) <<< (l3_4 &&& 31)))), (0, .ref a), (1, .int x1)]) hx hb dX8_whoOf_31 hl (k := 3) rfl rfl (by decide) rfl (fun ls hl => ?_)
          refine lv_goto (tgt := 4) hx hb dX8_whoOf_34 (by decide) ?_
          exact ih K _ _ _ _ _ h hk hP hD hS (lv_sub hl [2, 3, 1, 0] rfl)
  refine loop_4 fu _ _ _ _ _ _ h (fun l2_4e H locs ls h hP hD hS hl => ?_) hP hD hS (lv_sub hl [2, 3, 1, 0] rfl)
  refine lv_iload_n hx hb dX8_whoOf_37 rfl (lv_at hl 0 rfl) ?_
  cases h
  exact W.iret hx hb hr (fun t9 ht9 _ => zend hP hD hS ht9) hS.2.2 dX8_whoOf_38
abbrev w_X8_who (G : zG) (a : Nat) (a_text : Nat) (a_clerk : Nat) (a_s : Nat) (a_kept : Nat) (a_isKept : Nat) (a_signed : Nat) (a_slips : Nat) (a_row : Nat) (a_best : Nat) (v_thrown : Int32) (v_trace : Int64) (v_typed : Int32) (v_next : Int32) (v_token : Int32) (v_place : Int32) (v_value : Int32) (v_fault : Int32) (v_clerks : Int32) (v_draftClerks : Int32) (v_draftLine : Int32) (v_signMany : Int32) (v_copies : Int32) (v_rowMany : Int32) (f_clerk : (Nat → Int32)) (f_s : (Nat → Int32)) : va_W := [(a, .inr (8, [.int v_thrown, .long v_trace, .ref a_text, .int v_typed, .int v_next, .int v_token, .int v_place, .int v_value, .int v_fault, .ref a_clerk, .int v_clerks, .int v_draftClerks, .int v_draftLine, .ref a_s, .ref a_kept, .ref a_isKept, .ref a_signed, .int v_signMany, .ref a_slips, .int v_copies, .ref a_row, .ref a_best, .int v_rowMany])), (a_clerk, .inl (zCI G, 48, .inl f_clerk)), (a_s, .inl (zCI G, 22, .inl f_s))]
theorem in_X8_who_X8 : ∀ w ∈ wsX80, w ∈ wsX8_who := by decide +kernel
set_option maxHeartbeats 4000000 in
set_option maxRecDepth 100000 in
theorem c_X8_who (l : Launch) (G : zG) (fu : Nat) (a : Nat) (a_text : Nat) (a_clerk : Nat) (a_s : Nat) (a_kept : Nat) (a_isKept : Nat) (a_signed : Nat) (a_slips : Nat) (a_row : Nat) (a_best : Nat) (v_thrown : Int32) (v_trace : Int64) (v_typed : Int32) (v_next : Int32) (v_token : Int32) (v_place : Int32) (v_value : Int32) (v_fault : Int32) (v_clerks : Int32) (v_draftClerks : Int32) (v_draftLine : Int32) (v_signMany : Int32) (v_copies : Int32) (v_rowMany : Int32) (f_clerk : (Nat → Int32)) (f_s : (Nat → Int32)) (x1 : Int32) (x2 : Int32) (rv : Int32) (ov_thrown : Int32) (h : fX8_who fu v_thrown v_clerks f_clerk f_s x1 x2 = some (rv, ov_thrown)) : zC l yX8_who wsX8_who 4 94 G [.ref a, .int x1, .int x2] (w_X8_who G a a_text a_clerk a_s a_kept a_isKept a_signed a_slips a_row a_best v_thrown v_trace v_typed v_next v_token v_place v_value v_fault v_clerks v_draftClerks v_draftLine v_signMany v_copies v_rowMany f_clerk f_s) (some (.int rv)) (w_X8_who G a a_text a_clerk a_s a_kept a_isKept a_signed a_slips a_row a_best ov_thrown v_trace v_typed v_next v_token v_place v_value v_fault v_clerks v_draftClerks v_draftLine v_signMany v_copies v_rowMany f_clerk f_s) := by
  refine fun sz => Met.ofW (cc := cX8_who) (maxL := 6) (ret := (some .int)) (by decide) rfl ?_
  intro p e s m args below meth c s₁ B hml hv
  obtain ⟨rfl, hsz, hP, hK, hD0, hE⟩ := hv
  have hx := B.exec
  have hb := B.bytes
  have hr := B.returns
  have hts := atoms_spec (ws := wsX8_who) B.pre
  have hown : s.vm.findClass RX8 = some m.cls := findClass_of_methodNamed B.named
  have hlocks := B.notSynchronized
  subst hsz
  have hD := hD0.self (sz := s.heap.size)
  generalize hAe : va_A (w_X8_who G a a_text a_clerk a_s a_kept a_isKept a_signed a_slips a_row a_best v_thrown v_trace v_typed v_next v_token v_place v_value v_fault v_clerks v_draftClerks v_draftLine v_signMany v_copies v_rowMany f_clerk f_s) s.heap.size = A at hD hE ⊢
  have hA : ∀ q : Nat, s.heap.size ≤ q → A q := fun q h => by rw [← hAe]; exact Or.inr h
  have hS : va_S A s.heap s.heap [] := va_S.rf
  have hl := lv_entry ([.ref a, .int x1, .int x2]) (n := 6) (Nat.le_of_ble_eq_true rfl)
  rw [lg_entry_eq]
  generalize (lg_sl ([.ref a, .int x1, .int x2]) ++ List.replicate (6 - (lg_sl ([.ref a, .int x1, .int x2])).length) Slot.unset).toArray = ls at hl ⊢
  have hl : lv_has ls 6 [(0, .ref a), (1, .int x1), (2, .int x2)] := hl
  have hP : va_P G.1 vwCl (w_X8_who G a a_text a_clerk a_s a_kept a_isKept a_signed a_slips a_row a_best v_thrown v_trace v_typed v_next v_token v_place v_value v_fault v_clerks v_draftClerks v_draftLine v_signMany v_copies v_rowMany f_clerk f_s) s.heap := hP
  rw [fX8_who] at h
  refine lv_aload_n hx hb dX8_who_0 rfl (lv_at hl 0 rfl) ?_
  refine lv_iconst (v := (0 : Int32)) hx hb dX8_who_1 (by decide) ?_
  refine zput1 (D := G.1) (ci := 8) (C := RX8) (T := TX8) (N := 23) (ty := .int) (ws' := (w_X8_who G a a_text a_clerk a_s a_kept a_isKept a_signed a_slips a_row a_best (0 : Int32) v_trace v_typed v_next v_token v_place v_value v_fault v_clerks v_draftClerks v_draftLine v_signMany v_copies v_rowMany f_clerk f_s)) hx hb hts in_X8_who_X8 tyX8 tyX8_ok nmX8 hown hK.1 hP hD hS 0 rfl rfl 0 (by decide) (hts (.fieldLink RX8 42 "NineHandsModel" "thrown" "I") (by decide +kernel)) (fun _ h9 => h9) rfl (by decide +kernel) rfl rfl (Nat.le_of_ble_eq_true rfl) rfl dX8_who_2 (fun H locs hP hD hS => ?_)
  refine lv_iload_n hx hb dX8_who_5 rfl (lv_at hl 1 rfl) ?_
  refine lv_iconst (v := (1 : Int32)) hx hb dX8_who_6 (by decide) ?_
  refine lv_aload_n hx hb dX8_who_7 rfl (lv_at hl 0 rfl) ?_
  refine va_get (D := G.1) (ci := 8) (v := .ref a_s) (C := RX8) (T := TX8) (N := 23) hx hb hts in_X8_who_X8 hown hK.1 hP 0 rfl rfl 13 (by decide) (hts (.fieldLink RX8 16 "NineHandsModel" "s" "[I") (by decide +kernel)) (fun _ h9 => h9) rfl dX8_who_8 ?_
  refine lv_bipush (v := (20 : Int32)) hx hb dX8_who_11 (by decide) ?_
  refine zald hx hb hK.1 hP 2 0 rfl rfl (show ¬ ((20 : Int32) < 0 ∨ 22 ≤ ((20 : Int32)).toNatClampNeg) by decide) (j := 20) (by decide) dX8_who_13 ?_
  refine lv_iconst (v := (1 : Int32)) hx hb dX8_who_14 (by decide) ?_
  refine lv_isub hx hb dX8_who_15 ?_
  obtain ⟨y16, hc16, h⟩ := zb1_e h
  refine zcS (As := [.int x1, .int (1 : Int32), .int ((f_s 20) - (1 : Int32))]) (rest := []) (ws' := (w_X8_who G a a_text a_clerk a_s a_kept a_isKept a_signed a_slips a_row a_best (0 : Int32) v_trace v_typed v_next v_token v_place v_value v_fault v_clerks v_draftClerks v_draftLine v_signMany v_copies v_rowMany f_clerk f_s)) (st1 := [.int y16]) ⟨hx, hb, hml, hown, hts⟩ (c_X8_in l G x1 (1 : Int32) ((f_s 20) - (1 : Int32)) y16 hc16) (va_cwS 3 hts gX8_who_X8_in rfl rfl rfl (by decide +kernel) ⟨Nat.le_of_ble_eq_true rfl, Nat.le_of_ble_eq_true rfl⟩) hK hE hP hD hS hA [] rfl rfl rfl rfl rfl hl.1 rfl (Nat.le_of_ble_eq_true rfl) dX8_who_16 (Nat.zero_le _) (Nat.zero_le _) rfl (fun H locs hP hD hS => ?_)
  refine lv_if_eq (tgt := 31) hx hb dX8_who_19 (by decide) (fun c19 => ?_) (fun c19 => ?_)
  · have h := zt c19 h
    refine lv_iconst (v := ((-1) : Int32)) hx hb dX8_who_31 (by decide) ?_
    cases h
    exact W.iret hx hb hr (fun t9 ht9 _ => zend hP hD hS ht9) hS.2.2 dX8_who_32
  · have h := zf c19 h
    refine lv_iload_n hx hb dX8_who_22 rfl (lv_at hl 2 rfl) ?_
    refine lv_iconst (v := (0 : Int32)) hx hb dX8_who_23 (by decide) ?_
    refine lv_iconst (v := (1 : Int32)) hx hb dX8_who_24 (by decide) ?_
    obtain ⟨y25, hc25, h⟩ := zb1_e h
    refine zcS (As := [.int x2, .int (0 : Int32), .int (1 : Int32)]) (rest := []) (ws' := (w_X8_who G a a_text a_clerk a_s a_kept a_isKept a_signed a_slips a_row a_best (0 : Int32) v_trace v_typed v_next v_token v_place v_value v_fault v_clerks v_draftClerks v_draftLine v_signMany v_copies v_rowMany f_clerk f_s)) (st1 := [.int y25]) ⟨hx, hb, hml, hown, hts⟩ (c_X8_in l G x2 (0 : Int32) (1 : Int32) y25 hc25) (va_cwS 3 hts gX8_who_X8_in rfl rfl rfl (by decide +kernel) ⟨Nat.le_of_ble_eq_true rfl, Nat.le_of_ble_eq_true rfl⟩) hK hE hP hD hS hA [] rfl rfl rfl rfl rfl hl.1 rfl (Nat.le_of_ble_eq_true rfl) dX8_who_25 (Nat.zero_le _) (Nat.zero_le _) rfl (fun H locs hP hD hS => ?_)
    refine lv_if_ne (tgt := 33) hx hb dX8_who_28 (by decide) (fun c28 => ?_) (fun c28 => ?_)
    · have h := zf c28 h
      refine lv_iload_n hx hb dX8_who_33 rfl (lv_at hl 2 rfl) ?_
      refine lv_if_ne (tgt := 43) hx hb dX8_who_34 (by decide) (fun c34 => ?_) (fun c34 => ?_)
      · have h := zf c34 h
        refine lv_bipush (v := ((-9) : Int32)) hx hb dX8_who_43 (by decide) ?_
        refine lv_istore_n (lv' := [(3, .int ((-9) : Int32)), (0, .ref a), (1, .int x1), (2, .int x2)]) hx hb dX8_who_45 rfl hl (by decide) rfl (fun ls hl => ?_)
        refine lv_iconst (v := (0 : Int32)) hx hb dX8_who_46 (by decide) ?_
        refine lv_istore (lv' := [(4, .int (0 : Int32)), (3, .int ((-9) : Int32)), (0, .ref a), (1, .int x1), (2, .int x2)]) hx hb dX8_who_47 hl (by decide) rfl (fun ls hl => ?_)
        refine lv_iconst (v := (0 : Int32)) hx hb dX8_who_49 (by decide) ?_
        refine lv_istore (lv' := [(5, .int (0 : Int32)), (4, .int (0 : Int32)), (3, .int ((-9) : Int32)), (0, .ref a), (1, .int x1), (2, .int x2)]) hx hb dX8_who_50 hl (by decide) rfl (fun ls hl => ?_)
        have loop_52 : ∀ (n : Nat) (K : Int32 → Option (Int32 × Int32)) (l3_52 : Int32) (l4_52 : Int32) (l5_52 : Int32) (H : Heap) (locs : List Loc) (ls : Array Slot), fX8_who_L52 fu x1 v_clerks f_clerk f_s K n l3_52 l4_52 l5_52 = some (rv, ov_thrown) → (∀ (l3_52e : Int32) (H : Heap) (locs : List Loc) (ls : Array Slot), K l3_52e = some (rv, ov_thrown) → va_P G.1 vwCl (w_X8_who G a a_text a_clerk a_s a_kept a_isKept a_signed a_slips a_row a_best (0 : Int32) v_trace v_typed v_next v_token v_place v_value v_fault v_clerks v_draftClerks v_draftLine v_signMany v_copies v_rowMany f_clerk f_s) H → va_D A (w_X8_who G a a_text a_clerk a_s a_kept a_isKept a_signed a_slips a_row a_best (0 : Int32) v_trace v_typed v_next v_token v_place v_value v_fault v_clerks v_draftClerks v_draftLine v_signMany v_copies v_rowMany f_clerk f_s) → va_S A s.heap H locs → lv_has ls 6 [(3, .int l3_52e)] → W p l e (headSpec wsX8_who { frames := 4, cells := 0, slots := 0, locals := 94 }).room s m ([.ref a, .int x1, .int x2] : List Value).toArray below meth c H locs 0 0 (MQ below (zQ (some (.int rv)) G (w_X8_who G a a_text a_clerk a_s a_kept a_isKept a_signed a_slips a_row a_best ov_thrown v_trace v_typed v_next v_token v_place v_value v_fault v_clerks v_draftClerks v_draftLine v_signMany v_copies v_rowMany f_clerk f_s) A) ([.ref a, .int x1, .int x2] : List Value).toArray s 0 0 A) (F0 m 91 ls [])) → va_P G.1 vwCl (w_X8_who G a a_text a_clerk a_s a_kept a_isKept a_signed a_slips a_row a_best (0 : Int32) v_trace v_typed v_next v_token v_place v_value v_fault v_clerks v_draftClerks v_draftLine v_signMany v_copies v_rowMany f_clerk f_s) H → va_D A (w_X8_who G a a_text a_clerk a_s a_kept a_isKept a_signed a_slips a_row a_best (0 : Int32) v_trace v_typed v_next v_token v_place v_value v_fault v_clerks v_draftClerks v_draftLine v_signMany v_copies v_rowMany f_clerk f_s) → va_S A s.heap H locs → lv_has ls 6 [(0, .ref a), (1, .int x1), (3, .int l3_52), (4, .int l4_52), (5, .int l5_52)] → W p l e (headSpec wsX8_who { frames := 4, cells := 0, slots := 0, locals := 94 }).room s m ([.ref a, .int x1, .int x2] : List Value).toArray below meth c H locs 0 0 (MQ below (zQ (some (.int rv)) G (w_X8_who G a a_text a_clerk a_s a_kept a_isKept a_signed a_slips a_row a_best ov_thrown v_trace v_typed v_next v_token v_place v_value v_fault v_clerks v_draftClerks v_draftLine v_signMany v_copies v_rowMany f_clerk f_s) A) ([.ref a, .int x1, .int x2] : List Value).toArray s 0 0 A) (F0 m 52 ls []) := by
          intro n
          induction n with
          | zero => intro K l3_52 l4_52 l5_52 H locs ls h; rw [fX8_who_L52] at h; cases h
          | succ n ih =>
            intro K l3_52 l4_52 l5_52 H locs ls h hk hP hD hS hl
            rw [fX8_who_L52] at h
            refine lv_iload hx hb dX8_who_52 (lv_at hl 4 rfl) ?_
            refine lv_aload_n hx hb dX8_who_54 rfl (lv_at hl 0 rfl) ?_
            refine va_get (D := G.1) (ci := 8) (v := .int v_clerks) (C := RX8) (T := TX8) (N := 23) hx hb hts in_X8_who_X8 hown hK.1 hP 0 rfl rfl 10 (by decide) (hts (.fieldLink RX8 112 "NineHandsModel" "clerks" "I") (by decide +kernel)) (fun _ h9 => h9) rfl dX8_who_55 ?_
            refine lv_icmp_ge (tgt := 91) hx hb dX8_who_58 (by decide) (fun c58 => ?_) (fun c58 => ?_)
            · have h := zt c58 h
              exact hk _ _ _ _ h hP hD hS (lv_sub hl [2] rfl)
            · have h := zf c58 h
              refine lv_aload_n hx hb dX8_who_61 rfl (lv_at hl 0 rfl) ?_
              refine lv_iload hx hb dX8_who_62 (lv_at hl 4 rfl) ?_
              refine lv_iload_n hx hb dX8_who_64 rfl (lv_at hl 1 rfl) ?_
              obtain ⟨y65, hc65, h⟩ := zb1_e h
              refine zcV (As := [.int l5_52, .int x1]) (rest := []) (ws' := (w_X8_who G a a_text a_clerk a_s a_kept a_isKept a_signed a_slips a_row a_best (0 : Int32) v_trace v_typed v_next v_token v_place v_value v_fault v_clerks v_draftClerks v_draftLine v_signMany v_copies v_rowMany f_clerk f_s)) (st1 := [.int y65]) ⟨hx, hb, hml, hown, hts⟩ (c_X8_waysOf l G a a_text a_clerk a_s a_kept a_isKept a_signed a_slips a_row a_best (0 : Int32) v_trace v_typed v_next v_token v_place v_value v_fault v_clerks v_draftClerks v_draftLine v_signMany v_copies v_rowMany f_clerk f_s l5_52 x1 y65 hc65) (cwV 2 hts gX8_who_X8_waysOf rfl rfl rfl (by decide +kernel) ⟨Nat.le_of_ble_eq_true rfl, Nat.le_of_ble_eq_true rfl⟩) hK hE hP hD hS hA [0, 1, 2] rfl rfl 0 8 rfl rfl rfl rfl rfl rfl hl.1 rfl (Nat.le_of_ble_eq_true rfl) dX8_who_65 (Nat.zero_le _) (Nat.zero_le _) rfl (fun H locs hP hD hS => ?_)
              refine lv_iload hx hb dX8_who_68 (lv_at hl 3 rfl) ?_
              refine lv_icmp_le (tgt := 85) hx hb dX8_who_70 (by decide) (fun c70 => ?_) (fun c70 => ?_)
              · have h := zt c70 h
                refine lv_iinc (v := (l5_52 + (1 : Int32))) (lv' := [(5, .int (l5_52 + (1 : Int32))), (0, .ref a), (1, .int x1), (3, .int l3_52), (4, .int l4_52)]) hx hb dX8_who_85 hl (k := 4) rfl rfl (by decide) rfl (fun ls hl => ?_)
                refine lv_goto (tgt := 52) hx hb dX8_who_88 (by decide) ?_
                exact ih K _ _ _ _ _ _ h hk hP hD hS (lv_sub hl [1, 2, 3, 4, 0] rfl)
              · have h := zf c70 h
                refine lv_aload_n hx hb dX8_who_73 rfl (lv_at hl 0 rfl) ?_
                refine lv_iload hx hb dX8_who_74 (lv_at hl 4 rfl) ?_
                refine lv_iload_n hx hb dX8_who_76 rfl (lv_at hl 1 rfl) ?_
                obtain ⟨y77, hc77, h⟩ := zb1_e h
                refine zcV (As := [.int l5_52, .int x1]) (rest := []) (ws' := (w_X8_who G a a_text a_clerk a_s a_kept a_isKept a_signed a_slips a_row a_best (0 : Int32) v_trace v_typed v_next v_token v_place v_value v_fault v_clerks v_draftClerks v_draftLine v_signMany v_copies v_rowMany f_clerk f_s)) (st1 := [.int y77]) ⟨hx, hb, hml, hown, hts⟩ (c_X8_waysOf l G a a_text a_clerk a_s a_kept a_isKept a_signed a_slips a_row a_best (0 : Int32) v_trace v_typed v_next v_token v_place v_value v_fault v_clerks v_draftClerks v_draftLine v_signMany v_copies v_rowMany f_clerk f_s l5_52 x1 y77 hc77) (cwV 2 hts gX8_who_X8_waysOf rfl rfl rfl (by decide +kernel) ⟨Nat.le_of_ble_eq_true rfl, Nat.le_of_ble_eq_true rfl⟩) hK hE hP hD hS hA [0, 1, 2] rfl rfl 0 8 rfl rfl rfl rfl rfl rfl hl.1 rfl (Nat.le_of_ble_eq_true rfl) dX8_who_77 (Nat.zero_le _) (Nat.zero_le _) rfl (fun H locs hP hD hS => ?_)
                refine lv_istore (lv' := [(4, .int y77), (0, .ref a), (1, .int x1), (3, .int l3_52), (5, .int l5_52)]) hx hb dX8_who_80 hl (by decide) rfl (fun ls hl => ?_)
                refine lv_iload hx hb dX8_who_82 (lv_at hl 4 rfl) ?_
                refine lv_istore_n (lv' := [(3, .int l5_52), (4, .int y77), (0, .ref a), (1, .int x1), (5, .int l5_52)]) hx hb dX8_who_84 rfl hl (by decide) rfl (fun ls hl => ?_)
                refine lv_iinc (v := (l5_52 + (1 : Int32))) (lv' := [(5, .int (l5_52 + (1 : Int32))), (3, .int l5_52), (4, .int y77), (0, .ref a), (1, .int x1)]) hx hb dX8_who_85 hl (k := 4) rfl rfl (by decide) rfl (fun ls hl => ?_)
                refine lv_goto (tgt := 52) hx hb dX8_who_88 (by decide) ?_
                exact ih K _ _ _ _ _ _ h hk hP hD hS (lv_sub hl [3, 4, 1, 2, 0] rfl)
        refine loop_52 fu _ _ _ _ _ _ _ h (fun l3_52e H locs ls h hP hD hS hl => ?_) hP hD hS (lv_sub hl [3, 4, 2, 1, 0] rfl)
        refine lv_iload_n hx hb dX8_who_91 rfl (lv_at hl 0 rfl) ?_
        cases h
        exact W.iret hx hb hr (fun t9 ht9 _ => zend hP hD hS ht9) hS.2.2 dX8_who_92
      · have h := zt c34 h
        refine lv_aload_n hx hb dX8_who_37 rfl (lv_at hl 0 rfl) ?_
        refine lv_iload_n hx hb dX8_who_38 rfl (lv_at hl 1 rfl) ?_
        obtain ⟨y39, hc39, h⟩ := zb1_e h
        refine zcV (As := [.int x1]) (rest := []) (ws' := (w_X8_who G a a_text a_clerk a_s a_kept a_isKept a_signed a_slips a_row a_best (0 : Int32) v_trace v_typed v_next v_token v_place v_value v_fault v_clerks v_draftClerks v_draftLine v_signMany v_copies v_rowMany f_clerk f_s)) (st1 := [.int y39]) ⟨hx, hb, hml, hown, hts⟩ (c_X8_whoOf l G fu a a_text a_clerk a_s a_kept a_isKept a_signed a_slips a_row a_best (0 : Int32) v_trace v_typed v_next v_token v_place v_value v_fault v_clerks v_draftClerks v_draftLine v_signMany v_copies v_rowMany f_clerk f_s x1 y39 hc39) (cwV 1 hts gX8_who_X8_whoOf rfl rfl rfl (by decide +kernel) ⟨Nat.le_of_ble_eq_true rfl, Nat.le_of_ble_eq_true rfl⟩) hK hE hP hD hS hA [0, 1, 2] rfl rfl 0 8 rfl rfl rfl rfl rfl rfl hl.1 rfl (Nat.le_of_ble_eq_true rfl) dX8_who_39 (Nat.zero_le _) (Nat.zero_le _) rfl (fun H locs hP hD hS => ?_)
        cases h
        exact W.iret hx hb hr (fun t9 ht9 _ => zend hP hD hS ht9) hS.2.2 dX8_who_42
    · have h := zt c28 h
      refine lv_iconst (v := ((-1) : Int32)) hx hb dX8_who_31 (by decide) ?_
      cases h
      exact W.iret hx hb hr (fun t9 ht9 _ => zend hP hD hS ht9) hS.2.2 dX8_who_32
abbrev w_X8_rows (G : zG) (a : Nat) (a_text : Nat) (a_clerk : Nat) (a_s : Nat) (a_kept : Nat) (a_isKept : Nat) (a_signed : Nat) (a_slips : Nat) (a_row : Nat) (a_best : Nat) (v_thrown : Int32) (v_trace : Int64) (v_typed : Int32) (v_next : Int32) (v_token : Int32) (v_place : Int32) (v_value : Int32) (v_fault : Int32) (v_clerks : Int32) (v_draftClerks : Int32) (v_draftLine : Int32) (v_signMany : Int32) (v_copies : Int32) (v_rowMany : Int32) (f_clerk : (Nat → Int32)) (f_s : (Nat → Int32)) : va_W := [(a, .inr (8, [.int v_thrown, .long v_trace, .ref a_text, .int v_typed, .int v_next, .int v_token, .int v_place, .int v_value, .int v_fault, .ref a_clerk, .int v_clerks, .int v_draftClerks, .int v_draftLine, .ref a_s, .ref a_kept, .ref a_isKept, .ref a_signed, .int v_signMany, .ref a_slips, .int v_copies, .ref a_row, .ref a_best, .int v_rowMany])), (a_clerk, .inl (zCI G, 48, .inl f_clerk)), (a_s, .inl (zCI G, 22, .inl f_s))]
theorem in_X8_rows_X8 : ∀ w ∈ wsX80, w ∈ wsX8_rows := by decide +kernel
set_option maxHeartbeats 4000000 in
set_option maxRecDepth 100000 in
theorem c_X8_rows (l : Launch) (G : zG) (fu : Nat) (a : Nat) (a_text : Nat) (a_clerk : Nat) (a_s : Nat) (a_kept : Nat) (a_isKept : Nat) (a_signed : Nat) (a_slips : Nat) (a_row : Nat) (a_best : Nat) (v_thrown : Int32) (v_trace : Int64) (v_typed : Int32) (v_next : Int32) (v_token : Int32) (v_place : Int32) (v_value : Int32) (v_fault : Int32) (v_clerks : Int32) (v_draftClerks : Int32) (v_draftLine : Int32) (v_signMany : Int32) (v_copies : Int32) (v_rowMany : Int32) (f_clerk : (Nat → Int32)) (f_s : (Nat → Int32)) (rv : Int32) (ov_thrown : Int32) (h : fX8_rows fu v_thrown v_clerks f_clerk f_s = some (rv, ov_thrown)) : zC l yX8_rows wsX8_rows 4 94 G [.ref a] (w_X8_rows G a a_text a_clerk a_s a_kept a_isKept a_signed a_slips a_row a_best v_thrown v_trace v_typed v_next v_token v_place v_value v_fault v_clerks v_draftClerks v_draftLine v_signMany v_copies v_rowMany f_clerk f_s) (some (.int rv)) (w_X8_rows G a a_text a_clerk a_s a_kept a_isKept a_signed a_slips a_row a_best ov_thrown v_trace v_typed v_next v_token v_place v_value v_fault v_clerks v_draftClerks v_draftLine v_signMany v_copies v_rowMany f_clerk f_s) := by
  refine fun sz => Met.ofW (cc := cX8_rows) (maxL := 3) (ret := (some .int)) (by decide) rfl ?_
  intro p e s m args below meth c s₁ B hml hv
  obtain ⟨rfl, hsz, hP, hK, hD0, hE⟩ := hv
  have hx := B.exec
  have hb := B.bytes
  have hr := B.returns
  have hts := atoms_spec (ws := wsX8_rows) B.pre
  have hown : s.vm.findClass RX8 = some m.cls := findClass_of_methodNamed B.named
  have hlocks := B.notSynchronized
  subst hsz
  have hD := hD0.self (sz := s.heap.size)
  generalize hAe : va_A (w_X8_rows G a a_text a_clerk a_s a_kept a_isKept a_signed a_slips a_row a_best v_thrown v_trace v_typed v_next v_token v_place v_value v_fault v_clerks v_draftClerks v_draftLine v_signMany v_copies v_rowMany f_clerk f_s) s.heap.size = A at hD hE ⊢
  have hA : ∀ q : Nat, s.heap.size ≤ q → A q := fun q h => by rw [← hAe]; exact Or.inr h
  have hS : va_S A s.heap s.heap [] := va_S.rf
  have hl := lv_entry ([.ref a]) (n := 3) (Nat.le_of_ble_eq_true rfl)
  rw [lg_entry_eq]
  generalize (lg_sl ([.ref a]) ++ List.replicate (3 - (lg_sl ([.ref a])).length) Slot.unset).toArray = ls at hl ⊢
  have hl : lv_has ls 3 [(0, .ref a)] := hl
  have hP : va_P G.1 vwCl (w_X8_rows G a a_text a_clerk a_s a_kept a_isKept a_signed a_slips a_row a_best v_thrown v_trace v_typed v_next v_token v_place v_value v_fault v_clerks v_draftClerks v_draftLine v_signMany v_copies v_rowMany f_clerk f_s) s.heap := hP
  rw [fX8_rows] at h
  refine lv_aload_n hx hb dX8_rows_0 rfl (lv_at hl 0 rfl) ?_
  refine lv_iconst (v := (0 : Int32)) hx hb dX8_rows_1 (by decide) ?_
  refine zput1 (D := G.1) (ci := 8) (C := RX8) (T := TX8) (N := 23) (ty := .int) (ws' := (w_X8_rows G a a_text a_clerk a_s a_kept a_isKept a_signed a_slips a_row a_best (0 : Int32) v_trace v_typed v_next v_token v_place v_value v_fault v_clerks v_draftClerks v_draftLine v_signMany v_copies v_rowMany f_clerk f_s)) hx hb hts in_X8_rows_X8 tyX8 tyX8_ok nmX8 hown hK.1 hP hD hS 0 rfl rfl 0 (by decide) (hts (.fieldLink RX8 42 "NineHandsModel" "thrown" "I") (by decide +kernel)) (fun _ h9 => h9) rfl (by decide +kernel) rfl rfl (Nat.le_of_ble_eq_true rfl) rfl dX8_rows_2 (fun H locs hP hD hS => ?_)
  refine lv_iconst (v := (1 : Int32)) hx hb dX8_rows_5 (by decide) ?_
  refine lv_istore_n (lv' := [(1, .int (1 : Int32)), (0, .ref a)]) hx hb dX8_rows_6 rfl hl (by decide) rfl (fun ls hl => ?_)
  refine lv_iconst (v := (1 : Int32)) hx hb dX8_rows_7 (by decide) ?_
  refine lv_istore_n (lv' := [(2, .int (1 : Int32)), (1, .int (1 : Int32)), (0, .ref a)]) hx hb dX8_rows_8 rfl hl (by decide) rfl (fun ls hl => ?_)
  have loop_9 : ∀ (n : Nat) (K : Int32 → Option (Int32 × Int32)) (l1_9 : Int32) (l2_9 : Int32) (H : Heap) (locs : List Loc) (ls : Array Slot), fX8_rows_L9 fu v_clerks f_clerk f_s K n l1_9 l2_9 = some (rv, ov_thrown) → (∀ (l1_9e : Int32) (H : Heap) (locs : List Loc) (ls : Array Slot), K l1_9e = some (rv, ov_thrown) → va_P G.1 vwCl (w_X8_rows G a a_text a_clerk a_s a_kept a_isKept a_signed a_slips a_row a_best (0 : Int32) v_trace v_typed v_next v_token v_place v_value v_fault v_clerks v_draftClerks v_draftLine v_signMany v_copies v_rowMany f_clerk f_s) H → va_D A (w_X8_rows G a a_text a_clerk a_s a_kept a_isKept a_signed a_slips a_row a_best (0 : Int32) v_trace v_typed v_next v_token v_place v_value v_fault v_clerks v_draftClerks v_draftLine v_signMany v_copies v_rowMany f_clerk f_s) → va_S A s.heap H locs → lv_has ls 3 [(1, .int l1_9e)] → W p l e (headSpec wsX8_rows { frames := 4, cells := 0, slots := 0, locals := 94 }).room s m ([.ref a] : List Value).toArray below meth c H locs 0 0 (MQ below (zQ (some (.int rv)) G (w_X8_rows G a a_text a_clerk a_s a_kept a_isKept a_signed a_slips a_row a_best ov_thrown v_trace v_typed v_next v_token v_place v_value v_fault v_clerks v_draftClerks v_draftLine v_signMany v_copies v_rowMany f_clerk f_s) A) ([.ref a] : List Value).toArray s 0 0 A) (F0 m 37 ls [])) → va_P G.1 vwCl (w_X8_rows G a a_text a_clerk a_s a_kept a_isKept a_signed a_slips a_row a_best (0 : Int32) v_trace v_typed v_next v_token v_place v_value v_fault v_clerks v_draftClerks v_draftLine v_signMany v_copies v_rowMany f_clerk f_s) H → va_D A (w_X8_rows G a a_text a_clerk a_s a_kept a_isKept a_signed a_slips a_row a_best (0 : Int32) v_trace v_typed v_next v_token v_place v_value v_fault v_clerks v_draftClerks v_draftLine v_signMany v_copies v_rowMany f_clerk f_s) → va_S A s.heap H locs → lv_has ls 3 [(0, .ref a), (1, .int l1_9), (2, .int l2_9)] → W p l e (headSpec wsX8_rows { frames := 4, cells := 0, slots := 0, locals := 94 }).room s m ([.ref a] : List Value).toArray below meth c H locs 0 0 (MQ below (zQ (some (.int rv)) G (w_X8_rows G a a_text a_clerk a_s a_kept a_isKept a_signed a_slips a_row a_best ov_thrown v_trace v_typed v_next v_token v_place v_value v_fault v_clerks v_draftClerks v_draftLine v_signMany v_copies v_rowMany f_clerk f_s) A) ([.ref a] : List Value).toArray s 0 0 A) (F0 m 9 ls []) := by
    intro n
    induction n with
    | zero => intro K l1_9 l2_9 H locs ls h; rw [fX8_rows_L9] at h; cases h
    | succ n ih =>
      intro K l1_9 l2_9 H locs ls h hk hP hD hS hl
      rw [fX8_rows_L9] at h
      refine lv_iload_n hx hb dX8_rows_9 rfl (lv_at hl 2 rfl) ?_
      refine lv_aload_n hx hb dX8_rows_10 rfl (lv_at hl 0 rfl) ?_
      refine va_get (D := G.1) (ci := 8) (v := .ref a_s) (C := RX8) (T := TX8) (N := 23) hx hb hts in_X8_rows_X8 hown hK.1 hP 0 rfl rfl 13 (by decide) (hts (.fieldLink RX8 16 "NineHandsModel" "s" "[I") (by decide +kernel)) (fun _ h9 => h9) rfl dX8_rows_11 ?_
      refine lv_bipush (v := (20 : Int32)) hx hb dX8_rows_14 (by decide) ?_
      refine zald hx hb hK.1 hP 2 0 rfl rfl (show ¬ ((20 : Int32) < 0 ∨ 22 ≤ ((20 : Int32)).toNatClampNeg) by decide) (j := 20) (by decide) dX8_rows_16 ?_
      refine lv_icmp_ge (tgt := 37) hx hb dX8_rows_17 (by decide) (fun c17 => ?_) (fun c17 => ?_)
      · have h := zt c17 h
        exact hk _ _ _ _ h hP hD hS (lv_sub hl [1] rfl)
      · have h := zf c17 h
        refine lv_iload_n hx hb dX8_rows_20 rfl (lv_at hl 1 rfl) ?_
        refine lv_aload_n hx hb dX8_rows_21 rfl (lv_at hl 0 rfl) ?_
        refine lv_iload_n hx hb dX8_rows_22 rfl (lv_at hl 2 rfl) ?_
        obtain ⟨y23, hc23, h⟩ := zb1_e h
        refine zcV (As := [.int l2_9]) (rest := [.int l1_9]) (ws' := (w_X8_rows G a a_text a_clerk a_s a_kept a_isKept a_signed a_slips a_row a_best (0 : Int32) v_trace v_typed v_next v_token v_place v_value v_fault v_clerks v_draftClerks v_draftLine v_signMany v_copies v_rowMany f_clerk f_s)) (st1 := [.int y23, .int l1_9]) ⟨hx, hb, hml, hown, hts⟩ (c_X8_whoOf l G fu a a_text a_clerk a_s a_kept a_isKept a_signed a_slips a_row a_best (0 : Int32) v_trace v_typed v_next v_token v_place v_value v_fault v_clerks v_draftClerks v_draftLine v_signMany v_copies v_rowMany f_clerk f_s l2_9 y23 hc23) (cwV 1 hts gX8_rows_X8_whoOf rfl rfl rfl (by decide +kernel) ⟨Nat.le_of_ble_eq_true rfl, Nat.le_of_ble_eq_true rfl⟩) hK hE hP hD hS hA [0, 1, 2] rfl rfl 0 8 rfl rfl rfl rfl rfl rfl hl.1 rfl (Nat.le_of_ble_eq_true rfl) dX8_rows_23 (Nat.zero_le _) (Nat.zero_le _) rfl (fun H locs hP hD hS => ?_)
        obtain ⟨y26, hc26, h⟩ := zb1_e h
        refine zcS (As := [.int y23]) (rest := [.int l1_9]) (ws' := (w_X8_rows G a a_text a_clerk a_s a_kept a_isKept a_signed a_slips a_row a_best (0 : Int32) v_trace v_typed v_next v_token v_place v_value v_fault v_clerks v_draftClerks v_draftLine v_signMany v_copies v_rowMany f_clerk f_s)) (st1 := [.int y26, .int l1_9]) ⟨hx, hb, hml, hown, hts⟩ (c_X8_ones l G fu y23 y26 hc26) (va_cwS 1 hts gX8_rows_X8_ones rfl rfl rfl (by decide +kernel) ⟨Nat.le_of_ble_eq_true rfl, Nat.le_of_ble_eq_true rfl⟩) hK hE hP hD hS hA [] rfl rfl rfl rfl rfl hl.1 rfl (Nat.le_of_ble_eq_true rfl) dX8_rows_26 (Nat.zero_le _) (Nat.zero_le _) rfl (fun H locs hP hD hS => ?_)
        refine lv_imul hx hb dX8_rows_29 ?_
        refine lv_istore_n (lv' := [(1, .int (l1_9 * y26)), (0, .ref a), (2, .int l2_9)]) hx hb dX8_rows_30 rfl hl (by decide) rfl (fun ls hl => ?_)
        refine lv_iinc (v := (l2_9 + (1 : Int32))) (lv' := [(2, .int (l2_9 + (1 : Int32))), (1, .int (l1_9 * y26)), (0, .ref a)]) hx hb dX8_rows_31 hl (k := 2) rfl rfl (by decide) rfl (fun ls hl => ?_)
        refine lv_goto (tgt := 9) hx hb dX8_rows_34 (by decide) ?_
        exact ih K _ _ _ _ _ h hk hP hD hS (lv_sub hl [2, 1, 0] rfl)
  refine loop_9 fu _ _ _ _ _ _ h (fun l1_9e H locs ls h hP hD hS hl => ?_) hP hD hS (lv_sub hl [2, 1, 0] rfl)
  refine lv_iload_n hx hb dX8_rows_37 rfl (lv_at hl 0 rfl) ?_
  cases h
  exact W.iret hx hb hr (fun t9 ht9 _ => zend hP hD hS ht9) hS.2.2 dX8_rows_38
abbrev w_X8_gcd (G : zG) : va_W := []
set_option maxHeartbeats 4000000 in
set_option maxRecDepth 100000 in
theorem c_X8_gcd (l : Launch) (G : zG) (fu : Nat) (x1 : Int32) (x2 : Int32) (rv : Int32) (h : fX8_gcd fu x1 x2 = some rv) : zC l yX8_gcd wsX8_gcd 0 0 G [.int x1, .int x2] (w_X8_gcd G ) (some (.int rv)) (w_X8_gcd G ) := by
  refine fun sz => Met.ofW (cc := cX8_gcd) (maxL := 5) (ret := (some .int)) (by decide) rfl ?_
  intro p e s m args below meth c s₁ B hml hv
  obtain ⟨rfl, hsz, hP, hK, hD0, hE⟩ := hv
  have hx := B.exec
  have hb := B.bytes
  have hr := B.returns
  have hts := atoms_spec (ws := wsX8_gcd) B.pre
  have hown : s.vm.findClass RX8 = some m.cls := findClass_of_methodNamed B.named
  have hlocks := B.notSynchronized
  subst hsz
  have hD := hD0.self (sz := s.heap.size)
  generalize hAe : va_A (w_X8_gcd G ) s.heap.size = A at hD hE ⊢
  have hA : ∀ q : Nat, s.heap.size ≤ q → A q := fun q h => by rw [← hAe]; exact Or.inr h
  have hS : va_S A s.heap s.heap [] := va_S.rf
  have hl := lv_entry ([.int x1, .int x2]) (n := 5) (Nat.le_of_ble_eq_true rfl)
  rw [lg_entry_eq]
  generalize (lg_sl ([.int x1, .int x2]) ++ List.replicate (5 - (lg_sl ([.int x1, .int x2])).length) Slot.unset).toArray = ls at hl ⊢
  have hl : lv_has ls 5 [(0, .int x1), (1, .int x2)] := hl
  have hP : va_P G.1 vwCl (w_X8_gcd G ) s.heap := hP
  rw [fX8_gcd] at h
  refine lv_iload_n hx hb dX8_gcd_0 rfl (lv_at hl 0 rfl) ?_
  refine lv_istore_n (lv' := [(2, .int x1), (0, .int x1), (1, .int x2)]) hx hb dX8_gcd_1 rfl hl (by decide) rfl (fun ls hl => ?_)
  refine lv_iload_n hx hb dX8_gcd_2 rfl (lv_at hl 2 rfl) ?_
  refine lv_istore_n (lv' := [(3, .int x2), (2, .int x1), (0, .int x1), (1, .int x2)]) hx hb dX8_gcd_3 rfl hl (by decide) rfl (fun ls hl => ?_)
  have loop_4 : ∀ (n : Nat) (K : Int32 → Option Int32) (l2_4 : Int32) (l3_4 : Int32) (H : Heap) (locs : List Loc) (ls : Array Slot), fX8_gcd_L4 fu K n l2_4 l3_4 = some rv → (∀ (l2_4e : Int32) (H : Heap) (locs : List Loc) (ls : Array Slot), K l2_4e = some rv → va_P G.1 vwCl (w_X8_gcd G ) H → va_D A (w_X8_gcd G ) → va_S A s.heap H locs → lv_has ls 5 [(2, .int l2_4e)] → W p l e (headSpec wsX8_gcd { frames := 0, cells := 0, slots := 0, locals := 0 }).room s m ([.int x1, .int x2] : List Value).toArray below meth c H locs 0 0 (MQ below (zQ (some (.int rv)) G (w_X8_gcd G ) A) ([.int x1, .int x2] : List Value).toArray s 0 0 A) (F0 m 21 ls [])) → va_P G.1 vwCl (w_X8_gcd G ) H → va_D A (w_X8_gcd G ) → va_S A s.heap H locs → lv_has ls 5 [(2, .int l2_4), (3, .int l3_4)] → W p l e (headSpec wsX8_gcd { frames := 0, cells := 0, slots := 0, locals := 0 }).room s m ([.int x1, .int x2] : List Value).toArray below meth c H locs 0 0 (MQ below (zQ (some (.int rv)) G (w_X8_gcd G ) A) ([.int x1, .int x2] : List Value).toArray s 0 0 A) (F0 m 4 ls []) := by
    intro n
    induction n with
    | zero => intro K l2_4 l3_4 H locs ls h; rw [fX8_gcd_L4] at h; cases h
    | succ n ih =>
      intro K l2_4 l3_4 H locs ls h hk hP hD hS hl
      rw [fX8_gcd_L4] at h
      refine lv_iload_n hx hb dX8_gcd_4 rfl (lv_at hl 1 rfl) ?_
      refine lv_if_eq (tgt := 21) hx hb dX8_gcd_5 (by decide) (fun c5 => ?_) (fun c5 => ?_)
      · have h := zt c5 h
        exact hk _ _ _ _ h hP hD hS (lv_sub hl [0] rfl)
      · have h := zf c5 h
        refine lv_iload_n hx hb dX8_gcd_8 rfl (lv_at hl 0 rfl) ?_
        refine lv_iload_n hx hb dX8_gcd_9 rfl (lv_at hl 1 rfl) ?_
        obtain ⟨g10, h⟩ := zg h
        refine lv_irem hx hb dX8_gcd_10 g10 ?_
        refine lv_istore (lv' := [(4, .int (l2_4 - l2_4 / l3_4 * l3_4)), (2, .int l2_4), (3, .int l3_4)]) hx hb dX8_gcd_11 hl (by decide) rfl (fun ls hl => ?_)
        refine lv_iload_n hx hb dX8_gcd_13 rfl (lv_at hl 2 rfl) ?_
        refine lv_istore_n (lv' := [(2, .int l3_4), (4, .int (l2_4 - l2_4 / l3_4 * l3_4)), (3, .int l3_4)]) hx hb dX8_gcd_14 rfl hl (by decide) rfl (fun ls hl => ?_)
        refine lv_iload hx hb dX8_gcd_15 (lv_at hl 1 rfl) ?_
        refine lv_istore_n (lv' := [(3, .int (l2_4 - l2_4 / l3_4 * l3_4)), (2, .int l3_4), (4, .int (l2_4 - l2_4 / l3_4 * l3_4))]) hx hb dX8_gcd_17 rfl hl (by decide) rfl (fun ls hl => ?_)
        refine lv_goto (tgt := 4) hx hb dX8_gcd_18 (by decide) ?_
        exact ih K _ _ _ _ _ h hk hP hD hS (lv_sub hl [1, 0] rfl)
  refine loop_4 fu _ _ _ _ _ _ h (fun l2_4e H locs ls h hP hD hS hl => ?_) hP hD hS (lv_sub hl [1, 0] rfl)
  refine lv_iload_n hx hb dX8_gcd_21 rfl (lv_at hl 0 rfl) ?_
  cases h
  exact W.iret hx hb hr (fun t9 ht9 _ => zend hP hD hS ht9) hS.2.2 dX8_gcd_22
abbrev w_X8_odds (G : zG) (a : Nat) (a_text : Nat) (a_clerk : Nat) (a_s : Nat) (a_kept : Nat) (a_isKept : Nat) (a_signed : Nat) (a_slips : Nat) (a_row : Nat) (a_best : Nat) (v_thrown : Int32) (v_trace : Int64) (v_typed : Int32) (v_next : Int32) (v_token : Int32) (v_place : Int32) (v_value : Int32) (v_fault : Int32) (v_clerks : Int32) (v_draftClerks : Int32) (v_draftLine : Int32) (v_signMany : Int32) (v_copies : Int32) (v_rowMany : Int32) (f_clerk : (Nat → Int32)) (f_s : (Nat → Int32)) : va_W := [(a, .inr (8, [.int v_thrown, .long v_trace, .ref a_text, .int v_typed, .int v_next, .int v_token, .int v_place, .int v_value, .int v_fault, .ref a_clerk, .int v_clerks, .int v_draftClerks, .int v_draftLine, .ref a_s, .ref a_kept, .ref a_isKept, .ref a_signed, .int v_signMany, .ref a_slips, .int v_copies, .ref a_row, .ref a_best, .int v_rowMany])), (a_clerk, .inl (zCI G, 48, .inl f_clerk)), (a_s, .inl (zCI G, 22, .inl f_s))]
theorem in_X8_odds_X8 : ∀ w ∈ wsX80, w ∈ wsX8_odds := by decide +kernel
set_option maxHeartbeats 4000000 in
set_option maxRecDepth 100000 in
theorem c_X8_odds (l : Launch) (G : zG) (fu : Nat) (a : Nat) (a_text : Nat) (a_clerk : Nat) (a_s : Nat) (a_kept : Nat) (a_isKept : Nat) (a_signed : Nat) (a_slips : Nat) (a_row : Nat) (a_best : Nat) (v_thrown : Int32) (v_trace : Int64) (v_typed : Int32) (v_next : Int32) (v_token : Int32) (v_place : Int32) (v_value : Int32) (v_fault : Int32) (v_clerks : Int32) (v_draftClerks : Int32) (v_draftLine : Int32) (v_signMany : Int32) (v_copies : Int32) (v_rowMany : Int32) (f_clerk : (Nat → Int32)) (f_s : (Nat → Int32)) (x1 : Int32) (x2 : Int32) (x3 : Int32) (rv : Int32) (ov_thrown : Int32) (h : fX8_odds fu v_thrown v_clerks f_clerk f_s x1 x2 x3 = some (rv, ov_thrown)) : zC l yX8_odds wsX8_odds 3 71 G [.ref a, .int x1, .int x2, .int x3] (w_X8_odds G a a_text a_clerk a_s a_kept a_isKept a_signed a_slips a_row a_best v_thrown v_trace v_typed v_next v_token v_place v_value v_fault v_clerks v_draftClerks v_draftLine v_signMany v_copies v_rowMany f_clerk f_s) (some (.int rv)) (w_X8_odds G a a_text a_clerk a_s a_kept a_isKept a_signed a_slips a_row a_best ov_thrown v_trace v_typed v_next v_token v_place v_value v_fault v_clerks v_draftClerks v_draftLine v_signMany v_copies v_rowMany f_clerk f_s) := by
  refine fun sz => Met.ofW (cc := cX8_odds) (maxL := 6) (ret := (some .int)) (by decide) rfl ?_
  intro p e s m args below meth c s₁ B hml hv
  obtain ⟨rfl, hsz, hP, hK, hD0, hE⟩ := hv
  have hx := B.exec
  have hb := B.bytes
  have hr := B.returns
  have hts := atoms_spec (ws := wsX8_odds) B.pre
  have hown : s.vm.findClass RX8 = some m.cls := findClass_of_methodNamed B.named
  have hlocks := B.notSynchronized
  subst hsz
  have hD := hD0.self (sz := s.heap.size)
  generalize hAe : va_A (w_X8_odds G a a_text a_clerk a_s a_kept a_isKept a_signed a_slips a_row a_best v_thrown v_trace v_typed v_next v_token v_place v_value v_fault v_clerks v_draftClerks v_draftLine v_signMany v_copies v_rowMany f_clerk f_s) s.heap.size = A at hD hE ⊢
  have hA : ∀ q : Nat, s.heap.size ≤ q → A q := fun q h => by rw [← hAe]; exact Or.inr h
  have hS : va_S A s.heap s.heap [] := va_S.rf
  have hl := lv_entry ([.ref a, .int x1, .int x2, .int x3]) (n := 6) (Nat.le_of_ble_eq_true rfl)
  rw [lg_entry_eq]
  generalize (lg_sl ([.ref a, .int x1, .int x2, .int x3]) ++ List.replicate (6 - (lg_sl ([.ref a, .int x1, .int x2, .int x3])).length) Slot.unset).toArray = ls at hl ⊢
  have hl : lv_has ls 6 [(0, .ref a), (1, .int x1), (2, .int x2), (3, .int x3)] := hl
  have hP : va_P G.1 vwCl (w_X8_odds G a a_text a_clerk a_s a_kept a_isKept a_signed a_slips a_row a_best v_thrown v_trace v_typed v_next v_token v_place v_value v_fault v_clerks v_draftClerks v_draftLine v_signMany v_copies v_rowMany f_clerk f_s) s.heap := hP
  rw [fX8_odds] at h
  refine lv_aload_n hx hb dX8_odds_0 rfl (lv_at hl 0 rfl) ?_
  refine lv_iconst (v := (0 : Int32)) hx hb dX8_odds_1 (by decide) ?_
  refine zput1 (D := G.1) (ci := 8) (C := RX8) (T := TX8) (N := 23) (ty := .int) (ws' := (w_X8_odds G a a_text a_clerk a_s a_kept a_isKept a_signed a_slips a_row a_best (0 : Int32) v_trace v_typed v_next v_token v_place v_value v_fault v_clerks v_draftClerks v_draftLine v_signMany v_copies v_rowMany f_clerk f_s)) hx hb hts in_X8_odds_X8 tyX8 tyX8_ok nmX8 hown hK.1 hP hD hS 0 rfl rfl 0 (by decide) (hts (.fieldLink RX8 42 "NineHandsModel" "thrown" "I") (by decide +kernel)) (fun _ h9 => h9) rfl (by decide +kernel) rfl rfl (Nat.le_of_ble_eq_true rfl) rfl dX8_odds_2 (fun H locs hP hD hS => ?_)
  refine lv_aload_n hx hb dX8_odds_5 rfl (lv_at hl 0 rfl) ?_
  refine lv_iload_n hx hb dX8_odds_6 rfl (lv_at hl 1 rfl) ?_
  obtain ⟨y7, hc7, h⟩ := zb1_e h
  refine zcV (As := [.int x1]) (rest := []) (ws' := (w_X8_odds G a a_text a_clerk a_s a_kept a_isKept a_signed a_slips a_row a_best (0 : Int32) v_trace v_typed v_next v_token v_place v_value v_fault v_clerks v_draftClerks v_draftLine v_signMany v_copies v_rowMany f_clerk f_s)) (st1 := [.int y7]) ⟨hx, hb, hml, hown, hts⟩ (c_X8_isClerk l G a a_text a_clerk a_s a_kept a_isKept a_signed a_slips a_row a_best (0 : Int32) v_trace v_typed v_next v_token v_place v_value v_fault v_clerks v_draftClerks v_draftLine v_signMany v_copies v_rowMany x1 y7 hc7) (cwV 1 hts gX8_odds_X8_isClerk rfl rfl rfl (by decide +kernel) ⟨Nat.le_of_ble_eq_true rfl, Nat.le_of_ble_eq_true rfl⟩) hK hE hP hD hS hA [0] rfl rfl 0 8 rfl rfl rfl rfl rfl rfl hl.1 rfl (Nat.le_of_ble_eq_true rfl) dX8_odds_7 (Nat.zero_le _) (Nat.zero_le _) rfl (fun H locs hP hD hS => ?_)
  refine lv_if_eq (tgt := 39) hx hb dX8_odds_10 (by decide) (fun c10 => ?_) (fun c10 => ?_)
  · have h := zt c10 h
    refine lv_iconst (v := ((-1) : Int32)) hx hb dX8_odds_39 (by decide) ?_
    cases h
    exact W.iret hx hb hr (fun t9 ht9 _ => zend hP hD hS ht9) hS.2.2 dX8_odds_40
  · have h := zf c10 h
    refine lv_iload_n hx hb dX8_odds_13 rfl (lv_at hl 2 rfl) ?_
    refine lv_iconst (v := (1 : Int32)) hx hb dX8_odds_14 (by decide) ?_
    refine lv_aload_n hx hb dX8_odds_15 rfl (lv_at hl 0 rfl) ?_
    refine va_get (D := G.1) (ci := 8) (v := .ref a_s) (C := RX8) (T := TX8) (N := 23) hx hb hts in_X8_odds_X8 hown hK.1 hP 0 rfl rfl 13 (by decide) (hts (.fieldLink RX8 16 "NineHandsModel" "s" "[I") (by decide +kernel)) (fun _ h9 => h9) rfl dX8_odds_16 ?_
    refine lv_bipush (v := (20 : Int32)) hx hb dX8_odds_19 (by decide) ?_
    refine zald hx hb hK.1 hP 2 0 rfl rfl (show ¬ ((20 : Int32) < 0 ∨ 22 ≤ ((20 : Int32)).toNatClampNeg) by decide) (j := 20) (by decide) dX8_odds_21 ?_
    refine lv_iconst (v := (1 : Int32)) hx hb dX8_odds_22 (by decide) ?_
    refine lv_isub hx hb dX8_odds_23 ?_
    obtain ⟨y24, hc24, h⟩ := zb1_e h
    refine zcS (As := [.int x2, .int (1 : Int32), .int ((f_s 20) - (1 : Int32))]) (rest := []) (ws' := (w_X8_odds G a a_text a_clerk a_s a_kept a_isKept a_signed a_slips a_row a_best (0 : Int32) v_trace v_typed v_next v_token v_place v_value v_fault v_clerks v_draftClerks v_draftLine v_signMany v_copies v_rowMany f_clerk f_s)) (st1 := [.int y24]) ⟨hx, hb, hml, hown, hts⟩ (c_X8_in l G x2 (1 : Int32) ((f_s 20) - (1 : Int32)) y24 hc24) (va_cwS 3 hts gX8_odds_X8_in rfl rfl rfl (by decide +kernel) ⟨Nat.le_of_ble_eq_true rfl, Nat.le_of_ble_eq_true rfl⟩) hK hE hP hD hS hA [] rfl rfl rfl rfl rfl hl.1 rfl (Nat.le_of_ble_eq_true rfl) dX8_odds_24 (Nat.zero_le _) (Nat.zero_le _) rfl (fun H locs hP hD hS => ?_)
    refine lv_if_eq (tgt := 39) hx hb dX8_odds_27 (by decide) (fun c27 => ?_) (fun c27 => ?_)
    · have h := zt c27 h
      refine lv_iconst (v := ((-1) : Int32)) hx hb dX8_odds_39 (by decide) ?_
      cases h
      exact W.iret hx hb hr (fun t9 ht9 _ => zend hP hD hS ht9) hS.2.2 dX8_odds_40
    · have h := zf c27 h
      refine lv_iload_n hx hb dX8_odds_30 rfl (lv_at hl 3 rfl) ?_
      refine lv_iconst (v := (0 : Int32)) hx hb dX8_odds_31 (by decide) ?_
      refine lv_iconst (v := (1 : Int32)) hx hb dX8_odds_32 (by decide) ?_
      obtain ⟨y33, hc33, h⟩ := zb1_e h
      refine zcS (As := [.int x3, .int (0 : Int32), .int (1 : Int32)]) (rest := []) (ws' := (w_X8_odds G a a_text a_clerk a_s a_kept a_isKept a_signed a_slips a_row a_best (0 : Int32) v_trace v_typed v_next v_token v_place v_value v_fault v_clerks v_draftClerks v_draftLine v_signMany v_copies v_rowMany f_clerk f_s)) (st1 := [.int y33]) ⟨hx, hb, hml, hown, hts⟩ (c_X8_in l G x3 (0 : Int32) (1 : Int32) y33 hc33) (va_cwS 3 hts gX8_odds_X8_in rfl rfl rfl (by decide +kernel) ⟨Nat.le_of_ble_eq_true rfl, Nat.le_of_ble_eq_true rfl⟩) hK hE hP hD hS hA [] rfl rfl rfl rfl rfl hl.1 rfl (Nat.le_of_ble_eq_true rfl) dX8_odds_33 (Nat.zero_le _) (Nat.zero_le _) rfl (fun H locs hP hD hS => ?_)
      refine lv_if_ne (tgt := 41) hx hb dX8_odds_36 (by decide) (fun c36 => ?_) (fun c36 => ?_)
      · have h := zf c36 h
        refine lv_iconst (v := (0 : Int32)) hx hb dX8_odds_41 (by decide) ?_
        refine lv_istore (lv' := [(4, .int (0 : Int32)), (0, .ref a), (1, .int x1), (2, .int x2), (3, .int x3)]) hx hb dX8_odds_42 hl (by decide) rfl (fun ls hl => ?_)
        refine lv_iconst (v := (0 : Int32)) hx hb dX8_odds_44 (by decide) ?_
        refine lv_istore (lv' := [(5, .int (0 : Int32)), (4, .int (0 : Int32)), (0, .ref a), (1, .int x1), (2, .int x2), (3, .int x3)]) hx hb dX8_odds_45 hl (by decide) rfl (fun ls hl => ?_)
        have loop_47 : ∀ (n : Nat) (K : Int32 → Option (Int32 × Int32)) (l4_47 : Int32) (l5_47 : Int32) (H : Heap) (locs : List Loc) (ls : Array Slot), fX8_odds_L47 fu x1 x2 x3 v_clerks f_clerk f_s K n l4_47 l5_47 = some (rv, ov_thrown) → (∀ (l4_47e : Int32) (H : Heap) (locs : List Loc) (ls : Array Slot), K l4_47e = some (rv, ov_thrown) → va_P G.1 vwCl (w_X8_odds G a a_text a_clerk a_s a_kept a_isKept a_signed a_slips a_row a_best (0 : Int32) v_trace v_typed v_next v_token v_place v_value v_fault v_clerks v_draftClerks v_draftLine v_signMany v_copies v_rowMany f_clerk f_s) H → va_D A (w_X8_odds G a a_text a_clerk a_s a_kept a_isKept a_signed a_slips a_row a_best (0 : Int32) v_trace v_typed v_next v_token v_place v_value v_fault v_clerks v_draftClerks v_draftLine v_signMany v_copies v_rowMany f_clerk f_s) → va_S A s.heap H locs → lv_has ls 6 [(0, .ref a), (1, .int x1), (2, .int x2), (3, .int x3), (4, .int l4_47e)] → W p l e (headSpec wsX8_odds { frames := 3, cells := 0, slots := 0, locals := 71 }).room s m ([.ref a, .int x1, .int x2, .int x3] : List Value).toArray below meth c H locs 0 0 (MQ below (zQ (some (.int rv)) G (w_X8_odds G a a_text a_clerk a_s a_kept a_isKept a_signed a_slips a_row a_best ov_thrown v_trace v_typed v_next v_token v_place v_value v_fault v_clerks v_draftClerks v_draftLine v_signMany v_copies v_rowMany f_clerk f_s) A) ([.ref a, .int x1, .int x2, .int x3] : List Value).toArray s 0 0 A) (F0 m 74 ls [])) → va_P G.1 vwCl (w_X8_odds G a a_text a_clerk a_s a_kept a_isKept a_signed a_slips a_row a_best (0 : Int32) v_trace v_typed v_next v_token v_place v_value v_fault v_clerks v_draftClerks v_draftLine v_signMany v_copies v_rowMany f_clerk f_s) H → va_D A (w_X8_odds G a a_text a_clerk a_s a_kept a_isKept a_signed a_slips a_row a_best (0 : Int32) v_trace v_typed v_next v_token v_place v_value v_fault v_clerks v_draftClerks v_draftLine v_signMany v_copies v_rowMany f_clerk f_s) → va_S A s.heap H locs → lv_has ls 6 [(0, .ref a), (1, .int x1), (2, .int x2), (3, .int x3), (4, .int l4_47), (5, .int l5_47)] → W p l e (headSpec wsX8_odds { frames := 3, cells := 0, slots := 0, locals := 71 }).room s m ([.ref a, .int x1, .int x2, .int x3] : List Value).toArray below meth c H locs 0 0 (MQ below (zQ (some (.int rv)) G (w_X8_odds G a a_text a_clerk a_s a_kept a_isKept a_signed a_slips a_row a_best ov_thrown v_trace v_typed v_next v_token v_place v_value v_fault v_clerks v_draftClerks v_draftLine v_signMany v_copies v_rowMany f_clerk f_s) A) ([.ref a, .int x1, .int x2, .int x3] : List Value).toArray s 0 0 A) (F0 m 47 ls []) := by
          intro n
          induction n with
          | zero => intro K l4_47 l5_47 H locs ls h; rw [fX8_odds_L47] at h; cases h
          | succ n ih =>
            intro K l4_47 l5_47 H locs ls h hk hP hD hS hl
            rw [fX8_odds_L47] at h
            refine lv_iload hx hb dX8_odds_47 (lv_at hl 5 rfl) ?_
            refine lv_aload_n hx hb dX8_odds_49 rfl (lv_at hl 0 rfl) ?_
            refine va_get (D := G.1) (ci := 8) (v := .int v_clerks) (C := RX8) (T := TX8) (N := 23) hx hb hts in_X8_odds_X8 hown hK.1 hP 0 rfl rfl 10 (by decide) (hts (.fieldLink RX8 112 "NineHandsModel" "clerks" "I") (by decide +kernel)) (fun _ h9 => h9) rfl dX8_odds_50 ?_
            refine lv_icmp_ge (tgt := 74) hx hb dX8_odds_53 (by decide) (fun c53 => ?_) (fun c53 => ?_)
            · have h := zt c53 h
              exact hk _ _ _ _ h hP hD hS (lv_sub hl [0, 1, 2, 3, 4] rfl)
            · have h := zf c53 h
              refine lv_iload hx hb dX8_odds_56 (lv_at hl 4 rfl) ?_
              refine lv_aload_n hx hb dX8_odds_58 rfl (lv_at hl 0 rfl) ?_
              refine lv_iload hx hb dX8_odds_59 (lv_at hl 5 rfl) ?_
              refine lv_iload_n hx hb dX8_odds_61 rfl (lv_at hl 2 rfl) ?_
              obtain ⟨y62, hc62, h⟩ := zb1_e h
              refine zcV (As := [.int l5_47, .int x2]) (rest := [.int l4_47]) (ws' := (w_X8_odds G a a_text a_clerk a_s a_kept a_isKept a_signed a_slips a_row a_best (0 : Int32) v_trace v_typed v_next v_token v_place v_value v_fault v_clerks v_draftClerks v_draftLine v_signMany v_copies v_rowMany f_clerk f_s)) (st1 := [.int y62, .int l4_47]) ⟨hx, hb, hml, hown, hts⟩ (c_X8_waysOf l G a a_text a_clerk a_s a_kept a_isKept a_signed a_slips a_row a_best (0 : Int32) v_trace v_typed v_next v_token v_place v_value v_fault v_clerks v_draftClerks v_draftLine v_signMany v_copies v_rowMany f_clerk f_s l5_47 x2 y62 hc62) (cwV 2 hts gX8_odds_X8_waysOf rfl rfl rfl (by decide +kernel) ⟨Nat.le_of_ble_eq_true rfl, Nat.le_of_ble_eq_true rfl⟩) hK hE hP hD hS hA [0, 1, 2] rfl rfl 0 8 rfl rfl rfl rfl rfl rfl hl.1 rfl (Nat.le_of_ble_eq_true rfl) dX8_odds_62 (Nat.zero_le _) (Nat.zero_le _) rfl (fun H locs hP hD hS => ?_)
              refine lv_iadd hx hb dX8_odds_65 ?_
              refine lv_istore (lv' := [(4, .int (l4_47 + y62)), (0, .ref a), (1, .int x1), (2, .int x2), (3, .int x3), (5, .int l5_47)]) hx hb dX8_odds_66 hl (by decide) rfl (fun ls hl => ?_)
              refine lv_iinc (v := (l5_47 + (1 : Int32))) (lv' := [(5, .int (l5_47 + (1 : Int32))), (4, .int (l4_47 + y62)), (0, .ref a), (1, .int x1), (2, .int x2), (3, .int x3)]) hx hb dX8_odds_68 hl (k := 5) rfl rfl (by decide) rfl (fun ls hl => ?_)
              refine lv_goto (tgt := 47) hx hb dX8_odds_71 (by decide) ?_
              exact ih K _ _ _ _ _ h hk hP hD hS (lv_sub hl [2, 3, 4, 5, 1, 0] rfl)
        refine loop_47 fu _ _ _ _ _ _ h (fun l4_47e H locs ls h hP hD hS hl => ?_) hP hD hS (lv_sub hl [2, 3, 4, 5, 1, 0] rfl)
        refine lv_iload hx hb dX8_odds_74 (lv_at hl 4 rfl) ?_
        refine lv_if_ne (tgt := 82) hx hb dX8_odds_76 (by decide) (fun c76 => ?_) (fun c76 => ?_)
        · have h := zf c76 h
          refine lv_aload_n hx hb dX8_odds_82 rfl (lv_at hl 0 rfl) ?_
          refine lv_iload_n hx hb dX8_odds_83 rfl (lv_at hl 1 rfl) ?_
          refine lv_iload_n hx hb dX8_odds_84 rfl (lv_at hl 2 rfl) ?_
          obtain ⟨y85, hc85, h⟩ := zb1_e h
          refine zcV (As := [.int x1, .int x2]) (rest := []) (ws' := (w_X8_odds G a a_text a_clerk a_s a_kept a_isKept a_signed a_slips a_row a_best (0 : Int32) v_trace v_typed v_next v_token v_place v_value v_fault v_clerks v_draftClerks v_draftLine v_signMany v_copies v_rowMany f_clerk f_s)) (st1 := [.int y85]) ⟨hx, hb, hml, hown, hts⟩ (c_X8_waysOf l G a a_text a_clerk a_s a_kept a_isKept a_signed a_slips a_row a_best (0 : Int32) v_trace v_typed v_next v_token v_place v_value v_fault v_clerks v_draftClerks v_draftLine v_signMany v_copies v_rowMany f_clerk f_s x1 x2 y85 hc85) (cwV 2 hts gX8_odds_X8_waysOf rfl rfl rfl (by decide +kernel) ⟨Nat.le_of_ble_eq_true rfl, Nat.le_of_ble_eq_true rfl⟩) hK hE hP hD hS hA [0, 1, 2] rfl rfl 0 8 rfl rfl rfl rfl rfl rfl hl.1 rfl (Nat.le_of_ble_eq_true rfl) dX8_odds_85 (Nat.zero_le _) (Nat.zero_le _) rfl (fun H locs hP hD hS => ?_)
          refine lv_iload hx hb dX8_odds_88 (lv_at hl 4 rfl) ?_
          obtain ⟨y90, hc90, h⟩ := zb1_e h
          refine zcS (As := [.int y85, .int l4_47e]) (rest := []) (ws' := (w_X8_odds G a a_text a_clerk a_s a_kept a_isKept a_signed a_slips a_row a_best (0 : Int32) v_trace v_typed v_next v_token v_place v_value v_fault v_clerks v_draftClerks v_draftLine v_signMany v_copies v_rowMany f_clerk f_s)) (st1 := [.int y90]) ⟨hx, hb, hml, hown, hts⟩ (c_X8_gcd l G fu y85 l4_47e y90 hc90) (va_cwS 2 hts gX8_odds_X8_gcd rfl rfl rfl (by decide +kernel) ⟨Nat.le_of_ble_eq_true rfl, Nat.le_of_ble_eq_true rfl⟩) hK hE hP hD hS hA [] rfl rfl rfl rfl rfl hl.1 rfl (Nat.le_of_ble_eq_true rfl) dX8_odds_90 (Nat.zero_le _) (Nat.zero_le _) rfl (fun H locs hP hD hS => ?_)
          refine lv_istore (lv' := [(5, .int y90), (0, .ref a), (1, .int x1), (2, .int x2), (3, .int x3), (4, .int l4_47e)]) hx hb dX8_odds_93 hl (by decide) rfl (fun ls hl => ?_)
          refine lv_iload_n hx hb dX8_odds_95 rfl (lv_at hl 4 rfl) ?_
          refine lv_if_ne (tgt := 111) hx hb dX8_odds_96 (by decide) (fun c96 => ?_) (fun c96 => ?_)
          · have h := zf c96 h
            refine lv_iload hx hb dX8_odds_111 (lv_at hl 5 rfl) ?_
            refine lv_iload hx hb dX8_odds_113 (lv_at hl 0 rfl) ?_
            obtain ⟨g115, h⟩ := zg h
            refine lv_idiv hx hb dX8_odds_115 g115 ?_
            cases h
            exact W.iret hx hb hr (fun t9 ht9 _ => zend hP hD hS ht9) hS.2.2 dX8_odds_116
          · have h := zt c96 h
            refine lv_aload_n hx hb dX8_odds_99 rfl (lv_at hl 1 rfl) ?_
            refine lv_iload_n hx hb dX8_odds_100 rfl (lv_at hl 2 rfl) ?_
            refine lv_iload_n hx hb dX8_odds_101 rfl (lv_at hl 3 rfl) ?_
            obtain ⟨y102, hc102, h⟩ := zb1_e h
            refine zcV (As := [.int x1, .int x2]) (rest := []) (ws' := (w_X8_odds G a a_text a_clerk a_s a_kept a_isKept a_signed a_slips a_row a_best (0 : Int32) v_trace v_typed v_next v_token v_place v_value v_fault v_clerks v_draftClerks v_draftLine v_signMany v_copies v_rowMany f_clerk f_s)) (st1 := [.int y102]) ⟨hx, hb, hml, hown, hts⟩ (c_X8_waysOf l G a a_text a_clerk a_s a_kept a_isKept a_signed a_slips a_row a_best (0 : Int32) v_trace v_typed v_next v_token v_place v_value v_fault v_clerks v_draftClerks v_draftLine v_signMany v_copies v_rowMany f_clerk f_s x1 x2 y102 hc102) (cwV 2 hts gX8_odds_X8_waysOf rfl rfl rfl (by decide +kernel) ⟨Nat.le_of_ble_eq_true rfl, Nat.le_of_ble_eq_true rfl⟩) hK hE hP hD hS hA [0, 1, 2] rfl rfl 0 8 rfl rfl rfl rfl rfl rfl hl.1 rfl (Nat.le_of_ble_eq_true rfl) dX8_odds_102 (Nat.zero_le _) (Nat.zero_le _) rfl (fun H locs hP hD hS => ?_)
            refine lv_iload hx hb dX8_odds_105 (lv_at hl 0 rfl) ?_
            obtain ⟨g107, h⟩ := zg h
            refine lv_idiv hx hb dX8_odds_107 g107 ?_
            refine lv_goto (tgt := 116) hx hb dX8_odds_108 (by decide) ?_
            cases h
            exact W.iret hx hb hr (fun t9 ht9 _ => zend hP hD hS ht9) hS.2.2 dX8_odds_116
        · have h := zt c76 h
          refine lv_bipush (v := ((-2) : Int32)) hx hb dX8_odds_79 (by decide) ?_
          cases h
          exact W.iret hx hb hr (fun t9 ht9 _ => zend hP hD hS ht9) hS.2.2 dX8_odds_81
      · have h := zt c36 h
        refine lv_iconst (v := ((-1) : Int32)) hx hb dX8_odds_39 (by decide) ?_
        cases h
        exact W.iret hx hb hr (fun t9 ht9 _ => zend hP hD hS ht9) hS.2.2 dX8_odds_40
abbrev w_X8_changes (G : zG) (a : Nat) (a_text : Nat) (a_clerk : Nat) (a_s : Nat) (a_kept : Nat) (a_isKept : Nat) (a_signed : Nat) (a_slips : Nat) (a_row : Nat) (a_best : Nat) (v_thrown : Int32) (v_trace : Int64) (v_typed : Int32) (v_next : Int32) (v_token : Int32) (v_place : Int32) (v_value : Int32) (v_fault : Int32) (v_clerks : Int32) (v_draftClerks : Int32) (v_draftLine : Int32) (v_signMany : Int32) (v_copies : Int32) (v_rowMany : Int32) (f_row : (Nat → Int32)) : va_W := [(a, .inr (8, [.int v_thrown, .long v_trace, .ref a_text, .int v_typed, .int v_next, .int v_token, .int v_place, .int v_value, .int v_fault, .ref a_clerk, .int v_clerks, .int v_draftClerks, .int v_draftLine, .ref a_s, .ref a_kept, .ref a_isKept, .ref a_signed, .int v_signMany, .ref a_slips, .int v_copies, .ref a_row, .ref a_best, .int v_rowMany])), (a_row, .inl (zCI G, 6, .inl f_row))]
theorem in_X8_changes_X8 : ∀ w ∈ wsX80, w ∈ wsX8_changes := by decide +kernel
set_option maxHeartbeats 4000000 in
set_option maxRecDepth 100000 in
theorem c_X8_changes (l : Launch) (G : zG) (a : Nat) (a_text : Nat) (a_clerk : Nat) (a_s : Nat) (a_kept : Nat) (a_isKept : Nat) (a_signed : Nat) (a_slips : Nat) (a_row : Nat) (a_best : Nat) (v_thrown : Int32) (v_trace : Int64) (v_typed : Int32) (v_next : Int32) (v_token : Int32) (v_place : Int32) (v_value : Int32) (v_fault : Int32) (v_clerks : Int32) (v_draftClerks : Int32) (v_draftLine : Int32) (v_signMany : Int32) (v_copies : Int32) (v_rowMany : Int32) (f_row : (Nat → Int32)) (x1 : Int32) (x2 : Int32) (of_row : (Nat → Int32)) (h : fX8_changes f_row x1 x2 = some of_row) : zC l yX8_changes wsX8_changes 0 0 G [.ref a, .int x1, .int x2] (w_X8_changes G a a_text a_clerk a_s a_kept a_isKept a_signed a_slips a_row a_best v_thrown v_trace v_typed v_next v_token v_place v_value v_fault v_clerks v_draftClerks v_draftLine v_signMany v_copies v_rowMany f_row) none (w_X8_changes G a a_text a_clerk a_s a_kept a_isKept a_signed a_slips a_row a_best v_thrown v_trace v_typed v_next v_token v_place v_value v_fault v_clerks v_draftClerks v_draftLine v_signMany v_copies v_rowMany of_row) := by
  refine fun sz => Met.ofW (cc := cX8_changes) (maxL := 4) (ret := none) (by decide) rfl ?_
  intro p e s m args below meth c s₁ B hml hv
  obtain ⟨rfl, hsz, hP, hK, hD0, hE⟩ := hv
  have hx := B.exec
  have hb := B.bytes
  have hr := B.returns
  have hts := atoms_spec (ws := wsX8_changes) B.pre
  have hown : s.vm.findClass RX8 = some m.cls := findClass_of_methodNamed B.named
  have hlocks := B.notSynchronized
  subst hsz
  have hD := hD0.self (sz := s.heap.size)
  generalize hAe : va_A (w_X8_changes G a a_text a_clerk a_s a_kept a_isKept a_signed a_slips a_row a_best v_thrown v_trace v_typed v_next v_token v_place v_value v_fault v_clerks v_draftClerks v_draftLine v_signMany v_copies v_rowMany f_row) s.heap.size = A at hD hE ⊢
  have hA : ∀ q : Nat, s.heap.size ≤ q → A q := fun q h => by rw [← hAe]; exact Or.inr h
  have hS : va_S A s.heap s.heap [] := va_S.rf
  have hl := lv_entry ([.ref a, .int x1, .int x2]) (n := 4) (Nat.le_of_ble_eq_true rfl)
  rw [lg_entry_eq]
  generalize (lg_sl ([.ref a, .int x1, .int x2]) ++ List.replicate (4 - (lg_sl ([.ref a, .int x1, .int x2])).length) Slot.unset).toArray = ls at hl ⊢
  have hl : lv_has ls 4 [(0, .ref a), (1, .int x1), (2, .int x2)] := hl
  have hP : va_P G.1 vwCl (w_X8_changes G a a_text a_clerk a_s a_kept a_isKept a_signed a_slips a_row a_best v_thrown v_trace v_typed v_next v_token v_place v_value v_fault v_clerks v_draftClerks v_draftLine v_signMany v_copies v_rowMany f_row) s.heap := hP
  rw [fX8_changes] at h
  refine lv_aload_n hx hb dX8_changes_0 rfl (lv_at hl 0 rfl) ?_
  refine va_get (D := G.1) (ci := 8) (v := .ref a_row) (C := RX8) (T := TX8) (N := 23) hx hb hts in_X8_changes_X8 hown hK.1 hP 0 rfl rfl 20 (by decide) (hts (.fieldLink RX8 32 "NineHandsModel" "row" "[I") (by decide +kernel)) (fun _ h9 => h9) rfl dX8_changes_1 ?_
  refine lv_iload_n hx hb dX8_changes_4 rfl (lv_at hl 1 rfl) ?_
  obtain ⟨g5, h⟩ := zg h
  refine zald hx hb hK.1 hP 1 0 rfl rfl g5 (j := (x1).toNatClampNeg) rfl dX8_changes_5 ?_
  refine lv_istore_n (lv' := [(3, .int (f_row (x1).toNatClampNeg)), (0, .ref a), (1, .int x1), (2, .int x2)]) hx hb dX8_changes_6 rfl hl (by decide) rfl (fun ls hl => ?_)
  refine lv_aload_n hx hb dX8_changes_7 rfl (lv_at hl 1 rfl) ?_
  refine va_get (D := G.1) (ci := 8) (v := .ref a_row) (C := RX8) (T := TX8) (N := 23) hx hb hts in_X8_changes_X8 hown hK.1 hP 0 rfl rfl 20 (by decide) (hts (.fieldLink RX8 32 "NineHandsModel" "row" "[I") (by decide +kernel)) (fun _ h9 => h9) rfl dX8_changes_8 ?_
  refine lv_iload_n hx hb dX8_changes_11 rfl (lv_at hl 2 rfl) ?_
  refine lv_aload_n hx hb dX8_changes_12 rfl (lv_at hl 1 rfl) ?_
  refine va_get (D := G.1) (ci := 8) (v := .ref a_row) (C := RX8) (T := TX8) (N := 23) hx hb hts in_X8_changes_X8 hown hK.1 hP 0 rfl rfl 20 (by decide) (hts (.fieldLink RX8 32 "NineHandsModel" "row" "[I") (by decide +kernel)) (fun _ h9 => h9) rfl dX8_changes_13 ?_
  refine lv_iload_n hx hb dX8_changes_16 rfl (lv_at hl 3 rfl) ?_
  obtain ⟨g17, h⟩ := zg h
  refine zald hx hb hK.1 hP 1 0 rfl rfl g17 (j := (x2).toNatClampNeg) rfl dX8_changes_17 ?_
  refine zast hx hb hK.1 hP hD hS 1 0 rfl rfl g5 (j := (x1).toNatClampNeg) rfl (ws' := (w_X8_changes G a a_text a_clerk a_s a_kept a_isKept a_signed a_slips a_row a_best v_thrown v_trace v_typed v_next v_token v_place v_value v_fault v_clerks v_draftClerks v_draftLine v_signMany v_copies v_rowMany (upd f_row (x1).toNatClampNeg (f_row (x2).toNatClampNeg)))) rfl dX8_changes_18 (fun H locs hP hD hS => ?_)
  refine lv_aload_n hx hb dX8_changes_19 rfl (lv_at hl 1 rfl) ?_
  refine va_get (D := G.1) (ci := 8) (v := .ref a_row) (C := RX8) (T := TX8) (N := 23) hx hb hts in_X8_changes_X8 hown hK.1 hP 0 rfl rfl 20 (by decide) (hts (.fieldLink RX8 32 "NineHandsModel" "row" "[I") (by decide +kernel)) (fun _ h9 => h9) rfl dX8_changes_20 ?_
  refine lv_iload_n hx hb dX8_changes_23 rfl (lv_at hl 3 rfl) ?_
  refine lv_iload_n hx hb dX8_changes_24 rfl (lv_at hl 0 rfl) ?_
  refine zast hx hb hK.1 hP hD hS 1 0 rfl rfl g17 (j := (x2).toNatClampNeg) rfl (ws' := (w_X8_changes G a a_text a_clerk a_s a_kept a_isKept a_signed a_slips a_row a_best v_thrown v_trace v_typed v_next v_token v_place v_value v_fault v_clerks v_draftClerks v_draftLine v_signMany v_copies v_rowMany (upd (upd f_row (x1).toNatClampNeg (f_row (x2).toNatClampNeg)) (x2).toNatClampNeg (f_row (x1).toNatClampNeg)))) rfl dX8_changes_25 (fun H locs hP hD hS => ?_)
  cases h
  exact W.vret hx hb hr (fun t9 ht9 _ => zend hP hD hS ht9) hS.2.2 dX8_changes_26
abbrev w_X8_steps (G : zG) (a : Nat) (a_text : Nat) (a_clerk : Nat) (a_s : Nat) (a_kept : Nat) (a_isKept : Nat) (a_signed : Nat) (a_slips : Nat) (a_row : Nat) (a_best : Nat) (v_thrown : Int32) (v_trace : Int64) (v_typed : Int32) (v_next : Int32) (v_token : Int32) (v_place : Int32) (v_value : Int32) (v_fault : Int32) (v_clerks : Int32) (v_draftClerks : Int32) (v_draftLine : Int32) (v_signMany : Int32) (v_copies : Int32) (v_rowMany : Int32) (f_row : (Nat → Int32)) : va_W := [(a, .inr (8, [.int v_thrown, .long v_trace, .ref a_text, .int v_typed, .int v_next, .int v_token, .int v_place, .int v_value, .int v_fault, .ref a_clerk, .int v_clerks, .int v_draftClerks, .int v_draftLine, .ref a_s, .ref a_kept, .ref a_isKept, .ref a_signed, .int v_signMany, .ref a_slips, .int v_copies, .ref a_row, .ref a_best, .int v_rowMany])), (a_row, .inl (zCI G, 6, .inl f_row))]
theorem in_X8_steps_X8 : ∀ w ∈ wsX80, w ∈ wsX8_steps := by decide +kernel
set_option maxHeartbeats 4000000 in
set_option maxRecDepth 100000 in
theorem c_X8_steps (l : Launch) (G : zG) (fu : Nat) (a : Nat) (a_text : Nat) (a_clerk : Nat) (a_s : Nat) (a_kept : Nat) (a_isKept : Nat) (a_signed : Nat) (a_slips : Nat) (a_row : Nat) (a_best : Nat) (v_thrown : Int32) (v_trace : Int64) (v_typed : Int32) (v_next : Int32) (v_token : Int32) (v_place : Int32) (v_value : Int32) (v_fault : Int32) (v_clerks : Int32) (v_draftClerks : Int32) (v_draftLine : Int32) (v_signMany : Int32) (v_copies : Int32) (v_rowMany : Int32) (f_row : (Nat → Int32)) (rv : Int32) (of_row : (Nat → Int32)) (h : fX8_steps fu v_rowMany f_row = some (rv, of_row)) : zC l yX8_steps wsX8_steps 1 23 G [.ref a] (w_X8_steps G a a_text a_clerk a_s a_kept a_isKept a_signed a_slips a_row a_best v_thrown v_trace v_typed v_next v_token v_place v_value v_fault v_clerks v_draftClerks v_draftLine v_signMany v_copies v_rowMany f_row) (some (.int rv)) (w_X8_steps G a a_text a_clerk a_s a_kept a_isKept a_signed a_slips a_row a_best v_thrown v_trace v_typed v_next v_token v_place v_value v_fault v_clerks v_draftClerks v_draftLine v_signMany v_copies v_rowMany of_row) := by
  refine fun sz => Met.ofW (cc := cX8_steps) (maxL := 5) (ret := (some .boolean)) (by decide) rfl ?_
  intro p e s m args below meth c s₁ B hml hv
  obtain ⟨rfl, hsz, hP, hK, hD0, hE⟩ := hv
  have hx := B.exec
  have hb := B.bytes
  have hr := B.returns
  have hts := atoms_spec (ws := wsX8_steps) B.pre
  have hown : s.vm.findClass RX8 = some m.cls := findClass_of_methodNamed B.named
  have hlocks := B.notSynchronized
  subst hsz
  have hD := hD0.self (sz := s.heap.size)
  generalize hAe : va_A (w_X8_steps G a a_text a_clerk a_s a_kept a_isKept a_signed a_slips a_row a_best v_thrown v_trace v_typed v_next v_token v_place v_value v_fault v_clerks v_draftClerks v_draftLine v_signMany v_copies v_rowMany f_row) s.heap.size = A at hD hE ⊢
  have hA : ∀ q : Nat, s.heap.size ≤ q → A q := fun q h => by rw [← hAe]; exact Or.inr h
  have hS : va_S A s.heap s.heap [] := va_S.rf
  have hl := lv_entry ([.ref a]) (n := 5) (Nat.le_of_ble_eq_true rfl)
  rw [lg_entry_eq]
  generalize (lg_sl ([.ref a]) ++ List.replicate (5 - (lg_sl ([.ref a])).length) Slot.unset).toArray = ls at hl ⊢
  have hl : lv_has ls 5 [(0, .ref a)] := hl
  have hP : va_P G.1 vwCl (w_X8_steps G a a_text a_clerk a_s a_kept a_isKept a_signed a_slips a_row a_best v_thrown v_trace v_typed v_next v_token v_place v_value v_fault v_clerks v_draftClerks v_draftLine v_signMany v_copies v_rowMany f_row) s.heap := hP
  rw [fX8_steps] at h
  have join_34 : ∀ (l1_34 : Int32) (f_row_34 : (Nat → Int32)) (H : Heap) (locs : List Loc) (ls : Array Slot), fX8_steps_J34 fu v_rowMany l1_34 f_row_34 = some (rv, of_row) → va_P G.1 vwCl (w_X8_steps G a a_text a_clerk a_s a_kept a_isKept a_signed a_slips a_row a_best v_thrown v_trace v_typed v_next v_token v_place v_value v_fault v_clerks v_draftClerks v_draftLine v_signMany v_copies v_rowMany f_row_34) H → va_D A (w_X8_steps G a a_text a_clerk a_s a_kept a_isKept a_signed a_slips a_row a_best v_thrown v_trace v_typed v_next v_token v_place v_value v_fault v_clerks v_draftClerks v_draftLine v_signMany v_copies v_rowMany f_row_34) → va_S A s.heap H locs → lv_has ls 5 [(0, .ref a), (1, .int l1_34)] → W p l e (headSpec wsX8_steps { frames := 1, cells := 0, slots := 0, locals := 23 }).room s m ([.ref a] : List Value).toArray below meth c H locs 0 0 (MQ below (zQ (some (.int rv)) G (w_X8_steps G a a_text a_clerk a_s a_kept a_isKept a_signed a_slips a_row a_best v_thrown v_trace v_typed v_next v_token v_place v_value v_fault v_clerks v_draftClerks v_draftLine v_signMany v_copies v_rowMany of_row) A) ([.ref a] : List Value).toArray s 0 0 A) (F0 m 34 ls []) := by
    intro l1_34 f_row_34 H locs ls h hP hD hS hl
    rw [fX8_steps_J34] at h
    refine lv_iload_n hx hb dX8_steps_34 rfl (lv_at hl 1 rfl) ?_
    refine lv_if_ge (tgt := 40) hx hb dX8_steps_35 (by decide) (fun c35 => ?_) (fun c35 => ?_)
    · have h := zt c35 h
      refine lv_aload_n hx hb dX8_steps_40 rfl (lv_at hl 0 rfl) ?_
      refine va_get (D := G.1) (ci := 8) (v := .int v_rowMany) (C := RX8) (T := TX8) (N := 23) hx hb hts in_X8_steps_X8 hown hK.1 hP 0 rfl rfl 22 (by decide) (hts (.fieldLink RX8 153 "NineHandsModel" "rowMany" "I") (by decide +kernel)) (fun _ h9 => h9) rfl dX8_steps_41 ?_
      refine lv_iconst (v := (1 : Int32)) hx hb dX8_steps_44 (by decide) ?_
      refine lv_isub hx hb dX8_steps_45 ?_
      refine lv_istore_n (lv' := [(2, .int (v_rowMany - (1 : Int32))), (0, .ref a), (1, .int l1_34)]) hx hb dX8_steps_46 rfl hl (by decide) rfl (fun ls hl => ?_)
      have loop_47 : ∀ (n : Nat) (K : Int32 → Option (Int32 × (Nat → Int32))) (l2_47 : Int32) (H : Heap) (locs : List Loc) (ls : Array Slot), fX8_steps_L47 fu l1_34 f_row_34 K n l2_47 = some (rv, of_row) → (∀ (l2_47e : Int32) (H : Heap) (locs : List Loc) (ls : Array Slot), K l2_47e = some (rv, of_row) → va_P G.1 vwCl (w_X8_steps G a a_text a_clerk a_s a_kept a_isKept a_signed a_slips a_row a_best v_thrown v_trace v_typed v_next v_token v_place v_value v_fault v_clerks v_draftClerks v_draftLine v_signMany v_copies v_rowMany f_row_34) H → va_D A (w_X8_steps G a a_text a_clerk a_s a_kept a_isKept a_signed a_slips a_row a_best v_thrown v_trace v_typed v_next v_token v_place v_value v_fault v_clerks v_draftClerks v_draftLine v_signMany v_copies v_rowMany f_row_34) → va_S A s.heap H locs → lv_has ls 5 [(0, .ref a), (1, .int l1_34), (2, .int l2_47e)] → W p l e (headSpec wsX8_steps { frames := 1, cells := 0, slots := 0, locals := 23 }).room s m ([.ref a] : List Value).toArray below meth c H locs 0 0 (MQ below (zQ (some (.int rv)) G (w_X8_steps G a a_text a_clerk a_s a_kept a_isKept a_signed a_slips a_row a_best v_thrown v_trace v_typed v_next v_token v_place v_value v_fault v_clerks v_draftClerks v_draftLine v_signMany v_copies v_rowMany of_row) A) ([.ref a] : List Value).toArray s 0 0 A) (F0 m 68 ls [])) → va_P G.1 vwCl (w_X8_steps G a a_text a_clerk a_s a_kept a_isKept a_signed a_slips a_row a_best v_thrown v_trace v_typed v_next v_token v_place v_value v_fault v_clerks v_draftClerks v_draftLine v_signMany v_copies v_rowMany f_row_34) H → va_D A (w_X8_steps G a a_text a_clerk a_s a_kept a_isKept a_signed a_slips a_row a_best v_thrown v_trace v_typed v_next v_token v_place v_value v_fault v_clerks v_draftClerks v_draftLine v_signMany v_copies v_rowMany f_row_34) → va_S A s.heap H locs → lv_has ls 5 [(0, .ref a), (1, .int l1_34), (2, .int l2_47)] → W p l e (headSpec wsX8_steps { frames := 1, cells := 0, slots := 0, locals := 23 }).room s m ([.ref a] : List Value).toArray below meth c H locs 0 0 (MQ below (zQ (some (.int rv)) G (w_X8_steps G a a_text a_clerk a_s a_kept a_isKept a_signed a_slips a_row a_best v_thrown v_trace v_typed v_next v_token v_place v_value v_fault v_clerks v_draftClerks v_draftLine v_signMany v_copies v_rowMany of_row) A) ([.ref a] : List Value).toArray s 0 0 A) (F0 m 47 ls []) := by
        intro n
        induction n with
        | zero => intro K l2_47 H locs ls h; rw [fX8_steps_L47] at h; cases h
        | succ n ih =>
          intro K l2_47 H locs ls h hk hP hD hS hl
          rw [fX8_steps_L47] at h
          refine lv_aload_n hx hb dX8_steps_47 rfl (lv_at hl 0 rfl) ?_
          refine va_get (D := G.1) (ci := 8) (v := .ref a_row) (C := RX8) (T := TX8) (N := 23) hx hb hts in_X8_steps_X8 hown hK.1 hP 0 rfl rfl 20 (by decide) (hts (.fieldLink RX8 32 "NineHandsModel" "row" "[I") (by decide +kernel)) (fun _ h9 => h9) rfl dX8_steps_48 ?_
          refine lv_iload_n hx hb dX8_steps_51 rfl (lv_at hl 2 rfl) ?_
          obtain ⟨g52, h⟩ := zg h
          refine zald hx hb hK.1 hP 1 0 rfl rfl g52 (j := (l2_47).toNatClampNeg) rfl dX8_steps_52 ?_
          refine lv_aload_n hx hb dX8_steps_53 rfl (lv_at hl 0 rfl) ?_
          refine va_get (D := G.1) (ci := 8) (v := .ref a_row) (C := RX8) (T := TX8) (N := 23) hx hb hts in_X8_steps_X8 hown hK.1 hP 0 rfl rfl 20 (by decide) (hts (.fieldLink RX8 32 "NineHandsModel" "row" "[I") (by decide +kernel)) (fun _ h9 => h9) rfl dX8_steps_54 ?_
          refine lv_iload_n hx hb dX8_steps_57 rfl (lv_at hl 1 rfl) ?_
          obtain ⟨g58, h⟩ := zg h
          refine zald hx hb hK.1 hP 1 0 rfl rfl g58 (j := (l1_34).toNatClampNeg) rfl dX8_steps_58 ?_
          refine lv_icmp_ge (tgt := 68) hx hb dX8_steps_59 (by decide) (fun c59 => ?_) (fun c59 => ?_)
          · have h := zt c59 h
            exact hk _ _ _ _ h hP hD hS (lv_sub hl [0, 1, 2] rfl)
          · have h := zf c59 h
            refine lv_iinc (v := (l2_47 + ((-1) : Int32))) (lv' := [(2, .int (l2_47 + ((-1) : Int32))), (0, .ref a), (1, .int l1_34)]) hx hb dX8_steps_62 hl (k := 2) rfl rfl (by decide) rfl (fun ls hl => ?_)
            refine lv_goto (tgt := 47) hx hb dX8_steps_65 (by decide) ?_
            exact ih K _ _ _ _ h hk hP hD hS (lv_sub hl [1, 2, 0] rfl)
      refine loop_47 fu _ _ _ _ _ h (fun l2_47e H locs ls h hP hD hS hl => ?_) hP hD hS (lv_sub hl [1, 2, 0] rfl)
      refine lv_aload_n hx hb dX8_steps_68 rfl (lv_at hl 0 rfl) ?_
      refine lv_iload_n hx hb dX8_steps_69 rfl (lv_at hl 1 rfl) ?_
      refine lv_iload_n hx hb dX8_steps_70 rfl (lv_at hl 2 rfl) ?_
      obtain ⟨y71_f_row, hc71, h⟩ := zb1_e h
      refine zcV (As := [.int l1_34, .int l2_47e]) (rest := []) (ws' := (w_X8_steps G a a_text a_clerk a_s a_kept a_isKept a_signed a_slips a_row a_best v_thrown v_trace v_typed v_next v_token v_place v_value v_fault v_clerks v_draftClerks v_draftLine v_signMany v_copies v_rowMany y71_f_row)) (st1 := []) ⟨hx, hb, hml, hown, hts⟩ (c_X8_changes l G a a_text a_clerk a_s a_kept a_isKept a_signed a_slips a_row a_best v_thrown v_trace v_typed v_next v_token v_place v_value v_fault v_clerks v_draftClerks v_draftLine v_signMany v_copies v_rowMany f_row_34 l1_34 l2_47e y71_f_row hc71) (cwV 2 hts gX8_steps_X8_changes rfl rfl rfl (by decide +kernel) ⟨Nat.le_of_ble_eq_true rfl, Nat.le_of_ble_eq_true rfl⟩) hK hE hP hD hS hA [0, 1] rfl rfl 0 8 rfl rfl rfl rfl rfl rfl hl.1 rfl (Nat.le_of_ble_eq_true rfl) dX8_steps_71 (Nat.zero_le _) (Nat.zero_le _) rfl (fun H locs hP hD hS => ?_)
      refine lv_iload_n hx hb dX8_steps_74 rfl (lv_at hl 1 rfl) ?_
      refine lv_iconst (v := (1 : Int32)) hx hb dX8_steps_75 (by decide) ?_
      refine lv_iadd hx hb dX8_steps_76 ?_
      refine lv_istore_n (lv' := [(3, .int (l1_34 + (1 : Int32))), (0, .ref a), (1, .int l1_34), (2, .int l2_47e)]) hx hb dX8_steps_77 rfl hl (by decide) rfl (fun ls hl => ?_)
      refine lv_aload_n hx hb dX8_steps_78 rfl (lv_at hl 1 rfl) ?_
      refine va_get (D := G.1) (ci := 8) (v := .int v_rowMany) (C := RX8) (T := TX8) (N := 23) hx hb hts in_X8_steps_X8 hown hK.1 hP 0 rfl rfl 22 (by decide) (hts (.fieldLink RX8 153 "NineHandsModel" "rowMany" "I") (by decide +kernel)) (fun _ h9 => h9) rfl dX8_steps_79 ?_
      refine lv_iconst (v := (1 : Int32)) hx hb dX8_steps_82 (by decide) ?_
      refine lv_isub hx hb dX8_steps_83 ?_
      refine lv_istore (lv' := [(4, .int (v_rowMany - (1 : Int32))), (3, .int (l1_34 + (1 : Int32))), (0, .ref a), (1, .int l1_34), (2, .int l2_47e)]) hx hb dX8_steps_84 hl (by decide) rfl (fun ls hl => ?_)
      have loop_86 : ∀ (n : Nat) (K : (Nat → Int32) → Option (Int32 × (Nat → Int32))) (l3_86 : Int32) (l4_86 : Int32) (f_row_86 : (Nat → Int32)) (H : Heap) (locs : List Loc) (ls : Array Slot), fX8_steps_L86 fu K n l3_86 l4_86 f_row_86 = some (rv, of_row) → (∀ (f_row_86e : (Nat → Int32)) (H : Heap) (locs : List Loc) (ls : Array Slot), K f_row_86e = some (rv, of_row) → va_P G.1 vwCl (w_X8_steps G a a_text a_clerk a_s a_kept a_isKept a_signed a_slips a_row a_best v_thrown v_trace v_typed v_next v_token v_place v_value v_fault v_clerks v_draftClerks v_draftLine v_signMany v_copies v_rowMany f_row_86e) H → va_D A (w_X8_steps G a a_text a_clerk a_s a_kept a_isKept a_signed a_slips a_row a_best v_thrown v_trace v_typed v_next v_token v_place v_value v_fault v_clerks v_draftClerks v_draftLine v_signMany v_copies v_rowMany f_row_86e) → va_S A s.heap H locs → lv_has ls 5 [] → W p l e (headSpec wsX8_steps { frames := 1, cells := 0, slots := 0, locals := 23 }).room s m ([.ref a] : List Value).toArray below meth c H locs 0 0 (MQ below (zQ (some (.int rv)) G (w_X8_steps G a a_text a_clerk a_s a_kept a_isKept a_signed a_slips a_row a_best v_thrown v_trace v_typed v_next v_token v_place v_value v_fault v_clerks v_draftClerks v_draftLine v_signMany v_copies v_rowMany of_row) A) ([.ref a] : List Value).toArray s 0 0 A) (F0 m 108 ls [])) → va_P G.1 vwCl (w_X8_steps G a a_text a_clerk a_s a_kept a_isKept a_signed a_slips a_row a_best v_thrown v_trace v_typed v_next v_token v_place v_value v_fault v_clerks v_draftClerks v_draftLine v_signMany v_copies v_rowMany f_row_86) H → va_D A (w_X8_steps G a a_text a_clerk a_s a_kept a_isKept a_signed a_slips a_row a_best v_thrown v_trace v_typed v_next v_token v_place v_value v_fault v_clerks v_draftClerks v_draftLine v_signMany v_copies v_rowMany f_row_86) → va_S A s.heap H locs → lv_has ls 5 [(0, .ref a), (3, .int l3_86), (4, .int l4_86)] → W p l e (headSpec wsX8_steps { frames := 1, cells := 0, slots := 0, locals := 23 }).room s m ([.ref a] : List Value).toArray below meth c H locs 0 0 (MQ below (zQ (some (.int rv)) G (w_X8_steps G a a_text a_clerk a_s a_kept a_isKept a_signed a_slips a_row a_best v_thrown v_trace v_typed v_next v_token v_place v_value v_fault v_clerks v_draftClerks v_draftLine v_signMany v_copies v_rowMany of_row) A) ([.ref a] : List Value).toArray s 0 0 A) (F0 m 86 ls []) := by
        intro n
        induction n with
        | zero => intro K l3_86 l4_86 f_row_86 H locs ls h; rw [fX8_steps_L86] at h; cases h
        | succ n ih =>
          intro K l3_86 l4_86 f_row_86 H locs ls h hk hP hD hS hl
          rw [fX8_steps_L86] at h
          refine lv_iload_n hx hb dX8_steps_86 rfl (lv_at hl 1 rfl) ?_
          refine lv_iload hx hb dX8_steps_87 (lv_at hl 2 rfl) ?_
          refine lv_icmp_ge (tgt := 108) hx hb dX8_steps_89 (by decide) (fun c89 => ?_) (fun c89 => ?_)
          · have h := zt c89 h
            exact hk _ _ _ _ h hP hD hS (lv_sub hl [] rfl)
          · have h := zf c89 h
            refine lv_aload_n hx hb dX8_steps_92 rfl (lv_at hl 0 rfl) ?_
            refine lv_iload_n hx hb dX8_steps_93 rfl (lv_at hl 1 rfl) ?_
            refine lv_iload hx hb dX8_steps_94 (lv_at hl 2 rfl) ?_
            obtain ⟨y96_f_row, hc96, h⟩ := zb1_e h
            refine zcV (As := [.int l3_86, .int l4_86]) (rest := []) (ws' := (w_X8_steps G a a_text a_clerk a_s a_kept a_isKept a_signed a_slips a_row a_best v_thrown v_trace v_typed v_next v_token v_place v_value v_fault v_clerks v_draftClerks v_draftLine v_signMany v_copies v_rowMany y96_f_row)) (st1 := []) ⟨hx, hb, hml, hown, hts⟩ (c_X8_changes l G a a_text a_clerk a_s a_kept a_isKept a_signed a_slips a_row a_best v_thrown v_trace v_typed v_next v_token v_place v_value v_fault v_clerks v_draftClerks v_draftLine v_signMany v_copies v_rowMany f_row_86 l3_86 l4_86 y96_f_row hc96) (cwV 2 hts gX8_steps_X8_changes rfl rfl rfl (by decide +kernel) ⟨Nat.le_of_ble_eq_true rfl, Nat.le_of_ble_eq_true rfl⟩) hK hE hP hD hS hA [0, 1] rfl rfl 0 8 rfl rfl rfl rfl rfl rfl hl.1 rfl (Nat.le_of_ble_eq_true rfl) dX8_steps_96 (Nat.zero_le _) (Nat.zero_le _) rfl (fun H locs hP hD hS => ?_)
            refine lv_iinc (v := (l3_86 + (1 : Int32))) (lv' := [(3, .int (l3_86 + (1 : Int32))), (0, .ref a), (4, .int l4_86)]) hx hb dX8_steps_99 hl (k := 1) rfl rfl (by decide) rfl (fun ls hl => ?_)
            refine lv_iinc (v := (l4_86 + ((-1) : Int32))) (lv' := [(4, .int (l4_86 + ((-1) : Int32))), (3, .int (l3_86 + (1 : Int32))), (0, .ref a)]) hx hb dX8_steps_102 hl (k := 2) rfl rfl (by decide) rfl (fun ls hl => ?_)
            refine lv_goto (tgt := 86) hx hb dX8_steps_105 (by decide) ?_
            exact ih K _ _ _ _ _ _ h hk hP hD hS (lv_sub hl [2, 1, 0] rfl)
      refine loop_86 fu _ _ _ _ _ _ _ h (fun f_row_86e H locs ls h hP hD hS hl => ?_) hP hD hS (lv_sub hl [2, 1, 0] rfl)
      refine lv_iconst (v := (1 : Int32)) hx hb dX8_steps_108 (by decide) ?_
      cases h
      exact W.zret (ty := .boolean) hx hb hr rfl (fun t9 ht9 _ => zend hP hD hS ht9) hS.2.2 dX8_steps_109
    · have h := zf c35 h
      refine lv_iconst (v := (0 : Int32)) hx hb dX8_steps_38 (by decide) ?_
      cases h
      exact W.zret (ty := .boolean) hx hb hr rfl (fun t9 ht9 _ => zend hP hD hS ht9) hS.2.2 dX8_steps_39
  refine lv_aload_n hx hb dX8_steps_0 rfl (lv_at hl 0 rfl) ?_
  refine va_get (D := G.1) (ci := 8) (v := .int v_rowMany) (C := RX8) (T := TX8) (N := 23) hx hb hts in_X8_steps_X8 hown hK.1 hP 0 rfl rfl 22 (by decide) (hts (.fieldLink RX8 153 "NineHandsModel" "rowMany" "I") (by decide +kernel)) (fun _ h9 => h9) rfl dX8_steps_1 ?_
  refine lv_iconst (v := (2 : Int32)) hx hb dX8_steps_4 (by decide) ?_
  refine lv_isub hx hb dX8_steps_5 ?_
  refine lv_istore_n (lv' := [(1, .int (v_rowMany - (2 : Int32))), (0, .ref a)]) hx hb dX8_steps_6 rfl hl (by decide) rfl (fun ls hl => ?_)
  have loop_7 : ∀ (n : Nat) (K : Int32 → Option (Int32 × (Nat → Int32))) (l1_7 : Int32) (H : Heap) (locs : List Loc) (ls : Array Slot), fX8_steps_L7 fu f_row K n l1_7 = some (rv, of_row) → (∀ (l1_7e : Int32) (H : Heap) (locs : List Loc) (ls : Array Slot), K l1_7e = some (rv, of_row) → va_P G.1 vwCl (w_X8_steps G a a_text a_clerk a_s a_kept a_isKept a_signed a_slips a_row a_best v_thrown v_trace v_typed v_next v_token v_place v_value v_fault v_clerks v_draftClerks v_draftLine v_signMany v_copies v_rowMany f_row) H → va_D A (w_X8_steps G a a_text a_clerk a_s a_kept a_isKept a_signed a_slips a_row a_best v_thrown v_trace v_typed v_next v_token v_place v_value v_fault v_clerks v_draftClerks v_draftLine v_signMany v_copies v_rowMany f_row) → va_S A s.heap H locs → lv_has ls 5 [(0, .ref a), (1, .int l1_7e)] → W p l e (headSpec wsX8_steps { frames := 1, cells := 0, slots := 0, locals := 23 }).room s m ([.ref a] : List Value).toArray below meth c H locs 0 0 (MQ below (zQ (some (.int rv)) G (w_X8_steps G a a_text a_clerk a_s a_kept a_isKept a_signed a_slips a_row a_best v_thrown v_trace v_typed v_next v_token v_place v_value v_fault v_clerks v_draftClerks v_draftLine v_signMany v_copies v_rowMany of_row) A) ([.ref a] : List Value).toArray s 0 0 A) (F0 m 34 ls [])) → va_P G.1 vwCl (w_X8_steps G a a_text a_clerk a_s a_kept a_isKept a_signed a_slips a_row a_best v_thrown v_trace v_typed v_next v_token v_place v_value v_fault v_clerks v_draftClerks v_draftLine v_signMany v_copies v_rowMany f_row) H → va_D A (w_X8_steps G a a_text a_clerk a_s a_kept a_isKept a_signed a_slips a_row a_best v_thrown v_trace v_typed v_next v_token v_place v_value v_fault v_clerks v_draftClerks v_draftLine v_signMany v_copies v_rowMany f_row) → va_S A s.heap H locs → lv_has ls 5 [(0, .ref a), (1, .int l1_7)] → W p l e (headSpec wsX8_steps { frames := 1, cells := 0, slots := 0, locals := 23 }).room s m ([.ref a] : List Value).toArray below meth c H locs 0 0 (MQ below (zQ (some (.int rv)) G (w_X8_steps G a a_text a_clerk a_s a_kept a_isKept a_signed a_slips a_row a_best v_thrown v_trace v_typed v_next v_token v_place v_value v_fault v_clerks v_draftClerks v_draftLine v_signMany v_copies v_rowMany of_row) A) ([.ref a] : List Value).toArray s 0 0 A) (F0 m 7 ls []) := by
    intro n
    induction n with
    | zero => intro K l1_7 H locs ls h; rw [fX8_steps_L7] at h; cases h
    | succ n ih =>
      intro K l1_7 H locs ls h hk hP hD hS hl
      rw [fX8_steps_L7] at h
      refine lv_iload_n hx hb dX8_steps_7 rfl (lv_at hl 1 rfl) ?_
      refine lv_if_lt (tgt := 34) hx hb dX8_steps_8 (by decide) (fun c8 => ?_) (fun c8 => ?_)
      · have h := zt c8 h
        exact hk _ _ _ _ h hP hD hS (lv_sub hl [0, 1] rfl)
      · have h := zf c8 h
        refine lv_aload_n hx hb dX8_steps_11 rfl (lv_at hl 0 rfl) ?_
        refine va_get (D := G.1) (ci := 8) (v := .ref a_row) (C := RX8) (T := TX8) (N := 23) hx hb hts in_X8_steps_X8 hown hK.1 hP 0 rfl rfl 20 (by decide) (hts (.fieldLink RX8 32 "NineHandsModel" "row" "[I") (by decide +kernel)) (fun _ h9 => h9) rfl dX8_steps_12 ?_
        refine lv_iload_n hx hb dX8_steps_15 rfl (lv_at hl 1 rfl) ?_
        obtain ⟨g16, h⟩ := zg h
        refine zald hx hb hK.1 hP 1 0 rfl rfl g16 (j := (l1_7).toNatClampNeg) rfl dX8_steps_16 ?_
        refine lv_aload_n hx hb dX8_steps_17 rfl (lv_at hl 0 rfl) ?_
        refine va_get (D := G.1) (ci := 8) (v := .ref a_row) (C := RX8) (T := TX8) (N := 23) hx hb hts in_X8_steps_X8 hown hK.1 hP 0 rfl rfl 20 (by decide) (hts (.fieldLink RX8 32 "NineHandsModel" "row" "[I") (by decide +kernel)) (fun _ h9 => h9) rfl dX8_steps_18 ?_
        refine lv_iload_n hx hb dX8_steps_21 rfl (lv_at hl 1 rfl) ?_
        refine lv_iconst (v := (1 : Int32)) hx hb dX8_steps_22 (by decide) ?_
        refine lv_iadd hx hb dX8_steps_23 ?_
        obtain ⟨g24, h⟩ := zg h
        refine zald hx hb hK.1 hP 1 0 rfl rfl g24 (j := ((l1_7 + (1 : Int32))).toNatClampNeg) rfl dX8_steps_24 ?_
        refine lv_icmp_le (tgt := 34) hx hb dX8_steps_25 (by decide) (fun c25 => ?_) (fun c25 => ?_)
        · have h := zt c25 h
          exact hk _ _ _ _ h hP hD hS (lv_sub hl [0, 1] rfl)
        · have h := zf c25 h
          refine lv_iinc (v := (l1_7 + ((-1) : Int32))) (lv' := [(1, .int (l1_7 + ((-1) : Int32))), (0, .ref a)]) hx hb dX8_steps_28 hl (k := 1) rfl rfl (by decide) rfl (fun ls hl => ?_)
          refine lv_goto (tgt := 7) hx hb dX8_steps_31 (by decide) ?_
          exact ih K _ _ _ _ h hk hP hD hS (lv_sub hl [1, 0] rfl)
  refine loop_7 fu _ _ _ _ _ h (fun l1_7e H locs ls h hP hD hS hl => ?_) hP hD hS (lv_sub hl [1, 0] rfl)
  exact join_34 _ _ _ _ _ h hP hD hS (lv_sub hl [0, 1] rfl)
abbrev w_X8_farBy (G : zG) (a : Nat) (a_text : Nat) (a_clerk : Nat) (a_s : Nat) (a_kept : Nat) (a_isKept : Nat) (a_signed : Nat) (a_slips : Nat) (a_row : Nat) (a_best : Nat) (v_thrown : Int32) (v_trace : Int64) (v_typed : Int32) (v_next : Int32) (v_token : Int32) (v_place : Int32) (v_value : Int32) (v_fault : Int32) (v_clerks : Int32) (v_draftClerks : Int32) (v_draftLine : Int32) (v_signMany : Int32) (v_copies : Int32) (v_rowMany : Int32) (f_clerk : (Nat → Int32)) (f_s : (Nat → Int32)) (f_row : (Nat → Int32)) : va_W := [(a, .inr (8, [.int v_thrown, .long v_trace, .ref a_text, .int v_typed, .int v_next, .int v_token, .int v_place, .int v_value, .int v_fault, .ref a_clerk, .int v_clerks, .int v_draftClerks, .int v_draftLine, .ref a_s, .ref a_kept, .ref a_isKept, .ref a_signed, .int v_signMany, .ref a_slips, .int v_copies, .ref a_row, .ref a_best, .int v_rowMany])), (a_clerk, .inl (zCI G, 48, .inl f_clerk)), (a_s, .inl (zCI G, 22, .inl f_s)), (a_row, .inl (zCI G, 6, .inl f_row))]
theorem in_X8_farBy_X8 : ∀ w ∈ wsX80, w ∈ wsX8_farBy := by decide +kernel
set_option maxHeartbeats 4000000 in
set_option maxRecDepth 100000 in
theorem c_X8_farBy (l : Launch) (G : zG) (fu : Nat) (a : Nat) (a_text : Nat) (a_clerk : Nat) (a_s : Nat) (a_kept : Nat) (a_isKept : Nat) (a_signed : Nat) (a_slips : Nat) (a_row : Nat) (a_best : Nat) (v_thrown : Int32) (v_trace : Int64) (v_typed : Int32) (v_next : Int32) (v_token : Int32) (v_place : Int32) (v_value : Int32) (v_fault : Int32) (v_clerks : Int32) (v_draftClerks : Int32) (v_draftLine : Int32) (v_signMany : Int32) (v_copies : Int32) (v_rowMany : Int32) (f_clerk : (Nat → Int32)) (f_s : (Nat → Int32)) (f_row : (Nat → Int32)) (x1 : Int32) (rv : Int32) (h : fX8_farBy fu v_rowMany f_clerk f_s f_row x1 = some rv) : zC l yX8_farBy wsX8_farBy 1 23 G [.ref a, .int x1] (w_X8_farBy G a a_text a_clerk a_s a_kept a_isKept a_signed a_slips a_row a_best v_thrown v_trace v_typed v_next v_token v_place v_value v_fault v_clerks v_draftClerks v_draftLine v_signMany v_copies v_rowMany f_clerk f_s f_row) (some (.int rv)) (w_X8_farBy G a a_text a_clerk a_s a_kept a_isKept a_signed a_slips a_row a_best v_thrown v_trace v_typed v_next v_token v_place v_value v_fault v_clerks v_draftClerks v_draftLine v_signMany v_copies v_rowMany f_clerk f_s f_row) := by
  refine fun sz => Met.ofW (cc := cX8_farBy) (maxL := 6) (ret := (some .int)) (by decide) rfl ?_
  intro p e s m args below meth c s₁ B hml hv
  obtain ⟨rfl, hsz, hP, hK, hD0, hE⟩ := hv
  have hx := B.exec
  have hb := B.bytes
  have hr := B.returns
  have hts := atoms_spec (ws := wsX8_farBy) B.pre
  have hown : s.vm.findClass RX8 = some m.cls := findClass_of_methodNamed B.named
  have hlocks := B.notSynchronized
  subst hsz
  have hD := hD0.self (sz := s.heap.size)
  generalize hAe : va_A (w_X8_farBy G a a_text a_clerk a_s a_kept a_isKept a_signed a_slips a_row a_best v_thrown v_trace v_typed v_next v_token v_place v_value v_fault v_clerks v_draftClerks v_draftLine v_signMany v_copies v_rowMany f_clerk f_s f_row) s.heap.size = A at hD hE ⊢
  have hA : ∀ q : Nat, s.heap.size ≤ q → A q := fun q h => by rw [← hAe]; exact Or.inr h
  have hS : va_S A s.heap s.heap [] := va_S.rf
  have hl := lv_entry ([.ref a, .int x1]) (n := 6) (Nat.le_of_ble_eq_true rfl)
  rw [lg_entry_eq]
  generalize (lg_sl ([.ref a, .int x1]) ++ List.replicate (6 - (lg_sl ([.ref a, .int x1])).length) Slot.unset).toArray = ls at hl ⊢
  have hl : lv_has ls 6 [(0, .ref a), (1, .int x1)] := hl
  have hP : va_P G.1 vwCl (w_X8_farBy G a a_text a_clerk a_s a_kept a_isKept a_signed a_slips a_row a_best v_thrown v_trace v_typed v_next v_token v_place v_value v_fault v_clerks v_draftClerks v_draftLine v_signMany v_copies v_rowMany f_clerk f_s f_row) s.heap := hP
  rw [fX8_farBy] at h
  refine lv_aload_n hx hb dX8_farBy_0 rfl (lv_at hl 0 rfl) ?_
  obtain ⟨y1, hc1, h⟩ := zb1_e h
  refine zcV (As := []) (rest := []) (ws' := (w_X8_farBy G a a_text a_clerk a_s a_kept a_isKept a_signed a_slips a_row a_best v_thrown v_trace v_typed v_next v_token v_place v_value v_fault v_clerks v_draftClerks v_draftLine v_signMany v_copies v_rowMany f_clerk f_s f_row)) (st1 := [.int y1]) ⟨hx, hb, hml, hown, hts⟩ (c_X8_last l G a a_text a_clerk a_s a_kept a_isKept a_signed a_slips a_row a_best v_thrown v_trace v_typed v_next v_token v_place v_value v_fault v_clerks v_draftClerks v_draftLine v_signMany v_copies v_rowMany f_s y1 hc1) (cwV 0 hts gX8_farBy_X8_last rfl rfl rfl (by decide +kernel) ⟨Nat.le_of_ble_eq_true rfl, Nat.le_of_ble_eq_true rfl⟩) hK hE hP hD hS hA [0, 2] rfl rfl 0 8 rfl rfl rfl rfl rfl rfl hl.1 rfl (Nat.le_of_ble_eq_true rfl) dX8_farBy_1 (Nat.zero_le _) (Nat.zero_le _) rfl (fun H locs hP hD hS => ?_)
  refine lv_bipush (v := (10 : Int32)) hx hb dX8_farBy_4 (by decide) ?_
  refine lv_irem hx hb dX8_farBy_6 (by decide) ?_
  refine lv_istore_n (lv' := [(2, .int (y1 - y1 / (10 : Int32) * (10 : Int32))), (0, .ref a), (1, .int x1)]) hx hb dX8_farBy_7 rfl hl (by decide) rfl (fun ls hl => ?_)
  refine lv_iload_n hx hb dX8_farBy_8 rfl (lv_at hl 0 rfl) ?_
  refine lv_istore_n (lv' := [(3, .int (y1 - y1 / (10 : Int32) * (10 : Int32))), (2, .int (y1 - y1 / (10 : Int32) * (10 : Int32))), (0, .ref a), (1, .int x1)]) hx hb dX8_farBy_9 rfl hl (by decide) rfl (fun ls hl => ?_)
  refine lv_iconst (v := (0 : Int32)) hx hb dX8_farBy_10 (by decide) ?_
  refine lv_istore (lv' := [(4, .int (0 : Int32)), (3, .int (y1 - y1 / (10 : Int32) * (10 : Int32))), (2, .int (y1 - y1 / (10 : Int32) * (10 : Int32))), (0, .ref a), (1, .int x1)]) hx hb dX8_farBy_11 hl (by decide) rfl (fun ls hl => ?_)
  refine lv_iconst (v := (0 : Int32)) hx hb dX8_farBy_13 (by decide) ?_
  refine lv_istore (lv' := [(5, .int (0 : Int32)), (4, .int (0 : Int32)), (3, .int (y1 - y1 / (10 : Int32) * (10 : Int32))), (2, .int (y1 - y1 / (10 : Int32) * (10 : Int32))), (0, .ref a), (1, .int x1)]) hx hb dX8_farBy_14 hl (by decide) rfl (fun ls hl => ?_)
  have loop_16 : ∀ (n : Nat) (K : Int32 → Int32 → Option Int32) (l3_16 : Int32) (l4_16 : Int32) (l5_16 : Int32) (H : Heap) (locs : List Loc) (ls : Array Slot), fX8_farBy_L16 fu x1 (y1 - y1 / (10 : Int32) * (10 : Int32)) v_rowMany f_clerk f_row K n l3_16 l4_16 l5_16 = some rv → (∀ (l3_16e : Int32) (l4_16e : Int32) (H : Heap) (locs : List Loc) (ls : Array Slot), K l3_16e l4_16e = some rv → va_P G.1 vwCl (w_X8_farBy G a a_text a_clerk a_s a_kept a_isKept a_signed a_slips a_row a_best v_thrown v_trace v_typed v_next v_token v_place v_value v_fault v_clerks v_draftClerks v_draftLine v_signMany v_copies v_rowMany f_clerk f_s f_row) H → va_D A (w_X8_farBy G a a_text a_clerk a_s a_kept a_isKept a_signed a_slips a_row a_best v_thrown v_trace v_typed v_next v_token v_place v_value v_fault v_clerks v_draftClerks v_draftLine v_signMany v_copies v_rowMany f_clerk f_s f_row) → va_S A s.heap H locs → lv_has ls 6 [(1, .int x1), (3, .int l3_16e), (4, .int l4_16e)] → W p l e (headSpec wsX8_farBy { frames := 1, cells := 0, slots := 0, locals := 23 }).room s m ([.ref a, .int x1] : List Value).toArray below meth c H locs 0 0 (MQ below (zQ (some (.int rv)) G (w_X8_farBy G a a_text a_clerk a_s a_kept a_isKept a_signed a_slips a_row a_best v_thrown v_trace v_typed v_next v_token v_place v_value v_fault v_clerks v_draftClerks v_draftLine v_signMany v_copies v_rowMany f_clerk f_s f_row) A) ([.ref a, .int x1] : List Value).toArray s 0 0 A) (F0 m 68 ls [])) → va_P G.1 vwCl (w_X8_farBy G a a_text a_clerk a_s a_kept a_isKept a_signed a_slips a_row a_best v_thrown v_trace v_typed v_next v_token v_place v_value v_fault v_clerks v_draftClerks v_draftLine v_signMany v_copies v_rowMany f_clerk f_s f_row) H → va_D A (w_X8_farBy G a a_text a_clerk a_s a_kept a_isKept a_signed a_slips a_row a_best v_thrown v_trace v_typed v_next v_token v_place v_value v_fault v_clerks v_draftClerks v_draftLine v_signMany v_copies v_rowMany f_clerk f_s f_row) → va_S A s.heap H locs → lv_has ls 6 [(0, .ref a), (1, .int x1), (2, .int (y1 - y1 / (10 : Int32) * (10 : Int32))), (3, .int l3_16), (4, .int l4_16), (5, .int l5_16)] → W p l e (headSpec wsX8_farBy { frames := 1, cells := 0, slots := 0, locals := 23 }).room s m ([.ref a, .int x1] : List Value).toArray below meth c H locs 0 0 (MQ below (zQ (some (.int rv)) G (w_X8_farBy G a a_text a_clerk a_s a_kept a_isKept a_signed a_slips a_row a_best v_thrown v_trace v_typed v_next v_token v_place v_value v_fault v_clerks v_draftClerks v_draftLine v_signMany v_copies v_rowMany f_clerk f_s f_row) A) ([.ref a, .int x1] : List Value).toArray s 0 0 A) (F0 m 16 ls []) := by
    intro n
    induction n with
    | zero => intro K l3_16 l4_16 l5_16 H locs ls h; rw [fX8_farBy_L16] at h; cases h
    | succ n ih =>
      intro K l3_16 l4_16 l5_16 H locs ls h hk hP hD hS hl
      rw [fX8_farBy_L16] at h
      refine lv_iload hx hb dX8_farBy_16 (lv_at hl 5 rfl) ?_
      refine lv_aload_n hx hb dX8_farBy_18 rfl (lv_at hl 0 rfl) ?_
      refine va_get (D := G.1) (ci := 8) (v := .int v_rowMany) (C := RX8) (T := TX8) (N := 23) hx hb hts in_X8_farBy_X8 hown hK.1 hP 0 rfl rfl 22 (by decide) (hts (.fieldLink RX8 153 "NineHandsModel" "rowMany" "I") (by decide +kernel)) (fun _ h9 => h9) rfl dX8_farBy_19 ?_
      refine lv_icmp_ge (tgt := 68) hx hb dX8_farBy_22 (by decide) (fun c22 => ?_) (fun c22 => ?_)
      · have h := zt c22 h
        exact hk _ _ _ _ _ h hP hD hS (lv_sub hl [1, 3, 4] rfl)
      · have h := zf c22 h
        refine lv_aload_n hx hb dX8_farBy_25 rfl (lv_at hl 0 rfl) ?_
        refine lv_aload_n hx hb dX8_farBy_26 rfl (lv_at hl 0 rfl) ?_
        refine va_get (D := G.1) (ci := 8) (v := .ref a_row) (C := RX8) (T := TX8) (N := 23) hx hb hts in_X8_farBy_X8 hown hK.1 hP 0 rfl rfl 20 (by decide) (hts (.fieldLink RX8 32 "NineHandsModel" "row" "[I") (by decide +kernel)) (fun _ h9 => h9) rfl dX8_farBy_27 ?_
        refine lv_iload hx hb dX8_farBy_30 (lv_at hl 5 rfl) ?_
        obtain ⟨g32, h⟩ := zg h
        refine zald hx hb hK.1 hP 3 0 rfl rfl g32 (j := (l5_16).toNatClampNeg) rfl dX8_farBy_32 ?_
        refine lv_iload_n hx hb dX8_farBy_33 rfl (lv_at hl 3 rfl) ?_
        obtain ⟨y34, hc34, h⟩ := zb1_e h
        refine zcV (As := [.int (f_row (l5_16).toNatClampNeg), .int l3_16]) (rest := []) (ws' := (w_X8_farBy G a a_text a_clerk a_s a_kept a_isKept a_signed a_slips a_row a_best v_thrown v_trace v_typed v_next v_token v_place v_value v_fault v_clerks v_draftClerks v_draftLine v_signMany v_copies v_rowMany f_clerk f_s f_row)) (st1 := [.int y34]) ⟨hx, hb, hml, hown, hts⟩ (c_X8_toneBy l G a a_text a_clerk a_s a_kept a_isKept a_signed a_slips a_row a_best v_thrown v_trace v_typed v_next v_token v_place v_value v_fault v_clerks v_draftClerks v_draftLine v_signMany v_copies v_rowMany f_clerk (f_row (l5_16).toNatClampNeg) l3_16 y34 hc34) (cwV 2 hts gX8_farBy_X8_toneBy rfl rfl rfl (by decide +kernel) ⟨Nat.le_of_ble_eq_true rfl, Nat.le_of_ble_eq_true rfl⟩) hK hE hP hD hS hA [0, 1] rfl rfl 0 8 rfl rfl rfl rfl rfl rfl hl.1 rfl (Nat.le_of_ble_eq_true rfl) dX8_farBy_34 (Nat.zero_le _) (Nat.zero_le _) rfl (fun H locs hP hD hS => ?_)
        refine lv_istore_n (lv' := [(3, .int y34), (0, .ref a), (1, .int x1), (2, .int (y1 - y1 / (10 : Int32) * (10 : Int32))), (4, .int l4_16), (5, .int l5_16)]) hx hb dX8_farBy_37 rfl hl (by decide) rfl (fun ls hl => ?_)
        refine lv_iload_n hx hb dX8_farBy_38 rfl (lv_at hl 0 rfl) ?_
        refine lv_iload_n hx hb dX8_farBy_39 rfl (lv_at hl 3 rfl) ?_
        refine lv_isub hx hb dX8_farBy_40 ?_
        obtain ⟨y41, hc41, h⟩ := zb1_e h
        refine zcS (As := [.int (y34 - (y1 - y1 / (10 : Int32) * (10 : Int32)))]) (rest := []) (ws' := (w_X8_farBy G a a_text a_clerk a_s a_kept a_isKept a_signed a_slips a_row a_best v_thrown v_trace v_typed v_next v_token v_place v_value v_fault v_clerks v_draftClerks v_draftLine v_signMany v_copies v_rowMany f_clerk f_s f_row)) (st1 := [.int y41]) ⟨hx, hb, hml, hown, hts⟩ (c_X8_size l G (y34 - (y1 - y1 / (10 : Int32) * (10 : Int32))) y41 hc41) (va_cwS 1 hts gX8_farBy_X8_size rfl rfl rfl (by decide +kernel) ⟨Nat.le_of_ble_eq_true rfl, Nat.le_of_ble_eq_true rfl⟩) hK hE hP hD hS hA [] rfl rfl rfl rfl rfl hl.1 rfl (Nat.le_of_ble_eq_true rfl) dX8_farBy_41 (Nat.zero_le _) (Nat.zero_le _) rfl (fun H locs hP hD hS => ?_)
        refine lv_iload hx hb dX8_farBy_44 (lv_at hl 4 rfl) ?_
        refine lv_icmp_le (tgt := 58) hx hb dX8_farBy_46 (by decide) (fun c46 => ?_) (fun c46 => ?_)
        · have h := zt c46 h
          refine lv_iload hx hb dX8_farBy_58 (lv_at hl 4 rfl) ?_
          refine lv_istore (lv' := [(4, .int l4_16), (3, .int y34), (0, .ref a), (1, .int x1), (2, .int (y1 - y1 / (10 : Int32) * (10 : Int32))), (5, .int l5_16)]) hx hb dX8_farBy_60 hl (by decide) rfl (fun ls hl => ?_)
          refine lv_iinc (v := (l5_16 + (1 : Int32))) (lv' := [(5, .int (l5_16 + (1 : Int32))), (4, .int l4_16), (3, .int y34), (0, .ref a), (1, .int x1), (2, .int (y1 - y1 / (10 : Int32) * (10 : Int32)))]) hx hb dX8_farBy_62 hl (k := 5) rfl rfl (by decide) rfl (fun ls hl => ?_)
          refine lv_goto (tgt := 16) hx hb dX8_farBy_65 (by decide) ?_
          exact ih K _ _ _ _ _ _ h hk hP hD hS (lv_sub hl [3, 4, 5, 2, 1, 0] rfl)
        · have h := zf c46 h
          refine lv_iload_n hx hb dX8_farBy_49 rfl (lv_at hl 0 rfl) ?_
          refine lv_iload_n hx hb dX8_farBy_50 rfl (lv_at hl 3 rfl) ?_
          refine lv_isub hx hb dX8_farBy_51 ?_
          obtain ⟨y52, hc52, h⟩ := zb1_e h
          refine zcS (As := [.int (y34 - (y1 - y1 / (10 : Int32) * (10 : Int32)))]) (rest := []) (ws' := (w_X8_farBy G a a_text a_clerk a_s a_kept a_isKept a_signed a_slips a_row a_best v_thrown v_trace v_typed v_next v_token v_place v_value v_fault v_clerks v_draftClerks v_draftLine v_signMany v_copies v_rowMany f_clerk f_s f_row)) (st1 := [.int y52]) ⟨hx, hb, hml, hown, hts⟩ (c_X8_size l G (y34 - (y1 - y1 / (10 : Int32) * (10 : Int32))) y52 hc52) (va_cwS 1 hts gX8_farBy_X8_size rfl rfl rfl (by decide +kernel) ⟨Nat.le_of_ble_eq_true rfl, Nat.le_of_ble_eq_true rfl⟩) hK hE hP hD hS hA [] rfl rfl rfl rfl rfl hl.1 rfl (Nat.le_of_ble_eq_true rfl) dX8_farBy_52 (Nat.zero_le _) (Nat.zero_le _) rfl (fun H locs hP hD hS => ?_)
          refine lv_goto (tgt := 60) hx hb dX8_farBy_55 (by decide) ?_
          refine lv_istore (lv' := [(4, .int y52), (3, .int y34), (0, .ref a), (1, .int x1), (2, .int (y1 - y1 / (10 : Int32) * (10 : Int32))), (5, .int l5_16)]) hx hb dX8_farBy_60 hl (by decide) rfl (fun ls hl => ?_)
          refine lv_iinc (v := (l5_16 + (1 : Int32))) (lv' := [(5, .int (l5_16 + (1 : Int32))), (4, .int y52), (3, .int y34), (0, .ref a), (1, .int x1), (2, .int (y1 - y1 / (10 : Int32) * (10 : Int32)))]) hx hb dX8_farBy_62 hl (k := 5) rfl rfl (by decide) rfl (fun ls hl => ?_)
          refine lv_goto (tgt := 16) hx hb dX8_farBy_65 (by decide) ?_
          exact ih K _ _ _ _ _ _ h hk hP hD hS (lv_sub hl [3, 4, 5, 2, 1, 0] rfl)
  refine loop_16 fu _ _ _ _ _ _ _ h (fun l3_16e l4_16e H locs ls h hP hD hS hl => ?_) hP hD hS (lv_sub hl [4, 5, 3, 2, 1, 0] rfl)
  refine lv_iload_n hx hb dX8_farBy_68 rfl (lv_at hl 0 rfl) ?_
  refine lv_if_ge (tgt := 77) hx hb dX8_farBy_69 (by decide) (fun c69 => ?_) (fun c69 => ?_)
  · have h := zt c69 h
    refine lv_iload_n hx hb dX8_farBy_77 rfl (lv_at hl 1 rfl) ?_
    refine lv_iload_n hx hb dX8_farBy_78 rfl (lv_at hl 0 rfl) ?_
    refine lv_isub hx hb dX8_farBy_79 ?_
    obtain ⟨y80, hc80, h⟩ := zb1_e h
    refine zcS (As := [.int (l3_16e - x1)]) (rest := []) (ws' := (w_X8_farBy G a a_text a_clerk a_s a_kept a_isKept a_signed a_slips a_row a_best v_thrown v_trace v_typed v_next v_token v_place v_value v_fault v_clerks v_draftClerks v_draftLine v_signMany v_copies v_rowMany f_clerk f_s f_row)) (st1 := [.int y80]) ⟨hx, hb, hml, hown, hts⟩ (c_X8_size l G (l3_16e - x1) y80 hc80) (va_cwS 1 hts gX8_farBy_X8_size rfl rfl rfl (by decide +kernel) ⟨Nat.le_of_ble_eq_true rfl, Nat.le_of_ble_eq_true rfl⟩) hK hE hP hD hS hA [] rfl rfl rfl rfl rfl hl.1 rfl (Nat.le_of_ble_eq_true rfl) dX8_farBy_80 (Nat.zero_le _) (Nat.zero_le _) rfl (fun H locs hP hD hS => ?_)
    cases h
    exact W.iret hx hb hr (fun t9 ht9 _ => zend hP hD hS ht9) hS.2.2 dX8_farBy_83
  · have h := zf c69 h
    refine lv_iload hx hb dX8_farBy_72 (lv_at hl 2 rfl) ?_
    refine lv_goto (tgt := 83) hx hb dX8_farBy_74 (by decide) ?_
    cases h
    exact W.iret hx hb hr (fun t9 ht9 _ => zend hP hD hS ht9) hS.2.2 dX8_farBy_83
abbrev w_X8_bestRow (G : zG) (a : Nat) (a_text : Nat) (a_clerk : Nat) (a_s : Nat) (a_kept : Nat) (a_isKept : Nat) (a_signed : Nat) (a_slips : Nat) (a_row : Nat) (a_best : Nat) (v_thrown : Int32) (v_trace : Int64) (v_typed : Int32) (v_next : Int32) (v_token : Int32) (v_place : Int32) (v_value : Int32) (v_fault : Int32) (v_clerks : Int32) (v_draftClerks : Int32) (v_draftLine : Int32) (v_signMany : Int32) (v_copies : Int32) (v_rowMany : Int32) (f_clerk : (Nat → Int32)) (f_s : (Nat → Int32)) (f_row : (Nat → Int32)) (f_best : (Nat → Int32)) : va_W := [(a, .inr (8, [.int v_thrown, .long v_trace, .ref a_text, .int v_typed, .int v_next, .int v_token, .int v_place, .int v_value, .int v_fault, .ref a_clerk, .int v_clerks, .int v_draftClerks, .int v_draftLine, .ref a_s, .ref a_kept, .ref a_isKept, .ref a_signed, .int v_signMany, .ref a_slips, .int v_copies, .ref a_row, .ref a_best, .int v_rowMany])), (a_clerk, .inl (zCI G, 48, .inl f_clerk)), (a_s, .inl (zCI G, 22, .inl f_s)), (a_row, .inl (zCI G, 6, .inl f_row)), (a_best, .inl (zCI G, 6, .inl f_best))]
theorem in_X8_bestRow_X8 : ∀ w ∈ wsX80, w ∈ wsX8_bestRow := by decide +kernel
set_option maxHeartbeats 4000000 in
set_option maxRecDepth 100000 in
theorem c_X8_bestRow (l : Launch) (G : zG) (fu : Nat) (a : Nat) (a_text : Nat) (a_clerk : Nat) (a_s : Nat) (a_kept : Nat) (a_isKept : Nat) (a_signed : Nat) (a_slips : Nat) (a_row : Nat) (a_best : Nat) (v_thrown : Int32) (v_trace : Int64) (v_typed : Int32) (v_next : Int32) (v_token : Int32) (v_place : Int32) (v_value : Int32) (v_fault : Int32) (v_clerks : Int32) (v_draftClerks : Int32) (v_draftLine : Int32) (v_signMany : Int32) (v_copies : Int32) (v_rowMany : Int32) (f_clerk : (Nat → Int32)) (f_s : (Nat → Int32)) (f_row : (Nat → Int32)) (f_best : (Nat → Int32)) (x1 : Int32) (x2 : Int32) (rv : Int32) (ov_rowMany : Int32) (of_row : (Nat → Int32)) (of_best : (Nat → Int32)) (h : fX8_bestRow fu v_clerks v_rowMany f_clerk f_s f_row f_best x1 x2 = some (rv, ov_rowMany, of_row, of_best)) : zC l yX8_bestRow wsX8_bestRow 2 48 G [.ref a, .int x1, .int x2] (w_X8_bestRow G a a_text a_clerk a_s a_kept a_isKept a_signed a_slips a_row a_best v_thrown v_trace v_typed v_next v_token v_place v_value v_fault v_clerks v_draftClerks v_draftLine v_signMany v_copies v_rowMany f_clerk f_s f_row f_best) (some (.int rv)) (w_X8_bestRow G a a_text a_clerk a_s a_kept a_isKept a_signed a_slips a_row a_best v_thrown v_trace v_typed v_next v_token v_place v_value v_fault v_clerks v_draftClerks v_draftLine v_signMany v_copies ov_rowMany f_clerk f_s of_row of_best) := by
  refine fun sz => Met.ofW (cc := cX8_bestRow) (maxL := 7) (ret := (some .int)) (by decide) rfl ?_
  intro p e s m args below meth c s₁ B hml hv
  obtain ⟨rfl, hsz, hP, hK, hD0, hE⟩ := hv
  have hx := B.exec
  have hb := B.bytes
  have hr := B.returns
  have hts := atoms_spec (ws := wsX8_bestRow) B.pre
  have hown : s.vm.findClass RX8 = some m.cls := findClass_of_methodNamed B.named
  have hlocks := B.notSynchronized
  subst hsz
  have hD := hD0.self (sz := s.heap.size)
  generalize hAe : va_A (w_X8_bestRow G a a_text a_clerk a_s a_kept a_isKept a_signed a_slips a_row a_best v_thrown v_trace v_typed v_next v_token v_place v_value v_fault v_clerks v_draftClerks v_draftLine v_signMany v_copies v_rowMany f_clerk f_s f_row f_best) s.heap.size = A at hD hE ⊢
  have hA : ∀ q : Nat, s.heap.size ≤ q → A q := fun q h => by rw [← hAe]; exact Or.inr h
  have hS : va_S A s.heap s.heap [] := va_S.rf
  have hl := lv_entry ([.ref a, .int x1, .int x2]) (n := 7) (Nat.le_of_ble_eq_true rfl)
  rw [lg_entry_eq]
  generalize (lg_sl ([.ref a, .int x1, .int x2]) ++ List.replicate (7 - (lg_sl ([.ref a, .int x1, .int x2])).length) Slot.unset).toArray = ls at hl ⊢
  have hl : lv_has ls 7 [(0, .ref a), (1, .int x1), (2, .int x2)] := hl
  have hP : va_P G.1 vwCl (w_X8_bestRow G a a_text a_clerk a_s a_kept a_isKept a_signed a_slips a_row a_best v_thrown v_trace v_typed v_next v_token v_place v_value v_fault v_clerks v_draftClerks v_draftLine v_signMany v_copies v_rowMany f_clerk f_s f_row f_best) s.heap := hP
  rw [fX8_bestRow] at h
  refine lv_aload_n hx hb dX8_bestRow_0 rfl (lv_at hl 0 rfl) ?_
  refine lv_iconst (v := (0 : Int32)) hx hb dX8_bestRow_1 (by decide) ?_
  refine zput1 (D := G.1) (ci := 8) (C := RX8) (T := TX8) (N := 23) (ty := .int) (ws' := (w_X8_bestRow G a a_text a_clerk a_s a_kept a_isKept a_signed a_slips a_row a_best v_thrown v_trace v_typed v_next v_token v_place v_value v_fault v_clerks v_draftClerks v_draftLine v_signMany v_copies (0 : Int32) f_clerk f_s f_row f_best)) hx hb hts in_X8_bestRow_X8 tyX8 tyX8_ok nmX8 hown hK.1 hP hD hS 0 rfl rfl 22 (by decide) (hts (.fieldLink RX8 153 "NineHandsModel" "rowMany" "I") (by decide +kernel)) (fun _ h9 => h9) rfl (by decide +kernel) rfl rfl (Nat.le_of_ble_eq_true rfl) rfl dX8_bestRow_2 (fun H locs hP hD hS => ?_)
  refine lv_iconst (v := (0 : Int32)) hx hb dX8_bestRow_5 (by decide) ?_
  refine lv_istore_n (lv' := [(3, .int (0 : Int32)), (0, .ref a), (1, .int x1), (2, .int x2)]) hx hb dX8_bestRow_6 rfl hl (by decide) rfl (fun ls hl => ?_)
  have loop_7 : ∀ (n : Nat) (K : Int32 → (Nat → Int32) → Option (Int32 × Int32 × (Nat → Int32) × (Nat → Int32))) (l3_7 : Int32) (v_rowMany_7 : Int32) (f_row_7 : (Nat → Int32)) (H : Heap) (locs : List Loc) (ls : Array Slot), fX8_bestRow_L7 fu x1 x2 v_clerks K n l3_7 v_rowMany_7 f_row_7 = some (rv, ov_rowMany, of_row, of_best) → (∀ (v_rowMany_7e : Int32) (f_row_7e : (Nat → Int32)) (H : Heap) (locs : List Loc) (ls : Array Slot), K v_rowMany_7e f_row_7e = some (rv, ov_rowMany, of_row, of_best) → va_P G.1 vwCl (w_X8_bestRow G a a_text a_clerk a_s a_kept a_isKept a_signed a_slips a_row a_best v_thrown v_trace v_typed v_next v_token v_place v_value v_fault v_clerks v_draftClerks v_draftLine v_signMany v_copies v_rowMany_7e f_clerk f_s f_row_7e f_best) H → va_D A (w_X8_bestRow G a a_text a_clerk a_s a_kept a_isKept a_signed a_slips a_row a_best v_thrown v_trace v_typed v_next v_token v_place v_value v_fault v_clerks v_draftClerks v_draftLine v_signMany v_copies v_rowMany_7e f_clerk f_s f_row_7e f_best) → va_S A s.heap H locs → lv_has ls 7 [(0, .ref a), (2, .int x2)] → W p l e (headSpec wsX8_bestRow { frames := 2, cells := 0, slots := 0, locals := 48 }).room s m ([.ref a, .int x1, .int x2] : List Value).toArray below meth c H locs 0 0 (MQ below (zQ (some (.int rv)) G (w_X8_bestRow G a a_text a_clerk a_s a_kept a_isKept a_signed a_slips a_row a_best v_thrown v_trace v_typed v_next v_token v_place v_value v_fault v_clerks v_draftClerks v_draftLine v_signMany v_copies ov_rowMany f_clerk f_s of_row of_best) A) ([.ref a, .int x1, .int x2] : List Value).toArray s 0 0 A) (F0 m 50 ls [])) → va_P G.1 vwCl (w_X8_bestRow G a a_text a_clerk a_s a_kept a_isKept a_signed a_slips a_row a_best v_thrown v_trace v_typed v_next v_token v_place v_value v_fault v_clerks v_draftClerks v_draftLine v_signMany v_copies v_rowMany_7 f_clerk f_s f_row_7 f_best) H → va_D A (w_X8_bestRow G a a_text a_clerk a_s a_kept a_isKept a_signed a_slips a_row a_best v_thrown v_trace v_typed v_next v_token v_place v_value v_fault v_clerks v_draftClerks v_draftLine v_signMany v_copies v_rowMany_7 f_clerk f_s f_row_7 f_best) → va_S A s.heap H locs → lv_has ls 7 [(0, .ref a), (1, .int x1), (2, .int x2), (3, .int l3_7)] → W p l e (headSpec wsX8_bestRow { frames := 2, cells := 0, slots := 0, locals := 48 }).room s m ([.ref a, .int x1, .int x2] : List Value).toArray below meth c H locs 0 0 (MQ below (zQ (some (.int rv)) G (w_X8_bestRow G a a_text a_clerk a_s a_kept a_isKept a_signed a_slips a_row a_best v_thrown v_trace v_typed v_next v_token v_place v_value v_fault v_clerks v_draftClerks v_draftLine v_signMany v_copies ov_rowMany f_clerk f_s of_row of_best) A) ([.ref a, .int x1, .int x2] : List Value).toArray s 0 0 A) (F0 m 7 ls []) := by
    intro n
    induction n with
    | zero => intro K l3_7 v_rowMany_7 f_row_7 H locs ls h; rw [fX8_bestRow_L7] at h; cases h
    | succ n ih =>
      intro K l3_7 v_rowMany_7 f_row_7 H locs ls h hk hP hD hS hl
      rw [fX8_bestRow_L7] at h
      refine lv_iload_n hx hb dX8_bestRow_7 rfl (lv_at hl 3 rfl) ?_
      refine lv_aload_n hx hb dX8_bestRow_8 rfl (lv_at hl 0 rfl) ?_
      refine va_get (D := G.1) (ci := 8) (v := .int v_clerks) (C := RX8) (T := TX8) (N := 23) hx hb hts in_X8_bestRow_X8 hown hK.1 hP 0 rfl rfl 10 (by decide) (hts (.fieldLink RX8 112 "NineHandsModel" "clerks" "I") (by decide +kernel)) (fun _ h9 => h9) rfl dX8_bestRow_9 ?_
      refine lv_icmp_ge (tgt := 50) hx hb dX8_bestRow_12 (by decide) (fun c12 => ?_) (fun c12 => ?_)
      · have h := zt c12 h
        exact hk _ _ _ _ _ h hP hD hS (lv_sub hl [0, 2] rfl)
      · have h := zf c12 h
        refine lv_iload_n hx hb dX8_bestRow_15 rfl (lv_at hl 1 rfl) ?_
        refine lv_iload_n hx hb dX8_bestRow_16 rfl (lv_at hl 3 rfl) ?_
        refine lv_ishr hx hb dX8_bestRow_17 ?_
        refine lv_iconst (v := (1 : Int32)) hx hb dX8_bestRow_18 (by decide) ?_
        refine lv_iand hx hb dX8_bestRow_19 ?_
        refine lv_iconst (v := (1 : Int32)) hx hb dX8_bestRow_20 (by decide) ?_
        refine lv_icmp_ne (tgt := 44) hx hb dX8_bestRow_21 (by decide) (fun c21 => ?_) (fun c21 => ?_)
        · have h := zf c21 h
          refine lv_iinc (v := (l3_7 + (1 : Int32))) (lv' := [(3, .int (l3_7 + (1 : Int32))), (0, .ref a), (1, .int x1), (2, .int x2)]) hx hb dX8_bestRow_44 hl (k := 3) rfl rfl (by decide) rfl (fun ls hl => ?_)
          refine lv_goto (tgt := 7) hx hb dX8_bestRow_47 (by decide) ?_
          exact ih K _ _ _ _ _ _ h hk hP hD hS (lv_sub hl [1, 2, 3, 0] rfl)
        · have h := zt c21 h
          refine lv_aload_n hx hb dX8_bestRow_24 rfl (lv_at hl 0 rfl) ?_
          refine va_get (D := G.1) (ci := 8) (v := .ref a_row) (C := RX8) (T := TX8) (N := 23) hx hb hts in_X8_bestRow_X8 hown hK.1 hP 0 rfl rfl 20 (by decide) (hts (.fieldLink RX8 32 "NineHandsModel" "row" "[I") (by decide +kernel)) (fun _ h9 => h9) rfl dX8_bestRow_25 ?_
          refine lv_aload_n hx hb dX8_bestRow_28 rfl (lv_at hl 0 rfl) ?_
          refine va_get (D := G.1) (ci := 8) (v := .int v_rowMany_7) (C := RX8) (T := TX8) (N := 23) hx hb hts in_X8_bestRow_X8 hown hK.1 hP 0 rfl rfl 22 (by decide) (hts (.fieldLink RX8 153 "NineHandsModel" "rowMany" "I") (by decide +kernel)) (fun _ h9 => h9) rfl dX8_bestRow_29 ?_
          refine lv_iload_n hx hb dX8_bestRow_32 rfl (lv_at hl 3 rfl) ?_
          obtain ⟨g33, h⟩ := zg h
          refine zast hx hb hK.1 hP hD hS 3 0 rfl rfl g33 (j := (v_rowMany_7).toNatClampNeg) rfl (ws' := (w_X8_bestRow G a a_text a_clerk a_s a_kept a_isKept a_signed a_slips a_row a_best v_thrown v_trace v_typed v_next v_token v_place v_value v_fault v_clerks v_draftClerks v_draftLine v_signMany v_copies v_rowMany_7 f_clerk f_s (upd f_row_7 (v_rowMany_7).toNatClampNeg l3_7) f_best)) rfl dX8_bestRow_33 (fun H locs hP hD hS => ?_)
          refine lv_aload_n hx hb dX8_bestRow_34 rfl (lv_at hl 0 rfl) ?_
          refine lv_dup hx hb dX8_bestRow_35 rfl ?_
          refine va_get (D := G.1) (ci := 8) (v := .int v_rowMany_7) (C := RX8) (T := TX8) (N := 23) hx hb hts in_X8_bestRow_X8 hown hK.1 hP 0 rfl rfl 22 (by decide) (hts (.fieldLink RX8 153 "NineHandsModel" "rowMany" "I") (by decide +kernel)) (fun _ h9 => h9) rfl dX8_bestRow_36 ?_
          refine lv_iconst (v := (1 : Int32)) hx hb dX8_bestRow_39 (by decide) ?_
          refine lv_iadd hx hb dX8_bestRow_40 ?_
          refine zput1 (D := G.1) (ci := 8) (C := RX8) (T := TX8) (N := 23) (ty := .int) (ws' := (w_X8_bestRow G a a_text a_clerk a_s a_kept a_isKept a_signed a_slips a_row a_best v_thrown v_trace v_typed v_next v_token v_place v_value v_fault v_clerks v_draftClerks v_draftLine v_signMany v_copies (v_rowMany_7 + (1 : Int32)) f_clerk f_s (upd f_row_7 (v_rowMany_7).toNatClampNeg l3_7) f_best)) hx hb hts in_X8_bestRow_X8 tyX8 tyX8_ok nmX8 hown hK.1 hP hD hS 0 rfl rfl 22 (by decide) (hts (.fieldLink RX8 153 "NineHandsModel" "rowMany" "I") (by decide +kernel)) (fun _ h9 => h9) rfl (by decide +kernel) rfl rfl (Nat.le_of_ble_eq_true rfl) rfl dX8_bestRow_41 (fun H locs hP hD hS => ?_)
          refine lv_iinc (v := (l3_7 + (1 : Int32))) (lv' := [(3, .int (l3_7 + (1 : Int32))), (0, .ref a), (1, .int x1), (2, .int x2)]) hx hb dX8_bestRow_44 hl (k := 3) rfl rfl (by decide) rfl (fun ls hl => ?_)
          refine lv_goto (tgt := 7) hx hb dX8_bestRow_47 (by decide) ?_
          exact ih K _ _ _ _ _ _ h hk hP hD hS (lv_sub hl [1, 2, 3, 0] rfl)
  refine loop_7 fu _ _ _ _ _ _ _ h (fun v_rowMany_7e f_row_7e H locs ls h hP hD hS hl => ?_) hP hD hS (lv_sub hl [1, 2, 3, 0] rfl)
  refine lv_bipush (v := ((-9) : Int32)) hx hb dX8_bestRow_50 (by decide) ?_
  refine lv_istore_n (lv' := [(3, .int ((-9) : Int32)), (0, .ref a), (2, .int x2)]) hx hb dX8_bestRow_52 rfl hl (by decide) rfl (fun ls hl => ?_)
  refine lv_iconst (v := (1 : Int32)) hx hb dX8_bestRow_53 (by decide) ?_
  refine lv_istore (lv' := [(4, .int (1 : Int32)), (3, .int ((-9) : Int32)), (0, .ref a), (2, .int x2)]) hx hb dX8_bestRow_54 hl (by decide) rfl (fun ls hl => ?_)
  have loop_56 : ∀ (n : Nat) (K : Int32 → (Nat → Int32) → (Nat → Int32) → Option (Int32 × Int32 × (Nat → Int32) × (Nat → Int32))) (l3_56 : Int32) (l4_56 : Int32) (f_row_56 : (Nat → Int32)) (f_best_56 : (Nat → Int32)) (H : Heap) (locs : List Loc) (ls : Array Slot), fX8_bestRow_L56 fu x2 v_rowMany_7e f_clerk f_s K n l3_56 l4_56 f_row_56 f_best_56 = some (rv, ov_rowMany, of_row, of_best) → (∀ (l3_56e : Int32) (f_row_56e : (Nat → Int32)) (f_best_56e : (Nat → Int32)) (H : Heap) (locs : List Loc) (ls : Array Slot), K l3_56e f_row_56e f_best_56e = some (rv, ov_rowMany, of_row, of_best) → va_P G.1 vwCl (w_X8_bestRow G a a_text a_clerk a_s a_kept a_isKept a_signed a_slips a_row a_best v_thrown v_trace v_typed v_next v_token v_place v_value v_fault v_clerks v_draftClerks v_draftLine v_signMany v_copies v_rowMany_7e f_clerk f_s f_row_56e f_best_56e) H → va_D A (w_X8_bestRow G a a_text a_clerk a_s a_kept a_isKept a_signed a_slips a_row a_best v_thrown v_trace v_typed v_next v_token v_place v_value v_fault v_clerks v_draftClerks v_draftLine v_signMany v_copies v_rowMany_7e f_clerk f_s f_row_56e f_best_56e) → va_S A s.heap H locs → lv_has ls 7 [(3, .int l3_56e)] → W p l e (headSpec wsX8_bestRow { frames := 2, cells := 0, slots := 0, locals := 48 }).room s m ([.ref a, .int x1, .int x2] : List Value).toArray below meth c H locs 0 0 (MQ below (zQ (some (.int rv)) G (w_X8_bestRow G a a_text a_clerk a_s a_kept a_isKept a_signed a_slips a_row a_best v_thrown v_trace v_typed v_next v_token v_place v_value v_fault v_clerks v_draftClerks v_draftLine v_signMany v_copies ov_rowMany f_clerk f_s of_row of_best) A) ([.ref a, .int x1, .int x2] : List Value).toArray s 0 0 A) (F0 m 124 ls [])) → va_P G.1 vwCl (w_X8_bestRow G a a_text a_clerk a_s a_kept a_isKept a_signed a_slips a_row a_best v_thrown v_trace v_typed v_next v_token v_place v_value v_fault v_clerks v_draftClerks v_draftLine v_signMany v_copies v_rowMany_7e f_clerk f_s f_row_56 f_best_56) H → va_D A (w_X8_bestRow G a a_text a_clerk a_s a_kept a_isKept a_signed a_slips a_row a_best v_thrown v_trace v_typed v_next v_token v_place v_value v_fault v_clerks v_draftClerks v_draftLine v_signMany v_copies v_rowMany_7e f_clerk f_s f_row_56 f_best_56) → va_S A s.heap H locs → lv_has ls 7 [(0, .ref a), (2, .int x2), (3, .int l3_56), (4, .int l4_56)] → W p l e (headSpec wsX8_bestRow { frames := 2, cells := 0, slots := 0, locals := 48 }).room s m ([.ref a, .int x1, .int x2] : List Value).toArray below meth c H locs 0 0 (MQ below (zQ (some (.int rv)) G (w_X8_bestRow G a a_text a_clerk a_s a_kept a_isKept a_signed a_slips a_row a_best v_thrown v_trace v_typed v_next v_token v_place v_value v_fault v_clerks v_draftClerks v_draftLine v_signMany v_copies ov_rowMany f_clerk f_s of_row of_best) A) ([.ref a, .int x1, .int x2] : List Value).toArray s 0 0 A) (F0 m 56 ls []) := by
    intro n
    induction n with
    | zero => intro K l3_56 l4_56 f_row_56 f_best_56 H locs ls h; rw [fX8_bestRow_L56] at h; cases h
    | succ n ih =>
      intro K l3_56 l4_56 f_row_56 f_best_56 H locs ls h hk hP hD hS hl
      rw [fX8_bestRow_L56] at h
      have join_80 : ∀ (l5_80 : Int32) (f_row_80 : (Nat → Int32)) (f_best_80 : (Nat → Int32)) (H : Heap) (locs : List Loc) (ls : Array Slot), fX8_bestRow_J80 fu x2 v_rowMany_7e K (fun (l3_56b : Int32) (l4_56b : Int32) (f_row_56b : (Nat → Int32)) (f_best_56b : (Nat → Int32)) => fX8_bestRow_L56 fu x2 v_rowMany_7e f_clerk f_s K n l3_56b l4_56b f_row_56b f_best_56b) l5_80 f_row_80 f_best_80 = some (rv, ov_rowMany, of_row, of_best) → va_P G.1 vwCl (w_X8_bestRow G a a_text a_clerk a_s a_kept a_isKept a_signed a_slips a_row a_best v_thrown v_trace v_typed v_next v_token v_place v_value v_fault v_clerks v_draftClerks v_draftLine v_signMany v_copies v_rowMany_7e f_clerk f_s f_row_80 f_best_80) H → va_D A (w_X8_bestRow G a a_text a_clerk a_s a_kept a_isKept a_signed a_slips a_row a_best v_thrown v_trace v_typed v_next v_token v_place v_value v_fault v_clerks v_draftClerks v_draftLine v_signMany v_copies v_rowMany_7e f_clerk f_s f_row_80 f_best_80) → va_S A s.heap H locs → lv_has ls 7 [(0, .ref a), (2, .int x2), (5, .int l5_80)] → W p l e (headSpec wsX8_bestRow { frames := 2, cells := 0, slots := 0, locals := 48 }).room s m ([.ref a, .int x1, .int x2] : List Value).toArray below meth c H locs 0 0 (MQ below (zQ (some (.int rv)) G (w_X8_bestRow G a a_text a_clerk a_s a_kept a_isKept a_signed a_slips a_row a_best v_thrown v_trace v_typed v_next v_token v_place v_value v_fault v_clerks v_draftClerks v_draftLine v_signMany v_copies ov_rowMany f_clerk f_s of_row of_best) A) ([.ref a, .int x1, .int x2] : List Value).toArray s 0 0 A) (F0 m 80 ls []) := by
        intro l5_80 f_row_80 f_best_80 H locs ls h hP hD hS hl
        rw [fX8_bestRow_J80] at h
        refine lv_iload hx hb dX8_bestRow_80 (lv_at hl 2 rfl) ?_
        refine lv_istore_n (lv' := [(3, .int l5_80), (0, .ref a), (2, .int x2), (5, .int l5_80)]) hx hb dX8_bestRow_82 rfl hl (by decide) rfl (fun ls hl => ?_)
        refine lv_iconst (v := (0 : Int32)) hx hb dX8_bestRow_83 (by decide) ?_
        refine lv_istore (lv' := [(6, .int (0 : Int32)), (3, .int l5_80), (0, .ref a), (2, .int x2), (5, .int l5_80)]) hx hb dX8_bestRow_84 hl (by decide) rfl (fun ls hl => ?_)
        have loop_86 : ∀ (n : Nat) (K : (Nat → Int32) → Option (Int32 × Int32 × (Nat → Int32) × (Nat → Int32))) (l6_86 : Int32) (f_best_86 : (Nat → Int32)) (H : Heap) (locs : List Loc) (ls : Array Slot), fX8_bestRow_L86 fu x2 l5_80 v_rowMany_7e f_row_80 K n l6_86 f_best_86 = some (rv, ov_rowMany, of_row, of_best) → (∀ (f_best_86e : (Nat → Int32)) (H : Heap) (locs : List Loc) (ls : Array Slot), K f_best_86e = some (rv, ov_rowMany, of_row, of_best) → va_P G.1 vwCl (w_X8_bestRow G a a_text a_clerk a_s a_kept a_isKept a_signed a_slips a_row a_best v_thrown v_trace v_typed v_next v_token v_place v_value v_fault v_clerks v_draftClerks v_draftLine v_signMany v_copies v_rowMany_7e f_clerk f_s f_row_80 f_best_86e) H → va_D A (w_X8_bestRow G a a_text a_clerk a_s a_kept a_isKept a_signed a_slips a_row a_best v_thrown v_trace v_typed v_next v_token v_place v_value v_fault v_clerks v_draftClerks v_draftLine v_signMany v_copies v_rowMany_7e f_clerk f_s f_row_80 f_best_86e) → va_S A s.heap H locs → lv_has ls 7 [(0, .ref a), (2, .int x2), (3, .int l5_80)] → W p l e (headSpec wsX8_bestRow { frames := 2, cells := 0, slots := 0, locals := 48 }).room s m ([.ref a, .int x1, .int x2] : List Value).toArray below meth c H locs 0 0 (MQ below (zQ (some (.int rv)) G (w_X8_bestRow G a a_text a_clerk a_s a_kept a_isKept a_signed a_slips a_row a_best v_thrown v_trace v_typed v_next v_token v_place v_value v_fault v_clerks v_draftClerks v_draftLine v_signMany v_copies ov_rowMany f_clerk f_s of_row of_best) A) ([.ref a, .int x1, .int x2] : List Value).toArray s 0 0 A) (F0 m 115 ls [])) → va_P G.1 vwCl (w_X8_bestRow G a a_text a_clerk a_s a_kept a_isKept a_signed a_slips a_row a_best v_thrown v_trace v_typed v_next v_token v_place v_value v_fault v_clerks v_draftClerks v_draftLine v_signMany v_copies v_rowMany_7e f_clerk f_s f_row_80 f_best_86) H → va_D A (w_X8_bestRow G a a_text a_clerk a_s a_kept a_isKept a_signed a_slips a_row a_best v_thrown v_trace v_typed v_next v_token v_place v_value v_fault v_clerks v_draftClerks v_draftLine v_signMany v_copies v_rowMany_7e f_clerk f_s f_row_80 f_best_86) → va_S A s.heap H locs → lv_has ls 7 [(0, .ref a), (2, .int x2), (3, .int l5_80), (6, .int l6_86)] → W p l e (headSpec wsX8_bestRow { frames := 2, cells := 0, slots := 0, locals := 48 }).room s m ([.ref a, .int x1, .int x2] : List Value).toArray below meth c H locs 0 0 (MQ below (zQ (some (.int rv)) G (w_X8_bestRow G a a_text a_clerk a_s a_kept a_isKept a_signed a_slips a_row a_best v_thrown v_trace v_typed v_next v_token v_place v_value v_fault v_clerks v_draftClerks v_draftLine v_signMany v_copies ov_rowMany f_clerk f_s of_row of_best) A) ([.ref a, .int x1, .int x2] : List Value).toArray s 0 0 A) (F0 m 86 ls []) := by
          intro n
          induction n with
          | zero => intro K l6_86 f_best_86 H locs ls h; rw [fX8_bestRow_L86] at h; cases h
          | succ n ih =>
            intro K l6_86 f_best_86 H locs ls h hk hP hD hS hl
            rw [fX8_bestRow_L86] at h
            refine lv_iload hx hb dX8_bestRow_86 (lv_at hl 3 rfl) ?_
            refine lv_aload_n hx hb dX8_bestRow_88 rfl (lv_at hl 0 rfl) ?_
            refine va_get (D := G.1) (ci := 8) (v := .int v_rowMany_7e) (C := RX8) (T := TX8) (N := 23) hx hb hts in_X8_bestRow_X8 hown hK.1 hP 0 rfl rfl 22 (by decide) (hts (.fieldLink RX8 153 "NineHandsModel" "rowMany" "I") (by decide +kernel)) (fun _ h9 => h9) rfl dX8_bestRow_89 ?_
            refine lv_icmp_ge (tgt := 115) hx hb dX8_bestRow_92 (by decide) (fun c92 => ?_) (fun c92 => ?_)
            · have h := zt c92 h
              exact hk _ _ _ _ h hP hD hS (lv_sub hl [0, 1, 2] rfl)
            · have h := zf c92 h
              refine lv_aload_n hx hb dX8_bestRow_95 rfl (lv_at hl 0 rfl) ?_
              refine va_get (D := G.1) (ci := 8) (v := .ref a_best) (C := RX8) (T := TX8) (N := 23) hx hb hts in_X8_bestRow_X8 hown hK.1 hP 0 rfl rfl 21 (by decide) (hts (.fieldLink RX8 35 "NineHandsModel" "best" "[I") (by decide +kernel)) (fun _ h9 => h9) rfl dX8_bestRow_96 ?_
              refine lv_iload hx hb dX8_bestRow_99 (lv_at hl 3 rfl) ?_
              refine lv_aload_n hx hb dX8_bestRow_101 rfl (lv_at hl 0 rfl) ?_
              refine va_get (D := G.1) (ci := 8) (v := .ref a_row) (C := RX8) (T := TX8) (N := 23) hx hb hts in_X8_bestRow_X8 hown hK.1 hP 0 rfl rfl 20 (by decide) (hts (.fieldLink RX8 32 "NineHandsModel" "row" "[I") (by decide +kernel)) (fun _ h9 => h9) rfl dX8_bestRow_102 ?_
              refine lv_iload hx hb dX8_bestRow_105 (lv_at hl 3 rfl) ?_
              obtain ⟨g107, h⟩ := zg h
              refine zald hx hb hK.1 hP 3 0 rfl rfl g107 (j := (l6_86).toNatClampNeg) rfl dX8_bestRow_107 ?_
              refine zast hx hb hK.1 hP hD hS 4 0 rfl rfl g107 (j := (l6_86).toNatClampNeg) rfl (ws' := (w_X8_bestRow G a a_text a_clerk a_s a_kept a_isKept a_signed a_slips a_row a_best v_thrown v_trace v_typed v_next v_token v_place v_value v_fault v_clerks v_draftClerks v_draftLine v_signMany v_copies v_rowMany_7e f_clerk f_s f_row_80 (upd f_best_86 (l6_86).toNatClampNeg (f_row_80 (l6_86).toNatClampNeg)))) rfl dX8_bestRow_108 (fun H locs hP hD hS => ?_)
              refine lv_iinc (v := (l6_86 + (1 : Int32))) (lv' := [(6, .int (l6_86 + (1 : Int32))), (0, .ref a), (2, .int x2), (3, .int l5_80)]) hx hb dX8_bestRow_109 hl (k := 3) rfl rfl (by decide) rfl (fun ls hl => ?_)
              refine lv_goto (tgt := 86) hx hb dX8_bestRow_112 (by decide) ?_
              exact ih K _ _ _ _ _ h hk hP hD hS (lv_sub hl [1, 2, 3, 0] rfl)
        refine loop_86 fu _ _ _ _ _ _ h (fun f_best_86e H locs ls h hP hD hS hl => ?_) hP hD hS (lv_sub hl [2, 3, 1, 0] rfl)
        refine lv_aload_n hx hb dX8_bestRow_115 rfl (lv_at hl 0 rfl) ?_
        obtain ⟨y116, y116_f_row, hc116, h⟩ := zb2_e h
        refine zcV (As := []) (rest := []) (ws' := (w_X8_bestRow G a a_text a_clerk a_s a_kept a_isKept a_signed a_slips a_row a_best v_thrown v_trace v_typed v_next v_token v_place v_value v_fault v_clerks v_draftClerks v_draftLine v_signMany v_copies v_rowMany_7e f_clerk f_s y116_f_row f_best_86e)) (st1 := [.int y116]) ⟨hx, hb, hml, hown, hts⟩ (c_X8_steps l G fu a a_text a_clerk a_s a_kept a_isKept a_signed a_slips a_row a_best v_thrown v_trace v_typed v_next v_token v_place v_value v_fault v_clerks v_draftClerks v_draftLine v_signMany v_copies v_rowMany_7e f_row_80 y116 y116_f_row hc116) (cwV 0 hts gX8_bestRow_X8_steps rfl rfl rfl (by decide +kernel) ⟨Nat.le_of_ble_eq_true rfl, Nat.le_of_ble_eq_true rfl⟩) hK hE hP hD hS hA [0, 3] rfl rfl 0 8 rfl rfl rfl rfl rfl rfl hl.1 rfl (Nat.le_of_ble_eq_true rfl) dX8_bestRow_116 (Nat.zero_le _) (Nat.zero_le _) rfl (fun H locs hP hD hS => ?_)
        refine lv_istore (lv' := [(4, .int y116), (0, .ref a), (2, .int x2), (3, .int l5_80)]) hx hb dX8_bestRow_119 hl (by decide) rfl (fun ls hl => ?_)
        refine lv_goto (tgt := 56) hx hb dX8_bestRow_121 (by decide) ?_
        exact ih K _ _ _ _ _ _ _ h hk hP hD hS (lv_sub hl [1, 2, 3, 0] rfl)
      refine lv_iload hx hb dX8_bestRow_56 (lv_at hl 3 rfl) ?_
      refine lv_if_eq (tgt := 124) hx hb dX8_bestRow_58 (by decide) (fun c58 => ?_) (fun c58 => ?_)
      · have h := zt c58 h
        exact hk _ _ _ _ _ _ h hP hD hS (lv_sub hl [2] rfl)
      · have h := zf c58 h
        refine lv_aload_n hx hb dX8_bestRow_61 rfl (lv_at hl 0 rfl) ?_
        refine lv_iload_n hx hb dX8_bestRow_62 rfl (lv_at hl 1 rfl) ?_
        obtain ⟨y63, hc63, h⟩ := zb1_e h
        refine zcV (As := [.int x2]) (rest := []) (ws' := (w_X8_bestRow G a a_text a_clerk a_s a_kept a_isKept a_signed a_slips a_row a_best v_thrown v_trace v_typed v_next v_token v_place v_value v_fault v_clerks v_draftClerks v_draftLine v_signMany v_copies v_rowMany_7e f_clerk f_s f_row_56 f_best_56)) (st1 := [.int y63]) ⟨hx, hb, hml, hown, hts⟩ (c_X8_farBy l G fu a a_text a_clerk a_s a_kept a_isKept a_signed a_slips a_row a_best v_thrown v_trace v_typed v_next v_token v_place v_value v_fault v_clerks v_draftClerks v_draftLine v_signMany v_copies v_rowMany_7e f_clerk f_s f_row_56 x2 y63 hc63) (cwV 1 hts gX8_bestRow_X8_farBy rfl rfl rfl (by decide +kernel) ⟨Nat.le_of_ble_eq_true rfl, Nat.le_of_ble_eq_true rfl⟩) hK hE hP hD hS hA [0, 1, 2, 3] rfl rfl 0 8 rfl rfl rfl rfl rfl rfl hl.1 rfl (Nat.le_of_ble_eq_true rfl) dX8_bestRow_63 (Nat.zero_le _) (Nat.zero_le _) rfl (fun H locs hP hD hS => ?_)
        refine lv_istore (lv' := [(5, .int y63), (0, .ref a), (2, .int x2), (3, .int l3_56), (4, .int l4_56)]) hx hb dX8_bestRow_66 hl (by decide) rfl (fun ls hl => ?_)
        refine lv_iload_n hx hb dX8_bestRow_68 rfl (lv_at hl 3 rfl) ?_
        refine lv_bipush (v := ((-9) : Int32)) hx hb dX8_bestRow_69 (by decide) ?_
        refine lv_icmp_eq (tgt := 80) hx hb dX8_bestRow_71 (by decide) (fun c71 => ?_) (fun c71 => ?_)
        · have h := zt c71 h
          exact join_80 _ _ _ _ _ _ h hP hD hS (lv_sub hl [1, 2, 0] rfl)
        · have h := zf c71 h
          refine lv_iload hx hb dX8_bestRow_74 (lv_at hl 0 rfl) ?_
          refine lv_iload_n hx hb dX8_bestRow_76 rfl (lv_at hl 3 rfl) ?_
          refine lv_icmp_ge (tgt := 115) hx hb dX8_bestRow_77 (by decide) (fun c77 => ?_) (fun c77 => ?_)
          · have h := zt c77 h
            refine lv_aload_n hx hb dX8_bestRow_115 rfl (lv_at hl 1 rfl) ?_
            obtain ⟨y116, y116_f_row, hc116, h⟩ := zb2_e h
            refine zcV (As := []) (rest := []) (ws' := (w_X8_bestRow G a a_text a_clerk a_s a_kept a_isKept a_signed a_slips a_row a_best v_thrown v_trace v_typed v_next v_token v_place v_value v_fault v_clerks v_draftClerks v_draftLine v_signMany v_copies v_rowMany_7e f_clerk f_s y116_f_row f_best_56)) (st1 := [.int y116]) ⟨hx, hb, hml, hown, hts⟩ (c_X8_steps l G fu a a_text a_clerk a_s a_kept a_isKept a_signed a_slips a_row a_best v_thrown v_trace v_typed v_next v_token v_place v_value v_fault v_clerks v_draftClerks v_draftLine v_signMany v_copies v_rowMany_7e f_row_56 y116 y116_f_row hc116) (cwV 0 hts gX8_bestRow_X8_steps rfl rfl rfl (by decide +kernel) ⟨Nat.le_of_ble_eq_true rfl, Nat.le_of_ble_eq_true rfl⟩) hK hE hP hD hS hA [0, 3] rfl rfl 0 8 rfl rfl rfl rfl rfl rfl hl.1 rfl (Nat.le_of_ble_eq_true rfl) dX8_bestRow_116 (Nat.zero_le _) (Nat.zero_le _) rfl (fun H locs hP hD hS => ?_)
            refine lv_istore (lv' := [(4, .int y116), (5, .int y63), (0, .ref a), (2, .int x2), (3, .int l3_56)]) hx hb dX8_bestRow_119 hl (by decide) rfl (fun ls hl => ?_)
            refine lv_goto (tgt := 56) hx hb dX8_bestRow_121 (by decide) ?_
            exact ih K _ _ _ _ _ _ _ h hk hP hD hS (lv_sub hl [2, 3, 4, 0] rfl)
          · have h := zf c77 h
            exact join_80 _ _ _ _ _ _ h hP hD hS (lv_sub hl [1, 2, 0] rfl)
  refine loop_56 fu _ _ _ _ _ _ _ _ h (fun l3_56e f_row_56e f_best_56e H locs ls h hP hD hS hl => ?_) hP hD hS (lv_sub hl [2, 3, 1, 0] rfl)
  refine lv_iload_n hx hb dX8_bestRow_124 rfl (lv_at hl 0 rfl) ?_
  cases h
  exact W.iret hx hb hr (fun t9 ht9 _ => zend hP hD hS ht9) hS.2.2 dX8_bestRow_125
abbrev w_X8_told (G : zG) (a : Nat) (a_text : Nat) (a_clerk : Nat) (a_s : Nat) (a_kept : Nat) (a_isKept : Nat) (a_signed : Nat) (a_slips : Nat) (a_row : Nat) (a_best : Nat) (v_thrown : Int32) (v_trace : Int64) (v_typed : Int32) (v_next : Int32) (v_token : Int32) (v_place : Int32) (v_value : Int32) (v_fault : Int32) (v_clerks : Int32) (v_draftClerks : Int32) (v_draftLine : Int32) (v_signMany : Int32) (v_copies : Int32) (v_rowMany : Int32) (f_clerk : (Nat → Int32)) (f_s : (Nat → Int32)) (f_row : (Nat → Int32)) (f_best : (Nat → Int32)) : va_W := [(a, .inr (8, [.int v_thrown, .long v_trace, .ref a_text, .int v_typed, .int v_next, .int v_token, .int v_place, .int v_value, .int v_fault, .ref a_clerk, .int v_clerks, .int v_draftClerks, .int v_draftLine, .ref a_s, .ref a_kept, .ref a_isKept, .ref a_signed, .int v_signMany, .ref a_slips, .int v_copies, .ref a_row, .ref a_best, .int v_rowMany])), (a_clerk, .inl (zCI G, 48, .inl f_clerk)), (a_s, .inl (zCI G, 22, .inl f_s)), (a_row, .inl (zCI G, 6, .inl f_row)), (a_best, .inl (zCI G, 6, .inl f_best))]
theorem in_X8_told_X8 : ∀ w ∈ wsX80, w ∈ wsX8_told := by decide +kernel
set_option maxHeartbeats 4000000 in
set_option maxRecDepth 100000 in
theorem c_X8_told (l : Launch) (G : zG) (fu : Nat) (a : Nat) (a_text : Nat) (a_clerk : Nat) (a_s : Nat) (a_kept : Nat) (a_isKept : Nat) (a_signed : Nat) (a_slips : Nat) (a_row : Nat) (a_best : Nat) (v_thrown : Int32) (v_trace : Int64) (v_typed : Int32) (v_next : Int32) (v_token : Int32) (v_place : Int32) (v_value : Int32) (v_fault : Int32) (v_clerks : Int32) (v_draftClerks : Int32) (v_draftLine : Int32) (v_signMany : Int32) (v_copies : Int32) (v_rowMany : Int32) (f_clerk : (Nat → Int32)) (f_s : (Nat → Int32)) (f_row : (Nat → Int32)) (f_best : (Nat → Int32)) (x1 : Int32) (x2 : Int32) (x3 : Int32) (rv : Int32) (ov_rowMany : Int32) (of_row : (Nat → Int32)) (of_best : (Nat → Int32)) (h : fX8_told fu v_clerks v_rowMany f_clerk f_s f_row f_best x1 x2 x3 = some (rv, ov_rowMany, of_row, of_best)) : zC l yX8_told wsX8_told 3 74 G [.ref a, .int x1, .int x2, .int x3] (w_X8_told G a a_text a_clerk a_s a_kept a_isKept a_signed a_slips a_row a_best v_thrown v_trace v_typed v_next v_token v_place v_value v_fault v_clerks v_draftClerks v_draftLine v_signMany v_copies v_rowMany f_clerk f_s f_row f_best) (some (.int rv)) (w_X8_told G a a_text a_clerk a_s a_kept a_isKept a_signed a_slips a_row a_best v_thrown v_trace v_typed v_next v_token v_place v_value v_fault v_clerks v_draftClerks v_draftLine v_signMany v_copies ov_rowMany f_clerk f_s of_row of_best) := by
  refine fun sz => Met.ofW (cc := cX8_told) (maxL := 5) (ret := (some .int)) (by decide) rfl ?_
  intro p e s m args below meth c s₁ B hml hv
  obtain ⟨rfl, hsz, hP, hK, hD0, hE⟩ := hv
  have hx := B.exec
  have hb := B.bytes
  have hr := B.returns
  have hts := atoms_spec (ws := wsX8_told) B.pre
  have hown : s.vm.findClass RX8 = some m.cls := findClass_of_methodNamed B.named
  have hlocks := B.notSynchronized
  subst hsz
  have hD := hD0.self (sz := s.heap.size)
  generalize hAe : va_A (w_X8_told G a a_text a_clerk a_s a_kept a_isKept a_signed a_slips a_row a_best v_thrown v_trace v_typed v_next v_token v_place v_value v_fault v_clerks v_draftClerks v_draftLine v_signMany v_copies v_rowMany f_clerk f_s f_row f_best) s.heap.size = A at hD hE ⊢
  have hA : ∀ q : Nat, s.heap.size ≤ q → A q := fun q h => by rw [← hAe]; exact Or.inr h
  have hS : va_S A s.heap s.heap [] := va_S.rf
  have hl := lv_entry ([.ref a, .int x1, .int x2, .int x3]) (n := 5) (Nat.le_of_ble_eq_true rfl)
  rw [lg_entry_eq]
  generalize (lg_sl ([.ref a, .int x1, .int x2, .int x3]) ++ List.replicate (5 - (lg_sl ([.ref a, .int x1, .int x2, .int x3])).length) Slot.unset).toArray = ls at hl ⊢
  have hl : lv_has ls 5 [(0, .ref a), (1, .int x1), (2, .int x2), (3, .int x3)] := hl
  have hP : va_P G.1 vwCl (w_X8_told G a a_text a_clerk a_s a_kept a_isKept a_signed a_slips a_row a_best v_thrown v_trace v_typed v_next v_token v_place v_value v_fault v_clerks v_draftClerks v_draftLine v_signMany v_copies v_rowMany f_clerk f_s f_row f_best) s.heap := hP
  rw [fX8_told] at h
  refine lv_aload_n hx hb dX8_told_0 rfl (lv_at hl 0 rfl) ?_
  refine lv_iload_n hx hb dX8_told_1 rfl (lv_at hl 1 rfl) ?_
  refine lv_iload_n hx hb dX8_told_2 rfl (lv_at hl 2 rfl) ?_
  obtain ⟨y3, y3_v_rowMany, y3_f_row, y3_f_best, hc3, h⟩ := zb4_e h
  refine zcV (As := [.int x1, .int x2]) (rest := []) (ws' := (w_X8_told G a a_text a_clerk a_s a_kept a_isKept a_signed a_slips a_row a_best v_thrown v_trace v_typed v_next v_token v_place v_value v_fault v_clerks v_draftClerks v_draftLine v_signMany v_copies y3_v_rowMany f_clerk f_s y3_f_row y3_f_best)) (st1 := [.int y3]) ⟨hx, hb, hml, hown, hts⟩ (c_X8_bestRow l G fu a a_text a_clerk a_s a_kept a_isKept a_signed a_slips a_row a_best v_thrown v_trace v_typed v_next v_token v_place v_value v_fault v_clerks v_draftClerks v_draftLine v_signMany v_copies v_rowMany f_clerk f_s f_row f_best x1 x2 y3 y3_v_rowMany y3_f_row y3_f_best hc3) (cwV 2 hts gX8_told_X8_bestRow rfl rfl rfl (by decide +kernel) ⟨Nat.le_of_ble_eq_true rfl, Nat.le_of_ble_eq_true rfl⟩) hK hE hP hD hS hA [0, 1, 2, 3, 4] rfl rfl 0 8 rfl rfl rfl rfl rfl rfl hl.1 rfl (Nat.le_of_ble_eq_true rfl) dX8_told_3 (Nat.zero_le _) (Nat.zero_le _) rfl (fun H locs hP hD hS => ?_)
  refine lv_istore (lv' := [(4, .int y3), (0, .ref a), (1, .int x1), (2, .int x2), (3, .int x3)]) hx hb dX8_told_6 hl (by decide) rfl (fun ls hl => ?_)
  refine lv_iload_n hx hb dX8_told_8 rfl (lv_at hl 4 rfl) ?_
  refine lv_if_ge (tgt := 17) hx hb dX8_told_9 (by decide) (fun c9 => ?_) (fun c9 => ?_)
  · have h := zt c9 h
    refine lv_iload_n hx hb dX8_told_17 rfl (lv_at hl 4 rfl) ?_
    refine lv_aload_n hx hb dX8_told_18 rfl (lv_at hl 1 rfl) ?_
    refine va_get (D := G.1) (ci := 8) (v := .int y3_v_rowMany) (C := RX8) (T := TX8) (N := 23) hx hb hts in_X8_told_X8 hown hK.1 hP 0 rfl rfl 22 (by decide) (hts (.fieldLink RX8 153 "NineHandsModel" "rowMany" "I") (by decide +kernel)) (fun _ h9 => h9) rfl dX8_told_19 ?_
    refine lv_icmp_ge (tgt := 34) hx hb dX8_told_22 (by decide) (fun c22 => ?_) (fun c22 => ?_)
    · have h := zt c22 h
      refine lv_bipush (v := ((-5) : Int32)) hx hb dX8_told_34 (by decide) ?_
      cases h
      exact W.iret hx hb hr (fun t9 ht9 _ => zend hP hD hS ht9) hS.2.2 dX8_told_36
    · have h := zf c22 h
      refine lv_aload_n hx hb dX8_told_25 rfl (lv_at hl 1 rfl) ?_
      refine va_get (D := G.1) (ci := 8) (v := .ref a_best) (C := RX8) (T := TX8) (N := 23) hx hb hts in_X8_told_X8 hown hK.1 hP 0 rfl rfl 21 (by decide) (hts (.fieldLink RX8 35 "NineHandsModel" "best" "[I") (by decide +kernel)) (fun _ h9 => h9) rfl dX8_told_26 ?_
      refine lv_iload_n hx hb dX8_told_29 rfl (lv_at hl 4 rfl) ?_
      obtain ⟨g30, h⟩ := zg h
      refine zald hx hb hK.1 hP 4 0 rfl rfl g30 (j := (x3).toNatClampNeg) rfl dX8_told_30 ?_
      refine lv_goto (tgt := 36) hx hb dX8_told_31 (by decide) ?_
      cases h
      exact W.iret hx hb hr (fun t9 ht9 _ => zend hP hD hS ht9) hS.2.2 dX8_told_36
  · have h := zf c9 h
    refine lv_iload hx hb dX8_told_12 (lv_at hl 0 rfl) ?_
    refine lv_goto (tgt := 36) hx hb dX8_told_14 (by decide) ?_
    cases h
    exact W.iret hx hb hr (fun t9 ht9 _ => zend hP hD hS ht9) hS.2.2 dX8_told_36
abbrev w_X8_areClerks (G : zG) (a : Nat) (a_text : Nat) (a_clerk : Nat) (a_s : Nat) (a_kept : Nat) (a_isKept : Nat) (a_signed : Nat) (a_slips : Nat) (a_row : Nat) (a_best : Nat) (v_thrown : Int32) (v_trace : Int64) (v_typed : Int32) (v_next : Int32) (v_token : Int32) (v_place : Int32) (v_value : Int32) (v_fault : Int32) (v_clerks : Int32) (v_draftClerks : Int32) (v_draftLine : Int32) (v_signMany : Int32) (v_copies : Int32) (v_rowMany : Int32) : va_W := [(a, .inr (8, [.int v_thrown, .long v_trace, .ref a_text, .int v_typed, .int v_next, .int v_token, .int v_place, .int v_value, .int v_fault, .ref a_clerk, .int v_clerks, .int v_draftClerks, .int v_draftLine, .ref a_s, .ref a_kept, .ref a_isKept, .ref a_signed, .int v_signMany, .ref a_slips, .int v_copies, .ref a_row, .ref a_best, .int v_rowMany]))]
theorem in_X8_areClerks_X8 : ∀ w ∈ wsX80, w ∈ wsX8_areClerks := by decide +kernel
set_option maxHeartbeats 4000000 in
set_option maxRecDepth 100000 in
theorem c_X8_areClerks (l : Launch) (G : zG) (a : Nat) (a_text : Nat) (a_clerk : Nat) (a_s : Nat) (a_kept : Nat) (a_isKept : Nat) (a_signed : Nat) (a_slips : Nat) (a_row : Nat) (a_best : Nat) (v_thrown : Int32) (v_trace : Int64) (v_typed : Int32) (v_next : Int32) (v_token : Int32) (v_place : Int32) (v_value : Int32) (v_fault : Int32) (v_clerks : Int32) (v_draftClerks : Int32) (v_draftLine : Int32) (v_signMany : Int32) (v_copies : Int32) (v_rowMany : Int32) (x1 : Int32) (rv : Int32) (h : fX8_areClerks v_clerks x1 = some rv) : zC l yX8_areClerks wsX8_areClerks 1 22 G [.ref a, .int x1] (w_X8_areClerks G a a_text a_clerk a_s a_kept a_isKept a_signed a_slips a_row a_best v_thrown v_trace v_typed v_next v_token v_place v_value v_fault v_clerks v_draftClerks v_draftLine v_signMany v_copies v_rowMany) (some (.int rv)) (w_X8_areClerks G a a_text a_clerk a_s a_kept a_isKept a_signed a_slips a_row a_best v_thrown v_trace v_typed v_next v_token v_place v_value v_fault v_clerks v_draftClerks v_draftLine v_signMany v_copies v_rowMany) := by
  refine fun sz => Met.ofW (cc := cX8_areClerks) (maxL := 2) (ret := (some .boolean)) (by decide) rfl ?_
  intro p e s m args below meth c s₁ B hml hv
  obtain ⟨rfl, hsz, hP, hK, hD0, hE⟩ := hv
  have hx := B.exec
  have hb := B.bytes
  have hr := B.returns
  have hts := atoms_spec (ws := wsX8_areClerks) B.pre
  have hown : s.vm.findClass RX8 = some m.cls := findClass_of_methodNamed B.named
  have hlocks := B.notSynchronized
  subst hsz
  have hD := hD0.self (sz := s.heap.size)
  generalize hAe : va_A (w_X8_areClerks G a a_text a_clerk a_s a_kept a_isKept a_signed a_slips a_row a_best v_thrown v_trace v_typed v_next v_token v_place v_value v_fault v_clerks v_draftClerks v_draftLine v_signMany v_copies v_rowMany) s.heap.size = A at hD hE ⊢
  have hA : ∀ q : Nat, s.heap.size ≤ q → A q := fun q h => by rw [← hAe]; exact Or.inr h
  have hS : va_S A s.heap s.heap [] := va_S.rf
  have hl := lv_entry ([.ref a, .int x1]) (n := 2) (Nat.le_of_ble_eq_true rfl)
  rw [lg_entry_eq]
  generalize (lg_sl ([.ref a, .int x1]) ++ List.replicate (2 - (lg_sl ([.ref a, .int x1])).length) Slot.unset).toArray = ls at hl ⊢
  have hl : lv_has ls 2 [(0, .ref a), (1, .int x1)] := hl
  have hP : va_P G.1 vwCl (w_X8_areClerks G a a_text a_clerk a_s a_kept a_isKept a_signed a_slips a_row a_best v_thrown v_trace v_typed v_next v_token v_place v_value v_fault v_clerks v_draftClerks v_draftLine v_signMany v_copies v_rowMany) s.heap := hP
  rw [fX8_areClerks] at h
  refine lv_iload_n hx hb dX8_areClerks_0 rfl (lv_at hl 1 rfl) ?_
  refine lv_iconst (v := (0 : Int32)) hx hb dX8_areClerks_1 (by decide) ?_
  refine lv_iconst (v := (1 : Int32)) hx hb dX8_areClerks_2 (by decide) ?_
  refine lv_aload_n hx hb dX8_areClerks_3 rfl (lv_at hl 0 rfl) ?_
  refine va_get (D := G.1) (ci := 8) (v := .int v_clerks) (C := RX8) (T := TX8) (N := 23) hx hb hts in_X8_areClerks_X8 hown hK.1 hP 0 rfl rfl 10 (by decide) (hts (.fieldLink RX8 112 "NineHandsModel" "clerks" "I") (by decide +kernel)) (fun _ h9 => h9) rfl dX8_areClerks_4 ?_
  refine lv_ishl hx hb dX8_areClerks_7 ?_
  refine lv_iconst (v := (1 : Int32)) hx hb dX8_areClerks_8 (by decide) ?_
  refine lv_isub hx hb dX8_areClerks_9 ?_
  obtain ⟨y10, hc10, h⟩ := zb1_e h
  refine zcS (As := [.int x1, .int (0 : Int32), .int (((1 : Int32) <<< (v_clerks &&& 31)) - (1 : Int32))]) (rest := []) (ws' := (w_X8_areClerks G a a_text a_clerk a_s a_kept a_isKept a_signed a_slips a_row a_best v_thrown v_trace v_typed v_next v_token v_place v_value v_fault v_clerks v_draftClerks v_draftLine v_signMany v_copies v_rowMany)) (st1 := [.int y10]) ⟨hx, hb, hml, hown, hts⟩ (c_X8_in l G x1 (0 : Int32) (((1 : Int32) <<< (v_clerks &&& 31)) - (1 : Int32)) y10 hc10) (va_cwS 3 hts gX8_areClerks_X8_in rfl rfl rfl (by decide +kernel) ⟨Nat.le_of_ble_eq_true rfl, Nat.le_of_ble_eq_true rfl⟩) hK hE hP hD hS hA [] rfl rfl rfl rfl rfl hl.1 rfl (Nat.le_of_ble_eq_true rfl) dX8_areClerks_10 (Nat.zero_le _) (Nat.zero_le _) rfl (fun H locs hP hD hS => ?_)
  obtain ⟨g13, h⟩ := zg h
  cases h
  exact W.zret (ty := .boolean) hx hb hr (zbool g13) (fun t9 ht9 _ => zend hP hD hS ht9) hS.2.2 dX8_areClerks_13
abbrev w_X8_order (G : zG) (a : Nat) (a_text : Nat) (a_clerk : Nat) (a_s : Nat) (a_kept : Nat) (a_isKept : Nat) (a_signed : Nat) (a_slips : Nat) (a_row : Nat) (a_best : Nat) (v_thrown : Int32) (v_trace : Int64) (v_typed : Int32) (v_next : Int32) (v_token : Int32) (v_place : Int32) (v_value : Int32) (v_fault : Int32) (v_clerks : Int32) (v_draftClerks : Int32) (v_draftLine : Int32) (v_signMany : Int32) (v_copies : Int32) (v_rowMany : Int32) (f_clerk : (Nat → Int32)) (f_s : (Nat → Int32)) (f_row : (Nat → Int32)) (f_best : (Nat → Int32)) : va_W := [(a, .inr (8, [.int v_thrown, .long v_trace, .ref a_text, .int v_typed, .int v_next, .int v_token, .int v_place, .int v_value, .int v_fault, .ref a_clerk, .int v_clerks, .int v_draftClerks, .int v_draftLine, .ref a_s, .ref a_kept, .ref a_isKept, .ref a_signed, .int v_signMany, .ref a_slips, .int v_copies, .ref a_row, .ref a_best, .int v_rowMany])), (a_clerk, .inl (zCI G, 48, .inl f_clerk)), (a_s, .inl (zCI G, 22, .inl f_s)), (a_row, .inl (zCI G, 6, .inl f_row)), (a_best, .inl (zCI G, 6, .inl f_best))]
theorem in_X8_order_X8 : ∀ w ∈ wsX80, w ∈ wsX8_order := by decide +kernel
set_option maxHeartbeats 4000000 in
set_option maxRecDepth 100000 in
theorem c_X8_order (l : Launch) (G : zG) (fu : Nat) (a : Nat) (a_text : Nat) (a_clerk : Nat) (a_s : Nat) (a_kept : Nat) (a_isKept : Nat) (a_signed : Nat) (a_slips : Nat) (a_row : Nat) (a_best : Nat) (v_thrown : Int32) (v_trace : Int64) (v_typed : Int32) (v_next : Int32) (v_token : Int32) (v_place : Int32) (v_value : Int32) (v_fault : Int32) (v_clerks : Int32) (v_draftClerks : Int32) (v_draftLine : Int32) (v_signMany : Int32) (v_copies : Int32) (v_rowMany : Int32) (f_clerk : (Nat → Int32)) (f_s : (Nat → Int32)) (f_row : (Nat → Int32)) (f_best : (Nat → Int32)) (x1 : Int32) (x2 : Int32) (x3 : Int32) (rv : Int32) (ov_thrown : Int32) (ov_rowMany : Int32) (of_row : (Nat → Int32)) (of_best : (Nat → Int32)) (h : fX8_order fu v_thrown v_clerks v_rowMany f_clerk f_s f_row f_best x1 x2 x3 = some (rv, ov_thrown, ov_rowMany, of_row, of_best)) : zC l yX8_order wsX8_order 4 98 G [.ref a, .int x1, .int x2, .int x3] (w_X8_order G a a_text a_clerk a_s a_kept a_isKept a_signed a_slips a_row a_best v_thrown v_trace v_typed v_next v_token v_place v_value v_fault v_clerks v_draftClerks v_draftLine v_signMany v_copies v_rowMany f_clerk f_s f_row f_best) (some (.int rv)) (w_X8_order G a a_text a_clerk a_s a_kept a_isKept a_signed a_slips a_row a_best ov_thrown v_trace v_typed v_next v_token v_place v_value v_fault v_clerks v_draftClerks v_draftLine v_signMany v_copies ov_rowMany f_clerk f_s of_row of_best) := by
  refine fun sz => Met.ofW (cc := cX8_order) (maxL := 4) (ret := (some .int)) (by decide) rfl ?_
  intro p e s m args below meth c s₁ B hml hv
  obtain ⟨rfl, hsz, hP, hK, hD0, hE⟩ := hv
  have hx := B.exec
  have hb := B.bytes
  have hr := B.returns
  have hts := atoms_spec (ws := wsX8_order) B.pre
  have hown : s.vm.findClass RX8 = some m.cls := findClass_of_methodNamed B.named
  have hlocks := B.notSynchronized
  subst hsz
  have hD := hD0.self (sz := s.heap.size)
  generalize hAe : va_A (w_X8_order G a a_text a_clerk a_s a_kept a_isKept a_signed a_slips a_row a_best v_thrown v_trace v_typed v_next v_token v_place v_value v_fault v_clerks v_draftClerks v_draftLine v_signMany v_copies v_rowMany f_clerk f_s f_row f_best) s.heap.size = A at hD hE ⊢
  have hA : ∀ q : Nat, s.heap.size ≤ q → A q := fun q h => by rw [← hAe]; exact Or.inr h
  have hS : va_S A s.heap s.heap [] := va_S.rf
  have hl := lv_entry ([.ref a, .int x1, .int x2, .int x3]) (n := 4) (Nat.le_of_ble_eq_true rfl)
  rw [lg_entry_eq]
  generalize (lg_sl ([.ref a, .int x1, .int x2, .int x3]) ++ List.replicate (4 - (lg_sl ([.ref a, .int x1, .int x2, .int x3])).length) Slot.unset).toArray = ls at hl ⊢
  have hl : lv_has ls 4 [(0, .ref a), (1, .int x1), (2, .int x2), (3, .int x3)] := hl
  have hP : va_P G.1 vwCl (w_X8_order G a a_text a_clerk a_s a_kept a_isKept a_signed a_slips a_row a_best v_thrown v_trace v_typed v_next v_token v_place v_value v_fault v_clerks v_draftClerks v_draftLine v_signMany v_copies v_rowMany f_clerk f_s f_row f_best) s.heap := hP
  rw [fX8_order] at h
  refine lv_aload_n hx hb dX8_order_0 rfl (lv_at hl 0 rfl) ?_
  refine lv_iconst (v := (0 : Int32)) hx hb dX8_order_1 (by decide) ?_
  refine zput1 (D := G.1) (ci := 8) (C := RX8) (T := TX8) (N := 23) (ty := .int) (ws' := (w_X8_order G a a_text a_clerk a_s a_kept a_isKept a_signed a_slips a_row a_best (0 : Int32) v_trace v_typed v_next v_token v_place v_value v_fault v_clerks v_draftClerks v_draftLine v_signMany v_copies v_rowMany f_clerk f_s f_row f_best)) hx hb hts in_X8_order_X8 tyX8 tyX8_ok nmX8 hown hK.1 hP hD hS 0 rfl rfl 0 (by decide) (hts (.fieldLink RX8 42 "NineHandsModel" "thrown" "I") (by decide +kernel)) (fun _ h9 => h9) rfl (by decide +kernel) rfl rfl (Nat.le_of_ble_eq_true rfl) rfl dX8_order_2 (fun H locs hP hD hS => ?_)
  refine lv_aload_n hx hb dX8_order_5 rfl (lv_at hl 0 rfl) ?_
  refine lv_iload_n hx hb dX8_order_6 rfl (lv_at hl 1 rfl) ?_
  obtain ⟨y7, hc7, h⟩ := zb1_e h
  refine zcV (As := [.int x1]) (rest := []) (ws' := (w_X8_order G a a_text a_clerk a_s a_kept a_isKept a_signed a_slips a_row a_best (0 : Int32) v_trace v_typed v_next v_token v_place v_value v_fault v_clerks v_draftClerks v_draftLine v_signMany v_copies v_rowMany f_clerk f_s f_row f_best)) (st1 := [.int y7]) ⟨hx, hb, hml, hown, hts⟩ (c_X8_areClerks l G a a_text a_clerk a_s a_kept a_isKept a_signed a_slips a_row a_best (0 : Int32) v_trace v_typed v_next v_token v_place v_value v_fault v_clerks v_draftClerks v_draftLine v_signMany v_copies v_rowMany x1 y7 hc7) (cwV 1 hts gX8_order_X8_areClerks rfl rfl rfl (by decide +kernel) ⟨Nat.le_of_ble_eq_true rfl, Nat.le_of_ble_eq_true rfl⟩) hK hE hP hD hS hA [0] rfl rfl 0 8 rfl rfl rfl rfl rfl rfl hl.1 rfl (Nat.le_of_ble_eq_true rfl) dX8_order_7 (Nat.zero_le _) (Nat.zero_le _) rfl (fun H locs hP hD hS => ?_)
  refine lv_if_eq (tgt := 28) hx hb dX8_order_10 (by decide) (fun c10 => ?_) (fun c10 => ?_)
  · have h := zt c10 h
    refine lv_iconst (v := ((-1) : Int32)) hx hb dX8_order_28 (by decide) ?_
    refine lv_goto (tgt := 39) hx hb dX8_order_29 (by decide) ?_
    cases h
    exact W.iret hx hb hr (fun t9 ht9 _ => zend hP hD hS ht9) hS.2.2 dX8_order_39
  · have h := zf c10 h
    refine lv_iload_n hx hb dX8_order_13 rfl (lv_at hl 2 rfl) ?_
    refine lv_iconst (v := (0 : Int32)) hx hb dX8_order_14 (by decide) ?_
    refine lv_bipush (v := (9 : Int32)) hx hb dX8_order_15 (by decide) ?_
    obtain ⟨y17, hc17, h⟩ := zb1_e h
    refine zcS (As := [.int x2, .int (0 : Int32), .int (9 : Int32)]) (rest := []) (ws' := (w_X8_order G a a_text a_clerk a_s a_kept a_isKept a_signed a_slips a_row a_best (0 : Int32) v_trace v_typed v_next v_token v_place v_value v_fault v_clerks v_draftClerks v_draftLine v_signMany v_copies v_rowMany f_clerk f_s f_row f_best)) (st1 := [.int y17]) ⟨hx, hb, hml, hown, hts⟩ (c_X8_in l G x2 (0 : Int32) (9 : Int32) y17 hc17) (va_cwS 3 hts gX8_order_X8_in rfl rfl rfl (by decide +kernel) ⟨Nat.le_of_ble_eq_true rfl, Nat.le_of_ble_eq_true rfl⟩) hK hE hP hD hS hA [] rfl rfl rfl rfl rfl hl.1 rfl (Nat.le_of_ble_eq_true rfl) dX8_order_17 (Nat.zero_le _) (Nat.zero_le _) rfl (fun H locs hP hD hS => ?_)
    refine lv_if_eq (tgt := 28) hx hb dX8_order_20 (by decide) (fun c20 => ?_) (fun c20 => ?_)
    · have h := zt c20 h
      refine lv_iconst (v := ((-1) : Int32)) hx hb dX8_order_28 (by decide) ?_
      refine lv_goto (tgt := 39) hx hb dX8_order_29 (by decide) ?_
      cases h
      exact W.iret hx hb hr (fun t9 ht9 _ => zend hP hD hS ht9) hS.2.2 dX8_order_39
    · have h := zf c20 h
      refine lv_iload_n hx hb dX8_order_23 rfl (lv_at hl 3 rfl) ?_
      refine lv_iconst (v := ((-1) : Int32)) hx hb dX8_order_24 (by decide) ?_
      refine lv_icmp_ge (tgt := 32) hx hb dX8_order_25 (by decide) (fun c25 => ?_) (fun c25 => ?_)
      · have h := zt c25 h
        refine lv_aload_n hx hb dX8_order_32 rfl (lv_at hl 0 rfl) ?_
        refine lv_iload_n hx hb dX8_order_33 rfl (lv_at hl 1 rfl) ?_
        refine lv_iload_n hx hb dX8_order_34 rfl (lv_at hl 2 rfl) ?_
        refine lv_iload_n hx hb dX8_order_35 rfl (lv_at hl 3 rfl) ?_
        obtain ⟨y36, y36_v_rowMany, y36_f_row, y36_f_best, hc36, h⟩ := zb4_e h
        refine zcV (As := [.int x1, .int x2, .int x3]) (rest := []) (ws' := (w_X8_order G a a_text a_clerk a_s a_kept a_isKept a_signed a_slips a_row a_best (0 : Int32) v_trace v_typed v_next v_token v_place v_value v_fault v_clerks v_draftClerks v_draftLine v_signMany v_copies y36_v_rowMany f_clerk f_s y36_f_row y36_f_best)) (st1 := [.int y36]) ⟨hx, hb, hml, hown, hts⟩ (c_X8_told l G fu a a_text a_clerk a_s a_kept a_isKept a_signed a_slips a_row a_best (0 : Int32) v_trace v_typed v_next v_token v_place v_value v_fault v_clerks v_draftClerks v_draftLine v_signMany v_copies v_rowMany f_clerk f_s f_row f_best x1 x2 x3 y36 y36_v_rowMany y36_f_row y36_f_best hc36) (cwV 3 hts gX8_order_X8_told rfl rfl rfl (by decide +kernel) ⟨Nat.le_of_ble_eq_true rfl, Nat.le_of_ble_eq_true rfl⟩) hK hE hP hD hS hA [0, 1, 2, 3, 4] rfl rfl 0 8 rfl rfl rfl rfl rfl rfl hl.1 rfl (Nat.le_of_ble_eq_true rfl) dX8_order_36 (Nat.zero_le _) (Nat.zero_le _) rfl (fun H locs hP hD hS => ?_)
        cases h
        exact W.iret hx hb hr (fun t9 ht9 _ => zend hP hD hS ht9) hS.2.2 dX8_order_39
      · have h := zf c25 h
        refine lv_iconst (v := ((-1) : Int32)) hx hb dX8_order_28 (by decide) ?_
        refine lv_goto (tgt := 39) hx hb dX8_order_29 (by decide) ?_
        cases h
        exact W.iret hx hb hr (fun t9 ht9 _ => zend hP hD hS ht9) hS.2.2 dX8_order_39
abbrev w_X8_drift (G : zG) (a : Nat) (a_text : Nat) (a_clerk : Nat) (a_s : Nat) (a_kept : Nat) (a_isKept : Nat) (a_signed : Nat) (a_slips : Nat) (a_row : Nat) (a_best : Nat) (v_thrown : Int32) (v_trace : Int64) (v_typed : Int32) (v_next : Int32) (v_token : Int32) (v_place : Int32) (v_value : Int32) (v_fault : Int32) (v_clerks : Int32) (v_draftClerks : Int32) (v_draftLine : Int32) (v_signMany : Int32) (v_copies : Int32) (v_rowMany : Int32) (f_clerk : (Nat → Int32)) (f_s : (Nat → Int32)) (f_row : (Nat → Int32)) (f_best : (Nat → Int32)) : va_W := [(a, .inr (8, [.int v_thrown, .long v_trace, .ref a_text, .int v_typed, .int v_next, .int v_token, .int v_place, .int v_value, .int v_fault, .ref a_clerk, .int v_clerks, .int v_draftClerks, .int v_draftLine, .ref a_s, .ref a_kept, .ref a_isKept, .ref a_signed, .int v_signMany, .ref a_slips, .int v_copies, .ref a_row, .ref a_best, .int v_rowMany])), (a_clerk, .inl (zCI G, 48, .inl f_clerk)), (a_s, .inl (zCI G, 22, .inl f_s)), (a_row, .inl (zCI G, 6, .inl f_row)), (a_best, .inl (zCI G, 6, .inl f_best))]
theorem in_X8_drift_X8 : ∀ w ∈ wsX80, w ∈ wsX8_drift := by decide +kernel
set_option maxHeartbeats 4000000 in
set_option maxRecDepth 100000 in
theorem c_X8_drift (l : Launch) (G : zG) (fu : Nat) (a : Nat) (a_text : Nat) (a_clerk : Nat) (a_s : Nat) (a_kept : Nat) (a_isKept : Nat) (a_signed : Nat) (a_slips : Nat) (a_row : Nat) (a_best : Nat) (v_thrown : Int32) (v_trace : Int64) (v_typed : Int32) (v_next : Int32) (v_token : Int32) (v_place : Int32) (v_value : Int32) (v_fault : Int32) (v_clerks : Int32) (v_draftClerks : Int32) (v_draftLine : Int32) (v_signMany : Int32) (v_copies : Int32) (v_rowMany : Int32) (f_clerk : (Nat → Int32)) (f_s : (Nat → Int32)) (f_row : (Nat → Int32)) (f_best : (Nat → Int32)) (x1 : Int32) (x2 : Int32) (rv : Int32) (ov_thrown : Int32) (ov_rowMany : Int32) (of_row : (Nat → Int32)) (of_best : (Nat → Int32)) (h : fX8_drift fu v_thrown v_clerks v_rowMany f_clerk f_s f_row f_best x1 x2 = some (rv, ov_thrown, ov_rowMany, of_row, of_best)) : zC l yX8_drift wsX8_drift 4 98 G [.ref a, .int x1, .int x2] (w_X8_drift G a a_text a_clerk a_s a_kept a_isKept a_signed a_slips a_row a_best v_thrown v_trace v_typed v_next v_token v_place v_value v_fault v_clerks v_draftClerks v_draftLine v_signMany v_copies v_rowMany f_clerk f_s f_row f_best) (some (.int rv)) (w_X8_drift G a a_text a_clerk a_s a_kept a_isKept a_signed a_slips a_row a_best ov_thrown v_trace v_typed v_next v_token v_place v_value v_fault v_clerks v_draftClerks v_draftLine v_signMany v_copies ov_rowMany f_clerk f_s of_row of_best) := by
  refine fun sz => Met.ofW (cc := cX8_drift) (maxL := 3) (ret := (some .int)) (by decide) rfl ?_
  intro p e s m args below meth c s₁ B hml hv
  obtain ⟨rfl, hsz, hP, hK, hD0, hE⟩ := hv
  have hx := B.exec
  have hb := B.bytes
  have hr := B.returns
  have hts := atoms_spec (ws := wsX8_drift) B.pre
  have hown : s.vm.findClass RX8 = some m.cls := findClass_of_methodNamed B.named
  have hlocks := B.notSynchronized
  subst hsz
  have hD := hD0.self (sz := s.heap.size)
  generalize hAe : va_A (w_X8_drift G a a_text a_clerk a_s a_kept a_isKept a_signed a_slips a_row a_best v_thrown v_trace v_typed v_next v_token v_place v_value v_fault v_clerks v_draftClerks v_draftLine v_signMany v_copies v_rowMany f_clerk f_s f_row f_best) s.heap.size = A at hD hE ⊢
  have hA : ∀ q : Nat, s.heap.size ≤ q → A q := fun q h => by rw [← hAe]; exact Or.inr h
  have hS : va_S A s.heap s.heap [] := va_S.rf
  have hl := lv_entry ([.ref a, .int x1, .int x2]) (n := 3) (Nat.le_of_ble_eq_true rfl)
  rw [lg_entry_eq]
  generalize (lg_sl ([.ref a, .int x1, .int x2]) ++ List.replicate (3 - (lg_sl ([.ref a, .int x1, .int x2])).length) Slot.unset).toArray = ls at hl ⊢
  have hl : lv_has ls 3 [(0, .ref a), (1, .int x1), (2, .int x2)] := hl
  have hP : va_P G.1 vwCl (w_X8_drift G a a_text a_clerk a_s a_kept a_isKept a_signed a_slips a_row a_best v_thrown v_trace v_typed v_next v_token v_place v_value v_fault v_clerks v_draftClerks v_draftLine v_signMany v_copies v_rowMany f_clerk f_s f_row f_best) s.heap := hP
  rw [fX8_drift] at h
  refine lv_aload_n hx hb dX8_drift_0 rfl (lv_at hl 0 rfl) ?_
  refine lv_iconst (v := (0 : Int32)) hx hb dX8_drift_1 (by decide) ?_
  refine zput1 (D := G.1) (ci := 8) (C := RX8) (T := TX8) (N := 23) (ty := .int) (ws' := (w_X8_drift G a a_text a_clerk a_s a_kept a_isKept a_signed a_slips a_row a_best (0 : Int32) v_trace v_typed v_next v_token v_place v_value v_fault v_clerks v_draftClerks v_draftLine v_signMany v_copies v_rowMany f_clerk f_s f_row f_best)) hx hb hts in_X8_drift_X8 tyX8 tyX8_ok nmX8 hown hK.1 hP hD hS 0 rfl rfl 0 (by decide) (hts (.fieldLink RX8 42 "NineHandsModel" "thrown" "I") (by decide +kernel)) (fun _ h9 => h9) rfl (by decide +kernel) rfl rfl (Nat.le_of_ble_eq_true rfl) rfl dX8_drift_2 (fun H locs hP hD hS => ?_)
  refine lv_aload_n hx hb dX8_drift_5 rfl (lv_at hl 0 rfl) ?_
  refine lv_iload_n hx hb dX8_drift_6 rfl (lv_at hl 1 rfl) ?_
  obtain ⟨y7, hc7, h⟩ := zb1_e h
  refine zcV (As := [.int x1]) (rest := []) (ws' := (w_X8_drift G a a_text a_clerk a_s a_kept a_isKept a_signed a_slips a_row a_best (0 : Int32) v_trace v_typed v_next v_token v_place v_value v_fault v_clerks v_draftClerks v_draftLine v_signMany v_copies v_rowMany f_clerk f_s f_row f_best)) (st1 := [.int y7]) ⟨hx, hb, hml, hown, hts⟩ (c_X8_areClerks l G a a_text a_clerk a_s a_kept a_isKept a_signed a_slips a_row a_best (0 : Int32) v_trace v_typed v_next v_token v_place v_value v_fault v_clerks v_draftClerks v_draftLine v_signMany v_copies v_rowMany x1 y7 hc7) (cwV 1 hts gX8_drift_X8_areClerks rfl rfl rfl (by decide +kernel) ⟨Nat.le_of_ble_eq_true rfl, Nat.le_of_ble_eq_true rfl⟩) hK hE hP hD hS hA [0] rfl rfl 0 8 rfl rfl rfl rfl rfl rfl hl.1 rfl (Nat.le_of_ble_eq_true rfl) dX8_drift_7 (Nat.zero_le _) (Nat.zero_le _) rfl (fun H locs hP hD hS => ?_)
  refine lv_if_eq (tgt := 18) hx hb dX8_drift_10 (by decide) (fun c10 => ?_) (fun c10 => ?_)
  · have h := zt c10 h
    refine lv_iconst (v := ((-1) : Int32)) hx hb dX8_drift_18 (by decide) ?_
    refine lv_goto (tgt := 29) hx hb dX8_drift_19 (by decide) ?_
    cases h
    exact W.iret hx hb hr (fun t9 ht9 _ => zend hP hD hS ht9) hS.2.2 dX8_drift_29
  · have h := zf c10 h
    refine lv_iload_n hx hb dX8_drift_13 rfl (lv_at hl 2 rfl) ?_
    refine lv_iconst (v := ((-1) : Int32)) hx hb dX8_drift_14 (by decide) ?_
    refine lv_icmp_ge (tgt := 22) hx hb dX8_drift_15 (by decide) (fun c15 => ?_) (fun c15 => ?_)
    · have h := zt c15 h
      refine lv_aload_n hx hb dX8_drift_22 rfl (lv_at hl 0 rfl) ?_
      refine lv_iload_n hx hb dX8_drift_23 rfl (lv_at hl 1 rfl) ?_
      refine lv_iconst (v := ((-1) : Int32)) hx hb dX8_drift_24 (by decide) ?_
      refine lv_iload_n hx hb dX8_drift_25 rfl (lv_at hl 2 rfl) ?_
      obtain ⟨y26, y26_v_rowMany, y26_f_row, y26_f_best, hc26, h⟩ := zb4_e h
      refine zcV (As := [.int x1, .int ((-1) : Int32), .int x2]) (rest := []) (ws' := (w_X8_drift G a a_text a_clerk a_s a_kept a_isKept a_signed a_slips a_row a_best (0 : Int32) v_trace v_typed v_next v_token v_place v_value v_fault v_clerks v_draftClerks v_draftLine v_signMany v_copies y26_v_rowMany f_clerk f_s y26_f_row y26_f_best)) (st1 := [.int y26]) ⟨hx, hb, hml, hown, hts⟩ (c_X8_told l G fu a a_text a_clerk a_s a_kept a_isKept a_signed a_slips a_row a_best (0 : Int32) v_trace v_typed v_next v_token v_place v_value v_fault v_clerks v_draftClerks v_draftLine v_signMany v_copies v_rowMany f_clerk f_s f_row f_best x1 ((-1) : Int32) x2 y26 y26_v_rowMany y26_f_row y26_f_best hc26) (cwV 3 hts gX8_drift_X8_told rfl rfl rfl (by decide +kernel) ⟨Nat.le_of_ble_eq_true rfl, Nat.le_of_ble_eq_true rfl⟩) hK hE hP hD hS hA [0, 1, 2, 3, 4] rfl rfl 0 8 rfl rfl rfl rfl rfl rfl hl.1 rfl (Nat.le_of_ble_eq_true rfl) dX8_drift_26 (Nat.zero_le _) (Nat.zero_le _) rfl (fun H locs hP hD hS => ?_)
      cases h
      exact W.iret hx hb hr (fun t9 ht9 _ => zend hP hD hS ht9) hS.2.2 dX8_drift_29
    · have h := zf c15 h
      refine lv_iconst (v := ((-1) : Int32)) hx hb dX8_drift_18 (by decide) ?_
      refine lv_goto (tgt := 29) hx hb dX8_drift_19 (by decide) ?_
      cases h
      exact W.iret hx hb hr (fun t9 ht9 _ => zend hP hD hS ht9) hS.2.2 dX8_drift_29
abbrev w_X8_sign (G : zG) (a : Nat) (a_text : Nat) (a_clerk : Nat) (a_s : Nat) (a_kept : Nat) (a_isKept : Nat) (a_signed : Nat) (a_slips : Nat) (a_row : Nat) (a_best : Nat) (v_thrown : Int32) (v_trace : Int64) (v_typed : Int32) (v_next : Int32) (v_token : Int32) (v_place : Int32) (v_value : Int32) (v_fault : Int32) (v_clerks : Int32) (v_draftClerks : Int32) (v_draftLine : Int32) (v_signMany : Int32) (v_copies : Int32) (v_rowMany : Int32) (f_signed : (Nat → Int32)) : va_W := [(a, .inr (8, [.int v_thrown, .long v_trace, .ref a_text, .int v_typed, .int v_next, .int v_token, .int v_place, .int v_value, .int v_fault, .ref a_clerk, .int v_clerks, .int v_draftClerks, .int v_draftLine, .ref a_s, .ref a_kept, .ref a_isKept, .ref a_signed, .int v_signMany, .ref a_slips, .int v_copies, .ref a_row, .ref a_best, .int v_rowMany])), (a_signed, .inl (zCI G, 16, .inl f_signed))]
theorem in_X8_sign_X8 : ∀ w ∈ wsX80, w ∈ wsX8_sign := by decide +kernel
set_option maxHeartbeats 4000000 in
set_option maxRecDepth 100000 in
theorem c_X8_sign (l : Launch) (G : zG) (a : Nat) (a_text : Nat) (a_clerk : Nat) (a_s : Nat) (a_kept : Nat) (a_isKept : Nat) (a_signed : Nat) (a_slips : Nat) (a_row : Nat) (a_best : Nat) (v_thrown : Int32) (v_trace : Int64) (v_typed : Int32) (v_next : Int32) (v_token : Int32) (v_place : Int32) (v_value : Int32) (v_fault : Int32) (v_clerks : Int32) (v_draftClerks : Int32) (v_draftLine : Int32) (v_signMany : Int32) (v_copies : Int32) (v_rowMany : Int32) (f_signed : (Nat → Int32)) (x1 : Int32) (x2 : Int32) (x3 : Int32) (x4 : Int32) (rv : Int32) (ov_thrown : Int32) (ov_signMany : Int32) (of_signed : (Nat → Int32)) (h : fX8_sign v_thrown v_signMany f_signed x1 x2 x3 x4 = some (rv, ov_thrown, ov_signMany, of_signed)) : zC l yX8_sign wsX8_sign 1 22 G [.ref a, .int x1, .int x2, .int x3, .int x4] (w_X8_sign G a a_text a_clerk a_s a_kept a_isKept a_signed a_slips a_row a_best v_thrown v_trace v_typed v_next v_token v_place v_value v_fault v_clerks v_draftClerks v_draftLine v_signMany v_copies v_rowMany f_signed) (some (.int rv)) (w_X8_sign G a a_text a_clerk a_s a_kept a_isKept a_signed a_slips a_row a_best ov_thrown v_trace v_typed v_next v_token v_place v_value v_fault v_clerks v_draftClerks v_draftLine ov_signMany v_copies v_rowMany of_signed) := by
  refine fun sz => Met.ofW (cc := cX8_sign) (maxL := 5) (ret := (some .int)) (by decide) rfl ?_
  intro p e s m args below meth c s₁ B hml hv
  obtain ⟨rfl, hsz, hP, hK, hD0, hE⟩ := hv
  have hx := B.exec
  have hb := B.bytes
  have hr := B.returns
  have hts := atoms_spec (ws := wsX8_sign) B.pre
  have hown : s.vm.findClass RX8 = some m.cls := findClass_of_methodNamed B.named
  have hlocks := B.notSynchronized
  subst hsz
  have hD := hD0.self (sz := s.heap.size)
  generalize hAe : va_A (w_X8_sign G a a_text a_clerk a_s a_kept a_isKept a_signed a_slips a_row a_best v_thrown v_trace v_typed v_next v_token v_place v_value v_fault v_clerks v_draftClerks v_draftLine v_signMany v_copies v_rowMany f_signed) s.heap.size = A at hD hE ⊢
  have hA : ∀ q : Nat, s.heap.size ≤ q → A q := fun q h => by rw [← hAe]; exact Or.inr h
  have hS : va_S A s.heap s.heap [] := va_S.rf
  have hl := lv_entry ([.ref a, .int x1, .int x2, .int x3, .int x4]) (n := 5) (Nat.le_of_ble_eq_true rfl)
  rw [lg_entry_eq]
  generalize (lg_sl ([.ref a, .int x1, .int x2, .int x3, .int x4]) ++ List.replicate (5 - (lg_sl ([.ref a, .int x1, .int x2, .int x3, .int x4])).length) Slot.unset).toArray = ls at hl ⊢
  have hl : lv_has ls 5 [(0, .ref a), (1, .int x1), (2, .int x2), (3, .int x3), (4, .int x4)] := hl
  have hP : va_P G.1 vwCl (w_X8_sign G a a_text a_clerk a_s a_kept a_isKept a_signed a_slips a_row a_best v_thrown v_trace v_typed v_next v_token v_place v_value v_fault v_clerks v_draftClerks v_draftLine v_signMany v_copies v_rowMany f_signed) s.heap := hP
  rw [fX8_sign] at h
  refine lv_aload_n hx hb dX8_sign_0 rfl (lv_at hl 0 rfl) ?_
  refine lv_iconst (v := (0 : Int32)) hx hb dX8_sign_1 (by decide) ?_
  refine zput1 (D := G.1) (ci := 8) (C := RX8) (T := TX8) (N := 23) (ty := .int) (ws' := (w_X8_sign G a a_text a_clerk a_s a_kept a_isKept a_signed a_slips a_row a_best (0 : Int32) v_trace v_typed v_next v_token v_place v_value v_fault v_clerks v_draftClerks v_draftLine v_signMany v_copies v_rowMany f_signed)) hx hb hts in_X8_sign_X8 tyX8 tyX8_ok nmX8 hown hK.1 hP hD hS 0 rfl rfl 0 (by decide) (hts (.fieldLink RX8 42 "NineHandsModel" "thrown" "I") (by decide +kernel)) (fun _ h9 => h9) rfl (by decide +kernel) rfl rfl (Nat.le_of_ble_eq_true rfl) rfl dX8_sign_2 (fun H locs hP hD hS => ?_)
  refine lv_iload_n hx hb dX8_sign_5 rfl (lv_at hl 1 rfl) ?_
  refine lv_iconst (v := (0 : Int32)) hx hb dX8_sign_6 (by decide) ?_
  refine lv_bipush (v := (9 : Int32)) hx hb dX8_sign_7 (by decide) ?_
  obtain ⟨y9, hc9, h⟩ := zb1_e h
  refine zcS (As := [.int x1, .int (0 : Int32), .int (9 : Int32)]) (rest := []) (ws' := (w_X8_sign G a a_text a_clerk a_s a_kept a_isKept a_signed a_slips a_row a_best (0 : Int32) v_trace v_typed v_next v_token v_place v_value v_fault v_clerks v_draftClerks v_draftLine v_signMany v_copies v_rowMany f_signed)) (st1 := [.int y9]) ⟨hx, hb, hml, hown, hts⟩ (c_X8_in l G x1 (0 : Int32) (9 : Int32) y9 hc9) (va_cwS 3 hts gX8_sign_X8_in rfl rfl rfl (by decide +kernel) ⟨Nat.le_of_ble_eq_true rfl, Nat.le_of_ble_eq_true rfl⟩) hK hE hP hD hS hA [] rfl rfl rfl rfl rfl hl.1 rfl (Nat.le_of_ble_eq_true rfl) dX8_sign_9 (Nat.zero_le _) (Nat.zero_le _) rfl (fun H locs hP hD hS => ?_)
  refine lv_if_eq (tgt := 46) hx hb dX8_sign_12 (by decide) (fun c12 => ?_) (fun c12 => ?_)
  · have h := zt c12 h
    refine lv_iconst (v := ((-1) : Int32)) hx hb dX8_sign_46 (by decide) ?_
    cases h
    exact W.iret hx hb hr (fun t9 ht9 _ => zend hP hD hS ht9) hS.2.2 dX8_sign_47
  · have h := zf c12 h
    refine lv_iload_n hx hb dX8_sign_15 rfl (lv_at hl 2 rfl) ?_
    refine lv_iconst (v := (0 : Int32)) hx hb dX8_sign_16 (by decide) ?_
    refine lv_bipush (v := (7 : Int32)) hx hb dX8_sign_17 (by decide) ?_
    obtain ⟨y19, hc19, h⟩ := zb1_e h
    refine zcS (As := [.int x2, .int (0 : Int32), .int (7 : Int32)]) (rest := []) (ws' := (w_X8_sign G a a_text a_clerk a_s a_kept a_isKept a_signed a_slips a_row a_best (0 : Int32) v_trace v_typed v_next v_token v_place v_value v_fault v_clerks v_draftClerks v_draftLine v_signMany v_copies v_rowMany f_signed)) (st1 := [.int y19]) ⟨hx, hb, hml, hown, hts⟩ (c_X8_in l G x2 (0 : Int32) (7 : Int32) y19 hc19) (va_cwS 3 hts gX8_sign_X8_in rfl rfl rfl (by decide +kernel) ⟨Nat.le_of_ble_eq_true rfl, Nat.le_of_ble_eq_true rfl⟩) hK hE hP hD hS hA [] rfl rfl rfl rfl rfl hl.1 rfl (Nat.le_of_ble_eq_true rfl) dX8_sign_19 (Nat.zero_le _) (Nat.zero_le _) rfl (fun H locs hP hD hS => ?_)
    refine lv_if_eq (tgt := 46) hx hb dX8_sign_22 (by decide) (fun c22 => ?_) (fun c22 => ?_)
    · have h := zt c22 h
      refine lv_iconst (v := ((-1) : Int32)) hx hb dX8_sign_46 (by decide) ?_
      cases h
      exact W.iret hx hb hr (fun t9 ht9 _ => zend hP hD hS ht9) hS.2.2 dX8_sign_47
    · have h := zf c22 h
      refine lv_iload_n hx hb dX8_sign_25 rfl (lv_at hl 3 rfl) ?_
      refine lv_iconst (v := (0 : Int32)) hx hb dX8_sign_26 (by decide) ?_
      refine lv_bipush (v := (9 : Int32)) hx hb dX8_sign_27 (by decide) ?_
      obtain ⟨y29, hc29, h⟩ := zb1_e h
      refine zcS (As := [.int x3, .int (0 : Int32), .int (9 : Int32)]) (rest := []) (ws' := (w_X8_sign G a a_text a_clerk a_s a_kept a_isKept a_signed a_slips a_row a_best (0 : Int32) v_trace v_typed v_next v_token v_place v_value v_fault v_clerks v_draftClerks v_draftLine v_signMany v_copies v_rowMany f_signed)) (st1 := [.int y29]) ⟨hx, hb, hml, hown, hts⟩ (c_X8_in l G x3 (0 : Int32) (9 : Int32) y29 hc29) (va_cwS 3 hts gX8_sign_X8_in rfl rfl rfl (by decide +kernel) ⟨Nat.le_of_ble_eq_true rfl, Nat.le_of_ble_eq_true rfl⟩) hK hE hP hD hS hA [] rfl rfl rfl rfl rfl hl.1 rfl (Nat.le_of_ble_eq_true rfl) dX8_sign_29 (Nat.zero_le _) (Nat.zero_le _) rfl (fun H locs hP hD hS => ?_)
      refine lv_if_eq (tgt := 46) hx hb dX8_sign_32 (by decide) (fun c32 => ?_) (fun c32 => ?_)
      · have h := zt c32 h
        refine lv_iconst (v := ((-1) : Int32)) hx hb dX8_sign_46 (by decide) ?_
        cases h
        exact W.iret hx hb hr (fun t9 ht9 _ => zend hP hD hS ht9) hS.2.2 dX8_sign_47
      · have h := zf c32 h
        refine lv_iload hx hb dX8_sign_35 (lv_at hl 4 rfl) ?_
        refine lv_iconst (v := (0 : Int32)) hx hb dX8_sign_37 (by decide) ?_
        refine lv_bipush (v := (7 : Int32)) hx hb dX8_sign_38 (by decide) ?_
        obtain ⟨y40, hc40, h⟩ := zb1_e h
        refine zcS (As := [.int x4, .int (0 : Int32), .int (7 : Int32)]) (rest := []) (ws' := (w_X8_sign G a a_text a_clerk a_s a_kept a_isKept a_signed a_slips a_row a_best (0 : Int32) v_trace v_typed v_next v_token v_place v_value v_fault v_clerks v_draftClerks v_draftLine v_signMany v_copies v_rowMany f_signed)) (st1 := [.int y40]) ⟨hx, hb, hml, hown, hts⟩ (c_X8_in l G x4 (0 : Int32) (7 : Int32) y40 hc40) (va_cwS 3 hts gX8_sign_X8_in rfl rfl rfl (by decide +kernel) ⟨Nat.le_of_ble_eq_true rfl, Nat.le_of_ble_eq_true rfl⟩) hK hE hP hD hS hA [] rfl rfl rfl rfl rfl hl.1 rfl (Nat.le_of_ble_eq_true rfl) dX8_sign_40 (Nat.zero_le _) (Nat.zero_le _) rfl (fun H locs hP hD hS => ?_)
        refine lv_if_ne (tgt := 48) hx hb dX8_sign_43 (by decide) (fun c43 => ?_) (fun c43 => ?_)
        · have h := zf c43 h
          refine lv_aload_n hx hb dX8_sign_48 rfl (lv_at hl 0 rfl) ?_
          refine va_get (D := G.1) (ci := 8) (v := .int v_signMany) (C := RX8) (T := TX8) (N := 23) hx hb hts in_X8_sign_X8 hown hK.1 hP 0 rfl rfl 17 (by decide) (hts (.fieldLink RX8 115 "NineHandsModel" "signMany" "I") (by decide +kernel)) (fun _ h9 => h9) rfl dX8_sign_49 ?_
          refine lv_bipush (v := (8 : Int32)) hx hb dX8_sign_52 (by decide) ?_
          refine lv_icmp_ne (tgt := 60) hx hb dX8_sign_54 (by decide) (fun c54 => ?_) (fun c54 => ?_)
          · have h := zf c54 h
            refine lv_aload_n hx hb dX8_sign_60 rfl (lv_at hl 0 rfl) ?_
            refine va_get (D := G.1) (ci := 8) (v := .ref a_signed) (C := RX8) (T := TX8) (N := 23) hx hb hts in_X8_sign_X8 hown hK.1 hP 0 rfl rfl 16 (by decide) (hts (.fieldLink RX8 26 "NineHandsModel" "signed" "[I") (by decide +kernel)) (fun _ h9 => h9) rfl dX8_sign_61 ?_
            refine lv_iconst (v := (2 : Int32)) hx hb dX8_sign_64 (by decide) ?_
            refine lv_aload_n hx hb dX8_sign_65 rfl (lv_at hl 0 rfl) ?_
            refine va_get (D := G.1) (ci := 8) (v := .int v_signMany) (C := RX8) (T := TX8) (N := 23) hx hb hts in_X8_sign_X8 hown hK.1 hP 0 rfl rfl 17 (by decide) (hts (.fieldLink RX8 115 "NineHandsModel" "signMany" "I") (by decide +kernel)) (fun _ h9 => h9) rfl dX8_sign_66 ?_
            refine lv_imul hx hb dX8_sign_69 ?_
            refine lv_iload_n hx hb dX8_sign_70 rfl (lv_at hl 1 rfl) ?_
            refine lv_bipush (v := (10 : Int32)) hx hb dX8_sign_71 (by decide) ?_
            refine lv_iload_n hx hb dX8_sign_73 rfl (lv_at hl 2 rfl) ?_
            refine lv_imul hx hb dX8_sign_74 ?_
            refine lv_iadd hx hb dX8_sign_75 ?_
            obtain ⟨g76, h⟩ := zg h
            refine zast hx hb hK.1 hP hD hS 1 0 rfl rfl g76 (j := (((2 : Int32) * v_signMany)).toNatClampNeg) rfl (ws' := (w_X8_sign G a a_text a_clerk a_s a_kept a_isKept a_signed a_slips a_row a_best (0 : Int32) v_trace v_typed v_next v_token v_place v_value v_fault v_clerks v_draftClerks v_draftLine v_signMany v_copies v_rowMany (upd f_signed (((2 : Int32) * v_signMany)).toNatClampNeg (x1 + ((10 : Int32) * x2))))) rfl dX8_sign_76 (fun H locs hP hD hS => ?_)
            refine lv_aload_n hx hb dX8_sign_77 rfl (lv_at hl 0 rfl) ?_
            refine va_get (D := G.1) (ci := 8) (v := .ref a_signed) (C := RX8) (T := TX8) (N := 23) hx hb hts in_X8_sign_X8 hown hK.1 hP 0 rfl rfl 16 (by decide) (hts (.fieldLink RX8 26 "NineHandsModel" "signed" "[I") (by decide +kernel)) (fun _ h9 => h9) rfl dX8_sign_78 ?_
            refine lv_iconst (v := (2 : Int32)) hx hb dX8_sign_81 (by decide) ?_
            refine lv_aload_n hx hb dX8_sign_82 rfl (lv_at hl 0 rfl) ?_
            refine va_get (D := G.1) (ci := 8) (v := .int v_signMany) (C := RX8) (T := TX8) (N := 23) hx hb hts in_X8_sign_X8 hown hK.1 hP 0 rfl rfl 17 (by decide) (hts (.fieldLink RX8 115 "NineHandsModel" "signMany" "I") (by decide +kernel)) (fun _ h9 => h9) rfl dX8_sign_83 ?_
            refine lv_imul hx hb dX8_sign_86 ?_
            refine lv_iconst (v := (1 : Int32)) hx hb dX8_sign_87 (by decide) ?_
            refine lv_iadd hx hb dX8_sign_88 ?_
            refine lv_iload_n hx hb dX8_sign_89 rfl (lv_at hl 3 rfl) ?_
            refine lv_bipush (v := (10 : Int32)) hx hb dX8_sign_90 (by decide) ?_
            refine lv_iload hx hb dX8_sign_92 (lv_at hl 4 rfl) ?_
            refine lv_imul hx hb dX8_sign_94 ?_
            refine lv_iadd hx hb dX8_sign_95 ?_
            obtain ⟨g96, h⟩ := zg h
            refine zast hx hb hK.1 hP hD hS 1 0 rfl rfl g96 (j := ((((2 : Int32) * v_signMany) + (1 : Int32))).toNatClampNeg) rfl (ws' := (w_X8_sign G a a_text a_clerk a_s a_kept a_isKept a_signed a_slips a_row a_best (0 : Int32) v_trace v_typed v_next v_token v_place v_value v_fault v_clerks v_draftClerks v_draftLine v_signMany v_copies v_rowMany (upd (upd f_signed (((2 : Int32) * v_signMany)).toNatClampNeg (x1 + ((10 : Int32) * x2))) ((((2 : Int32) * v_signMany) + (1 : Int32))).toNatClampNeg (x3 + ((10 : Int32) * x4))))) rfl dX8_sign_96 (fun H locs hP hD hS => ?_)
            refine lv_aload_n hx hb dX8_sign_97 rfl (lv_at hl 0 rfl) ?_
            refine lv_dup hx hb dX8_sign_98 rfl ?_
            refine va_get (D := G.1) (ci := 8) (v := .int v_signMany) (C := RX8) (T := TX8) (N := 23) hx hb hts in_X8_sign_X8 hown hK.1 hP 0 rfl rfl 17 (by decide) (hts (.fieldLink RX8 115 "NineHandsModel" "signMany" "I") (by decide +kernel)) (fun _ h9 => h9) rfl dX8_sign_99 ?_
            refine lv_iconst (v := (1 : Int32)) hx hb dX8_sign_102 (by decide) ?_
            refine lv_iadd hx hb dX8_sign_103 ?_
            refine zput1 (D := G.1) (ci := 8) (C := RX8) (T := TX8) (N := 23) (ty := .int) (ws' := (w_X8_sign G a a_text a_clerk a_s a_kept a_isKept a_signed a_slips a_row a_best (0 : Int32) v_trace v_typed v_next v_token v_place v_value v_fault v_clerks v_draftClerks v_draftLine (v_signMany + (1 : Int32)) v_copies v_rowMany (upd (upd f_signed (((2 : Int32) * v_signMany)).toNatClampNeg (x1 + ((10 : Int32) * x2))) ((((2 : Int32) * v_signMany) + (1 : Int32))).toNatClampNeg (x3 + ((10 : Int32) * x4))))) hx hb hts in_X8_sign_X8 tyX8 tyX8_ok nmX8 hown hK.1 hP hD hS 0 rfl rfl 17 (by decide) (hts (.fieldLink RX8 115 "NineHandsModel" "signMany" "I") (by decide +kernel)) (fun _ h9 => h9) rfl (by decide +kernel) rfl rfl (Nat.le_of_ble_eq_true rfl) rfl dX8_sign_104 (fun H locs hP hD hS => ?_)
            refine lv_aload_n hx hb dX8_sign_107 rfl (lv_at hl 0 rfl) ?_
            refine va_get (D := G.1) (ci := 8) (v := .int (v_signMany + (1 : Int32))) (C := RX8) (T := TX8) (N := 23) hx hb hts in_X8_sign_X8 hown hK.1 hP 0 rfl rfl 17 (by decide) (hts (.fieldLink RX8 115 "NineHandsModel" "signMany" "I") (by decide +kernel)) (fun _ h9 => h9) rfl dX8_sign_108 ?_
            cases h
            exact W.iret hx hb hr (fun t9 ht9 _ => zend hP hD hS ht9) hS.2.2 dX8_sign_111
          · have h := zt c54 h
            refine lv_bipush (v := ((-3) : Int32)) hx hb dX8_sign_57 (by decide) ?_
            cases h
            exact W.iret hx hb hr (fun t9 ht9 _ => zend hP hD hS ht9) hS.2.2 dX8_sign_59
        · have h := zt c43 h
          refine lv_iconst (v := ((-1) : Int32)) hx hb dX8_sign_46 (by decide) ?_
          cases h
          exact W.iret hx hb hr (fun t9 ht9 _ => zend hP hD hS ht9) hS.2.2 dX8_sign_47
abbrev w_X8_fitsLean (G : zG) (a : Nat) (a_text : Nat) (a_clerk : Nat) (a_s : Nat) (a_kept : Nat) (a_isKept : Nat) (a_signed : Nat) (a_slips : Nat) (a_row : Nat) (a_best : Nat) (v_thrown : Int32) (v_trace : Int64) (v_typed : Int32) (v_next : Int32) (v_token : Int32) (v_place : Int32) (v_value : Int32) (v_fault : Int32) (v_clerks : Int32) (v_draftClerks : Int32) (v_draftLine : Int32) (v_signMany : Int32) (v_copies : Int32) (v_rowMany : Int32) (f_signed : (Nat → Int32)) : va_W := [(a, .inr (8, [.int v_thrown, .long v_trace, .ref a_text, .int v_typed, .int v_next, .int v_token, .int v_place, .int v_value, .int v_fault, .ref a_clerk, .int v_clerks, .int v_draftClerks, .int v_draftLine, .ref a_s, .ref a_kept, .ref a_isKept, .ref a_signed, .int v_signMany, .ref a_slips, .int v_copies, .ref a_row, .ref a_best, .int v_rowMany])), (a_signed, .inl (zCI G, 16, .inl f_signed))]
theorem in_X8_fitsLean_X8 : ∀ w ∈ wsX80, w ∈ wsX8_fitsLean := by decide +kernel
set_option maxHeartbeats 4000000 in
set_option maxRecDepth 100000 in
theorem c_X8_fitsLean (l : Launch) (G : zG) (fu : Nat) (a : Nat) (a_text : Nat) (a_clerk : Nat) (a_s : Nat) (a_kept : Nat) (a_isKept : Nat) (a_signed : Nat) (a_slips : Nat) (a_row : Nat) (a_best : Nat) (v_thrown : Int32) (v_trace : Int64) (v_typed : Int32) (v_next : Int32) (v_token : Int32) (v_place : Int32) (v_value : Int32) (v_fault : Int32) (v_clerks : Int32) (v_draftClerks : Int32) (v_draftLine : Int32) (v_signMany : Int32) (v_copies : Int32) (v_rowMany : Int32) (f_signed : (Nat → Int32)) (x1 : Int32) (rv : Int32) (h : fX8_fitsLean fu v_signMany f_signed x1 = some rv) : zC l yX8_fitsLean wsX8_fitsLean 0 0 G [.ref a, .int x1] (w_X8_fitsLean G a a_text a_clerk a_s a_kept a_isKept a_signed a_slips a_row a_best v_thrown v_trace v_typed v_next v_token v_place v_value v_fault v_clerks v_draftClerks v_draftLine v_signMany v_copies v_rowMany f_signed) (some (.int rv)) (w_X8_fitsLean G a a_text a_clerk a_s a_kept a_isKept a_signed a_slips a_row a_best v_thrown v_trace v_typed v_next v_token v_place v_value v_fault v_clerks v_draftClerks v_draftLine v_signMany v_copies v_rowMany f_signed) := by
  refine fun sz => Met.ofW (cc := cX8_fitsLean) (maxL := 5) (ret := (some .boolean)) (by decide) rfl ?_
  intro p e s m args below meth c s₁ B hml hv
  obtain ⟨rfl, hsz, hP, hK, hD0, hE⟩ := hv
  have hx := B.exec
  have hb := B.bytes
  have hr := B.returns
  have hts := atoms_spec (ws := wsX8_fitsLean) B.pre
  have hown : s.vm.findClass RX8 = some m.cls := findClass_of_methodNamed B.named
  have hlocks := B.notSynchronized
  subst hsz
  have hD := hD0.self (sz := s.heap.size)
  generalize hAe : va_A (w_X8_fitsLean G a a_text a_clerk a_s a_kept a_isKept a_signed a_slips a_row a_best v_thrown v_trace v_typed v_next v_token v_place v_value v_fault v_clerks v_draftClerks v_draftLine v_signMany v_copies v_rowMany f_signed) s.heap.size = A at hD hE ⊢
  have hA : ∀ q : Nat, s.heap.size ≤ q → A q := fun q h => by rw [← hAe]; exact Or.inr h
  have hS : va_S A s.heap s.heap [] := va_S.rf
  have hl := lv_entry ([.ref a, .int x1]) (n := 5) (Nat.le_of_ble_eq_true rfl)
  rw [lg_entry_eq]
  generalize (lg_sl ([.ref a, .int x1]) ++ List.replicate (5 - (lg_sl ([.ref a, .int x1])).length) Slot.unset).toArray = ls at hl ⊢
  have hl : lv_has ls 5 [(0, .ref a), (1, .int x1)] := hl
  have hP : va_P G.1 vwCl (w_X8_fitsLean G a a_text a_clerk a_s a_kept a_isKept a_signed a_slips a_row a_best v_thrown v_trace v_typed v_next v_token v_place v_value v_fault v_clerks v_draftClerks v_draftLine v_signMany v_copies v_rowMany f_signed) s.heap := hP
  rw [fX8_fitsLean] at h
  refine lv_iconst (v := (1 : Int32)) hx hb dX8_fitsLean_0 (by decide) ?_
  refine lv_istore_n (lv' := [(2, .int (1 : Int32)), (0, .ref a), (1, .int x1)]) hx hb dX8_fitsLean_1 rfl hl (by decide) rfl (fun ls hl => ?_)
  refine lv_iconst (v := (0 : Int32)) hx hb dX8_fitsLean_2 (by decide) ?_
  refine lv_istore_n (lv' := [(3, .int (0 : Int32)), (2, .int (1 : Int32)), (0, .ref a), (1, .int x1)]) hx hb dX8_fitsLean_3 rfl hl (by decide) rfl (fun ls hl => ?_)
  have loop_4 : ∀ (n : Nat) (K : Int32 → Option Int32) (l2_4 : Int32) (l3_4 : Int32) (H : Heap) (locs : List Loc) (ls : Array Slot), fX8_fitsLean_L4 fu x1 v_signMany f_signed K n l2_4 l3_4 = some rv → (∀ (l2_4e : Int32) (H : Heap) (locs : List Loc) (ls : Array Slot), K l2_4e = some rv → va_P G.1 vwCl (w_X8_fitsLean G a a_text a_clerk a_s a_kept a_isKept a_signed a_slips a_row a_best v_thrown v_trace v_typed v_next v_token v_place v_value v_fault v_clerks v_draftClerks v_draftLine v_signMany v_copies v_rowMany f_signed) H → va_D A (w_X8_fitsLean G a a_text a_clerk a_s a_kept a_isKept a_signed a_slips a_row a_best v_thrown v_trace v_typed v_next v_token v_place v_value v_fault v_clerks v_draftClerks v_draftLine v_signMany v_copies v_rowMany f_signed) → va_S A s.heap H locs → lv_has ls 5 [(2, .int l2_4e)] → W p l e (headSpec wsX8_fitsLean { frames := 0, cells := 0, slots := 0, locals := 0 }).room s m ([.ref a, .int x1] : List Value).toArray below meth c H locs 0 0 (MQ below (zQ (some (.int rv)) G (w_X8_fitsLean G a a_text a_clerk a_s a_kept a_isKept a_signed a_slips a_row a_best v_thrown v_trace v_typed v_next v_token v_place v_value v_fault v_clerks v_draftClerks v_draftLine v_signMany v_copies v_rowMany f_signed) A) ([.ref a, .int x1] : List Value).toArray s 0 0 A) (F0 m 88 ls [])) → va_P G.1 vwCl (w_X8_fitsLean G a a_text a_clerk a_s a_kept a_isKept a_signed a_slips a_row a_best v_thrown v_trace v_typed v_next v_token v_place v_value v_fault v_clerks v_draftClerks v_draftLine v_signMany v_copies v_rowMany f_signed) H → va_D A (w_X8_fitsLean G a a_text a_clerk a_s a_kept a_isKept a_signed a_slips a_row a_best v_thrown v_trace v_typed v_next v_token v_place v_value v_fault v_clerks v_draftClerks v_draftLine v_signMany v_copies v_rowMany f_signed) → va_S A s.heap H locs → lv_has ls 5 [(0, .ref a), (1, .int x1), (2, .int l2_4), (3, .int l3_4)] → W p l e (headSpec wsX8_fitsLean { frames := 0, cells := 0, slots := 0, locals := 0 }).room s m ([.ref a, .int x1] : List Value).toArray below meth c H locs 0 0 (MQ below (zQ (some (.int rv)) G (w_X8_fitsLean G a a_text a_clerk a_s a_kept a_isKept a_signed a_slips a_row a_best v_thrown v_trace v_typed v_next v_token v_place v_value v_fault v_clerks v_draftClerks v_draftLine v_signMany v_copies v_rowMany f_signed) A) ([.ref a, .int x1] : List Value).toArray s 0 0 A) (F0 m 4 ls []) := by
    intro n
    induction n with
    | zero => intro K l2_4 l3_4 H locs ls h; rw [fX8_fitsLean_L4] at h; cases h
    | succ n ih =>
      intro K l2_4 l3_4 H locs ls h hk hP hD hS hl
      rw [fX8_fitsLean_L4] at h
      have join_52 : ∀ (s0_52 : Int32) (l2_52 : Int32) (l3_52 : Int32) (H : Heap) (locs : List Loc) (ls : Array Slot), fX8_fitsLean_J52 fu x1 f_signed K (fun (l2_4b : Int32) (l3_4b : Int32) => fX8_fitsLean_L4 fu x1 v_signMany f_signed K n l2_4b l3_4b) s0_52 l2_52 l3_52 = some rv → va_P G.1 vwCl (w_X8_fitsLean G a a_text a_clerk a_s a_kept a_isKept a_signed a_slips a_row a_best v_thrown v_trace v_typed v_next v_token v_place v_value v_fault v_clerks v_draftClerks v_draftLine v_signMany v_copies v_rowMany f_signed) H → va_D A (w_X8_fitsLean G a a_text a_clerk a_s a_kept a_isKept a_signed a_slips a_row a_best v_thrown v_trace v_typed v_next v_token v_place v_value v_fault v_clerks v_draftClerks v_draftLine v_signMany v_copies v_rowMany f_signed) → va_S A s.heap H locs → lv_has ls 5 [(0, .ref a), (1, .int x1), (2, .int l2_52), (3, .int l3_52)] → W p l e (headSpec wsX8_fitsLean { frames := 0, cells := 0, slots := 0, locals := 0 }).room s m ([.ref a, .int x1] : List Value).toArray below meth c H locs 0 0 (MQ below (zQ (some (.int rv)) G (w_X8_fitsLean G a a_text a_clerk a_s a_kept a_isKept a_signed a_slips a_row a_best v_thrown v_trace v_typed v_next v_token v_place v_value v_fault v_clerks v_draftClerks v_draftLine v_signMany v_copies v_rowMany f_signed) A) ([.ref a, .int x1] : List Value).toArray s 0 0 A) (F0 m 52 ls [.int s0_52]) := by
        intro s0_52 l2_52 l3_52 H locs ls h hP hD hS hl
        rw [fX8_fitsLean_J52] at h
        refine lv_istore (lv' := [(4, .int s0_52), (0, .ref a), (1, .int x1), (2, .int l2_52), (3, .int l3_52)]) hx hb dX8_fitsLean_52 hl (by decide) rfl (fun ls hl => ?_)
        refine lv_iload_n hx hb dX8_fitsLean_54 rfl (lv_at hl 3 rfl) ?_
        refine lv_if_eq (tgt := 80) hx hb dX8_fitsLean_55 (by decide) (fun c55 => ?_) (fun c55 => ?_)
        · have h := zt c55 h
          refine lv_iconst (v := (0 : Int32)) hx hb dX8_fitsLean_80 (by decide) ?_
          refine lv_istore_n (lv' := [(2, .int (0 : Int32)), (4, .int s0_52), (0, .ref a), (1, .int x1), (3, .int l3_52)]) hx hb dX8_fitsLean_81 rfl hl (by decide) rfl (fun ls hl => ?_)
          refine lv_iinc (v := (l3_52 + (1 : Int32))) (lv' := [(3, .int (l3_52 + (1 : Int32))), (2, .int (0 : Int32)), (4, .int s0_52), (0, .ref a), (1, .int x1)]) hx hb dX8_fitsLean_82 hl (k := 4) rfl rfl (by decide) rfl (fun ls hl => ?_)
          refine lv_goto (tgt := 4) hx hb dX8_fitsLean_85 (by decide) ?_
          exact ih K _ _ _ _ _ h hk hP hD hS (lv_sub hl [3, 4, 1, 0] rfl)
        · have h := zf c55 h
          refine lv_iload hx hb dX8_fitsLean_58 (lv_at hl 0 rfl) ?_
          refine lv_aload_n hx hb dX8_fitsLean_60 rfl (lv_at hl 1 rfl) ?_
          refine va_get (D := G.1) (ci := 8) (v := .ref a_signed) (C := RX8) (T := TX8) (N := 23) hx hb hts in_X8_fitsLean_X8 hown hK.1 hP 0 rfl rfl 16 (by decide) (hts (.fieldLink RX8 26 "NineHandsModel" "signed" "[I") (by decide +kernel)) (fun _ h9 => h9) rfl dX8_fitsLean_61 ?_
          refine lv_iconst (v := (2 : Int32)) hx hb dX8_fitsLean_64 (by decide) ?_
          refine lv_iload_n hx hb dX8_fitsLean_65 rfl (lv_at hl 4 rfl) ?_
          refine lv_imul hx hb dX8_fitsLean_66 ?_
          refine lv_iconst (v := (1 : Int32)) hx hb dX8_fitsLean_67 (by decide) ?_
          refine lv_iadd hx hb dX8_fitsLean_68 ?_
          obtain ⟨g69, h⟩ := zg h
          refine zald hx hb hK.1 hP 1 0 rfl rfl g69 (j := ((((2 : Int32) * l3_52) + (1 : Int32))).toNatClampNeg) rfl dX8_fitsLean_69 ?_
          refine lv_bipush (v := (10 : Int32)) hx hb dX8_fitsLean_70 (by decide) ?_
          refine lv_irem hx hb dX8_fitsLean_72 (by decide) ?_
          refine lv_icmp_ne (tgt := 80) hx hb dX8_fitsLean_73 (by decide) (fun c73 => ?_) (fun c73 => ?_)
          · have h := zf c73 h
            refine lv_iconst (v := (0 : Int32)) hx hb dX8_fitsLean_80 (by decide) ?_
            refine lv_istore_n (lv' := [(2, .int (0 : Int32)), (4, .int s0_52), (0, .ref a), (1, .int x1), (3, .int l3_52)]) hx hb dX8_fitsLean_81 rfl hl (by decide) rfl (fun ls hl => ?_)
            refine lv_iinc (v := (l3_52 + (1 : Int32))) (lv' := [(3, .int (l3_52 + (1 : Int32))), (2, .int (0 : Int32)), (4, .int s0_52), (0, .ref a), (1, .int x1)]) hx hb dX8_fitsLean_82 hl (k := 4) rfl rfl (by decide) rfl (fun ls hl => ?_)
            refine lv_goto (tgt := 4) hx hb dX8_fitsLean_85 (by decide) ?_
            exact ih K _ _ _ _ _ h hk hP hD hS (lv_sub hl [3, 4, 1, 0] rfl)
          · have h := zt c73 h
            refine lv_iconst (v := (1 : Int32)) hx hb dX8_fitsLean_76 (by decide) ?_
            refine lv_goto (tgt := 81) hx hb dX8_fitsLean_77 (by decide) ?_
            refine lv_istore_n (lv' := [(2, .int (1 : Int32)), (4, .int s0_52), (0, .ref a), (1, .int x1), (3, .int l3_52)]) hx hb dX8_fitsLean_81 rfl hl (by decide) rfl (fun ls hl => ?_)
            refine lv_iinc (v := (l3_52 + (1 : Int32))) (lv' := [(3, .int (l3_52 + (1 : Int32))), (2, .int (1 : Int32)), (4, .int s0_52), (0, .ref a), (1, .int x1)]) hx hb dX8_fitsLean_82 hl (k := 4) rfl rfl (by decide) rfl (fun ls hl => ?_)
            refine lv_goto (tgt := 4) hx hb dX8_fitsLean_85 (by decide) ?_
            exact ih K _ _ _ _ _ h hk hP hD hS (lv_sub hl [3, 4, 1, 0] rfl)
      refine lv_iload_n hx hb dX8_fitsLean_4 rfl (lv_at hl 3 rfl) ?_
      refine lv_aload_n hx hb dX8_fitsLean_5 rfl (lv_at hl 0 rfl) ?_
      refine va_get (D := G.1) (ci := 8) (v := .int v_signMany) (C := RX8) (T := TX8) (N := 23) hx hb hts in_X8_fitsLean_X8 hown hK.1 hP 0 rfl rfl 17 (by decide) (hts (.fieldLink RX8 115 "NineHandsModel" "signMany" "I") (by decide +kernel)) (fun _ h9 => h9) rfl dX8_fitsLean_6 ?_
      refine lv_icmp_ge (tgt := 88) hx hb dX8_fitsLean_9 (by decide) (fun c9 => ?_) (fun c9 => ?_)
      · have h := zt c9 h
        exact hk _ _ _ _ h hP hD hS (lv_sub hl [2] rfl)
      · have h := zf c9 h
        refine lv_aload_n hx hb dX8_fitsLean_12 rfl (lv_at hl 0 rfl) ?_
        refine va_get (D := G.1) (ci := 8) (v := .ref a_signed) (C := RX8) (T := TX8) (N := 23) hx hb hts in_X8_fitsLean_X8 hown hK.1 hP 0 rfl rfl 16 (by decide) (hts (.fieldLink RX8 26 "NineHandsModel" "signed" "[I") (by decide +kernel)) (fun _ h9 => h9) rfl dX8_fitsLean_13 ?_
        refine lv_iconst (v := (2 : Int32)) hx hb dX8_fitsLean_16 (by decide) ?_
        refine lv_iload_n hx hb dX8_fitsLean_17 rfl (lv_at hl 3 rfl) ?_
        refine lv_imul hx hb dX8_fitsLean_18 ?_
        obtain ⟨g19, h⟩ := zg h
        refine zald hx hb hK.1 hP 1 0 rfl rfl g19 (j := (((2 : Int32) * l3_4)).toNatClampNeg) rfl dX8_fitsLean_19 ?_
        refine lv_bipush (v := (10 : Int32)) hx hb dX8_fitsLean_20 (by decide) ?_
        refine lv_irem hx hb dX8_fitsLean_22 (by decide) ?_
        refine lv_iload_n hx hb dX8_fitsLean_23 rfl (lv_at hl 1 rfl) ?_
        refine lv_iadd hx hb dX8_fitsLean_24 ?_
        refine lv_iconst (v := (4 : Int32)) hx hb dX8_fitsLean_25 (by decide) ?_
        refine lv_isub hx hb dX8_fitsLean_26 ?_
        refine lv_istore (lv' := [(4, .int ((((f_signed (((2 : Int32) * l3_4)).toNatClampNeg) - (f_signed (((2 : Int32) * l3_4)).toNatClampNeg) / (10 : Int32) * (10 : Int32)) + x1) - (4 : Int32))), (0, .ref a), (1, .int x1), (2, .int l2_4), (3, .int l3_4)]) hx hb dX8_fitsLean_27 hl (by decide) rfl (fun ls hl => ?_)
        refine lv_iload hx hb dX8_fitsLean_29 (lv_at hl 0 rfl) ?_
        refine lv_if_ge (tgt := 38) hx hb dX8_fitsLean_31 (by decide) (fun c31 => ?_) (fun c31 => ?_)
        · have h := zt c31 h
          refine lv_iload hx hb dX8_fitsLean_38 (lv_at hl 0 rfl) ?_
          refine lv_bipush (v := (9 : Int32)) hx hb dX8_fitsLean_40 (by decide) ?_
          refine lv_icmp_le (tgt := 50) hx hb dX8_fitsLean_42 (by decide) (fun c42 => ?_) (fun c42 => ?_)
          · have h := zt c42 h
            refine lv_iload hx hb dX8_fitsLean_50 (lv_at hl 0 rfl) ?_
            exact join_52 _ _ _ _ _ _ h hP hD hS (lv_sub hl [1, 2, 3, 4] rfl)
          · have h := zf c42 h
            refine lv_bipush (v := (9 : Int32)) hx hb dX8_fitsLean_45 (by decide) ?_
            refine lv_goto (tgt := 52) hx hb dX8_fitsLean_47 (by decide) ?_
            exact join_52 _ _ _ _ _ _ h hP hD hS (lv_sub hl [1, 2, 3, 4] rfl)
        · have h := zf c31 h
          refine lv_iconst (v := (0 : Int32)) hx hb dX8_fitsLean_34 (by decide) ?_
          refine lv_goto (tgt := 52) hx hb dX8_fitsLean_35 (by decide) ?_
          exact join_52 _ _ _ _ _ _ h hP hD hS (lv_sub hl [1, 2, 3, 4] rfl)
  refine loop_4 fu _ _ _ _ _ _ h (fun l2_4e H locs ls h hP hD hS hl => ?_) hP hD hS (lv_sub hl [2, 3, 1, 0] rfl)
  refine lv_iload_n hx hb dX8_fitsLean_88 rfl (lv_at hl 0 rfl) ?_
  obtain ⟨g89, h⟩ := zg h
  cases h
  exact W.zret (ty := .boolean) hx hb hr (zbool g89) (fun t9 ht9 _ => zend hP hD hS ht9) hS.2.2 dX8_fitsLean_89
abbrev w_X8_marksBy (G : zG) (a : Nat) (a_text : Nat) (a_clerk : Nat) (a_s : Nat) (a_kept : Nat) (a_isKept : Nat) (a_signed : Nat) (a_slips : Nat) (a_row : Nat) (a_best : Nat) (v_thrown : Int32) (v_trace : Int64) (v_typed : Int32) (v_next : Int32) (v_token : Int32) (v_place : Int32) (v_value : Int32) (v_fault : Int32) (v_clerks : Int32) (v_draftClerks : Int32) (v_draftLine : Int32) (v_signMany : Int32) (v_copies : Int32) (v_rowMany : Int32) (f_signed : (Nat → Int32)) : va_W := [(a, .inr (8, [.int v_thrown, .long v_trace, .ref a_text, .int v_typed, .int v_next, .int v_token, .int v_place, .int v_value, .int v_fault, .ref a_clerk, .int v_clerks, .int v_draftClerks, .int v_draftLine, .ref a_s, .ref a_kept, .ref a_isKept, .ref a_signed, .int v_signMany, .ref a_slips, .int v_copies, .ref a_row, .ref a_best, .int v_rowMany])), (a_signed, .inl (zCI G, 16, .inl f_signed))]
theorem in_X8_marksBy_X8 : ∀ w ∈ wsX80, w ∈ wsX8_marksBy := by decide +kernel
set_option maxHeartbeats 4000000 in
set_option maxRecDepth 100000 in
theorem c_X8_marksBy (l : Launch) (G : zG) (fu : Nat) (a : Nat) (a_text : Nat) (a_clerk : Nat) (a_s : Nat) (a_kept : Nat) (a_isKept : Nat) (a_signed : Nat) (a_slips : Nat) (a_row : Nat) (a_best : Nat) (v_thrown : Int32) (v_trace : Int64) (v_typed : Int32) (v_next : Int32) (v_token : Int32) (v_place : Int32) (v_value : Int32) (v_fault : Int32) (v_clerks : Int32) (v_draftClerks : Int32) (v_draftLine : Int32) (v_signMany : Int32) (v_copies : Int32) (v_rowMany : Int32) (f_signed : (Nat → Int32)) (x1 : Int32) (rv : Int32) (h : fX8_marksBy fu v_signMany f_signed x1 = some rv) : zC l yX8_marksBy wsX8_marksBy 0 0 G [.ref a, .int x1] (w_X8_marksBy G a a_text a_clerk a_s a_kept a_isKept a_signed a_slips a_row a_best v_thrown v_trace v_typed v_next v_token v_place v_value v_fault v_clerks v_draftClerks v_draftLine v_signMany v_copies v_rowMany f_signed) (some (.int rv)) (w_X8_marksBy G a a_text a_clerk a_s a_kept a_isKept a_signed a_slips a_row a_best v_thrown v_trace v_typed v_next v_token v_place v_value v_fault v_clerks v_draftClerks v_draftLine v_signMany v_copies v_rowMany f_signed) := by
  refine fun sz => Met.ofW (cc := cX8_marksBy) (maxL := 6) (ret := (some .int)) (by decide) rfl ?_
  intro p e s m args below meth c s₁ B hml hv
  obtain ⟨rfl, hsz, hP, hK, hD0, hE⟩ := hv
  have hx := B.exec
  have hb := B.bytes
  have hr := B.returns
  have hts := atoms_spec (ws := wsX8_marksBy) B.pre
  have hown : s.vm.findClass RX8 = some m.cls := findClass_of_methodNamed B.named
  have hlocks := B.notSynchronized
  subst hsz
  have hD := hD0.self (sz := s.heap.size)
  generalize hAe : va_A (w_X8_marksBy G a a_text a_clerk a_s a_kept a_isKept a_signed a_slips a_row a_best v_thrown v_trace v_typed v_next v_token v_place v_value v_fault v_clerks v_draftClerks v_draftLine v_signMany v_copies v_rowMany f_signed) s.heap.size = A at hD hE ⊢
  have hA : ∀ q : Nat, s.heap.size ≤ q → A q := fun q h => by rw [← hAe]; exact Or.inr h
  have hS : va_S A s.heap s.heap [] := va_S.rf
  have hl := lv_entry ([.ref a, .int x1]) (n := 6) (Nat.le_of_ble_eq_true rfl)
  rw [lg_entry_eq]
  generalize (lg_sl ([.ref a, .int x1]) ++ List.replicate (6 - (lg_sl ([.ref a, .int x1])).length) Slot.unset).toArray = ls at hl ⊢
  have hl : lv_has ls 6 [(0, .ref a), (1, .int x1)] := hl
  have hP : va_P G.1 vwCl (w_X8_marksBy G a a_text a_clerk a_s a_kept a_isKept a_signed a_slips a_row a_best v_thrown v_trace v_typed v_next v_token v_place v_value v_fault v_clerks v_draftClerks v_draftLine v_signMany v_copies v_rowMany f_signed) s.heap := hP
  rw [fX8_marksBy] at h
  refine lv_bipush (v := (7 : Int32)) hx hb dX8_marksBy_0 (by decide) ?_
  refine lv_istore_n (lv' := [(2, .int (7 : Int32)), (0, .ref a), (1, .int x1)]) hx hb dX8_marksBy_2 rfl hl (by decide) rfl (fun ls hl => ?_)
  refine lv_iconst (v := (0 : Int32)) hx hb dX8_marksBy_3 (by decide) ?_
  refine lv_istore_n (lv' := [(3, .int (0 : Int32)), (2, .int (7 : Int32)), (0, .ref a), (1, .int x1)]) hx hb dX8_marksBy_4 rfl hl (by decide) rfl (fun ls hl => ?_)
  have loop_5 : ∀ (n : Nat) (K : Int32 → Option Int32) (l2_5 : Int32) (l3_5 : Int32) (H : Heap) (locs : List Loc) (ls : Array Slot), fX8_marksBy_L5 fu x1 v_signMany f_signed K n l2_5 l3_5 = some rv → (∀ (l2_5e : Int32) (H : Heap) (locs : List Loc) (ls : Array Slot), K l2_5e = some rv → va_P G.1 vwCl (w_X8_marksBy G a a_text a_clerk a_s a_kept a_isKept a_signed a_slips a_row a_best v_thrown v_trace v_typed v_next v_token v_place v_value v_fault v_clerks v_draftClerks v_draftLine v_signMany v_copies v_rowMany f_signed) H → va_D A (w_X8_marksBy G a a_text a_clerk a_s a_kept a_isKept a_signed a_slips a_row a_best v_thrown v_trace v_typed v_next v_token v_place v_value v_fault v_clerks v_draftClerks v_draftLine v_signMany v_copies v_rowMany f_signed) → va_S A s.heap H locs → lv_has ls 6 [(2, .int l2_5e)] → W p l e (headSpec wsX8_marksBy { frames := 0, cells := 0, slots := 0, locals := 0 }).room s m ([.ref a, .int x1] : List Value).toArray below meth c H locs 0 0 (MQ below (zQ (some (.int rv)) G (w_X8_marksBy G a a_text a_clerk a_s a_kept a_isKept a_signed a_slips a_row a_best v_thrown v_trace v_typed v_next v_token v_place v_value v_fault v_clerks v_draftClerks v_draftLine v_signMany v_copies v_rowMany f_signed) A) ([.ref a, .int x1] : List Value).toArray s 0 0 A) (F0 m 78 ls [])) → va_P G.1 vwCl (w_X8_marksBy G a a_text a_clerk a_s a_kept a_isKept a_signed a_slips a_row a_best v_thrown v_trace v_typed v_next v_token v_place v_value v_fault v_clerks v_draftClerks v_draftLine v_signMany v_copies v_rowMany f_signed) H → va_D A (w_X8_marksBy G a a_text a_clerk a_s a_kept a_isKept a_signed a_slips a_row a_best v_thrown v_trace v_typed v_next v_token v_place v_value v_fault v_clerks v_draftClerks v_draftLine v_signMany v_copies v_rowMany f_signed) → va_S A s.heap H locs → lv_has ls 6 [(0, .ref a), (1, .int x1), (2, .int l2_5), (3, .int l3_5)] → W p l e (headSpec wsX8_marksBy { frames := 0, cells := 0, slots := 0, locals := 0 }).room s m ([.ref a, .int x1] : List Value).toArray below meth c H locs 0 0 (MQ below (zQ (some (.int rv)) G (w_X8_marksBy G a a_text a_clerk a_s a_kept a_isKept a_signed a_slips a_row a_best v_thrown v_trace v_typed v_next v_token v_place v_value v_fault v_clerks v_draftClerks v_draftLine v_signMany v_copies v_rowMany f_signed) A) ([.ref a, .int x1] : List Value).toArray s 0 0 A) (F0 m 5 ls []) := by
    intro n
    induction n with
    | zero => intro K l2_5 l3_5 H locs ls h; rw [fX8_marksBy_L5] at h; cases h
    | succ n ih =>
      intro K l2_5 l3_5 H locs ls h hk hP hD hS hl
      rw [fX8_marksBy_L5] at h
      refine lv_iload_n hx hb dX8_marksBy_5 rfl (lv_at hl 3 rfl) ?_
      refine lv_aload_n hx hb dX8_marksBy_6 rfl (lv_at hl 0 rfl) ?_
      refine va_get (D := G.1) (ci := 8) (v := .int v_signMany) (C := RX8) (T := TX8) (N := 23) hx hb hts in_X8_marksBy_X8 hown hK.1 hP 0 rfl rfl 17 (by decide) (hts (.fieldLink RX8 115 "NineHandsModel" "signMany" "I") (by decide +kernel)) (fun _ h9 => h9) rfl dX8_marksBy_7 ?_
      refine lv_icmp_ge (tgt := 78) hx hb dX8_marksBy_10 (by decide) (fun c10 => ?_) (fun c10 => ?_)
      · have h := zt c10 h
        exact hk _ _ _ _ h hP hD hS (lv_sub hl [2] rfl)
      · have h := zf c10 h
        refine lv_aload_n hx hb dX8_marksBy_13 rfl (lv_at hl 0 rfl) ?_
        refine va_get (D := G.1) (ci := 8) (v := .ref a_signed) (C := RX8) (T := TX8) (N := 23) hx hb hts in_X8_marksBy_X8 hown hK.1 hP 0 rfl rfl 16 (by decide) (hts (.fieldLink RX8 26 "NineHandsModel" "signed" "[I") (by decide +kernel)) (fun _ h9 => h9) rfl dX8_marksBy_14 ?_
        refine lv_iconst (v := (2 : Int32)) hx hb dX8_marksBy_17 (by decide) ?_
        refine lv_iload_n hx hb dX8_marksBy_18 rfl (lv_at hl 3 rfl) ?_
        refine lv_imul hx hb dX8_marksBy_19 ?_
        obtain ⟨g20, h⟩ := zg h
        refine zald hx hb hK.1 hP 1 0 rfl rfl g20 (j := (((2 : Int32) * l3_5)).toNatClampNeg) rfl dX8_marksBy_20 ?_
        refine lv_bipush (v := (10 : Int32)) hx hb dX8_marksBy_21 (by decide) ?_
        refine lv_idiv hx hb dX8_marksBy_23 (by decide) ?_
        refine lv_istore (lv' := [(4, .int ((f_signed (((2 : Int32) * l3_5)).toNatClampNeg) / (10 : Int32))), (0, .ref a), (1, .int x1), (2, .int l2_5), (3, .int l3_5)]) hx hb dX8_marksBy_24 hl (by decide) rfl (fun ls hl => ?_)
        refine lv_aload_n hx hb dX8_marksBy_26 rfl (lv_at hl 1 rfl) ?_
        refine va_get (D := G.1) (ci := 8) (v := .ref a_signed) (C := RX8) (T := TX8) (N := 23) hx hb hts in_X8_marksBy_X8 hown hK.1 hP 0 rfl rfl 16 (by decide) (hts (.fieldLink RX8 26 "NineHandsModel" "signed" "[I") (by decide +kernel)) (fun _ h9 => h9) rfl dX8_marksBy_27 ?_
        refine lv_iconst (v := (2 : Int32)) hx hb dX8_marksBy_30 (by decide) ?_
        refine lv_iload_n hx hb dX8_marksBy_31 rfl (lv_at hl 4 rfl) ?_
        refine lv_imul hx hb dX8_marksBy_32 ?_
        refine lv_iconst (v := (1 : Int32)) hx hb dX8_marksBy_33 (by decide) ?_
        refine lv_iadd hx hb dX8_marksBy_34 ?_
        obtain ⟨g35, h⟩ := zg h
        refine zald hx hb hK.1 hP 1 0 rfl rfl g35 (j := ((((2 : Int32) * l3_5) + (1 : Int32))).toNatClampNeg) rfl dX8_marksBy_35 ?_
        refine lv_bipush (v := (10 : Int32)) hx hb dX8_marksBy_36 (by decide) ?_
        refine lv_idiv hx hb dX8_marksBy_38 (by decide) ?_
        refine lv_istore (lv' := [(5, .int ((f_signed ((((2 : Int32) * l3_5) + (1 : Int32))).toNatClampNeg) / (10 : Int32))), (4, .int ((f_signed (((2 : Int32) * l3_5)).toNatClampNeg) / (10 : Int32))), (0, .ref a), (1, .int x1), (2, .int l2_5), (3, .int l3_5)]) hx hb dX8_marksBy_39 hl (by decide) rfl (fun ls hl => ?_)
        refine lv_iload_n hx hb dX8_marksBy_41 rfl (lv_at hl 4 rfl) ?_
        refine lv_iload_n hx hb dX8_marksBy_42 rfl (lv_at hl 3 rfl) ?_
        refine lv_if_ne (tgt := 51) hx hb dX8_marksBy_43 (by decide) (fun c43 => ?_) (fun c43 => ?_)
        · have h := zf c43 h
          refine lv_iload_n hx hb dX8_marksBy_51 rfl (lv_at hl 3 rfl) ?_
          refine lv_iconst (v := (1 : Int32)) hx hb dX8_marksBy_52 (by decide) ?_
          refine lv_icmp_ne (tgt := 63) hx hb dX8_marksBy_53 (by decide) (fun c53 => ?_) (fun c53 => ?_)
          · have h := zf c53 h
            refine lv_iload hx hb dX8_marksBy_63 (lv_at hl 1 rfl) ?_
            refine lv_iload hx hb dX8_marksBy_65 (lv_at hl 0 rfl) ?_
            refine lv_ixor hx hb dX8_marksBy_67 ?_
            refine lv_iconst (v := ((-1) : Int32)) hx hb dX8_marksBy_68 (by decide) ?_
            refine lv_ixor hx hb dX8_marksBy_69 ?_
            refine lv_iand hx hb dX8_marksBy_70 ?_
            refine lv_istore_n (lv' := [(2, .int (l2_5 &&& ((((f_signed (((2 : Int32) * l3_5)).toNatClampNeg) / (10 : Int32)) ^^^ ((f_signed ((((2 : Int32) * l3_5) + (1 : Int32))).toNatClampNeg) / (10 : Int32))) ^^^ ((-1) : Int32)))), (5, .int ((f_signed ((((2 : Int32) * l3_5) + (1 : Int32))).toNatClampNeg) / (10 : Int32))), (4, .int ((f_signed (((2 : Int32) * l3_5)).toNatClampNeg) / (10 : Int32))), (0, .ref a), (1, .int x1), (3, .int l3_5)]) hx hb dX8_marksBy_71 rfl hl (by decide) rfl (fun ls hl => ?_)
            refine lv_iinc (v := (l3_5 + (1 : Int32))) (lv' := [(3, .int (l3_5 + (1 : Int32))), (2, .int (l2_5 &&& ((((f_signed (((2 : Int32) * l3_5)).toNatClampNeg) / (10 : Int32)) ^^^ ((f_signed ((((2 : Int32) * l3_5) + (1 : Int32))).toNatClampNeg) / (10 : Int32))) ^^^ ((-1) : Int32)))), (5, .int ((f_signed ((((2 : Int32) * l3_5) + (1 : Int32))).toNatClampNeg) / (10 : Int32))), (4, .int ((f_signed (((2 : Int32) * l3_5)).toNatClampNeg) / (10 : Int32))), (0, .ref a), (1, .int x1)]) hx hb dX8_marksBy_72 hl (k := 5) rfl rfl (by decide) rfl (fun ls hl => ?_)
            refine lv_goto (tgt := 5) hx hb dX8_marksBy_75 (by decide) ?_
            exact ih K _ _ _ _ _ h hk hP hD hS (lv_sub hl [4, 5, 1, 0] rfl)
          · have h := zt c53 h
            refine lv_iload hx hb dX8_marksBy_56 (lv_at hl 0 rfl) ?_
            refine lv_iconst (v := ((-1) : Int32)) hx hb dX8_marksBy_58 (by decide) ?_
            refine lv_ixor hx hb dX8_marksBy_59 ?_
            refine lv_goto (tgt := 70) hx hb dX8_marksBy_60 (by decide) ?_
            refine lv_iand hx hb dX8_marksBy_70 ?_
            refine lv_istore_n (lv' := [(2, .int (l2_5 &&& (((f_signed ((((2 : Int32) * l3_5) + (1 : Int32))).toNatClampNeg) / (10 : Int32)) ^^^ ((-1) : Int32)))), (5, .int ((f_signed ((((2 : Int32) * l3_5) + (1 : Int32))).toNatClampNeg) / (10 : Int32))), (4, .int ((f_signed (((2 : Int32) * l3_5)).toNatClampNeg) / (10 : Int32))), (0, .ref a), (1, .int x1), (3, .int l3_5)]) hx hb dX8_marksBy_71 rfl hl (by decide) rfl (fun ls hl => ?_)
            refine lv_iinc (v := (l3_5 + (1 : Int32))) (lv' := [(3, .int (l3_5 + (1 : Int32))), (2, .int (l2_5 &&& (((f_signed ((((2 : Int32) * l3_5) + (1 : Int32))).toNatClampNeg) / (10 : Int32)) ^^^ ((-1) : Int32)))), (5, .int ((f_signed ((((2 : Int32) * l3_5) + (1 : Int32))).toNatClampNeg) / (10 : Int32))), (4, .int ((f_signed (((2 : Int32) * l3_5)).toNatClampNeg) / (10 : Int32))), (0, .ref a), (1, .int x1)]) hx hb dX8_marksBy_72 hl (k := 5) rfl rfl (by decide) rfl (fun ls hl => ?_)
            refine lv_goto (tgt := 5) hx hb dX8_marksBy_75 (by decide) ?_
            exact ih K _ _ _ _ _ h hk hP hD hS (lv_sub hl [4, 5, 1, 0] rfl)
        · have h := zt c43 h
          refine lv_iload hx hb dX8_marksBy_46 (lv_at hl 0 rfl) ?_
          refine lv_goto (tgt := 70) hx hb dX8_marksBy_48 (by decide) ?_
          refine lv_iand hx hb dX8_marksBy_70 ?_
          refine lv_istore_n (lv' := [(2, .int (l2_5 &&& ((f_signed ((((2 : Int32) * l3_5) + (1 : Int32))).toNatClampNeg) / (10 : Int32)))), (5, .int ((f_signed ((((2 : Int32) * l3_5) + (1 : Int32))).toNatClampNeg) / (10 : Int32))), (4, .int ((f_signed (((2 : Int32) * l3_5)).toNatClampNeg) / (10 : Int32))), (0, .ref a), (1, .int x1), (3, .int l3_5)]) hx hb dX8_marksBy_71 rfl hl (by decide) rfl (fun ls hl => ?_)
          refine lv_iinc (v := (l3_5 + (1 : Int32))) (lv' := [(3, .int (l3_5 + (1 : Int32))), (2, .int (l2_5 &&& ((f_signed ((((2 : Int32) * l3_5) + (1 : Int32))).toNatClampNeg) / (10 : Int32)))), (5, .int ((f_signed ((((2 : Int32) * l3_5) + (1 : Int32))).toNatClampNeg) / (10 : Int32))), (4, .int ((f_signed (((2 : Int32) * l3_5)).toNatClampNeg) / (10 : Int32))), (0, .ref a), (1, .int x1)]) hx hb dX8_marksBy_72 hl (k := 5) rfl rfl (by decide) rfl (fun ls hl => ?_)
          refine lv_goto (tgt := 5) hx hb dX8_marksBy_75 (by decide) ?_
          exact ih K _ _ _ _ _ h hk hP hD hS (lv_sub hl [4, 5, 1, 0] rfl)
  refine loop_5 fu _ _ _ _ _ _ h (fun l2_5e H locs ls h hP hD hS hl => ?_) hP hD hS (lv_sub hl [2, 3, 1, 0] rfl)
  refine lv_iload_n hx hb dX8_marksBy_78 rfl (lv_at hl 0 rfl) ?_
  cases h
  exact W.iret hx hb hr (fun t9 ht9 _ => zend hP hD hS ht9) hS.2.2 dX8_marksBy_79
abbrev w_X8_learnt (G : zG) (a : Nat) (a_text : Nat) (a_clerk : Nat) (a_s : Nat) (a_kept : Nat) (a_isKept : Nat) (a_signed : Nat) (a_slips : Nat) (a_row : Nat) (a_best : Nat) (v_thrown : Int32) (v_trace : Int64) (v_typed : Int32) (v_next : Int32) (v_token : Int32) (v_place : Int32) (v_value : Int32) (v_fault : Int32) (v_clerks : Int32) (v_draftClerks : Int32) (v_draftLine : Int32) (v_signMany : Int32) (v_copies : Int32) (v_rowMany : Int32) (f_signed : (Nat → Int32)) : va_W := [(a, .inr (8, [.int v_thrown, .long v_trace, .ref a_text, .int v_typed, .int v_next, .int v_token, .int v_place, .int v_value, .int v_fault, .ref a_clerk, .int v_clerks, .int v_draftClerks, .int v_draftLine, .ref a_s, .ref a_kept, .ref a_isKept, .ref a_signed, .int v_signMany, .ref a_slips, .int v_copies, .ref a_row, .ref a_best, .int v_rowMany])), (a_signed, .inl (zCI G, 16, .inl f_signed))]
theorem in_X8_learnt_X8 : ∀ w ∈ wsX80, w ∈ wsX8_learnt := by decide +kernel
set_option maxHeartbeats 4000000 in
set_option maxRecDepth 100000 in
theorem c_X8_learnt (l : Launch) (G : zG) (fu : Nat) (a : Nat) (a_text : Nat) (a_clerk : Nat) (a_s : Nat) (a_kept : Nat) (a_isKept : Nat) (a_signed : Nat) (a_slips : Nat) (a_row : Nat) (a_best : Nat) (v_thrown : Int32) (v_trace : Int64) (v_typed : Int32) (v_next : Int32) (v_token : Int32) (v_place : Int32) (v_value : Int32) (v_fault : Int32) (v_clerks : Int32) (v_draftClerks : Int32) (v_draftLine : Int32) (v_signMany : Int32) (v_copies : Int32) (v_rowMany : Int32) (f_signed : (Nat → Int32)) (x1 : Int32) (rv : Int32) (ov_thrown : Int32) (h : fX8_learnt fu v_thrown v_signMany f_signed x1 = some (rv, ov_thrown)) : zC l yX8_learnt wsX8_learnt 1 25 G [.ref a, .int x1] (w_X8_learnt G a a_text a_clerk a_s a_kept a_isKept a_signed a_slips a_row a_best v_thrown v_trace v_typed v_next v_token v_place v_value v_fault v_clerks v_draftClerks v_draftLine v_signMany v_copies v_rowMany f_signed) (some (.int rv)) (w_X8_learnt G a a_text a_clerk a_s a_kept a_isKept a_signed a_slips a_row a_best ov_thrown v_trace v_typed v_next v_token v_place v_value v_fault v_clerks v_draftClerks v_draftLine v_signMany v_copies v_rowMany f_signed) := by
  refine fun sz => Met.ofW (cc := cX8_learnt) (maxL := 7) (ret := (some .int)) (by decide) rfl ?_
  intro p e s m args below meth c s₁ B hml hv
  obtain ⟨rfl, hsz, hP, hK, hD0, hE⟩ := hv
  have hx := B.exec
  have hb := B.bytes
  have hr := B.returns
  have hts := atoms_spec (ws := wsX8_learnt) B.pre
  have hown : s.vm.findClass RX8 = some m.cls := findClass_of_methodNamed B.named
  have hlocks := B.notSynchronized
  subst hsz
  have hD := hD0.self (sz := s.heap.size)
  generalize hAe : va_A (w_X8_learnt G a a_text a_clerk a_s a_kept a_isKept a_signed a_slips a_row a_best v_thrown v_trace v_typed v_next v_token v_place v_value v_fault v_clerks v_draftClerks v_draftLine v_signMany v_copies v_rowMany f_signed) s.heap.size = A at hD hE ⊢
  have hA : ∀ q : Nat, s.heap.size ≤ q → A q := fun q h => by rw [← hAe]; exact Or.inr h
  have hS : va_S A s.heap s.heap [] := va_S.rf
  have hl := lv_entry ([.ref a, .int x1]) (n := 7) (Nat.le_of_ble_eq_true rfl)
  rw [lg_entry_eq]
  generalize (lg_sl ([.ref a, .int x1]) ++ List.replicate (7 - (lg_sl ([.ref a, .int x1])).length) Slot.unset).toArray = ls at hl ⊢
  have hl : lv_has ls 7 [(0, .ref a), (1, .int x1)] := hl
  have hP : va_P G.1 vwCl (w_X8_learnt G a a_text a_clerk a_s a_kept a_isKept a_signed a_slips a_row a_best v_thrown v_trace v_typed v_next v_token v_place v_value v_fault v_clerks v_draftClerks v_draftLine v_signMany v_copies v_rowMany f_signed) s.heap := hP
  rw [fX8_learnt] at h
  refine lv_aload_n hx hb dX8_learnt_0 rfl (lv_at hl 0 rfl) ?_
  refine lv_iconst (v := (0 : Int32)) hx hb dX8_learnt_1 (by decide) ?_
  refine zput1 (D := G.1) (ci := 8) (C := RX8) (T := TX8) (N := 23) (ty := .int) (ws' := (w_X8_learnt G a a_text a_clerk a_s a_kept a_isKept a_signed a_slips a_row a_best (0 : Int32) v_trace v_typed v_next v_token v_place v_value v_fault v_clerks v_draftClerks v_draftLine v_signMany v_copies v_rowMany f_signed)) hx hb hts in_X8_learnt_X8 tyX8 tyX8_ok nmX8 hown hK.1 hP hD hS 0 rfl rfl 0 (by decide) (hts (.fieldLink RX8 42 "NineHandsModel" "thrown" "I") (by decide +kernel)) (fun _ h9 => h9) rfl (by decide +kernel) rfl rfl (Nat.le_of_ble_eq_true rfl) rfl dX8_learnt_2 (fun H locs hP hD hS => ?_)
  refine lv_iload_n hx hb dX8_learnt_5 rfl (lv_at hl 1 rfl) ?_
  refine lv_iconst (v := (0 : Int32)) hx hb dX8_learnt_6 (by decide) ?_
  refine lv_iconst (v := (5 : Int32)) hx hb dX8_learnt_7 (by decide) ?_
  obtain ⟨y8, hc8, h⟩ := zb1_e h
  refine zcS (As := [.int x1, .int (0 : Int32), .int (5 : Int32)]) (rest := []) (ws' := (w_X8_learnt G a a_text a_clerk a_s a_kept a_isKept a_signed a_slips a_row a_best (0 : Int32) v_trace v_typed v_next v_token v_place v_value v_fault v_clerks v_draftClerks v_draftLine v_signMany v_copies v_rowMany f_signed)) (st1 := [.int y8]) ⟨hx, hb, hml, hown, hts⟩ (c_X8_in l G x1 (0 : Int32) (5 : Int32) y8 hc8) (va_cwS 3 hts gX8_learnt_X8_in rfl rfl rfl (by decide +kernel) ⟨Nat.le_of_ble_eq_true rfl, Nat.le_of_ble_eq_true rfl⟩) hK hE hP hD hS hA [] rfl rfl rfl rfl rfl hl.1 rfl (Nat.le_of_ble_eq_true rfl) dX8_learnt_8 (Nat.zero_le _) (Nat.zero_le _) rfl (fun H locs hP hD hS => ?_)
  refine lv_if_ne (tgt := 16) hx hb dX8_learnt_11 (by decide) (fun c11 => ?_) (fun c11 => ?_)
  · have h := zf c11 h
    refine lv_bipush (v := ((-9) : Int32)) hx hb dX8_learnt_16 (by decide) ?_
    refine lv_istore_n (lv' := [(2, .int ((-9) : Int32)), (0, .ref a), (1, .int x1)]) hx hb dX8_learnt_18 rfl hl (by decide) rfl (fun ls hl => ?_)
    refine lv_bipush (v := ((-9) : Int32)) hx hb dX8_learnt_19 (by decide) ?_
    refine lv_istore_n (lv' := [(3, .int ((-9) : Int32)), (2, .int ((-9) : Int32)), (0, .ref a), (1, .int x1)]) hx hb dX8_learnt_21 rfl hl (by decide) rfl (fun ls hl => ?_)
    refine lv_iconst (v := (0 : Int32)) hx hb dX8_learnt_22 (by decide) ?_
    refine lv_istore (lv' := [(4, .int (0 : Int32)), (3, .int ((-9) : Int32)), (2, .int ((-9) : Int32)), (0, .ref a), (1, .int x1)]) hx hb dX8_learnt_23 hl (by decide) rfl (fun ls hl => ?_)
    have loop_25 : ∀ (n : Nat) (K : Int32 → Int32 → Option (Int32 × Int32)) (l2_25 : Int32) (l3_25 : Int32) (l4_25 : Int32) (H : Heap) (locs : List Loc) (ls : Array Slot), fX8_learnt_L25 fu x1 v_signMany f_signed K n l2_25 l3_25 l4_25 = some (rv, ov_thrown) → (∀ (l2_25e : Int32) (l3_25e : Int32) (H : Heap) (locs : List Loc) (ls : Array Slot), K l2_25e l3_25e = some (rv, ov_thrown) → va_P G.1 vwCl (w_X8_learnt G a a_text a_clerk a_s a_kept a_isKept a_signed a_slips a_row a_best (0 : Int32) v_trace v_typed v_next v_token v_place v_value v_fault v_clerks v_draftClerks v_draftLine v_signMany v_copies v_rowMany f_signed) H → va_D A (w_X8_learnt G a a_text a_clerk a_s a_kept a_isKept a_signed a_slips a_row a_best (0 : Int32) v_trace v_typed v_next v_token v_place v_value v_fault v_clerks v_draftClerks v_draftLine v_signMany v_copies v_rowMany f_signed) → va_S A s.heap H locs → lv_has ls 7 [(0, .ref a), (1, .int x1), (2, .int l2_25e), (3, .int l3_25e)] → W p l e (headSpec wsX8_learnt { frames := 1, cells := 0, slots := 0, locals := 25 }).room s m ([.ref a, .int x1] : List Value).toArray below meth c H locs 0 0 (MQ below (zQ (some (.int rv)) G (w_X8_learnt G a a_text a_clerk a_s a_kept a_isKept a_signed a_slips a_row a_best ov_thrown v_trace v_typed v_next v_token v_place v_value v_fault v_clerks v_draftClerks v_draftLine v_signMany v_copies v_rowMany f_signed) A) ([.ref a, .int x1] : List Value).toArray s 0 0 A) (F0 m 63 ls [])) → va_P G.1 vwCl (w_X8_learnt G a a_text a_clerk a_s a_kept a_isKept a_signed a_slips a_row a_best (0 : Int32) v_trace v_typed v_next v_token v_place v_value v_fault v_clerks v_draftClerks v_draftLine v_signMany v_copies v_rowMany f_signed) H → va_D A (w_X8_learnt G a a_text a_clerk a_s a_kept a_isKept a_signed a_slips a_row a_best (0 : Int32) v_trace v_typed v_next v_token v_place v_value v_fault v_clerks v_draftClerks v_draftLine v_signMany v_copies v_rowMany f_signed) → va_S A s.heap H locs → lv_has ls 7 [(0, .ref a), (1, .int x1), (2, .int l2_25), (3, .int l3_25), (4, .int l4_25)] → W p l e (headSpec wsX8_learnt { frames := 1, cells := 0, slots := 0, locals := 25 }).room s m ([.ref a, .int x1] : List Value).toArray below meth c H locs 0 0 (MQ below (zQ (some (.int rv)) G (w_X8_learnt G a a_text a_clerk a_s a_kept a_isKept a_signed a_slips a_row a_best ov_thrown v_trace v_typed v_next v_token v_place v_value v_fault v_clerks v_draftClerks v_draftLine v_signMany v_copies v_rowMany f_signed) A) ([.ref a, .int x1] : List Value).toArray s 0 0 A) (F0 m 25 ls []) := by
      intro n
      induction n with
      | zero => intro K l2_25 l3_25 l4_25 H locs ls h; rw [fX8_learnt_L25] at h; cases h
      | succ n ih =>
        intro K l2_25 l3_25 l4_25 H locs ls h hk hP hD hS hl
        rw [fX8_learnt_L25] at h
        refine lv_iload hx hb dX8_learnt_25 (lv_at hl 4 rfl) ?_
        refine lv_bipush (v := (9 : Int32)) hx hb dX8_learnt_27 (by decide) ?_
        refine lv_icmp_ge (tgt := 63) hx hb dX8_learnt_29 (by decide) (fun c29 => ?_) (fun c29 => ?_)
        · have h := zt c29 h
          exact hk _ _ _ _ _ h hP hD hS (lv_sub hl [0, 1, 2, 3] rfl)
        · have h := zf c29 h
          refine lv_aload_n hx hb dX8_learnt_32 rfl (lv_at hl 0 rfl) ?_
          refine lv_iload hx hb dX8_learnt_33 (lv_at hl 4 rfl) ?_
          obtain ⟨y35, hc35, h⟩ := zb1_e h
          refine zcV (As := [.int l4_25]) (rest := []) (ws' := (w_X8_learnt G a a_text a_clerk a_s a_kept a_isKept a_signed a_slips a_row a_best (0 : Int32) v_trace v_typed v_next v_token v_place v_value v_fault v_clerks v_draftClerks v_draftLine v_signMany v_copies v_rowMany f_signed)) (st1 := [.int y35]) ⟨hx, hb, hml, hown, hts⟩ (c_X8_fitsLean l G fu a a_text a_clerk a_s a_kept a_isKept a_signed a_slips a_row a_best (0 : Int32) v_trace v_typed v_next v_token v_place v_value v_fault v_clerks v_draftClerks v_draftLine v_signMany v_copies v_rowMany f_signed l4_25 y35 hc35) (cwV 1 hts gX8_learnt_X8_fitsLean rfl rfl rfl (by decide +kernel) ⟨Nat.le_of_ble_eq_true rfl, Nat.le_of_ble_eq_true rfl⟩) hK hE hP hD hS hA [0, 1] rfl rfl 0 8 rfl rfl rfl rfl rfl rfl hl.1 rfl (Nat.le_of_ble_eq_true rfl) dX8_learnt_35 (Nat.zero_le _) (Nat.zero_le _) rfl (fun H locs hP hD hS => ?_)
          refine lv_if_eq (tgt := 57) hx hb dX8_learnt_38 (by decide) (fun c38 => ?_) (fun c38 => ?_)
          · have h := zt c38 h
            refine lv_iinc (v := (l4_25 + (1 : Int32))) (lv' := [(4, .int (l4_25 + (1 : Int32))), (0, .ref a), (1, .int x1), (2, .int l2_25), (3, .int l3_25)]) hx hb dX8_learnt_57 hl (k := 4) rfl rfl (by decide) rfl (fun ls hl => ?_)
            refine lv_goto (tgt := 25) hx hb dX8_learnt_60 (by decide) ?_
            exact ih K _ _ _ _ _ _ h hk hP hD hS (lv_sub hl [1, 2, 3, 4, 0] rfl)
          · have h := zf c38 h
            refine lv_iload_n hx hb dX8_learnt_41 rfl (lv_at hl 2 rfl) ?_
            refine lv_bipush (v := ((-9) : Int32)) hx hb dX8_learnt_42 (by decide) ?_
            refine lv_icmp_ne (tgt := 52) hx hb dX8_learnt_44 (by decide) (fun c44 => ?_) (fun c44 => ?_)
            · have h := zf c44 h
              refine lv_iload_n hx hb dX8_learnt_52 rfl (lv_at hl 2 rfl) ?_
              refine lv_istore_n (lv' := [(2, .int l2_25), (0, .ref a), (1, .int x1), (3, .int l3_25), (4, .int l4_25)]) hx hb dX8_learnt_53 rfl hl (by decide) rfl (fun ls hl => ?_)
              refine lv_iload hx hb dX8_learnt_54 (lv_at hl 4 rfl) ?_
              refine lv_istore_n (lv' := [(3, .int l4_25), (2, .int l2_25), (0, .ref a), (1, .int x1), (4, .int l4_25)]) hx hb dX8_learnt_56 rfl hl (by decide) rfl (fun ls hl => ?_)
              refine lv_iinc (v := (l4_25 + (1 : Int32))) (lv' := [(4, .int (l4_25 + (1 : Int32))), (3, .int l4_25), (2, .int l2_25), (0, .ref a), (1, .int x1)]) hx hb dX8_learnt_57 hl (k := 4) rfl rfl (by decide) rfl (fun ls hl => ?_)
              refine lv_goto (tgt := 25) hx hb dX8_learnt_60 (by decide) ?_
              exact ih K _ _ _ _ _ _ h hk hP hD hS (lv_sub hl [3, 4, 2, 1, 0] rfl)
            · have h := zt c44 h
              refine lv_iload hx hb dX8_learnt_47 (lv_at hl 4 rfl) ?_
              refine lv_goto (tgt := 53) hx hb dX8_learnt_49 (by decide) ?_
              refine lv_istore_n (lv' := [(2, .int l4_25), (0, .ref a), (1, .int x1), (3, .int l3_25), (4, .int l4_25)]) hx hb dX8_learnt_53 rfl hl (by decide) rfl (fun ls hl => ?_)
              refine lv_iload hx hb dX8_learnt_54 (lv_at hl 4 rfl) ?_
              refine lv_istore_n (lv' := [(3, .int l4_25), (2, .int l4_25), (0, .ref a), (1, .int x1), (4, .int l4_25)]) hx hb dX8_learnt_56 rfl hl (by decide) rfl (fun ls hl => ?_)
              refine lv_iinc (v := (l4_25 + (1 : Int32))) (lv' := [(4, .int (l4_25 + (1 : Int32))), (3, .int l4_25), (2, .int l4_25), (0, .ref a), (1, .int x1)]) hx hb dX8_learnt_57 hl (k := 4) rfl rfl (by decide) rfl (fun ls hl => ?_)
              refine lv_goto (tgt := 25) hx hb dX8_learnt_60 (by decide) ?_
              exact ih K _ _ _ _ _ _ h hk hP hD hS (lv_sub hl [3, 4, 2, 1, 0] rfl)
    refine loop_25 fu _ _ _ _ _ _ _ h (fun l2_25e l3_25e H locs ls h hP hD hS hl => ?_) hP hD hS (lv_sub hl [3, 4, 2, 1, 0] rfl)
    refine lv_aload_n hx hb dX8_learnt_63 rfl (lv_at hl 0 rfl) ?_
    refine lv_iconst (v := (0 : Int32)) hx hb dX8_learnt_64 (by decide) ?_
    obtain ⟨y65, hc65, h⟩ := zb1_e h
    refine zcV (As := [.int (0 : Int32)]) (rest := []) (ws' := (w_X8_learnt G a a_text a_clerk a_s a_kept a_isKept a_signed a_slips a_row a_best (0 : Int32) v_trace v_typed v_next v_token v_place v_value v_fault v_clerks v_draftClerks v_draftLine v_signMany v_copies v_rowMany f_signed)) (st1 := [.int y65]) ⟨hx, hb, hml, hown, hts⟩ (c_X8_marksBy l G fu a a_text a_clerk a_s a_kept a_isKept a_signed a_slips a_row a_best (0 : Int32) v_trace v_typed v_next v_token v_place v_value v_fault v_clerks v_draftClerks v_draftLine v_signMany v_copies v_rowMany f_signed (0 : Int32) y65 hc65) (cwV 1 hts gX8_learnt_X8_marksBy rfl rfl rfl (by decide +kernel) ⟨Nat.le_of_ble_eq_true rfl, Nat.le_of_ble_eq_true rfl⟩) hK hE hP hD hS hA [0, 1] rfl rfl 0 8 rfl rfl rfl rfl rfl rfl hl.1 rfl (Nat.le_of_ble_eq_true rfl) dX8_learnt_65 (Nat.zero_le _) (Nat.zero_le _) rfl (fun H locs hP hD hS => ?_)
    refine lv_istore (lv' := [(4, .int y65), (0, .ref a), (1, .int x1), (2, .int l2_25e), (3, .int l3_25e)]) hx hb dX8_learnt_68 hl (by decide) rfl (fun ls hl => ?_)
    refine lv_aload_n hx hb dX8_learnt_70 rfl (lv_at hl 1 rfl) ?_
    refine lv_iconst (v := (1 : Int32)) hx hb dX8_learnt_71 (by decide) ?_
    obtain ⟨y72, hc72, h⟩ := zb1_e h
    refine zcV (As := [.int (1 : Int32)]) (rest := []) (ws' := (w_X8_learnt G a a_text a_clerk a_s a_kept a_isKept a_signed a_slips a_row a_best (0 : Int32) v_trace v_typed v_next v_token v_place v_value v_fault v_clerks v_draftClerks v_draftLine v_signMany v_copies v_rowMany f_signed)) (st1 := [.int y72]) ⟨hx, hb, hml, hown, hts⟩ (c_X8_marksBy l G fu a a_text a_clerk a_s a_kept a_isKept a_signed a_slips a_row a_best (0 : Int32) v_trace v_typed v_next v_token v_place v_value v_fault v_clerks v_draftClerks v_draftLine v_signMany v_copies v_rowMany f_signed (1 : Int32) y72 hc72) (cwV 1 hts gX8_learnt_X8_marksBy rfl rfl rfl (by decide +kernel) ⟨Nat.le_of_ble_eq_true rfl, Nat.le_of_ble_eq_true rfl⟩) hK hE hP hD hS hA [0, 1] rfl rfl 0 8 rfl rfl rfl rfl rfl rfl hl.1 rfl (Nat.le_of_ble_eq_true rfl) dX8_learnt_72 (Nat.zero_le _) (Nat.zero_le _) rfl (fun H locs hP hD hS => ?_)
    refine lv_istore (lv' := [(5, .int y72), (4, .int y65), (0, .ref a), (1, .int x1), (2, .int l2_25e), (3, .int l3_25e)]) hx hb dX8_learnt_75 hl (by decide) rfl (fun ls hl => ?_)
    refine lv_aload_n hx hb dX8_learnt_77 rfl (lv_at hl 2 rfl) ?_
    refine lv_iconst (v := (2 : Int32)) hx hb dX8_learnt_78 (by decide) ?_
    obtain ⟨y79, hc79, h⟩ := zb1_e h
    refine zcV (As := [.int (2 : Int32)]) (rest := []) (ws' := (w_X8_learnt G a a_text a_clerk a_s a_kept a_isKept a_signed a_slips a_row a_best (0 : Int32) v_trace v_typed v_next v_token v_place v_value v_fault v_clerks v_draftClerks v_draftLine v_signMany v_copies v_rowMany f_signed)) (st1 := [.int y79]) ⟨hx, hb, hml, hown, hts⟩ (c_X8_marksBy l G fu a a_text a_clerk a_s a_kept a_isKept a_signed a_slips a_row a_best (0 : Int32) v_trace v_typed v_next v_token v_place v_value v_fault v_clerks v_draftClerks v_draftLine v_signMany v_copies v_rowMany f_signed (2 : Int32) y79 hc79) (cwV 1 hts gX8_learnt_X8_marksBy rfl rfl rfl (by decide +kernel) ⟨Nat.le_of_ble_eq_true rfl, Nat.le_of_ble_eq_true rfl⟩) hK hE hP hD hS hA [0, 1] rfl rfl 0 8 rfl rfl rfl rfl rfl rfl hl.1 rfl (Nat.le_of_ble_eq_true rfl) dX8_learnt_79 (Nat.zero_le _) (Nat.zero_le _) rfl (fun H locs hP hD hS => ?_)
    refine lv_istore (lv' := [(6, .int y79), (5, .int y72), (4, .int y65), (0, .ref a), (1, .int x1), (2, .int l2_25e), (3, .int l3_25e)]) hx hb dX8_learnt_82 hl (by decide) rfl (fun ls hl => ?_)
    refine lv_iload_n hx hb dX8_learnt_84 rfl (lv_at hl 5 rfl) ?_
    refine lv_bipush (v := ((-9) : Int32)) hx hb dX8_learnt_85 (by decide) ?_
    refine lv_icmp_eq (tgt := 103) hx hb dX8_learnt_87 (by decide) (fun c87 => ?_) (fun c87 => ?_)
    · have h := zt c87 h
      refine lv_bipush (v := ((-9) : Int32)) hx hb dX8_learnt_103 (by decide) ?_
      cases h
      exact W.iret hx hb hr (fun t9 ht9 _ => zend hP hD hS ht9) hS.2.2 dX8_learnt_105
    · have h := zf c87 h
      refine lv_iload hx hb dX8_learnt_90 (lv_at hl 2 rfl) ?_
      refine lv_iload hx hb dX8_learnt_92 (lv_at hl 1 rfl) ?_
      refine lv_ior hx hb dX8_learnt_94 ?_
      refine lv_iload hx hb dX8_learnt_95 (lv_at hl 0 rfl) ?_
      refine lv_ior hx hb dX8_learnt_97 ?_
      refine lv_bipush (v := (7 : Int32)) hx hb dX8_learnt_98 (by decide) ?_
      refine lv_icmp_eq (tgt := 106) hx hb dX8_learnt_100 (by decide) (fun c100 => ?_) (fun c100 => ?_)
      · have h := zt c100 h
        refine lv_iload_n hx hb dX8_learnt_106 rfl (lv_at hl 4 rfl) ?_
        refine lv_if_ne (tgt := 114) hx hb dX8_learnt_107 (by decide) (fun c107 => ?_) (fun c107 => ?_)
        · have h := zf c107 h
          refine lv_iload_n hx hb dX8_learnt_114 rfl (lv_at hl 4 rfl) ?_
          refine lv_iconst (v := (1 : Int32)) hx hb dX8_learnt_115 (by decide) ?_
          refine lv_icmp_ne (tgt := 123) hx hb dX8_learnt_116 (by decide) (fun c116 => ?_) (fun c116 => ?_)
          · have h := zf c116 h
            refine lv_iload_n hx hb dX8_learnt_123 rfl (lv_at hl 4 rfl) ?_
            refine lv_iconst (v := (2 : Int32)) hx hb dX8_learnt_124 (by decide) ?_
            refine lv_icmp_ne (tgt := 143) hx hb dX8_learnt_125 (by decide) (fun c125 => ?_) (fun c125 => ?_)
            · have h := zf c125 h
              refine lv_iload_n hx hb dX8_learnt_143 rfl (lv_at hl 4 rfl) ?_
              refine lv_iconst (v := (3 : Int32)) hx hb dX8_learnt_144 (by decide) ?_
              refine lv_icmp_ne (tgt := 163) hx hb dX8_learnt_145 (by decide) (fun c145 => ?_) (fun c145 => ?_)
              · have h := zf c145 h
                refine lv_iload_n hx hb dX8_learnt_163 rfl (lv_at hl 4 rfl) ?_
                refine lv_iconst (v := (4 : Int32)) hx hb dX8_learnt_164 (by decide) ?_
                refine lv_icmp_ne (tgt := 173) hx hb dX8_learnt_165 (by decide) (fun c165 => ?_) (fun c165 => ?_)
                · have h := zf c165 h
                  refine lv_iload hx hb dX8_learnt_173 (lv_at hl 1 rfl) ?_
                  cases h
                  exact W.iret hx hb hr (fun t9 ht9 _ => zend hP hD hS ht9) hS.2.2 dX8_learnt_175
                · have h := zt c165 h
                  refine lv_iload hx hb dX8_learnt_168 (lv_at hl 2 rfl) ?_
                  refine lv_goto (tgt := 175) hx hb dX8_learnt_170 (by decide) ?_
                  cases h
                  exact W.iret hx hb hr (fun t9 ht9 _ => zend hP hD hS ht9) hS.2.2 dX8_learnt_175
              · have h := zt c145 h
                refine lv_iload hx hb dX8_learnt_148 (lv_at hl 1 rfl) ?_
                refine lv_iload hx hb dX8_learnt_150 (lv_at hl 2 rfl) ?_
                refine lv_iconst (v := ((-1) : Int32)) hx hb dX8_learnt_152 (by decide) ?_
                refine lv_ixor hx hb dX8_learnt_153 ?_
                refine lv_iand hx hb dX8_learnt_154 ?_
                refine lv_iload hx hb dX8_learnt_155 (lv_at hl 0 rfl) ?_
                refine lv_iconst (v := ((-1) : Int32)) hx hb dX8_learnt_157 (by decide) ?_
                refine lv_ixor hx hb dX8_learnt_158 ?_
                refine lv_iand hx hb dX8_learnt_159 ?_
                refine lv_goto (tgt := 175) hx hb dX8_learnt_160 (by decide) ?_
                cases h
                exact W.iret hx hb hr (fun t9 ht9 _ => zend hP hD hS ht9) hS.2.2 dX8_learnt_175
            · have h := zt c125 h
              refine lv_iload hx hb dX8_learnt_128 (lv_at hl 2 rfl) ?_
              refine lv_iload hx hb dX8_learnt_130 (lv_at hl 1 rfl) ?_
              refine lv_iconst (v := ((-1) : Int32)) hx hb dX8_learnt_132 (by decide) ?_
              refine lv_ixor hx hb dX8_learnt_133 ?_
              refine lv_iand hx hb dX8_learnt_134 ?_
              refine lv_iload hx hb dX8_learnt_135 (lv_at hl 0 rfl) ?_
              refine lv_iconst (v := ((-1) : Int32)) hx hb dX8_learnt_137 (by decide) ?_
              refine lv_ixor hx hb dX8_learnt_138 ?_
              refine lv_iand hx hb dX8_learnt_139 ?_
              refine lv_goto (tgt := 175) hx hb dX8_learnt_140 (by decide) ?_
              cases h
              exact W.iret hx hb hr (fun t9 ht9 _ => zend hP hD hS ht9) hS.2.2 dX8_learnt_175
          · have h := zt c116 h
            refine lv_iload_n hx hb dX8_learnt_119 rfl (lv_at hl 6 rfl) ?_
            refine lv_goto (tgt := 175) hx hb dX8_learnt_120 (by decide) ?_
            cases h
            exact W.iret hx hb hr (fun t9 ht9 _ => zend hP hD hS ht9) hS.2.2 dX8_learnt_175
        · have h := zt c107 h
          refine lv_iload_n hx hb dX8_learnt_110 rfl (lv_at hl 5 rfl) ?_
          refine lv_goto (tgt := 175) hx hb dX8_learnt_111 (by decide) ?_
          cases h
          exact W.iret hx hb hr (fun t9 ht9 _ => zend hP hD hS ht9) hS.2.2 dX8_learnt_175
      · have h := zf c100 h
        refine lv_bipush (v := ((-9) : Int32)) hx hb dX8_learnt_103 (by decide) ?_
        cases h
        exact W.iret hx hb hr (fun t9 ht9 _ => zend hP hD hS ht9) hS.2.2 dX8_learnt_105
  · have h := zt c11 h
    refine lv_iconst (v := ((-1) : Int32)) hx hb dX8_learnt_14 (by decide) ?_
    cases h
    exact W.iret hx hb hr (fun t9 ht9 _ => zend hP hD hS ht9) hS.2.2 dX8_learnt_15
abbrev w_X8_forget (G : zG) (a : Nat) (a_text : Nat) (a_clerk : Nat) (a_s : Nat) (a_kept : Nat) (a_isKept : Nat) (a_signed : Nat) (a_slips : Nat) (a_row : Nat) (a_best : Nat) (v_thrown : Int32) (v_trace : Int64) (v_typed : Int32) (v_next : Int32) (v_token : Int32) (v_place : Int32) (v_value : Int32) (v_fault : Int32) (v_clerks : Int32) (v_draftClerks : Int32) (v_draftLine : Int32) (v_signMany : Int32) (v_copies : Int32) (v_rowMany : Int32) : va_W := [(a, .inr (8, [.int v_thrown, .long v_trace, .ref a_text, .int v_typed, .int v_next, .int v_token, .int v_place, .int v_value, .int v_fault, .ref a_clerk, .int v_clerks, .int v_draftClerks, .int v_draftLine, .ref a_s, .ref a_kept, .ref a_isKept, .ref a_signed, .int v_signMany, .ref a_slips, .int v_copies, .ref a_row, .ref a_best, .int v_rowMany]))]
theorem in_X8_forget_X8 : ∀ w ∈ wsX80, w ∈ wsX8_forget := by decide +kernel
set_option maxHeartbeats 4000000 in
set_option maxRecDepth 100000 in
theorem c_X8_forget (l : Launch) (G : zG) (a : Nat) (a_text : Nat) (a_clerk : Nat) (a_s : Nat) (a_kept : Nat) (a_isKept : Nat) (a_signed : Nat) (a_slips : Nat) (a_row : Nat) (a_best : Nat) (v_thrown : Int32) (v_trace : Int64) (v_typed : Int32) (v_next : Int32) (v_token : Int32) (v_place : Int32) (v_value : Int32) (v_fault : Int32) (v_clerks : Int32) (v_draftClerks : Int32) (v_draftLine : Int32) (v_signMany : Int32) (v_copies : Int32) (v_rowMany : Int32) (rv : Int32) (ov_thrown : Int32) (ov_signMany : Int32) (h : fX8_forget v_thrown v_signMany = some (rv, ov_thrown, ov_signMany)) : zC l yX8_forget wsX8_forget 0 0 G [.ref a] (w_X8_forget G a a_text a_clerk a_s a_kept a_isKept a_signed a_slips a_row a_best v_thrown v_trace v_typed v_next v_token v_place v_value v_fault v_clerks v_draftClerks v_draftLine v_signMany v_copies v_rowMany) (some (.int rv)) (w_X8_forget G a a_text a_clerk a_s a_kept a_isKept a_signed a_slips a_row a_best ov_thrown v_trace v_typed v_next v_token v_place v_value v_fault v_clerks v_draftClerks v_draftLine ov_signMany v_copies v_rowMany) := by
  refine fun sz => Met.ofW (cc := cX8_forget) (maxL := 2) (ret := (some .int)) (by decide) rfl ?_
  intro p e s m args below meth c s₁ B hml hv
  obtain ⟨rfl, hsz, hP, hK, hD0, hE⟩ := hv
  have hx := B.exec
  have hb := B.bytes
  have hr := B.returns
  have hts := atoms_spec (ws := wsX8_forget) B.pre
  have hown : s.vm.findClass RX8 = some m.cls := findClass_of_methodNamed B.named
  have hlocks := B.notSynchronized
  subst hsz
  have hD := hD0.self (sz := s.heap.size)
  generalize hAe : va_A (w_X8_forget G a a_text a_clerk a_s a_kept a_isKept a_signed a_slips a_row a_best v_thrown v_trace v_typed v_next v_token v_place v_value v_fault v_clerks v_draftClerks v_draftLine v_signMany v_copies v_rowMany) s.heap.size = A at hD hE ⊢
  have hA : ∀ q : Nat, s.heap.size ≤ q → A q := fun q h => by rw [← hAe]; exact Or.inr h
  have hS : va_S A s.heap s.heap [] := va_S.rf
  have hl := lv_entry ([.ref a]) (n := 2) (Nat.le_of_ble_eq_true rfl)
  rw [lg_entry_eq]
  generalize (lg_sl ([.ref a]) ++ List.replicate (2 - (lg_sl ([.ref a])).length) Slot.unset).toArray = ls at hl ⊢
  have hl : lv_has ls 2 [(0, .ref a)] := hl
  have hP : va_P G.1 vwCl (w_X8_forget G a a_text a_clerk a_s a_kept a_isKept a_signed a_slips a_row a_best v_thrown v_trace v_typed v_next v_token v_place v_value v_fault v_clerks v_draftClerks v_draftLine v_signMany v_copies v_rowMany) s.heap := hP
  rw [fX8_forget] at h
  refine lv_aload_n hx hb dX8_forget_0 rfl (lv_at hl 0 rfl) ?_
  refine lv_iconst (v := (0 : Int32)) hx hb dX8_forget_1 (by decide) ?_
  refine zput1 (D := G.1) (ci := 8) (C := RX8) (T := TX8) (N := 23) (ty := .int) (ws' := (w_X8_forget G a a_text a_clerk a_s a_kept a_isKept a_signed a_slips a_row a_best (0 : Int32) v_trace v_typed v_next v_token v_place v_value v_fault v_clerks v_draftClerks v_draftLine v_signMany v_copies v_rowMany)) hx hb hts in_X8_forget_X8 tyX8 tyX8_ok nmX8 hown hK.1 hP hD hS 0 rfl rfl 0 (by decide) (hts (.fieldLink RX8 42 "NineHandsModel" "thrown" "I") (by decide +kernel)) (fun _ h9 => h9) rfl (by decide +kernel) rfl rfl (Nat.le_of_ble_eq_true rfl) rfl dX8_forget_2 (fun H locs hP hD hS => ?_)
  refine lv_aload_n hx hb dX8_forget_5 rfl (lv_at hl 0 rfl) ?_
  refine va_get (D := G.1) (ci := 8) (v := .int v_signMany) (C := RX8) (T := TX8) (N := 23) hx hb hts in_X8_forget_X8 hown hK.1 hP 0 rfl rfl 17 (by decide) (hts (.fieldLink RX8 115 "NineHandsModel" "signMany" "I") (by decide +kernel)) (fun _ h9 => h9) rfl dX8_forget_6 ?_
  refine lv_istore_n (lv' := [(1, .int v_signMany), (0, .ref a)]) hx hb dX8_forget_9 rfl hl (by decide) rfl (fun ls hl => ?_)
  refine lv_aload_n hx hb dX8_forget_10 rfl (lv_at hl 1 rfl) ?_
  refine lv_iconst (v := (0 : Int32)) hx hb dX8_forget_11 (by decide) ?_
  refine zput1 (D := G.1) (ci := 8) (C := RX8) (T := TX8) (N := 23) (ty := .int) (ws' := (w_X8_forget G a a_text a_clerk a_s a_kept a_isKept a_signed a_slips a_row a_best (0 : Int32) v_trace v_typed v_next v_token v_place v_value v_fault v_clerks v_draftClerks v_draftLine (0 : Int32) v_copies v_rowMany)) hx hb hts in_X8_forget_X8 tyX8 tyX8_ok nmX8 hown hK.1 hP hD hS 0 rfl rfl 17 (by decide) (hts (.fieldLink RX8 115 "NineHandsModel" "signMany" "I") (by decide +kernel)) (fun _ h9 => h9) rfl (by decide +kernel) rfl rfl (Nat.le_of_ble_eq_true rfl) rfl dX8_forget_12 (fun H locs hP hD hS => ?_)
  refine lv_iload_n hx hb dX8_forget_15 rfl (lv_at hl 0 rfl) ?_
  cases h
  exact W.iret hx hb hr (fun t9 ht9 _ => zend hP hD hS ht9) hS.2.2 dX8_forget_16
abbrev w_X8_copy (G : zG) (a : Nat) (a_text : Nat) (a_clerk : Nat) (a_s : Nat) (a_kept : Nat) (a_isKept : Nat) (a_signed : Nat) (a_slips : Nat) (a_row : Nat) (a_best : Nat) (v_thrown : Int32) (v_trace : Int64) (v_typed : Int32) (v_next : Int32) (v_token : Int32) (v_place : Int32) (v_value : Int32) (v_fault : Int32) (v_clerks : Int32) (v_draftClerks : Int32) (v_draftLine : Int32) (v_signMany : Int32) (v_copies : Int32) (v_rowMany : Int32) (f_slips : (Nat → Int32)) : va_W := [(a, .inr (8, [.int v_thrown, .long v_trace, .ref a_text, .int v_typed, .int v_next, .int v_token, .int v_place, .int v_value, .int v_fault, .ref a_clerk, .int v_clerks, .int v_draftClerks, .int v_draftLine, .ref a_s, .ref a_kept, .ref a_isKept, .ref a_signed, .int v_signMany, .ref a_slips, .int v_copies, .ref a_row, .ref a_best, .int v_rowMany])), (a_slips, .inl (zCI G, 8, .inl f_slips))]
theorem in_X8_copy_X8 : ∀ w ∈ wsX80, w ∈ wsX8_copy := by decide +kernel
set_option maxHeartbeats 4000000 in
set_option maxRecDepth 100000 in
theorem c_X8_copy (l : Launch) (G : zG) (a : Nat) (a_text : Nat) (a_clerk : Nat) (a_s : Nat) (a_kept : Nat) (a_isKept : Nat) (a_signed : Nat) (a_slips : Nat) (a_row : Nat) (a_best : Nat) (v_thrown : Int32) (v_trace : Int64) (v_typed : Int32) (v_next : Int32) (v_token : Int32) (v_place : Int32) (v_value : Int32) (v_fault : Int32) (v_clerks : Int32) (v_draftClerks : Int32) (v_draftLine : Int32) (v_signMany : Int32) (v_copies : Int32) (v_rowMany : Int32) (f_slips : (Nat → Int32)) (x1 : Int32) (rv : Int32) (ov_thrown : Int32) (ov_copies : Int32) (of_slips : (Nat → Int32)) (h : fX8_copy v_thrown v_copies f_slips x1 = some (rv, ov_thrown, ov_copies, of_slips)) : zC l yX8_copy wsX8_copy 1 22 G [.ref a, .int x1] (w_X8_copy G a a_text a_clerk a_s a_kept a_isKept a_signed a_slips a_row a_best v_thrown v_trace v_typed v_next v_token v_place v_value v_fault v_clerks v_draftClerks v_draftLine v_signMany v_copies v_rowMany f_slips) (some (.int rv)) (w_X8_copy G a a_text a_clerk a_s a_kept a_isKept a_signed a_slips a_row a_best ov_thrown v_trace v_typed v_next v_token v_place v_value v_fault v_clerks v_draftClerks v_draftLine v_signMany ov_copies v_rowMany of_slips) := by
  refine fun sz => Met.ofW (cc := cX8_copy) (maxL := 2) (ret := (some .int)) (by decide) rfl ?_
  intro p e s m args below meth c s₁ B hml hv
  obtain ⟨rfl, hsz, hP, hK, hD0, hE⟩ := hv
  have hx := B.exec
  have hb := B.bytes
  have hr := B.returns
  have hts := atoms_spec (ws := wsX8_copy) B.pre
  have hown : s.vm.findClass RX8 = some m.cls := findClass_of_methodNamed B.named
  have hlocks := B.notSynchronized
  subst hsz
  have hD := hD0.self (sz := s.heap.size)
  generalize hAe : va_A (w_X8_copy G a a_text a_clerk a_s a_kept a_isKept a_signed a_slips a_row a_best v_thrown v_trace v_typed v_next v_token v_place v_value v_fault v_clerks v_draftClerks v_draftLine v_signMany v_copies v_rowMany f_slips) s.heap.size = A at hD hE ⊢
  have hA : ∀ q : Nat, s.heap.size ≤ q → A q := fun q h => by rw [← hAe]; exact Or.inr h
  have hS : va_S A s.heap s.heap [] := va_S.rf
  have hl := lv_entry ([.ref a, .int x1]) (n := 2) (Nat.le_of_ble_eq_true rfl)
  rw [lg_entry_eq]
  generalize (lg_sl ([.ref a, .int x1]) ++ List.replicate (2 - (lg_sl ([.ref a, .int x1])).length) Slot.unset).toArray = ls at hl ⊢
  have hl : lv_has ls 2 [(0, .ref a), (1, .int x1)] := hl
  have hP : va_P G.1 vwCl (w_X8_copy G a a_text a_clerk a_s a_kept a_isKept a_signed a_slips a_row a_best v_thrown v_trace v_typed v_next v_token v_place v_value v_fault v_clerks v_draftClerks v_draftLine v_signMany v_copies v_rowMany f_slips) s.heap := hP
  rw [fX8_copy] at h
  refine lv_aload_n hx hb dX8_copy_0 rfl (lv_at hl 0 rfl) ?_
  refine lv_iconst (v := (0 : Int32)) hx hb dX8_copy_1 (by decide) ?_
  refine zput1 (D := G.1) (ci := 8) (C := RX8) (T := TX8) (N := 23) (ty := .int) (ws' := (w_X8_copy G a a_text a_clerk a_s a_kept a_isKept a_signed a_slips a_row a_best (0 : Int32) v_trace v_typed v_next v_token v_place v_value v_fault v_clerks v_draftClerks v_draftLine v_signMany v_copies v_rowMany f_slips)) hx hb hts in_X8_copy_X8 tyX8 tyX8_ok nmX8 hown hK.1 hP hD hS 0 rfl rfl 0 (by decide) (hts (.fieldLink RX8 42 "NineHandsModel" "thrown" "I") (by decide +kernel)) (fun _ h9 => h9) rfl (by decide +kernel) rfl rfl (Nat.le_of_ble_eq_true rfl) rfl dX8_copy_2 (fun H locs hP hD hS => ?_)
  refine lv_iload_n hx hb dX8_copy_5 rfl (lv_at hl 1 rfl) ?_
  refine lv_iconst (v := (0 : Int32)) hx hb dX8_copy_6 (by decide) ?_
  refine lv_sipush (v := (255 : Int32)) hx hb dX8_copy_7 (by decide) ?_
  obtain ⟨y10, hc10, h⟩ := zb1_e h
  refine zcS (As := [.int x1, .int (0 : Int32), .int (255 : Int32)]) (rest := []) (ws' := (w_X8_copy G a a_text a_clerk a_s a_kept a_isKept a_signed a_slips a_row a_best (0 : Int32) v_trace v_typed v_next v_token v_place v_value v_fault v_clerks v_draftClerks v_draftLine v_signMany v_copies v_rowMany f_slips)) (st1 := [.int y10]) ⟨hx, hb, hml, hown, hts⟩ (c_X8_in l G x1 (0 : Int32) (255 : Int32) y10 hc10) (va_cwS 3 hts gX8_copy_X8_in rfl rfl rfl (by decide +kernel) ⟨Nat.le_of_ble_eq_true rfl, Nat.le_of_ble_eq_true rfl⟩) hK hE hP hD hS hA [] rfl rfl rfl rfl rfl hl.1 rfl (Nat.le_of_ble_eq_true rfl) dX8_copy_10 (Nat.zero_le _) (Nat.zero_le _) rfl (fun H locs hP hD hS => ?_)
  refine lv_if_ne (tgt := 18) hx hb dX8_copy_13 (by decide) (fun c13 => ?_) (fun c13 => ?_)
  · have h := zf c13 h
    refine lv_aload_n hx hb dX8_copy_18 rfl (lv_at hl 0 rfl) ?_
    refine va_get (D := G.1) (ci := 8) (v := .int v_copies) (C := RX8) (T := TX8) (N := 23) hx hb hts in_X8_copy_X8 hown hK.1 hP 0 rfl rfl 19 (by decide) (hts (.fieldLink RX8 118 "NineHandsModel" "copies" "I") (by decide +kernel)) (fun _ h9 => h9) rfl dX8_copy_19 ?_
    refine lv_bipush (v := (8 : Int32)) hx hb dX8_copy_22 (by decide) ?_
    refine lv_icmp_ne (tgt := 30) hx hb dX8_copy_24 (by decide) (fun c24 => ?_) (fun c24 => ?_)
    · have h := zf c24 h
      refine lv_aload_n hx hb dX8_copy_30 rfl (lv_at hl 0 rfl) ?_
      refine va_get (D := G.1) (ci := 8) (v := .ref a_slips) (C := RX8) (T := TX8) (N := 23) hx hb hts in_X8_copy_X8 hown hK.1 hP 0 rfl rfl 18 (by decide) (hts (.fieldLink RX8 29 "NineHandsModel" "slips" "[I") (by decide +kernel)) (fun _ h9 => h9) rfl dX8_copy_31 ?_
      refine lv_aload_n hx hb dX8_copy_34 rfl (lv_at hl 0 rfl) ?_
      refine va_get (D := G.1) (ci := 8) (v := .int v_copies) (C := RX8) (T := TX8) (N := 23) hx hb hts in_X8_copy_X8 hown hK.1 hP 0 rfl rfl 19 (by decide) (hts (.fieldLink RX8 118 "NineHandsModel" "copies" "I") (by decide +kernel)) (fun _ h9 => h9) rfl dX8_copy_35 ?_
      refine lv_iload_n hx hb dX8_copy_38 rfl (lv_at hl 1 rfl) ?_
      obtain ⟨g39, h⟩ := zg h
      refine zast hx hb hK.1 hP hD hS 1 0 rfl rfl g39 (j := (v_copies).toNatClampNeg) rfl (ws' := (w_X8_copy G a a_text a_clerk a_s a_kept a_isKept a_signed a_slips a_row a_best (0 : Int32) v_trace v_typed v_next v_token v_place v_value v_fault v_clerks v_draftClerks v_draftLine v_signMany v_copies v_rowMany (upd f_slips (v_copies).toNatClampNeg x1))) rfl dX8_copy_39 (fun H locs hP hD hS => ?_)
      refine lv_aload_n hx hb dX8_copy_40 rfl (lv_at hl 0 rfl) ?_
      refine lv_dup hx hb dX8_copy_41 rfl ?_
      refine va_get (D := G.1) (ci := 8) (v := .int v_copies) (C := RX8) (T := TX8) (N := 23) hx hb hts in_X8_copy_X8 hown hK.1 hP 0 rfl rfl 19 (by decide) (hts (.fieldLink RX8 118 "NineHandsModel" "copies" "I") (by decide +kernel)) (fun _ h9 => h9) rfl dX8_copy_42 ?_
      refine lv_iconst (v := (1 : Int32)) hx hb dX8_copy_45 (by decide) ?_
      refine lv_iadd hx hb dX8_copy_46 ?_
      refine zput1 (D := G.1) (ci := 8) (C := RX8) (T := TX8) (N := 23) (ty := .int) (ws' := (w_X8_copy G a a_text a_clerk a_s a_kept a_isKept a_signed a_slips a_row a_best (0 : Int32) v_trace v_typed v_next v_token v_place v_value v_fault v_clerks v_draftClerks v_draftLine v_signMany (v_copies + (1 : Int32)) v_rowMany (upd f_slips (v_copies).toNatClampNeg x1))) hx hb hts in_X8_copy_X8 tyX8 tyX8_ok nmX8 hown hK.1 hP hD hS 0 rfl rfl 19 (by decide) (hts (.fieldLink RX8 118 "NineHandsModel" "copies" "I") (by decide +kernel)) (fun _ h9 => h9) rfl (by decide +kernel) rfl rfl (Nat.le_of_ble_eq_true rfl) rfl dX8_copy_47 (fun H locs hP hD hS => ?_)
      refine lv_aload_n hx hb dX8_copy_50 rfl (lv_at hl 0 rfl) ?_
      refine va_get (D := G.1) (ci := 8) (v := .int (v_copies + (1 : Int32))) (C := RX8) (T := TX8) (N := 23) hx hb hts in_X8_copy_X8 hown hK.1 hP 0 rfl rfl 19 (by decide) (hts (.fieldLink RX8 118 "NineHandsModel" "copies" "I") (by decide +kernel)) (fun _ h9 => h9) rfl dX8_copy_51 ?_
      refine lv_iconst (v := (1 : Int32)) hx hb dX8_copy_54 (by decide) ?_
      refine lv_isub hx hb dX8_copy_55 ?_
      cases h
      exact W.iret hx hb hr (fun t9 ht9 _ => zend hP hD hS ht9) hS.2.2 dX8_copy_56
    · have h := zt c24 h
      refine lv_bipush (v := ((-3) : Int32)) hx hb dX8_copy_27 (by decide) ?_
      cases h
      exact W.iret hx hb hr (fun t9 ht9 _ => zend hP hD hS ht9) hS.2.2 dX8_copy_29
  · have h := zt c13 h
    refine lv_iconst (v := ((-1) : Int32)) hx hb dX8_copy_16 (by decide) ?_
    cases h
    exact W.iret hx hb hr (fun t9 ht9 _ => zend hP hD hS ht9) hS.2.2 dX8_copy_17
abbrev w_X8_cameOf (G : zG) (a : Nat) (a_text : Nat) (a_clerk : Nat) (a_s : Nat) (a_kept : Nat) (a_isKept : Nat) (a_signed : Nat) (a_slips : Nat) (a_row : Nat) (a_best : Nat) (v_thrown : Int32) (v_trace : Int64) (v_typed : Int32) (v_next : Int32) (v_token : Int32) (v_place : Int32) (v_value : Int32) (v_fault : Int32) (v_clerks : Int32) (v_draftClerks : Int32) (v_draftLine : Int32) (v_signMany : Int32) (v_copies : Int32) (v_rowMany : Int32) (f_slips : (Nat → Int32)) : va_W := [(a, .inr (8, [.int v_thrown, .long v_trace, .ref a_text, .int v_typed, .int v_next, .int v_token, .int v_place, .int v_value, .int v_fault, .ref a_clerk, .int v_clerks, .int v_draftClerks, .int v_draftLine, .ref a_s, .ref a_kept, .ref a_isKept, .ref a_signed, .int v_signMany, .ref a_slips, .int v_copies, .ref a_row, .ref a_best, .int v_rowMany])), (a_slips, .inl (zCI G, 8, .inl f_slips))]
theorem in_X8_cameOf_X8 : ∀ w ∈ wsX80, w ∈ wsX8_cameOf := by decide +kernel
set_option maxHeartbeats 4000000 in
set_option maxRecDepth 100000 in
theorem c_X8_cameOf (l : Launch) (G : zG) (fu : Nat) (a : Nat) (a_text : Nat) (a_clerk : Nat) (a_s : Nat) (a_kept : Nat) (a_isKept : Nat) (a_signed : Nat) (a_slips : Nat) (a_row : Nat) (a_best : Nat) (v_thrown : Int32) (v_trace : Int64) (v_typed : Int32) (v_next : Int32) (v_token : Int32) (v_place : Int32) (v_value : Int32) (v_fault : Int32) (v_clerks : Int32) (v_draftClerks : Int32) (v_draftLine : Int32) (v_signMany : Int32) (v_copies : Int32) (v_rowMany : Int32) (f_slips : (Nat → Int32)) (x1 : Int32) (rv : Int32) (h : fX8_cameOf fu v_copies f_slips x1 = some rv) : zC l yX8_cameOf wsX8_cameOf 1 22 G [.ref a, .int x1] (w_X8_cameOf G a a_text a_clerk a_s a_kept a_isKept a_signed a_slips a_row a_best v_thrown v_trace v_typed v_next v_token v_place v_value v_fault v_clerks v_draftClerks v_draftLine v_signMany v_copies v_rowMany f_slips) (some (.int rv)) (w_X8_cameOf G a a_text a_clerk a_s a_kept a_isKept a_signed a_slips a_row a_best v_thrown v_trace v_typed v_next v_token v_place v_value v_fault v_clerks v_draftClerks v_draftLine v_signMany v_copies v_rowMany f_slips) := by
  refine fun sz => Met.ofW (cc := cX8_cameOf) (maxL := 5) (ret := (some .int)) (by decide) rfl ?_
  intro p e s m args below meth c s₁ B hml hv
  obtain ⟨rfl, hsz, hP, hK, hD0, hE⟩ := hv
  have hx := B.exec
  have hb := B.bytes
  have hr := B.returns
  have hts := atoms_spec (ws := wsX8_cameOf) B.pre
  have hown : s.vm.findClass RX8 = some m.cls := findClass_of_methodNamed B.named
  have hlocks := B.notSynchronized
  subst hsz
  have hD := hD0.self (sz := s.heap.size)
  generalize hAe : va_A (w_X8_cameOf G a a_text a_clerk a_s a_kept a_isKept a_signed a_slips a_row a_best v_thrown v_trace v_typed v_next v_token v_place v_value v_fault v_clerks v_draftClerks v_draftLine v_signMany v_copies v_rowMany f_slips) s.heap.size = A at hD hE ⊢
  have hA : ∀ q : Nat, s.heap.size ≤ q → A q := fun q h => by rw [← hAe]; exact Or.inr h
  have hS : va_S A s.heap s.heap [] := va_S.rf
  have hl := lv_entry ([.ref a, .int x1]) (n := 5) (Nat.le_of_ble_eq_true rfl)
  rw [lg_entry_eq]
  generalize (lg_sl ([.ref a, .int x1]) ++ List.replicate (5 - (lg_sl ([.ref a, .int x1])).length) Slot.unset).toArray = ls at hl ⊢
  have hl : lv_has ls 5 [(0, .ref a), (1, .int x1)] := hl
  have hP : va_P G.1 vwCl (w_X8_cameOf G a a_text a_clerk a_s a_kept a_isKept a_signed a_slips a_row a_best v_thrown v_trace v_typed v_next v_token v_place v_value v_fault v_clerks v_draftClerks v_draftLine v_signMany v_copies v_rowMany f_slips) s.heap := hP
  rw [fX8_cameOf] at h
  refine lv_bipush (v := ((-9) : Int32)) hx hb dX8_cameOf_0 (by decide) ?_
  refine lv_istore_n (lv' := [(2, .int ((-9) : Int32)), (0, .ref a), (1, .int x1)]) hx hb dX8_cameOf_2 rfl hl (by decide) rfl (fun ls hl => ?_)
  refine lv_iconst (v := (0 : Int32)) hx hb dX8_cameOf_3 (by decide) ?_
  refine lv_istore_n (lv' := [(3, .int (0 : Int32)), (2, .int ((-9) : Int32)), (0, .ref a), (1, .int x1)]) hx hb dX8_cameOf_4 rfl hl (by decide) rfl (fun ls hl => ?_)
  have loop_5 : ∀ (n : Nat) (K : Int32 → Option Int32) (l2_5 : Int32) (l3_5 : Int32) (H : Heap) (locs : List Loc) (ls : Array Slot), fX8_cameOf_L5 fu x1 v_copies f_slips K n l2_5 l3_5 = some rv → (∀ (l2_5e : Int32) (H : Heap) (locs : List Loc) (ls : Array Slot), K l2_5e = some rv → va_P G.1 vwCl (w_X8_cameOf G a a_text a_clerk a_s a_kept a_isKept a_signed a_slips a_row a_best v_thrown v_trace v_typed v_next v_token v_place v_value v_fault v_clerks v_draftClerks v_draftLine v_signMany v_copies v_rowMany f_slips) H → va_D A (w_X8_cameOf G a a_text a_clerk a_s a_kept a_isKept a_signed a_slips a_row a_best v_thrown v_trace v_typed v_next v_token v_place v_value v_fault v_clerks v_draftClerks v_draftLine v_signMany v_copies v_rowMany f_slips) → va_S A s.heap H locs → lv_has ls 5 [(2, .int l2_5e)] → W p l e (headSpec wsX8_cameOf { frames := 1, cells := 0, slots := 0, locals := 22 }).room s m ([.ref a, .int x1] : List Value).toArray below meth c H locs 0 0 (MQ below (zQ (some (.int rv)) G (w_X8_cameOf G a a_text a_clerk a_s a_kept a_isKept a_signed a_slips a_row a_best v_thrown v_trace v_typed v_next v_token v_place v_value v_fault v_clerks v_draftClerks v_draftLine v_signMany v_copies v_rowMany f_slips) A) ([.ref a, .int x1] : List Value).toArray s 0 0 A) (F0 m 107 ls [])) → va_P G.1 vwCl (w_X8_cameOf G a a_text a_clerk a_s a_kept a_isKept a_signed a_slips a_row a_best v_thrown v_trace v_typed v_next v_token v_place v_value v_fault v_clerks v_draftClerks v_draftLine v_signMany v_copies v_rowMany f_slips) H → va_D A (w_X8_cameOf G a a_text a_clerk a_s a_kept a_isKept a_signed a_slips a_row a_best v_thrown v_trace v_typed v_next v_token v_place v_value v_fault v_clerks v_draftClerks v_draftLine v_signMany v_copies v_rowMany f_slips) → va_S A s.heap H locs → lv_has ls 5 [(0, .ref a), (1, .int x1), (2, .int l2_5), (3, .int l3_5)] → W p l e (headSpec wsX8_cameOf { frames := 1, cells := 0, slots := 0, locals := 22 }).room s m ([.ref a, .int x1] : List Value).toArray below meth c H locs 0 0 (MQ below (zQ (some (.int rv)) G (w_X8_cameOf G a a_text a_clerk a_s a_kept a_isKept a_signed a_slips a_row a_best v_thrown v_trace v_typed v_next v_token v_place v_value v_fault v_clerks v_draftClerks v_draftLine v_signMany v_copies v_rowMany f_slips) A) ([.ref a, .int x1] : List Value).toArray s 0 0 A) (F0 m 5 ls []) := by
    intro n
    induction n with
    | zero => intro K l2_5 l3_5 H locs ls h; rw [fX8_cameOf_L5] at h; cases h
    | succ n ih =>
      intro K l2_5 l3_5 H locs ls h hk hP hD hS hl
      rw [fX8_cameOf_L5] at h
      have join_61 : ∀ (s0_61 : Int32) (l2_61 : Int32) (l3_61 : Int32) (H : Heap) (locs : List Loc) (ls : Array Slot), fX8_cameOf_J61 fu x1 f_slips K (fun (l2_5b : Int32) (l3_5b : Int32) => fX8_cameOf_L5 fu x1 v_copies f_slips K n l2_5b l3_5b) s0_61 l2_61 l3_61 = some rv → va_P G.1 vwCl (w_X8_cameOf G a a_text a_clerk a_s a_kept a_isKept a_signed a_slips a_row a_best v_thrown v_trace v_typed v_next v_token v_place v_value v_fault v_clerks v_draftClerks v_draftLine v_signMany v_copies v_rowMany f_slips) H → va_D A (w_X8_cameOf G a a_text a_clerk a_s a_kept a_isKept a_signed a_slips a_row a_best v_thrown v_trace v_typed v_next v_token v_place v_value v_fault v_clerks v_draftClerks v_draftLine v_signMany v_copies v_rowMany f_slips) → va_S A s.heap H locs → lv_has ls 5 [(0, .ref a), (1, .int x1), (2, .int l2_61), (3, .int l3_61)] → W p l e (headSpec wsX8_cameOf { frames := 1, cells := 0, slots := 0, locals := 22 }).room s m ([.ref a, .int x1] : List Value).toArray below meth c H locs 0 0 (MQ below (zQ (some (.int rv)) G (w_X8_cameOf G a a_text a_clerk a_s a_kept a_isKept a_signed a_slips a_row a_best v_thrown v_trace v_typed v_next v_token v_place v_value v_fault v_clerks v_draftClerks v_draftLine v_signMany v_copies v_rowMany f_slips) A) ([.ref a, .int x1] : List Value).toArray s 0 0 A) (F0 m 61 ls [.int s0_61]) := by
        intro s0_61 l2_61 l3_61 H locs ls h hP hD hS hl
        rw [fX8_cameOf_J61] at h
        refine lv_istore (lv' := [(4, .int s0_61), (0, .ref a), (1, .int x1), (2, .int l2_61), (3, .int l3_61)]) hx hb dX8_cameOf_61 hl (by decide) rfl (fun ls hl => ?_)
        refine lv_iload hx hb dX8_cameOf_63 (lv_at hl 0 rfl) ?_
        refine lv_if_eq (tgt := 99) hx hb dX8_cameOf_65 (by decide) (fun c65 => ?_) (fun c65 => ?_)
        · have h := zt c65 h
          refine lv_iload_n hx hb dX8_cameOf_99 rfl (lv_at hl 3 rfl) ?_
          refine lv_istore_n (lv' := [(2, .int l2_61), (4, .int s0_61), (0, .ref a), (1, .int x1), (3, .int l3_61)]) hx hb dX8_cameOf_100 rfl hl (by decide) rfl (fun ls hl => ?_)
          refine lv_iinc (v := (l3_61 + (1 : Int32))) (lv' := [(3, .int (l3_61 + (1 : Int32))), (2, .int l2_61), (4, .int s0_61), (0, .ref a), (1, .int x1)]) hx hb dX8_cameOf_101 hl (k := 4) rfl rfl (by decide) rfl (fun ls hl => ?_)
          refine lv_goto (tgt := 5) hx hb dX8_cameOf_104 (by decide) ?_
          exact ih K _ _ _ _ _ h hk hP hD hS (lv_sub hl [3, 4, 1, 0] rfl)
        · have h := zf c65 h
          refine lv_iload_n hx hb dX8_cameOf_68 rfl (lv_at hl 3 rfl) ?_
          refine lv_bipush (v := ((-9) : Int32)) hx hb dX8_cameOf_69 (by decide) ?_
          refine lv_icmp_eq (tgt := 95) hx hb dX8_cameOf_71 (by decide) (fun c71 => ?_) (fun c71 => ?_)
          · have h := zt c71 h
            refine lv_iload_n hx hb dX8_cameOf_95 rfl (lv_at hl 4 rfl) ?_
            refine lv_goto (tgt := 100) hx hb dX8_cameOf_96 (by decide) ?_
            refine lv_istore_n (lv' := [(2, .int l3_61), (4, .int s0_61), (0, .ref a), (1, .int x1), (3, .int l3_61)]) hx hb dX8_cameOf_100 rfl hl (by decide) rfl (fun ls hl => ?_)
            refine lv_iinc (v := (l3_61 + (1 : Int32))) (lv' := [(3, .int (l3_61 + (1 : Int32))), (2, .int l3_61), (4, .int s0_61), (0, .ref a), (1, .int x1)]) hx hb dX8_cameOf_101 hl (k := 4) rfl rfl (by decide) rfl (fun ls hl => ?_)
            refine lv_goto (tgt := 5) hx hb dX8_cameOf_104 (by decide) ?_
            exact ih K _ _ _ _ _ h hk hP hD hS (lv_sub hl [3, 4, 1, 0] rfl)
          · have h := zf c71 h
            refine lv_aload_n hx hb dX8_cameOf_74 rfl (lv_at hl 1 rfl) ?_
            refine va_get (D := G.1) (ci := 8) (v := .ref a_slips) (C := RX8) (T := TX8) (N := 23) hx hb hts in_X8_cameOf_X8 hown hK.1 hP 0 rfl rfl 18 (by decide) (hts (.fieldLink RX8 29 "NineHandsModel" "slips" "[I") (by decide +kernel)) (fun _ h9 => h9) rfl dX8_cameOf_75 ?_
            refine lv_iload_n hx hb dX8_cameOf_78 rfl (lv_at hl 4 rfl) ?_
            obtain ⟨g79, h⟩ := zg h
            refine zald hx hb hK.1 hP 1 0 rfl rfl g79 (j := (l3_61).toNatClampNeg) rfl dX8_cameOf_79 ?_
            obtain ⟨y80, hc80, h⟩ := zb1_e h
            refine zcS (As := [.int (f_slips (l3_61).toNatClampNeg)]) (rest := []) (ws' := (w_X8_cameOf G a a_text a_clerk a_s a_kept a_isKept a_signed a_slips a_row a_best v_thrown v_trace v_typed v_next v_token v_place v_value v_fault v_clerks v_draftClerks v_draftLine v_signMany v_copies v_rowMany f_slips)) (st1 := [.int y80]) ⟨hx, hb, hml, hown, hts⟩ (c_X8_ones l G fu (f_slips (l3_61).toNatClampNeg) y80 hc80) (va_cwS 1 hts gX8_cameOf_X8_ones rfl rfl rfl (by decide +kernel) ⟨Nat.le_of_ble_eq_true rfl, Nat.le_of_ble_eq_true rfl⟩) hK hE hP hD hS hA [] rfl rfl rfl rfl rfl hl.1 rfl (Nat.le_of_ble_eq_true rfl) dX8_cameOf_80 (Nat.zero_le _) (Nat.zero_le _) rfl (fun H locs hP hD hS => ?_)
            refine lv_aload_n hx hb dX8_cameOf_83 rfl (lv_at hl 1 rfl) ?_
            refine va_get (D := G.1) (ci := 8) (v := .ref a_slips) (C := RX8) (T := TX8) (N := 23) hx hb hts in_X8_cameOf_X8 hown hK.1 hP 0 rfl rfl 18 (by decide) (hts (.fieldLink RX8 29 "NineHandsModel" "slips" "[I") (by decide +kernel)) (fun _ h9 => h9) rfl dX8_cameOf_84 ?_
            refine lv_iload_n hx hb dX8_cameOf_87 rfl (lv_at hl 3 rfl) ?_
            obtain ⟨g88, h⟩ := zg h
            refine zald hx hb hK.1 hP 1 0 rfl rfl g88 (j := (l2_61).toNatClampNeg) rfl dX8_cameOf_88 ?_
            obtain ⟨y89, hc89, h⟩ := zb1_e h
            refine zcS (As := [.int (f_slips (l2_61).toNatClampNeg)]) (rest := [.int y80]) (ws' := (w_X8_cameOf G a a_text a_clerk a_s a_kept a_isKept a_signed a_slips a_row a_best v_thrown v_trace v_typed v_next v_token v_place v_value v_fault v_clerks v_draftClerks v_draftLine v_signMany v_copies v_rowMany f_slips)) (st1 := [.int y89, .int y80]) ⟨hx, hb, hml, hown, hts⟩ (c_X8_ones l G fu (f_slips (l2_61).toNatClampNeg) y89 hc89) (va_cwS 1 hts gX8_cameOf_X8_ones rfl rfl rfl (by decide +kernel) ⟨Nat.le_of_ble_eq_true rfl, Nat.le_of_ble_eq_true rfl⟩) hK hE hP hD hS hA [] rfl rfl rfl rfl rfl hl.1 rfl (Nat.le_of_ble_eq_true rfl) dX8_cameOf_89 (Nat.zero_le _) (Nat.zero_le _) rfl (fun H locs hP hD hS => ?_)
            refine lv_icmp_le (tgt := 99) hx hb dX8_cameOf_92 (by decide) (fun c92 => ?_) (fun c92 => ?_)
            · have h := zt c92 h
              refine lv_iload_n hx hb dX8_cameOf_99 rfl (lv_at hl 3 rfl) ?_
              refine lv_istore_n (lv' := [(2, .int l2_61), (4, .int s0_61), (0, .ref a), (1, .int x1), (3, .int l3_61)]) hx hb dX8_cameOf_100 rfl hl (by decide) rfl (fun ls hl => ?_)
              refine lv_iinc (v := (l3_61 + (1 : Int32))) (lv' := [(3, .int (l3_61 + (1 : Int32))), (2, .int l2_61), (4, .int s0_61), (0, .ref a), (1, .int x1)]) hx hb dX8_cameOf_101 hl (k := 4) rfl rfl (by decide) rfl (fun ls hl => ?_)
              refine lv_goto (tgt := 5) hx hb dX8_cameOf_104 (by decide) ?_
              exact ih K _ _ _ _ _ h hk hP hD hS (lv_sub hl [3, 4, 1, 0] rfl)
            · have h := zf c92 h
              refine lv_iload_n hx hb dX8_cameOf_95 rfl (lv_at hl 4 rfl) ?_
              refine lv_goto (tgt := 100) hx hb dX8_cameOf_96 (by decide) ?_
              refine lv_istore_n (lv' := [(2, .int l3_61), (4, .int s0_61), (0, .ref a), (1, .int x1), (3, .int l3_61)]) hx hb dX8_cameOf_100 rfl hl (by decide) rfl (fun ls hl => ?_)
              refine lv_iinc (v := (l3_61 + (1 : Int32))) (lv' := [(3, .int (l3_61 + (1 : Int32))), (2, .int l3_61), (4, .int s0_61), (0, .ref a), (1, .int x1)]) hx hb dX8_cameOf_101 hl (k := 4) rfl rfl (by decide) rfl (fun ls hl => ?_)
              refine lv_goto (tgt := 5) hx hb dX8_cameOf_104 (by decide) ?_
              exact ih K _ _ _ _ _ h hk hP hD hS (lv_sub hl [3, 4, 1, 0] rfl)
      refine lv_iload_n hx hb dX8_cameOf_5 rfl (lv_at hl 3 rfl) ?_
      refine lv_aload_n hx hb dX8_cameOf_6 rfl (lv_at hl 0 rfl) ?_
      refine va_get (D := G.1) (ci := 8) (v := .int v_copies) (C := RX8) (T := TX8) (N := 23) hx hb hts in_X8_cameOf_X8 hown hK.1 hP 0 rfl rfl 19 (by decide) (hts (.fieldLink RX8 118 "NineHandsModel" "copies" "I") (by decide +kernel)) (fun _ h9 => h9) rfl dX8_cameOf_7 ?_
      refine lv_icmp_ge (tgt := 107) hx hb dX8_cameOf_10 (by decide) (fun c10 => ?_) (fun c10 => ?_)
      · have h := zt c10 h
        exact hk _ _ _ _ h hP hD hS (lv_sub hl [2] rfl)
      · have h := zf c10 h
        refine lv_iload_n hx hb dX8_cameOf_13 rfl (lv_at hl 3 rfl) ?_
        refine lv_iload_n hx hb dX8_cameOf_14 rfl (lv_at hl 1 rfl) ?_
        refine lv_icmp_eq (tgt := 60) hx hb dX8_cameOf_15 (by decide) (fun c15 => ?_) (fun c15 => ?_)
        · have h := zt c15 h
          refine lv_iconst (v := (0 : Int32)) hx hb dX8_cameOf_60 (by decide) ?_
          exact join_61 _ _ _ _ _ _ h hP hD hS (lv_sub hl [0, 1, 2, 3] rfl)
        · have h := zf c15 h
          refine lv_aload_n hx hb dX8_cameOf_18 rfl (lv_at hl 0 rfl) ?_
          refine va_get (D := G.1) (ci := 8) (v := .ref a_slips) (C := RX8) (T := TX8) (N := 23) hx hb hts in_X8_cameOf_X8 hown hK.1 hP 0 rfl rfl 18 (by decide) (hts (.fieldLink RX8 29 "NineHandsModel" "slips" "[I") (by decide +kernel)) (fun _ h9 => h9) rfl dX8_cameOf_19 ?_
          refine lv_iload_n hx hb dX8_cameOf_22 rfl (lv_at hl 3 rfl) ?_
          obtain ⟨g23, h⟩ := zg h
          refine zald hx hb hK.1 hP 1 0 rfl rfl g23 (j := (l3_5).toNatClampNeg) rfl dX8_cameOf_23 ?_
          refine lv_aload_n hx hb dX8_cameOf_24 rfl (lv_at hl 0 rfl) ?_
          refine va_get (D := G.1) (ci := 8) (v := .ref a_slips) (C := RX8) (T := TX8) (N := 23) hx hb hts in_X8_cameOf_X8 hown hK.1 hP 0 rfl rfl 18 (by decide) (hts (.fieldLink RX8 29 "NineHandsModel" "slips" "[I") (by decide +kernel)) (fun _ h9 => h9) rfl dX8_cameOf_25 ?_
          refine lv_iload_n hx hb dX8_cameOf_28 rfl (lv_at hl 1 rfl) ?_
          obtain ⟨g29, h⟩ := zg h
          refine zald hx hb hK.1 hP 1 0 rfl rfl g29 (j := (x1).toNatClampNeg) rfl dX8_cameOf_29 ?_
          refine lv_iconst (v := ((-1) : Int32)) hx hb dX8_cameOf_30 (by decide) ?_
          refine lv_ixor hx hb dX8_cameOf_31 ?_
          refine lv_iand hx hb dX8_cameOf_32 ?_
          refine lv_if_ne (tgt := 60) hx hb dX8_cameOf_33 (by decide) (fun c33 => ?_) (fun c33 => ?_)
          · have h := zf c33 h
            refine lv_iconst (v := (0 : Int32)) hx hb dX8_cameOf_60 (by decide) ?_
            exact join_61 _ _ _ _ _ _ h hP hD hS (lv_sub hl [0, 1, 2, 3] rfl)
          · have h := zt c33 h
            refine lv_aload_n hx hb dX8_cameOf_36 rfl (lv_at hl 0 rfl) ?_
            refine va_get (D := G.1) (ci := 8) (v := .ref a_slips) (C := RX8) (T := TX8) (N := 23) hx hb hts in_X8_cameOf_X8 hown hK.1 hP 0 rfl rfl 18 (by decide) (hts (.fieldLink RX8 29 "NineHandsModel" "slips" "[I") (by decide +kernel)) (fun _ h9 => h9) rfl dX8_cameOf_37 ?_
            refine lv_iload_n hx hb dX8_cameOf_40 rfl (lv_at hl 3 rfl) ?_
            refine zald hx hb hK.1 hP 1 0 rfl rfl g23 (j := (l3_5).toNatClampNeg) rfl dX8_cameOf_41 ?_
            refine lv_aload_n hx hb dX8_cameOf_42 rfl (lv_at hl 0 rfl) ?_
            refine va_get (D := G.1) (ci := 8) (v := .ref a_slips) (C := RX8) (T := TX8) (N := 23) hx hb hts in_X8_cameOf_X8 hown hK.1 hP 0 rfl rfl 18 (by decide) (hts (.fieldLink RX8 29 "NineHandsModel" "slips" "[I") (by decide +kernel)) (fun _ h9 => h9) rfl dX8_cameOf_43 ?_
            refine lv_iload_n hx hb dX8_cameOf_46 rfl (lv_at hl 1 rfl) ?_
            refine zald hx hb hK.1 hP 1 0 rfl rfl g29 (j := (x1).toNatClampNeg) rfl dX8_cameOf_47 ?_
            refine lv_icmp_ne (tgt := 56) hx hb dX8_cameOf_48 (by decide) (fun c48 => ?_) (fun c48 => ?_)
            · have h := zf c48 h
              refine lv_iconst (v := (1 : Int32)) hx hb dX8_cameOf_56 (by decide) ?_
              refine lv_goto (tgt := 61) hx hb dX8_cameOf_57 (by decide) ?_
              exact join_61 _ _ _ _ _ _ h hP hD hS (lv_sub hl [0, 1, 2, 3] rfl)
            · have h := zt c48 h
              refine lv_iload_n hx hb dX8_cameOf_51 rfl (lv_at hl 3 rfl) ?_
              refine lv_iload_n hx hb dX8_cameOf_52 rfl (lv_at hl 1 rfl) ?_
              refine lv_icmp_ge (tgt := 60) hx hb dX8_cameOf_53 (by decide) (fun c53 => ?_) (fun c53 => ?_)
              · have h := zt c53 h
                refine lv_iconst (v := (0 : Int32)) hx hb dX8_cameOf_60 (by decide) ?_
                exact join_61 _ _ _ _ _ _ h hP hD hS (lv_sub hl [0, 1, 2, 3] rfl)
              · have h := zf c53 h
                refine lv_iconst (v := (1 : Int32)) hx hb dX8_cameOf_56 (by decide) ?_
                refine lv_goto (tgt := 61) hx hb dX8_cameOf_57 (by decide) ?_
                exact join_61 _ _ _ _ _ _ h hP hD hS (lv_sub hl [0, 1, 2, 3] rfl)
  refine loop_5 fu _ _ _ _ _ _ h (fun l2_5e H locs ls h hP hD hS hl => ?_) hP hD hS (lv_sub hl [2, 3, 1, 0] rfl)
  refine lv_iload_n hx hb dX8_cameOf_107 rfl (lv_at hl 0 rfl) ?_
  cases h
  exact W.iret hx hb hr (fun t9 ht9 _ => zend hP hD hS ht9) hS.2.2 dX8_cameOf_108
abbrev w_X8_came (G : zG) (a : Nat) (a_text : Nat) (a_clerk : Nat) (a_s : Nat) (a_kept : Nat) (a_isKept : Nat) (a_signed : Nat) (a_slips : Nat) (a_row : Nat) (a_best : Nat) (v_thrown : Int32) (v_trace : Int64) (v_typed : Int32) (v_next : Int32) (v_token : Int32) (v_place : Int32) (v_value : Int32) (v_fault : Int32) (v_clerks : Int32) (v_draftClerks : Int32) (v_draftLine : Int32) (v_signMany : Int32) (v_copies : Int32) (v_rowMany : Int32) (f_slips : (Nat → Int32)) : va_W := [(a, .inr (8, [.int v_thrown, .long v_trace, .ref a_text, .int v_typed, .int v_next, .int v_token, .int v_place, .int v_value, .int v_fault, .ref a_clerk, .int v_clerks, .int v_draftClerks, .int v_draftLine, .ref a_s, .ref a_kept, .ref a_isKept, .ref a_signed, .int v_signMany, .ref a_slips, .int v_copies, .ref a_row, .ref a_best, .int v_rowMany])), (a_slips, .inl (zCI G, 8, .inl f_slips))]
theorem in_X8_came_X8 : ∀ w ∈ wsX80, w ∈ wsX8_came := by decide +kernel
set_option maxHeartbeats 4000000 in
set_option maxRecDepth 100000 in
theorem c_X8_came (l : Launch) (G : zG) (fu : Nat) (a : Nat) (a_text : Nat) (a_clerk : Nat) (a_s : Nat) (a_kept : Nat) (a_isKept : Nat) (a_signed : Nat) (a_slips : Nat) (a_row : Nat) (a_best : Nat) (v_thrown : Int32) (v_trace : Int64) (v_typed : Int32) (v_next : Int32) (v_token : Int32) (v_place : Int32) (v_value : Int32) (v_fault : Int32) (v_clerks : Int32) (v_draftClerks : Int32) (v_draftLine : Int32) (v_signMany : Int32) (v_copies : Int32) (v_rowMany : Int32) (f_slips : (Nat → Int32)) (x1 : Int32) (x2 : Int32) (rv : Int32) (ov_thrown : Int32) (h : fX8_came fu v_thrown v_copies f_slips x1 x2 = some (rv, ov_thrown)) : zC l yX8_came wsX8_came 2 46 G [.ref a, .int x1, .int x2] (w_X8_came G a a_text a_clerk a_s a_kept a_isKept a_signed a_slips a_row a_best v_thrown v_trace v_typed v_next v_token v_place v_value v_fault v_clerks v_draftClerks v_draftLine v_signMany v_copies v_rowMany f_slips) (some (.int rv)) (w_X8_came G a a_text a_clerk a_s a_kept a_isKept a_signed a_slips a_row a_best ov_thrown v_trace v_typed v_next v_token v_place v_value v_fault v_clerks v_draftClerks v_draftLine v_signMany v_copies v_rowMany f_slips) := by
  refine fun sz => Met.ofW (cc := cX8_came) (maxL := 5) (ret := (some .int)) (by decide) rfl ?_
  intro p e s m args below meth c s₁ B hml hv
  obtain ⟨rfl, hsz, hP, hK, hD0, hE⟩ := hv
  have hx := B.exec
  have hb := B.bytes
  have hr := B.returns
  have hts := atoms_spec (ws := wsX8_came) B.pre
  have hown : s.vm.findClass RX8 = some m.cls := findClass_of_methodNamed B.named
  have hlocks := B.notSynchronized
  subst hsz
  have hD := hD0.self (sz := s.heap.size)
  generalize hAe : va_A (w_X8_came G a a_text a_clerk a_s a_kept a_isKept a_signed a_slips a_row a_best v_thrown v_trace v_typed v_next v_token v_place v_value v_fault v_clerks v_draftClerks v_draftLine v_signMany v_copies v_rowMany f_slips) s.heap.size = A at hD hE ⊢
  have hA : ∀ q : Nat, s.heap.size ≤ q → A q := fun q h => by rw [← hAe]; exact Or.inr h
  have hS : va_S A s.heap s.heap [] := va_S.rf
  have hl := lv_entry ([.ref a, .int x1, .int x2]) (n := 5) (Nat.le_of_ble_eq_true rfl)
  rw [lg_entry_eq]
  generalize (lg_sl ([.ref a, .int x1, .int x2]) ++ List.replicate (5 - (lg_sl ([.ref a, .int x1, .int x2])).length) Slot.unset).toArray = ls at hl ⊢
  have hl : lv_has ls 5 [(0, .ref a), (1, .int x1), (2, .int x2)] := hl
  have hP : va_P G.1 vwCl (w_X8_came G a a_text a_clerk a_s a_kept a_isKept a_signed a_slips a_row a_best v_thrown v_trace v_typed v_next v_token v_place v_value v_fault v_clerks v_draftClerks v_draftLine v_signMany v_copies v_rowMany f_slips) s.heap := hP
  rw [fX8_came] at h
  refine lv_aload_n hx hb dX8_came_0 rfl (lv_at hl 0 rfl) ?_
  refine lv_iconst (v := (0 : Int32)) hx hb dX8_came_1 (by decide) ?_
  refine zput1 (D := G.1) (ci := 8) (C := RX8) (T := TX8) (N := 23) (ty := .int) (ws' := (w_X8_came G a a_text a_clerk a_s a_kept a_isKept a_signed a_slips a_row a_best (0 : Int32) v_trace v_typed v_next v_token v_place v_value v_fault v_clerks v_draftClerks v_draftLine v_signMany v_copies v_rowMany f_slips)) hx hb hts in_X8_came_X8 tyX8 tyX8_ok nmX8 hown hK.1 hP hD hS 0 rfl rfl 0 (by decide) (hts (.fieldLink RX8 42 "NineHandsModel" "thrown" "I") (by decide +kernel)) (fun _ h9 => h9) rfl (by decide +kernel) rfl rfl (Nat.le_of_ble_eq_true rfl) rfl dX8_came_2 (fun H locs hP hD hS => ?_)
  refine lv_iload_n hx hb dX8_came_5 rfl (lv_at hl 1 rfl) ?_
  refine lv_iconst (v := (0 : Int32)) hx hb dX8_came_6 (by decide) ?_
  refine lv_aload_n hx hb dX8_came_7 rfl (lv_at hl 0 rfl) ?_
  refine va_get (D := G.1) (ci := 8) (v := .int v_copies) (C := RX8) (T := TX8) (N := 23) hx hb hts in_X8_came_X8 hown hK.1 hP 0 rfl rfl 19 (by decide) (hts (.fieldLink RX8 118 "NineHandsModel" "copies" "I") (by decide +kernel)) (fun _ h9 => h9) rfl dX8_came_8 ?_
  refine lv_iconst (v := (1 : Int32)) hx hb dX8_came_11 (by decide) ?_
  refine lv_isub hx hb dX8_came_12 ?_
  obtain ⟨y13, hc13, h⟩ := zb1_e h
  refine zcS (As := [.int x1, .int (0 : Int32), .int (v_copies - (1 : Int32))]) (rest := []) (ws' := (w_X8_came G a a_text a_clerk a_s a_kept a_isKept a_signed a_slips a_row a_best (0 : Int32) v_trace v_typed v_next v_token v_place v_value v_fault v_clerks v_draftClerks v_draftLine v_signMany v_copies v_rowMany f_slips)) (st1 := [.int y13]) ⟨hx, hb, hml, hown, hts⟩ (c_X8_in l G x1 (0 : Int32) (v_copies - (1 : Int32)) y13 hc13) (va_cwS 3 hts gX8_came_X8_in rfl rfl rfl (by decide +kernel) ⟨Nat.le_of_ble_eq_true rfl, Nat.le_of_ble_eq_true rfl⟩) hK hE hP hD hS hA [] rfl rfl rfl rfl rfl hl.1 rfl (Nat.le_of_ble_eq_true rfl) dX8_came_13 (Nat.zero_le _) (Nat.zero_le _) rfl (fun H locs hP hD hS => ?_)
  refine lv_if_eq (tgt := 28) hx hb dX8_came_16 (by decide) (fun c16 => ?_) (fun c16 => ?_)
  · have h := zt c16 h
    refine lv_iconst (v := ((-1) : Int32)) hx hb dX8_came_28 (by decide) ?_
    cases h
    exact W.iret hx hb hr (fun t9 ht9 _ => zend hP hD hS ht9) hS.2.2 dX8_came_29
  · have h := zf c16 h
    refine lv_iload_n hx hb dX8_came_19 rfl (lv_at hl 2 rfl) ?_
    refine lv_iconst (v := (0 : Int32)) hx hb dX8_came_20 (by decide) ?_
    refine lv_iconst (v := (2 : Int32)) hx hb dX8_came_21 (by decide) ?_
    obtain ⟨y22, hc22, h⟩ := zb1_e h
    refine zcS (As := [.int x2, .int (0 : Int32), .int (2 : Int32)]) (rest := []) (ws' := (w_X8_came G a a_text a_clerk a_s a_kept a_isKept a_signed a_slips a_row a_best (0 : Int32) v_trace v_typed v_next v_token v_place v_value v_fault v_clerks v_draftClerks v_draftLine v_signMany v_copies v_rowMany f_slips)) (st1 := [.int y22]) ⟨hx, hb, hml, hown, hts⟩ (c_X8_in l G x2 (0 : Int32) (2 : Int32) y22 hc22) (va_cwS 3 hts gX8_came_X8_in rfl rfl rfl (by decide +kernel) ⟨Nat.le_of_ble_eq_true rfl, Nat.le_of_ble_eq_true rfl⟩) hK hE hP hD hS hA [] rfl rfl rfl rfl rfl hl.1 rfl (Nat.le_of_ble_eq_true rfl) dX8_came_22 (Nat.zero_le _) (Nat.zero_le _) rfl (fun H locs hP hD hS => ?_)
    refine lv_if_ne (tgt := 30) hx hb dX8_came_25 (by decide) (fun c25 => ?_) (fun c25 => ?_)
    · have h := zf c25 h
      refine lv_iload_n hx hb dX8_came_30 rfl (lv_at hl 2 rfl) ?_
      refine lv_iconst (v := (2 : Int32)) hx hb dX8_came_31 (by decide) ?_
      refine lv_icmp_ge (tgt := 54) hx hb dX8_came_32 (by decide) (fun c32 => ?_) (fun c32 => ?_)
      · have h := zt c32 h
        refine lv_iconst (v := (0 : Int32)) hx hb dX8_came_54 (by decide) ?_
        refine lv_istore_n (lv' := [(3, .int (0 : Int32)), (0, .ref a), (1, .int x1), (2, .int x2)]) hx hb dX8_came_55 rfl hl (by decide) rfl (fun ls hl => ?_)
        refine lv_aload_n hx hb dX8_came_56 rfl (lv_at hl 1 rfl) ?_
        refine lv_iload_n hx hb dX8_came_57 rfl (lv_at hl 2 rfl) ?_
        obtain ⟨y58, hc58, h⟩ := zb1_e h
        refine zcV (As := [.int x1]) (rest := []) (ws' := (w_X8_came G a a_text a_clerk a_s a_kept a_isKept a_signed a_slips a_row a_best (0 : Int32) v_trace v_typed v_next v_token v_place v_value v_fault v_clerks v_draftClerks v_draftLine v_signMany v_copies v_rowMany f_slips)) (st1 := [.int y58]) ⟨hx, hb, hml, hown, hts⟩ (c_X8_cameOf l G fu a a_text a_clerk a_s a_kept a_isKept a_signed a_slips a_row a_best (0 : Int32) v_trace v_typed v_next v_token v_place v_value v_fault v_clerks v_draftClerks v_draftLine v_signMany v_copies v_rowMany f_slips x1 y58 hc58) (cwV 1 hts gX8_came_X8_cameOf rfl rfl rfl (by decide +kernel) ⟨Nat.le_of_ble_eq_true rfl, Nat.le_of_ble_eq_true rfl⟩) hK hE hP hD hS hA [0, 1] rfl rfl 0 8 rfl rfl rfl rfl rfl rfl hl.1 rfl (Nat.le_of_ble_eq_true rfl) dX8_came_58 (Nat.zero_le _) (Nat.zero_le _) rfl (fun H locs hP hD hS => ?_)
        refine lv_istore (lv' := [(4, .int y58), (3, .int (0 : Int32)), (0, .ref a), (1, .int x1), (2, .int x2)]) hx hb dX8_came_61 hl (by decide) rfl (fun ls hl => ?_)
        have loop_63 : ∀ (n : Nat) (K : Int32 → Option (Int32 × Int32)) (l3_63 : Int32) (l4_63 : Int32) (H : Heap) (locs : List Loc) (ls : Array Slot), fX8_came_L63 fu v_copies f_slips K n l3_63 l4_63 = some (rv, ov_thrown) → (∀ (l3_63e : Int32) (H : Heap) (locs : List Loc) (ls : Array Slot), K l3_63e = some (rv, ov_thrown) → va_P G.1 vwCl (w_X8_came G a a_text a_clerk a_s a_kept a_isKept a_signed a_slips a_row a_best (0 : Int32) v_trace v_typed v_next v_token v_place v_value v_fault v_clerks v_draftClerks v_draftLine v_signMany v_copies v_rowMany f_slips) H → va_D A (w_X8_came G a a_text a_clerk a_s a_kept a_isKept a_signed a_slips a_row a_best (0 : Int32) v_trace v_typed v_next v_token v_place v_value v_fault v_clerks v_draftClerks v_draftLine v_signMany v_copies v_rowMany f_slips) → va_S A s.heap H locs → lv_has ls 5 [(3, .int l3_63e)] → W p l e (headSpec wsX8_came { frames := 2, cells := 0, slots := 0, locals := 46 }).room s m ([.ref a, .int x1, .int x2] : List Value).toArray below meth c H locs 0 0 (MQ below (zQ (some (.int rv)) G (w_X8_came G a a_text a_clerk a_s a_kept a_isKept a_signed a_slips a_row a_best ov_thrown v_trace v_typed v_next v_token v_place v_value v_fault v_clerks v_draftClerks v_draftLine v_signMany v_copies v_rowMany f_slips) A) ([.ref a, .int x1, .int x2] : List Value).toArray s 0 0 A) (F0 m 84 ls [])) → va_P G.1 vwCl (w_X8_came G a a_text a_clerk a_s a_kept a_isKept a_signed a_slips a_row a_best (0 : Int32) v_trace v_typed v_next v_token v_place v_value v_fault v_clerks v_draftClerks v_draftLine v_signMany v_copies v_rowMany f_slips) H → va_D A (w_X8_came G a a_text a_clerk a_s a_kept a_isKept a_signed a_slips a_row a_best (0 : Int32) v_trace v_typed v_next v_token v_place v_value v_fault v_clerks v_draftClerks v_draftLine v_signMany v_copies v_rowMany f_slips) → va_S A s.heap H locs → lv_has ls 5 [(0, .ref a), (3, .int l3_63), (4, .int l4_63)] → W p l e (headSpec wsX8_came { frames := 2, cells := 0, slots := 0, locals := 46 }).room s m ([.ref a, .int x1, .int x2] : List Value).toArray below meth c H locs 0 0 (MQ below (zQ (some (.int rv)) G (w_X8_came G a a_text a_clerk a_s a_kept a_isKept a_signed a_slips a_row a_best ov_thrown v_trace v_typed v_next v_token v_place v_value v_fault v_clerks v_draftClerks v_draftLine v_signMany v_copies v_rowMany f_slips) A) ([.ref a, .int x1, .int x2] : List Value).toArray s 0 0 A) (F0 m 63 ls []) := by
          intro n
          induction n with
          | zero => intro K l3_63 l4_63 H locs ls h; rw [fX8_came_L63] at h; cases h
          | succ n ih =>
            intro K l3_63 l4_63 H locs ls h hk hP hD hS hl
            rw [fX8_came_L63] at h
            refine lv_iload hx hb dX8_came_63 (lv_at hl 2 rfl) ?_
            refine lv_bipush (v := ((-9) : Int32)) hx hb dX8_came_65 (by decide) ?_
            refine lv_icmp_eq (tgt := 84) hx hb dX8_came_67 (by decide) (fun c67 => ?_) (fun c67 => ?_)
            · have h := zt c67 h
              exact hk _ _ _ _ h hP hD hS (lv_sub hl [1] rfl)
            · have h := zf c67 h
              refine lv_iinc (v := (l3_63 + (1 : Int32))) (lv' := [(3, .int (l3_63 + (1 : Int32))), (0, .ref a), (4, .int l4_63)]) hx hb dX8_came_70 hl (k := 1) rfl rfl (by decide) rfl (fun ls hl => ?_)
              refine lv_aload_n hx hb dX8_came_73 rfl (lv_at hl 1 rfl) ?_
              refine lv_iload hx hb dX8_came_74 (lv_at hl 2 rfl) ?_
              obtain ⟨y76, hc76, h⟩ := zb1_e h
              refine zcV (As := [.int l4_63]) (rest := []) (ws' := (w_X8_came G a a_text a_clerk a_s a_kept a_isKept a_signed a_slips a_row a_best (0 : Int32) v_trace v_typed v_next v_token v_place v_value v_fault v_clerks v_draftClerks v_draftLine v_signMany v_copies v_rowMany f_slips)) (st1 := [.int y76]) ⟨hx, hb, hml, hown, hts⟩ (c_X8_cameOf l G fu a a_text a_clerk a_s a_kept a_isKept a_signed a_slips a_row a_best (0 : Int32) v_trace v_typed v_next v_token v_place v_value v_fault v_clerks v_draftClerks v_draftLine v_signMany v_copies v_rowMany f_slips l4_63 y76 hc76) (cwV 1 hts gX8_came_X8_cameOf rfl rfl rfl (by decide +kernel) ⟨Nat.le_of_ble_eq_true rfl, Nat.le_of_ble_eq_true rfl⟩) hK hE hP hD hS hA [0, 1] rfl rfl 0 8 rfl rfl rfl rfl rfl rfl hl.1 rfl (Nat.le_of_ble_eq_true rfl) dX8_came_76 (Nat.zero_le _) (Nat.zero_le _) rfl (fun H locs hP hD hS => ?_)
              refine lv_istore (lv' := [(4, .int y76), (3, .int (l3_63 + (1 : Int32))), (0, .ref a)]) hx hb dX8_came_79 hl (by decide) rfl (fun ls hl => ?_)
              refine lv_goto (tgt := 63) hx hb dX8_came_81 (by decide) ?_
              exact ih K _ _ _ _ _ h hk hP hD hS (lv_sub hl [2, 1, 0] rfl)
        refine loop_63 fu _ _ _ _ _ _ h (fun l3_63e H locs ls h hP hD hS hl => ?_) hP hD hS (lv_sub hl [2, 1, 0] rfl)
        refine lv_iload_n hx hb dX8_came_84 rfl (lv_at hl 0 rfl) ?_
        cases h
        exact W.iret hx hb hr (fun t9 ht9 _ => zend hP hD hS ht9) hS.2.2 dX8_came_85
      · have h := zf c32 h
        refine lv_iload_n hx hb dX8_came_35 rfl (lv_at hl 2 rfl) ?_
        refine lv_if_ne (tgt := 48) hx hb dX8_came_36 (by decide) (fun c36 => ?_) (fun c36 => ?_)
        · have h := zf c36 h
          refine lv_aload_n hx hb dX8_came_48 rfl (lv_at hl 0 rfl) ?_
          refine lv_iload_n hx hb dX8_came_49 rfl (lv_at hl 1 rfl) ?_
          obtain ⟨y50, hc50, h⟩ := zb1_e h
          refine zcV (As := [.int x1]) (rest := []) (ws' := (w_X8_came G a a_text a_clerk a_s a_kept a_isKept a_signed a_slips a_row a_best (0 : Int32) v_trace v_typed v_next v_token v_place v_value v_fault v_clerks v_draftClerks v_draftLine v_signMany v_copies v_rowMany f_slips)) (st1 := [.int y50]) ⟨hx, hb, hml, hown, hts⟩ (c_X8_cameOf l G fu a a_text a_clerk a_s a_kept a_isKept a_signed a_slips a_row a_best (0 : Int32) v_trace v_typed v_next v_token v_place v_value v_fault v_clerks v_draftClerks v_draftLine v_signMany v_copies v_rowMany f_slips x1 y50 hc50) (cwV 1 hts gX8_came_X8_cameOf rfl rfl rfl (by decide +kernel) ⟨Nat.le_of_ble_eq_true rfl, Nat.le_of_ble_eq_true rfl⟩) hK hE hP hD hS hA [0, 1] rfl rfl 0 8 rfl rfl rfl rfl rfl rfl hl.1 rfl (Nat.le_of_ble_eq_true rfl) dX8_came_50 (Nat.zero_le _) (Nat.zero_le _) rfl (fun H locs hP hD hS => ?_)
          cases h
          exact W.iret hx hb hr (fun t9 ht9 _ => zend hP hD hS ht9) hS.2.2 dX8_came_53
        · have h := zt c36 h
          refine lv_aload_n hx hb dX8_came_39 rfl (lv_at hl 0 rfl) ?_
          refine va_get (D := G.1) (ci := 8) (v := .ref a_slips) (C := RX8) (T := TX8) (N := 23) hx hb hts in_X8_came_X8 hown hK.1 hP 0 rfl rfl 18 (by decide) (hts (.fieldLink RX8 29 "NineHandsModel" "slips" "[I") (by decide +kernel)) (fun _ h9 => h9) rfl dX8_came_40 ?_
          refine lv_iload_n hx hb dX8_came_43 rfl (lv_at hl 1 rfl) ?_
          obtain ⟨g44, h⟩ := zg h
          refine zald hx hb hK.1 hP 1 0 rfl rfl g44 (j := (x1).toNatClampNeg) rfl dX8_came_44 ?_
          refine lv_goto (tgt := 53) hx hb dX8_came_45 (by decide) ?_
          cases h
          exact W.iret hx hb hr (fun t9 ht9 _ => zend hP hD hS ht9) hS.2.2 dX8_came_53
    · have h := zt c25 h
      refine lv_iconst (v := ((-1) : Int32)) hx hb dX8_came_28 (by decide) ?_
      cases h
      exact W.iret hx hb hr (fun t9 ht9 _ => zend hP hD hS ht9) hS.2.2 dX8_came_29
abbrev w_X8_firsts (G : zG) (a : Nat) (a_text : Nat) (a_clerk : Nat) (a_s : Nat) (a_kept : Nat) (a_isKept : Nat) (a_signed : Nat) (a_slips : Nat) (a_row : Nat) (a_best : Nat) (v_thrown : Int32) (v_trace : Int64) (v_typed : Int32) (v_next : Int32) (v_token : Int32) (v_place : Int32) (v_value : Int32) (v_fault : Int32) (v_clerks : Int32) (v_draftClerks : Int32) (v_draftLine : Int32) (v_signMany : Int32) (v_copies : Int32) (v_rowMany : Int32) (f_slips : (Nat → Int32)) : va_W := [(a, .inr (8, [.int v_thrown, .long v_trace, .ref a_text, .int v_typed, .int v_next, .int v_token, .int v_place, .int v_value, .int v_fault, .ref a_clerk, .int v_clerks, .int v_draftClerks, .int v_draftLine, .ref a_s, .ref a_kept, .ref a_isKept, .ref a_signed, .int v_signMany, .ref a_slips, .int v_copies, .ref a_row, .ref a_best, .int v_rowMany])), (a_slips, .inl (zCI G, 8, .inl f_slips))]
theorem in_X8_firsts_X8 : ∀ w ∈ wsX80, w ∈ wsX8_firsts := by decide +kernel
set_option maxHeartbeats 4000000 in
set_option maxRecDepth 100000 in
theorem c_X8_firsts (l : Launch) (G : zG) (fu : Nat) (a : Nat) (a_text : Nat) (a_clerk : Nat) (a_s : Nat) (a_kept : Nat) (a_isKept : Nat) (a_signed : Nat) (a_slips : Nat) (a_row : Nat) (a_best : Nat) (v_thrown : Int32) (v_trace : Int64) (v_typed : Int32) (v_next : Int32) (v_token : Int32) (v_place : Int32) (v_value : Int32) (v_fault : Int32) (v_clerks : Int32) (v_draftClerks : Int32) (v_draftLine : Int32) (v_signMany : Int32) (v_copies : Int32) (v_rowMany : Int32) (f_slips : (Nat → Int32)) (rv : Int32) (ov_thrown : Int32) (h : fX8_firsts fu v_thrown v_copies f_slips = some (rv, ov_thrown)) : zC l yX8_firsts wsX8_firsts 2 46 G [.ref a] (w_X8_firsts G a a_text a_clerk a_s a_kept a_isKept a_signed a_slips a_row a_best v_thrown v_trace v_typed v_next v_token v_place v_value v_fault v_clerks v_draftClerks v_draftLine v_signMany v_copies v_rowMany f_slips) (some (.int rv)) (w_X8_firsts G a a_text a_clerk a_s a_kept a_isKept a_signed a_slips a_row a_best ov_thrown v_trace v_typed v_next v_token v_place v_value v_fault v_clerks v_draftClerks v_draftLine v_signMany v_copies v_rowMany f_slips) := by
  refine fun sz => Met.ofW (cc := cX8_firsts) (maxL := 3) (ret := (some .int)) (by decide) rfl ?_
  intro p e s m args below meth c s₁ B hml hv
  obtain ⟨rfl, hsz, hP, hK, hD0, hE⟩ := hv
  have hx := B.exec
  have hb := B.bytes
  have hr := B.returns
  have hts := atoms_spec (ws := wsX8_firsts) B.pre
  have hown : s.vm.findClass RX8 = some m.cls := findClass_of_methodNamed B.named
  have hlocks := B.notSynchronized
  subst hsz
  have hD := hD0.self (sz := s.heap.size)
  generalize hAe : va_A (w_X8_firsts G a a_text a_clerk a_s a_kept a_isKept a_signed a_slips a_row a_best v_thrown v_trace v_typed v_next v_token v_place v_value v_fault v_clerks v_draftClerks v_draftLine v_signMany v_copies v_rowMany f_slips) s.heap.size = A at hD hE ⊢
  have hA : ∀ q : Nat, s.heap.size ≤ q → A q := fun q h => by rw [← hAe]; exact Or.inr h
  have hS : va_S A s.heap s.heap [] := va_S.rf
  have hl := lv_entry ([.ref a]) (n := 3) (Nat.le_of_ble_eq_true rfl)
  rw [lg_entry_eq]
  generalize (lg_sl ([.ref a]) ++ List.replicate (3 - (lg_sl ([.ref a])).length) Slot.unset).toArray = ls at hl ⊢
  have hl : lv_has ls 3 [(0, .ref a)] := hl
  have hP : va_P G.1 vwCl (w_X8_firsts G a a_text a_clerk a_s a_kept a_isKept a_signed a_slips a_row a_best v_thrown v_trace v_typed v_next v_token v_place v_value v_fault v_clerks v_draftClerks v_draftLine v_signMany v_copies v_rowMany f_slips) s.heap := hP
  rw [fX8_firsts] at h
  refine lv_aload_n hx hb dX8_firsts_0 rfl (lv_at hl 0 rfl) ?_
  refine lv_iconst (v := (0 : Int32)) hx hb dX8_firsts_1 (by decide) ?_
  refine zput1 (D := G.1) (ci := 8) (C := RX8) (T := TX8) (N := 23) (ty := .int) (ws' := (w_X8_firsts G a a_text a_clerk a_s a_kept a_isKept a_signed a_slips a_row a_best (0 : Int32) v_trace v_typed v_next v_token v_place v_value v_fault v_clerks v_draftClerks v_draftLine v_signMany v_copies v_rowMany f_slips)) hx hb hts in_X8_firsts_X8 tyX8 tyX8_ok nmX8 hown hK.1 hP hD hS 0 rfl rfl 0 (by decide) (hts (.fieldLink RX8 42 "NineHandsModel" "thrown" "I") (by decide +kernel)) (fun _ h9 => h9) rfl (by decide +kernel) rfl rfl (Nat.le_of_ble_eq_true rfl) rfl dX8_firsts_2 (fun H locs hP hD hS => ?_)
  refine lv_iconst (v := (0 : Int32)) hx hb dX8_firsts_5 (by decide) ?_
  refine lv_istore_n (lv' := [(1, .int (0 : Int32)), (0, .ref a)]) hx hb dX8_firsts_6 rfl hl (by decide) rfl (fun ls hl => ?_)
  refine lv_iconst (v := (0 : Int32)) hx hb dX8_firsts_7 (by decide) ?_
  refine lv_istore_n (lv' := [(2, .int (0 : Int32)), (1, .int (0 : Int32)), (0, .ref a)]) hx hb dX8_firsts_8 rfl hl (by decide) rfl (fun ls hl => ?_)
  have loop_9 : ∀ (n : Nat) (K : Int32 → Option (Int32 × Int32)) (l1_9 : Int32) (l2_9 : Int32) (H : Heap) (locs : List Loc) (ls : Array Slot), fX8_firsts_L9 fu v_copies f_slips K n l1_9 l2_9 = some (rv, ov_thrown) → (∀ (l1_9e : Int32) (H : Heap) (locs : List Loc) (ls : Array Slot), K l1_9e = some (rv, ov_thrown) → va_P G.1 vwCl (w_X8_firsts G a a_text a_clerk a_s a_kept a_isKept a_signed a_slips a_row a_best (0 : Int32) v_trace v_typed v_next v_token v_place v_value v_fault v_clerks v_draftClerks v_draftLine v_signMany v_copies v_rowMany f_slips) H → va_D A (w_X8_firsts G a a_text a_clerk a_s a_kept a_isKept a_signed a_slips a_row a_best (0 : Int32) v_trace v_typed v_next v_token v_place v_value v_fault v_clerks v_draftClerks v_draftLine v_signMany v_copies v_rowMany f_slips) → va_S A s.heap H locs → lv_has ls 3 [(1, .int l1_9e)] → W p l e (headSpec wsX8_firsts { frames := 2, cells := 0, slots := 0, locals := 46 }).room s m ([.ref a] : List Value).toArray below meth c H locs 0 0 (MQ below (zQ (some (.int rv)) G (w_X8_firsts G a a_text a_clerk a_s a_kept a_isKept a_signed a_slips a_row a_best ov_thrown v_trace v_typed v_next v_token v_place v_value v_fault v_clerks v_draftClerks v_draftLine v_signMany v_copies v_rowMany f_slips) A) ([.ref a] : List Value).toArray s 0 0 A) (F0 m 43 ls [])) → va_P G.1 vwCl (w_X8_firsts G a a_text a_clerk a_s a_kept a_isKept a_signed a_slips a_row a_best (0 : Int32) v_trace v_typed v_next v_token v_place v_value v_fault v_clerks v_draftClerks v_draftLine v_signMany v_copies v_rowMany f_slips) H → va_D A (w_X8_firsts G a a_text a_clerk a_s a_kept a_isKept a_signed a_slips a_row a_best (0 : Int32) v_trace v_typed v_next v_token v_place v_value v_fault v_clerks v_draftClerks v_draftLine v_signMany v_copies v_rowMany f_slips) → va_S A s.heap H locs → lv_has ls 3 [(0, .ref a), (1, .int l1_9), (2, .int l2_9)] → W p l e (headSpec wsX8_firsts { frames := 2, cells := 0, slots := 0, locals := 46 }).room s m ([.ref a] : List Value).toArray below meth c H locs 0 0 (MQ below (zQ (some (.int rv)) G (w_X8_firsts G a a_text a_clerk a_s a_kept a_isKept a_signed a_slips a_row a_best ov_thrown v_trace v_typed v_next v_token v_place v_value v_fault v_clerks v_draftClerks v_draftLine v_signMany v_copies v_rowMany f_slips) A) ([.ref a] : List Value).toArray s 0 0 A) (F0 m 9 ls []) := by
    intro n
    induction n with
    | zero => intro K l1_9 l2_9 H locs ls h; rw [fX8_firsts_L9] at h; cases h
    | succ n ih =>
      intro K l1_9 l2_9 H locs ls h hk hP hD hS hl
      rw [fX8_firsts_L9] at h
      refine lv_iload_n hx hb dX8_firsts_9 rfl (lv_at hl 2 rfl) ?_
      refine lv_aload_n hx hb dX8_firsts_10 rfl (lv_at hl 0 rfl) ?_
      refine va_get (D := G.1) (ci := 8) (v := .int v_copies) (C := RX8) (T := TX8) (N := 23) hx hb hts in_X8_firsts_X8 hown hK.1 hP 0 rfl rfl 19 (by decide) (hts (.fieldLink RX8 118 "NineHandsModel" "copies" "I") (by decide +kernel)) (fun _ h9 => h9) rfl dX8_firsts_11 ?_
      refine lv_icmp_ge (tgt := 43) hx hb dX8_firsts_14 (by decide) (fun c14 => ?_) (fun c14 => ?_)
      · have h := zt c14 h
        exact hk _ _ _ _ h hP hD hS (lv_sub hl [1] rfl)
      · have h := zf c14 h
        refine lv_iload_n hx hb dX8_firsts_17 rfl (lv_at hl 1 rfl) ?_
        refine lv_aload_n hx hb dX8_firsts_18 rfl (lv_at hl 0 rfl) ?_
        refine lv_iload_n hx hb dX8_firsts_19 rfl (lv_at hl 2 rfl) ?_
        obtain ⟨y20, hc20, h⟩ := zb1_e h
        refine zcV (As := [.int l2_9]) (rest := [.int l1_9]) (ws' := (w_X8_firsts G a a_text a_clerk a_s a_kept a_isKept a_signed a_slips a_row a_best (0 : Int32) v_trace v_typed v_next v_token v_place v_value v_fault v_clerks v_draftClerks v_draftLine v_signMany v_copies v_rowMany f_slips)) (st1 := [.int y20, .int l1_9]) ⟨hx, hb, hml, hown, hts⟩ (c_X8_cameOf l G fu a a_text a_clerk a_s a_kept a_isKept a_signed a_slips a_row a_best (0 : Int32) v_trace v_typed v_next v_token v_place v_value v_fault v_clerks v_draftClerks v_draftLine v_signMany v_copies v_rowMany f_slips l2_9 y20 hc20) (cwV 1 hts gX8_firsts_X8_cameOf rfl rfl rfl (by decide +kernel) ⟨Nat.le_of_ble_eq_true rfl, Nat.le_of_ble_eq_true rfl⟩) hK hE hP hD hS hA [0, 1] rfl rfl 0 8 rfl rfl rfl rfl rfl rfl hl.1 rfl (Nat.le_of_ble_eq_true rfl) dX8_firsts_20 (Nat.zero_le _) (Nat.zero_le _) rfl (fun H locs hP hD hS => ?_)
        refine lv_bipush (v := ((-9) : Int32)) hx hb dX8_firsts_23 (by decide) ?_
        refine lv_icmp_ne (tgt := 34) hx hb dX8_firsts_25 (by decide) (fun c25 => ?_) (fun c25 => ?_)
        · have h := zf c25 h
          refine lv_iconst (v := (0 : Int32)) hx hb dX8_firsts_34 (by decide) ?_
          refine lv_ior hx hb dX8_firsts_35 ?_
          refine lv_istore_n (lv' := [(1, .int (l1_9 ||| (0 : Int32))), (0, .ref a), (2, .int l2_9)]) hx hb dX8_firsts_36 rfl hl (by decide) rfl (fun ls hl => ?_)
          refine lv_iinc (v := (l2_9 + (1 : Int32))) (lv' := [(2, .int (l2_9 + (1 : Int32))), (1, .int (l1_9 ||| (0 : Int32))), (0, .ref a)]) hx hb dX8_firsts_37 hl (k := 2) rfl rfl (by decide) rfl (fun ls hl => ?_)
          refine lv_goto (tgt := 9) hx hb dX8_firsts_40 (by decide) ?_
          exact ih K _ _ _ _ _ h hk hP hD hS (lv_sub hl [2, 1, 0] rfl)
        · have h := zt c25 h
          refine lv_iconst (v := (1 : Int32)) hx hb dX8_firsts_28 (by decide) ?_
          refine lv_iload_n hx hb dX8_firsts_29 rfl (lv_at hl 2 rfl) ?_
          refine lv_ishl hx hb dX8_firsts_30 ?_
          refine lv_goto (tgt := 35) hx hb dX8_firsts_31 (by decide) ?_
          refine lv_ior hx hb dX8_firsts_35 ?_
          refine lv_istore_n (lv' := [(1, .int (l1_9 ||| ((1 : Int32) <<< (l2_9 &&& 31)))), (0, .ref a), (2, .int l2_9)]) hx hb dX8_firsts_36 rfl hl (by decide) rfl (fun ls hl => ?_)
          refine lv_iinc (v := (l2_9 + (1 : Int32))) (lv' := [(2, .int (l2_9 + (1 : Int32))), (1, .int (l1_9 ||| ((1 : Int32) <<< (l2_9 &&& 31)))), (0, .ref a)]) hx hb dX8_firsts_37 hl (k := 2) rfl rfl (by decide) rfl (fun ls hl => ?_)
          refine lv_goto (tgt := 9) hx hb dX8_firsts_40 (by decide) ?_
          exact ih K _ _ _ _ _ h hk hP hD hS (lv_sub hl [2, 1, 0] rfl)
  refine loop_9 fu _ _ _ _ _ _ h (fun l1_9e H locs ls h hP hD hS hl => ?_) hP hD hS (lv_sub hl [2, 1, 0] rfl)
  refine lv_iload_n hx hb dX8_firsts_43 rfl (lv_at hl 0 rfl) ?_
  cases h
  exact W.iret hx hb hr (fun t9 ht9 _ => zend hP hD hS ht9) hS.2.2 dX8_firsts_44
abbrev w_X8_burn (G : zG) (a : Nat) (a_text : Nat) (a_clerk : Nat) (a_s : Nat) (a_kept : Nat) (a_isKept : Nat) (a_signed : Nat) (a_slips : Nat) (a_row : Nat) (a_best : Nat) (v_thrown : Int32) (v_trace : Int64) (v_typed : Int32) (v_next : Int32) (v_token : Int32) (v_place : Int32) (v_value : Int32) (v_fault : Int32) (v_clerks : Int32) (v_draftClerks : Int32) (v_draftLine : Int32) (v_signMany : Int32) (v_copies : Int32) (v_rowMany : Int32) : va_W := [(a, .inr (8, [.int v_thrown, .long v_trace, .ref a_text, .int v_typed, .int v_next, .int v_token, .int v_place, .int v_value, .int v_fault, .ref a_clerk, .int v_clerks, .int v_draftClerks, .int v_draftLine, .ref a_s, .ref a_kept, .ref a_isKept, .ref a_signed, .int v_signMany, .ref a_slips, .int v_copies, .ref a_row, .ref a_best, .int v_rowMany]))]
theorem in_X8_burn_X8 : ∀ w ∈ wsX80, w ∈ wsX8_burn := by decide +kernel
set_option maxHeartbeats 4000000 in
set_option maxRecDepth 100000 in
theorem c_X8_burn (l : Launch) (G : zG) (a : Nat) (a_text : Nat) (a_clerk : Nat) (a_s : Nat) (a_kept : Nat) (a_isKept : Nat) (a_signed : Nat) (a_slips : Nat) (a_row : Nat) (a_best : Nat) (v_thrown : Int32) (v_trace : Int64) (v_typed : Int32) (v_next : Int32) (v_token : Int32) (v_place : Int32) (v_value : Int32) (v_fault : Int32) (v_clerks : Int32) (v_draftClerks : Int32) (v_draftLine : Int32) (v_signMany : Int32) (v_copies : Int32) (v_rowMany : Int32) (rv : Int32) (ov_thrown : Int32) (ov_copies : Int32) (h : fX8_burn v_thrown v_copies = some (rv, ov_thrown, ov_copies)) : zC l yX8_burn wsX8_burn 0 0 G [.ref a] (w_X8_burn G a a_text a_clerk a_s a_kept a_isKept a_signed a_slips a_row a_best v_thrown v_trace v_typed v_next v_token v_place v_value v_fault v_clerks v_draftClerks v_draftLine v_signMany v_copies v_rowMany) (some (.int rv)) (w_X8_burn G a a_text a_clerk a_s a_kept a_isKept a_signed a_slips a_row a_best ov_thrown v_trace v_typed v_next v_token v_place v_value v_fault v_clerks v_draftClerks v_draftLine v_signMany ov_copies v_rowMany) := by
  refine fun sz => Met.ofW (cc := cX8_burn) (maxL := 2) (ret := (some .int)) (by decide) rfl ?_
  intro p e s m args below meth c s₁ B hml hv
  obtain ⟨rfl, hsz, hP, hK, hD0, hE⟩ := hv
  have hx := B.exec
  have hb := B.bytes
  have hr := B.returns
  have hts := atoms_spec (ws := wsX8_burn) B.pre
  have hown : s.vm.findClass RX8 = some m.cls := findClass_of_methodNamed B.named
  have hlocks := B.notSynchronized
  subst hsz
  have hD := hD0.self (sz := s.heap.size)
  generalize hAe : va_A (w_X8_burn G a a_text a_clerk a_s a_kept a_isKept a_signed a_slips a_row a_best v_thrown v_trace v_typed v_next v_token v_place v_value v_fault v_clerks v_draftClerks v_draftLine v_signMany v_copies v_rowMany) s.heap.size = A at hD hE ⊢
  have hA : ∀ q : Nat, s.heap.size ≤ q → A q := fun q h => by rw [← hAe]; exact Or.inr h
  have hS : va_S A s.heap s.heap [] := va_S.rf
  have hl := lv_entry ([.ref a]) (n := 2) (Nat.le_of_ble_eq_true rfl)
  rw [lg_entry_eq]
  generalize (lg_sl ([.ref a]) ++ List.replicate (2 - (lg_sl ([.ref a])).length) Slot.unset).toArray = ls at hl ⊢
  have hl : lv_has ls 2 [(0, .ref a)] := hl
  have hP : va_P G.1 vwCl (w_X8_burn G a a_text a_clerk a_s a_kept a_isKept a_signed a_slips a_row a_best v_thrown v_trace v_typed v_next v_token v_place v_value v_fault v_clerks v_draftClerks v_draftLine v_signMany v_copies v_rowMany) s.heap := hP
  rw [fX8_burn] at h
  refine lv_aload_n hx hb dX8_burn_0 rfl (lv_at hl 0 rfl) ?_
  refine lv_iconst (v := (0 : Int32)) hx hb dX8_burn_1 (by decide) ?_
  refine zput1 (D := G.1) (ci := 8) (C := RX8) (T := TX8) (N := 23) (ty := .int) (ws' := (w_X8_burn G a a_text a_clerk a_s a_kept a_isKept a_signed a_slips a_row a_best (0 : Int32) v_trace v_typed v_next v_token v_place v_value v_fault v_clerks v_draftClerks v_draftLine v_signMany v_copies v_rowMany)) hx hb hts in_X8_burn_X8 tyX8 tyX8_ok nmX8 hown hK.1 hP hD hS 0 rfl rfl 0 (by decide) (hts (.fieldLink RX8 42 "NineHandsModel" "thrown" "I") (by decide +kernel)) (fun _ h9 => h9) rfl (by decide +kernel) rfl rfl (Nat.le_of_ble_eq_true rfl) rfl dX8_burn_2 (fun H locs hP hD hS => ?_)
  refine lv_aload_n hx hb dX8_burn_5 rfl (lv_at hl 0 rfl) ?_
  refine va_get (D := G.1) (ci := 8) (v := .int v_copies) (C := RX8) (T := TX8) (N := 23) hx hb hts in_X8_burn_X8 hown hK.1 hP 0 rfl rfl 19 (by decide) (hts (.fieldLink RX8 118 "NineHandsModel" "copies" "I") (by decide +kernel)) (fun _ h9 => h9) rfl dX8_burn_6 ?_
  refine lv_istore_n (lv' := [(1, .int v_copies), (0, .ref a)]) hx hb dX8_burn_9 rfl hl (by decide) rfl (fun ls hl => ?_)
  refine lv_aload_n hx hb dX8_burn_10 rfl (lv_at hl 1 rfl) ?_
  refine lv_iconst (v := (0 : Int32)) hx hb dX8_burn_11 (by decide) ?_
  refine zput1 (D := G.1) (ci := 8) (C := RX8) (T := TX8) (N := 23) (ty := .int) (ws' := (w_X8_burn G a a_text a_clerk a_s a_kept a_isKept a_signed a_slips a_row a_best (0 : Int32) v_trace v_typed v_next v_token v_place v_value v_fault v_clerks v_draftClerks v_draftLine v_signMany (0 : Int32) v_rowMany)) hx hb hts in_X8_burn_X8 tyX8 tyX8_ok nmX8 hown hK.1 hP hD hS 0 rfl rfl 19 (by decide) (hts (.fieldLink RX8 118 "NineHandsModel" "copies" "I") (by decide +kernel)) (fun _ h9 => h9) rfl (by decide +kernel) rfl rfl (Nat.le_of_ble_eq_true rfl) rfl dX8_burn_12 (fun H locs hP hD hS => ?_)
  refine lv_iload_n hx hb dX8_burn_15 rfl (lv_at hl 0 rfl) ?_
  cases h
  exact W.iret hx hb hr (fun t9 ht9 _ => zend hP hD hS ht9) hS.2.2 dX8_burn_16
abbrev w_X8_rate (G : zG) (a : Nat) (a_text : Nat) (a_clerk : Nat) (a_s : Nat) (a_kept : Nat) (a_isKept : Nat) (a_signed : Nat) (a_slips : Nat) (a_row : Nat) (a_best : Nat) (v_thrown : Int32) (v_trace : Int64) (v_typed : Int32) (v_next : Int32) (v_token : Int32) (v_place : Int32) (v_value : Int32) (v_fault : Int32) (v_clerks : Int32) (v_draftClerks : Int32) (v_draftLine : Int32) (v_signMany : Int32) (v_copies : Int32) (v_rowMany : Int32) (f_clerk : (Nat → Int32)) : va_W := [(a, .inr (8, [.int v_thrown, .long v_trace, .ref a_text, .int v_typed, .int v_next, .int v_token, .int v_place, .int v_value, .int v_fault, .ref a_clerk, .int v_clerks, .int v_draftClerks, .int v_draftLine, .ref a_s, .ref a_kept, .ref a_isKept, .ref a_signed, .int v_signMany, .ref a_slips, .int v_copies, .ref a_row, .ref a_best, .int v_rowMany])), (a_clerk, .inl (zCI G, 48, .inl f_clerk))]
theorem in_X8_rate_X8 : ∀ w ∈ wsX80, w ∈ wsX8_rate := by decide +kernel
set_option maxHeartbeats 4000000 in
set_option maxRecDepth 100000 in
theorem c_X8_rate (l : Launch) (G : zG) (fu : Nat) (a : Nat) (a_text : Nat) (a_clerk : Nat) (a_s : Nat) (a_kept : Nat) (a_isKept : Nat) (a_signed : Nat) (a_slips : Nat) (a_row : Nat) (a_best : Nat) (v_thrown : Int32) (v_trace : Int64) (v_typed : Int32) (v_next : Int32) (v_token : Int32) (v_place : Int32) (v_value : Int32) (v_fault : Int32) (v_clerks : Int32) (v_draftClerks : Int32) (v_draftLine : Int32) (v_signMany : Int32) (v_copies : Int32) (v_rowMany : Int32) (f_clerk : (Nat → Int32)) (x1 : Int32) (x2 : Int32) (rv : Int32) (ov_thrown : Int32) (ov_trace : Int64) (h : fX8_rate fu v_thrown v_trace v_clerks f_clerk x1 x2 = some (rv, ov_thrown, ov_trace)) : zC l yX8_rate wsX8_rate 2 43 G [.ref a, .int x1, .int x2] (w_X8_rate G a a_text a_clerk a_s a_kept a_isKept a_signed a_slips a_row a_best v_thrown v_trace v_typed v_next v_token v_place v_value v_fault v_clerks v_draftClerks v_draftLine v_signMany v_copies v_rowMany f_clerk) (some (.int rv)) (w_X8_rate G a a_text a_clerk a_s a_kept a_isKept a_signed a_slips a_row a_best ov_thrown ov_trace v_typed v_next v_token v_place v_value v_fault v_clerks v_draftClerks v_draftLine v_signMany v_copies v_rowMany f_clerk) := by
  refine fun sz => Met.ofW (cc := cX8_rate) (maxL := 6) (ret := (some .int)) (by decide) rfl ?_
  intro p e s m args below meth c s₁ B hml hv
  obtain ⟨rfl, hsz, hP, hK, hD0, hE⟩ := hv
  have hx := B.exec
  have hb := B.bytes
  have hr := B.returns
  have hts := atoms_spec (ws := wsX8_rate) B.pre
  have hown : s.vm.findClass RX8 = some m.cls := findClass_of_methodNamed B.named
  have hlocks := B.notSynchronized
  subst hsz
  have hD := hD0.self (sz := s.heap.size)
  generalize hAe : va_A (w_X8_rate G a a_text a_clerk a_s a_kept a_isKept a_signed a_slips a_row a_best v_thrown v_trace v_typed v_next v_token v_place v_value v_fault v_clerks v_draftClerks v_draftLine v_signMany v_copies v_rowMany f_clerk) s.heap.size = A at hD hE ⊢
  have hA : ∀ q : Nat, s.heap.size ≤ q → A q := fun q h => by rw [← hAe]; exact Or.inr h
  have hS : va_S A s.heap s.heap [] := va_S.rf
  have hl := lv_entry ([.ref a, .int x1, .int x2]) (n := 6) (Nat.le_of_ble_eq_true rfl)
  rw [lg_entry_eq]
  generalize (lg_sl ([.ref a, .int x1, .int x2]) ++ List.replicate (6 - (lg_sl ([.ref a, .int x1, .int x2])).length) Slot.unset).toArray = ls at hl ⊢
  have hl : lv_has ls 6 [(0, .ref a), (1, .int x1), (2, .int x2)] := hl
  have hP : va_P G.1 vwCl (w_X8_rate G a a_text a_clerk a_s a_kept a_isKept a_signed a_slips a_row a_best v_thrown v_trace v_typed v_next v_token v_place v_value v_fault v_clerks v_draftClerks v_draftLine v_signMany v_copies v_rowMany f_clerk) s.heap := hP
  rw [fX8_rate] at h
  have join_130 : ∀ (s1_130 : Int64) (s2_130 : Int64) (l3_130 : Int32) (l4_130 : Int32) (l5_130 : Int32) (v_thrown_130 : Int32) (v_trace_130 : Int64) (H : Heap) (locs : List Loc) (ls : Array Slot), fX8_rate_J130 fu x1 x2 f_clerk s1_130 s2_130 l3_130 l4_130 l5_130 v_thrown_130 v_trace_130 = some (rv, ov_thrown, ov_trace) → va_P G.1 vwCl (w_X8_rate G a a_text a_clerk a_s a_kept a_isKept a_signed a_slips a_row a_best v_thrown_130 v_trace_130 v_typed v_next v_token v_place v_value v_fault v_clerks v_draftClerks v_draftLine v_signMany v_copies v_rowMany f_clerk) H → va_D A (w_X8_rate G a a_text a_clerk a_s a_kept a_isKept a_signed a_slips a_row a_best v_thrown_130 v_trace_130 v_typed v_next v_token v_place v_value v_fault v_clerks v_draftClerks v_draftLine v_signMany v_copies v_rowMany f_clerk) → va_S A s.heap H locs → lv_has ls 6 [(0, .ref a), (1, .int x1), (2, .int x2), (3, .int l3_130), (4, .int l4_130), (5, .int l5_130)] → W p l e (headSpec wsX8_rate { frames := 2, cells := 0, slots := 0, locals := 43 }).room s m ([.ref a, .int x1, .int x2] : List Value).toArray below meth c H locs 0 0 (MQ below (zQ (some (.int rv)) G (w_X8_rate G a a_text a_clerk a_s a_kept a_isKept a_signed a_slips a_row a_best ov_thrown ov_trace v_typed v_next v_token v_place v_value v_fault v_clerks v_draftClerks v_draftLine v_signMany v_copies v_rowMany f_clerk) A) ([.ref a, .int x1, .int x2] : List Value).toArray s 0 0 A) (F0 m 130 ls [.long s2_130, .long s1_130, .ref a]) := by
    intro s1_130 s2_130 l3_130 l4_130 l5_130 v_thrown_130 v_trace_130 H locs ls h hP hD hS hl
    rw [fX8_rate_J130] at h
    refine lv_ladd hx hb dX8_rate_130 ?_
    refine zput1 (D := G.1) (ci := 8) (C := RX8) (T := TX8) (N := 23) (ty := .long) (ws' := (w_X8_rate G a a_text a_clerk a_s a_kept a_isKept a_signed a_slips a_row a_best v_thrown_130 (s1_130 + s2_130) v_typed v_next v_token v_place v_value v_fault v_clerks v_draftClerks v_draftLine v_signMany v_copies v_rowMany f_clerk)) hx hb hts in_X8_rate_X8 tyX8 tyX8_ok nmX8 hown hK.1 hP hD hS 0 rfl rfl 1 (by decide) (hts (.fieldLink RX8 188 "NineHandsModel" "trace" "J") (by decide +kernel)) (fun _ h9 => h9) rfl (by decide +kernel) rfl rfl (Nat.le_of_ble_eq_true rfl) rfl dX8_rate_131 (fun H locs hP hD hS => ?_)
    refine lv_iload_n hx hb dX8_rate_134 rfl (lv_at hl 1 rfl) ?_
    refine lv_if_ne (tgt := 142) hx hb dX8_rate_135 (by decide) (fun c135 => ?_) (fun c135 => ?_)
    · have h := zf c135 h
      refine lv_iload_n hx hb dX8_rate_142 rfl (lv_at hl 1 rfl) ?_
      refine lv_iconst (v := (1 : Int32)) hx hb dX8_rate_143 (by decide) ?_
      refine lv_icmp_ne (tgt := 152) hx hb dX8_rate_144 (by decide) (fun c144 => ?_) (fun c144 => ?_)
      · have h := zf c144 h
        refine lv_iload_n hx hb dX8_rate_152 rfl (lv_at hl 1 rfl) ?_
        refine lv_iconst (v := (2 : Int32)) hx hb dX8_rate_153 (by decide) ?_
        refine lv_icmp_ne (tgt := 162) hx hb dX8_rate_154 (by decide) (fun c154 => ?_) (fun c154 => ?_)
        · have h := zf c154 h
          refine lv_iload_n hx hb dX8_rate_162 rfl (lv_at hl 1 rfl) ?_
          refine lv_iconst (v := (3 : Int32)) hx hb dX8_rate_163 (by decide) ?_
          refine lv_icmp_ne (tgt := 174) hx hb dX8_rate_164 (by decide) (fun c164 => ?_) (fun c164 => ?_)
          · have h := zf c164 h
            refine lv_iload_n hx hb dX8_rate_174 rfl (lv_at hl 1 rfl) ?_
            refine lv_iconst (v := (4 : Int32)) hx hb dX8_rate_175 (by decide) ?_
            refine lv_icmp_ne (tgt := 186) hx hb dX8_rate_176 (by decide) (fun c176 => ?_) (fun c176 => ?_)
            · have h := zf c176 h
              refine lv_iload_n hx hb dX8_rate_186 rfl (lv_at hl 3 rfl) ?_
              refine lv_bipush (v := (10 : Int32)) hx hb dX8_rate_187 (by decide) ?_
              refine lv_iadd hx hb dX8_rate_189 ?_
              refine lv_aload_n hx hb dX8_rate_190 rfl (lv_at hl 0 rfl) ?_
              refine va_get (D := G.1) (ci := 8) (v := .ref a_clerk) (C := RX8) (T := TX8) (N := 23) hx hb hts in_X8_rate_X8 hown hK.1 hP 0 rfl rfl 9 (by decide) (hts (.fieldLink RX8 13 "NineHandsModel" "clerk" "[I") (by decide +kernel)) (fun _ h9 => h9) rfl dX8_rate_191 ?_
              refine lv_iconst (v := (4 : Int32)) hx hb dX8_rate_194 (by decide) ?_
              refine lv_iload_n hx hb dX8_rate_195 rfl (lv_at hl 2 rfl) ?_
              refine lv_imul hx hb dX8_rate_196 ?_
              refine lv_iconst (v := (3 : Int32)) hx hb dX8_rate_197 (by decide) ?_
              refine lv_iadd hx hb dX8_rate_198 ?_
              obtain ⟨g199, h⟩ := zg h
              refine zald hx hb hK.1 hP 1 0 rfl rfl g199 (j := ((((4 : Int32) * x2) + (3 : Int32))).toNatClampNeg) rfl dX8_rate_199 ?_
              refine lv_isub hx hb dX8_rate_200 ?_
              cases h
              exact W.iret hx hb hr (fun t9 ht9 _ => zend hP hD hS ht9) hS.2.2 dX8_rate_201
            · have h := zt c176 h
              refine lv_iload hx hb dX8_rate_179 (lv_at hl 5 rfl) ?_
              refine lv_iload_n hx hb dX8_rate_181 rfl (lv_at hl 2 rfl) ?_
              refine lv_iadd hx hb dX8_rate_182 ?_
              refine lv_goto (tgt := 201) hx hb dX8_rate_183 (by decide) ?_
              cases h
              exact W.iret hx hb hr (fun t9 ht9 _ => zend hP hD hS ht9) hS.2.2 dX8_rate_201
          · have h := zt c164 h
            refine lv_iconst (v := (2 : Int32)) hx hb dX8_rate_167 (by decide) ?_
            refine lv_iload hx hb dX8_rate_168 (lv_at hl 4 rfl) ?_
            refine lv_imul hx hb dX8_rate_170 ?_
            refine lv_goto (tgt := 201) hx hb dX8_rate_171 (by decide) ?_
            cases h
            exact W.iret hx hb hr (fun t9 ht9 _ => zend hP hD hS ht9) hS.2.2 dX8_rate_201
        · have h := zt c154 h
          refine lv_iload hx hb dX8_rate_157 (lv_at hl 5 rfl) ?_
          refine lv_goto (tgt := 201) hx hb dX8_rate_159 (by decide) ?_
          cases h
          exact W.iret hx hb hr (fun t9 ht9 _ => zend hP hD hS ht9) hS.2.2 dX8_rate_201
      · have h := zt c144 h
        refine lv_iload hx hb dX8_rate_147 (lv_at hl 4 rfl) ?_
        refine lv_goto (tgt := 201) hx hb dX8_rate_149 (by decide) ?_
        cases h
        exact W.iret hx hb hr (fun t9 ht9 _ => zend hP hD hS ht9) hS.2.2 dX8_rate_201
    · have h := zt c135 h
      refine lv_iload_n hx hb dX8_rate_138 rfl (lv_at hl 3 rfl) ?_
      refine lv_goto (tgt := 201) hx hb dX8_rate_139 (by decide) ?_
      cases h
      exact W.iret hx hb hr (fun t9 ht9 _ => zend hP hD hS ht9) hS.2.2 dX8_rate_201
  refine lv_aload_n hx hb dX8_rate_0 rfl (lv_at hl 0 rfl) ?_
  refine lv_iconst (v := (0 : Int32)) hx hb dX8_rate_1 (by decide) ?_
  refine zput1 (D := G.1) (ci := 8) (C := RX8) (T := TX8) (N := 23) (ty := .int) (ws' := (w_X8_rate G a a_text a_clerk a_s a_kept a_isKept a_signed a_slips a_row a_best (0 : Int32) v_trace v_typed v_next v_token v_place v_value v_fault v_clerks v_draftClerks v_draftLine v_signMany v_copies v_rowMany f_clerk)) hx hb hts in_X8_rate_X8 tyX8 tyX8_ok nmX8 hown hK.1 hP hD hS 0 rfl rfl 0 (by decide) (hts (.fieldLink RX8 42 "NineHandsModel" "thrown" "I") (by decide +kernel)) (fun _ h9 => h9) rfl (by decide +kernel) rfl rfl (Nat.le_of_ble_eq_true rfl) rfl dX8_rate_2 (fun H locs hP hD hS => ?_)
  refine lv_iload_n hx hb dX8_rate_5 rfl (lv_at hl 1 rfl) ?_
  refine lv_iconst (v := (0 : Int32)) hx hb dX8_rate_6 (by decide) ?_
  refine lv_iconst (v := (5 : Int32)) hx hb dX8_rate_7 (by decide) ?_
  obtain ⟨y8, hc8, h⟩ := zb1_e h
  refine zcS (As := [.int x1, .int (0 : Int32), .int (5 : Int32)]) (rest := []) (ws' := (w_X8_rate G a a_text a_clerk a_s a_kept a_isKept a_signed a_slips a_row a_best (0 : Int32) v_trace v_typed v_next v_token v_place v_value v_fault v_clerks v_draftClerks v_draftLine v_signMany v_copies v_rowMany f_clerk)) (st1 := [.int y8]) ⟨hx, hb, hml, hown, hts⟩ (c_X8_in l G x1 (0 : Int32) (5 : Int32) y8 hc8) (va_cwS 3 hts gX8_rate_X8_in rfl rfl rfl (by decide +kernel) ⟨Nat.le_of_ble_eq_true rfl, Nat.le_of_ble_eq_true rfl⟩) hK hE hP hD hS hA [] rfl rfl rfl rfl rfl hl.1 rfl (Nat.le_of_ble_eq_true rfl) dX8_rate_8 (Nat.zero_le _) (Nat.zero_le _) rfl (fun H locs hP hD hS => ?_)
  refine lv_if_eq (tgt := 22) hx hb dX8_rate_11 (by decide) (fun c11 => ?_) (fun c11 => ?_)
  · have h := zt c11 h
    refine lv_ldc hx hb hown (hts (.constant RX8 187 (-1000000)) (by decide +kernel)) dX8_rate_22 ?_
    cases h
    exact W.iret hx hb hr (fun t9 ht9 _ => zend hP hD hS ht9) hS.2.2 dX8_rate_24
  · have h := zf c11 h
    refine lv_aload_n hx hb dX8_rate_14 rfl (lv_at hl 0 rfl) ?_
    refine lv_iload_n hx hb dX8_rate_15 rfl (lv_at hl 2 rfl) ?_
    obtain ⟨y16, hc16, h⟩ := zb1_e h
    refine zcV (As := [.int x2]) (rest := []) (ws' := (w_X8_rate G a a_text a_clerk a_s a_kept a_isKept a_signed a_slips a_row a_best (0 : Int32) v_trace v_typed v_next v_token v_place v_value v_fault v_clerks v_draftClerks v_draftLine v_signMany v_copies v_rowMany f_clerk)) (st1 := [.int y16]) ⟨hx, hb, hml, hown, hts⟩ (c_X8_isClerk l G a a_text a_clerk a_s a_kept a_isKept a_signed a_slips a_row a_best (0 : Int32) v_trace v_typed v_next v_token v_place v_value v_fault v_clerks v_draftClerks v_draftLine v_signMany v_copies v_rowMany x2 y16 hc16) (cwV 1 hts gX8_rate_X8_isClerk rfl rfl rfl (by decide +kernel) ⟨Nat.le_of_ble_eq_true rfl, Nat.le_of_ble_eq_true rfl⟩) hK hE hP hD hS hA [0] rfl rfl 0 8 rfl rfl rfl rfl rfl rfl hl.1 rfl (Nat.le_of_ble_eq_true rfl) dX8_rate_16 (Nat.zero_le _) (Nat.zero_le _) rfl (fun H locs hP hD hS => ?_)
    refine lv_if_ne (tgt := 25) hx hb dX8_rate_19 (by decide) (fun c19 => ?_) (fun c19 => ?_)
    · have h := zf c19 h
      refine lv_aload_n hx hb dX8_rate_25 rfl (lv_at hl 0 rfl) ?_
      refine va_get (D := G.1) (ci := 8) (v := .ref a_clerk) (C := RX8) (T := TX8) (N := 23) hx hb hts in_X8_rate_X8 hown hK.1 hP 0 rfl rfl 9 (by decide) (hts (.fieldLink RX8 13 "NineHandsModel" "clerk" "[I") (by decide +kernel)) (fun _ h9 => h9) rfl dX8_rate_26 ?_
      refine lv_iconst (v := (4 : Int32)) hx hb dX8_rate_29 (by decide) ?_
      refine lv_iload_n hx hb dX8_rate_30 rfl (lv_at hl 2 rfl) ?_
      refine lv_imul hx hb dX8_rate_31 ?_
      obtain ⟨g32, h⟩ := zg h
      refine zald hx hb hK.1 hP 1 0 rfl rfl g32 (j := (((4 : Int32) * x2)).toNatClampNeg) rfl dX8_rate_32 ?_
      refine lv_iconst (v := (4 : Int32)) hx hb dX8_rate_33 (by decide) ?_
      refine lv_isub hx hb dX8_rate_34 ?_
      refine lv_istore_n (lv' := [(3, .int ((f_clerk (((4 : Int32) * x2)).toNatClampNeg) - (4 : Int32))), (0, .ref a), (1, .int x1), (2, .int x2)]) hx hb dX8_rate_35 rfl hl (by decide) rfl (fun ls hl => ?_)
      refine lv_iload_n hx hb dX8_rate_36 rfl (lv_at hl 0 rfl) ?_
      refine lv_aload_n hx hb dX8_rate_37 rfl (lv_at hl 1 rfl) ?_
      refine va_get (D := G.1) (ci := 8) (v := .ref a_clerk) (C := RX8) (T := TX8) (N := 23) hx hb hts in_X8_rate_X8 hown hK.1 hP 0 rfl rfl 9 (by decide) (hts (.fieldLink RX8 13 "NineHandsModel" "clerk" "[I") (by decide +kernel)) (fun _ h9 => h9) rfl dX8_rate_38 ?_
      refine lv_iconst (v := (4 : Int32)) hx hb dX8_rate_41 (by decide) ?_
      refine lv_iload_n hx hb dX8_rate_42 rfl (lv_at hl 3 rfl) ?_
      refine lv_imul hx hb dX8_rate_43 ?_
      refine lv_iconst (v := (1 : Int32)) hx hb dX8_rate_44 (by decide) ?_
      refine lv_iadd hx hb dX8_rate_45 ?_
      obtain ⟨g46, h⟩ := zg h
      refine zald hx hb hK.1 hP 1 0 rfl rfl g46 (j := ((((4 : Int32) * x2) + (1 : Int32))).toNatClampNeg) rfl dX8_rate_46 ?_
      obtain ⟨y47, hc47, h⟩ := zb1_e h
      refine zcS (As := [.int (f_clerk ((((4 : Int32) * x2) + (1 : Int32))).toNatClampNeg)]) (rest := [.int ((f_clerk (((4 : Int32) * x2)).toNatClampNeg) - (4 : Int32))]) (ws' := (w_X8_rate G a a_text a_clerk a_s a_kept a_isKept a_signed a_slips a_row a_best (0 : Int32) v_trace v_typed v_next v_token v_place v_value v_fault v_clerks v_draftClerks v_draftLine v_signMany v_copies v_rowMany f_clerk)) (st1 := [.int y47, .int ((f_clerk (((4 : Int32) * x2)).toNatClampNeg) - (4 : Int32))]) ⟨hx, hb, hml, hown, hts⟩ (c_X8_ones l G fu (f_clerk ((((4 : Int32) * x2) + (1 : Int32))).toNatClampNeg) y47 hc47) (va_cwS 1 hts gX8_rate_X8_ones rfl rfl rfl (by decide +kernel) ⟨Nat.le_of_ble_eq_true rfl, Nat.le_of_ble_eq_true rfl⟩) hK hE hP hD hS hA [] rfl rfl rfl rfl rfl hl.1 rfl (Nat.le_of_ble_eq_true rfl) dX8_rate_47 (Nat.zero_le _) (Nat.zero_le _) rfl (fun H locs hP hD hS => ?_)
      refine lv_iadd hx hb dX8_rate_50 ?_
      refine lv_istore (lv' := [(4, .int (((f_clerk (((4 : Int32) * x2)).toNatClampNeg) - (4 : Int32)) + y47)), (3, .int ((f_clerk (((4 : Int32) * x2)).toNatClampNeg) - (4 : Int32))), (0, .ref a), (1, .int x1), (2, .int x2)]) hx hb dX8_rate_51 hl (by decide) rfl (fun ls hl => ?_)
      refine lv_iload_n hx hb dX8_rate_53 rfl (lv_at hl 1 rfl) ?_
      refine lv_aload_n hx hb dX8_rate_54 rfl (lv_at hl 2 rfl) ?_
      refine va_get (D := G.1) (ci := 8) (v := .ref a_clerk) (C := RX8) (T := TX8) (N := 23) hx hb hts in_X8_rate_X8 hown hK.1 hP 0 rfl rfl 9 (by decide) (hts (.fieldLink RX8 13 "NineHandsModel" "clerk" "[I") (by decide +kernel)) (fun _ h9 => h9) rfl dX8_rate_55 ?_
      refine lv_iconst (v := (4 : Int32)) hx hb dX8_rate_58 (by decide) ?_
      refine lv_iload_n hx hb dX8_rate_59 rfl (lv_at hl 4 rfl) ?_
      refine lv_imul hx hb dX8_rate_60 ?_
      refine lv_iconst (v := (2 : Int32)) hx hb dX8_rate_61 (by decide) ?_
      refine lv_iadd hx hb dX8_rate_62 ?_
      obtain ⟨g63, h⟩ := zg h
      refine zald hx hb hK.1 hP 1 0 rfl rfl g63 (j := ((((4 : Int32) * x2) + (2 : Int32))).toNatClampNeg) rfl dX8_rate_63 ?_
      obtain ⟨y64, hc64, h⟩ := zb1_e h
      refine zcS (As := [.int (f_clerk ((((4 : Int32) * x2) + (2 : Int32))).toNatClampNeg)]) (rest := [.int ((f_clerk (((4 : Int32) * x2)).toNatClampNeg) - (4 : Int32))]) (ws' := (w_X8_rate G a a_text a_clerk a_s a_kept a_isKept a_signed a_slips a_row a_best (0 : Int32) v_trace v_typed v_next v_token v_place v_value v_fault v_clerks v_draftClerks v_draftLine v_signMany v_copies v_rowMany f_clerk)) (st1 := [.int y64, .int ((f_clerk (((4 : Int32) * x2)).toNatClampNeg) - (4 : Int32))]) ⟨hx, hb, hml, hown, hts⟩ (c_X8_ones l G fu (f_clerk ((((4 : Int32) * x2) + (2 : Int32))).toNatClampNeg) y64 hc64) (va_cwS 1 hts gX8_rate_X8_ones rfl rfl rfl (by decide +kernel) ⟨Nat.le_of_ble_eq_true rfl, Nat.le_of_ble_eq_true rfl⟩) hK hE hP hD hS hA [] rfl rfl rfl rfl rfl hl.1 rfl (Nat.le_of_ble_eq_true rfl) dX8_rate_64 (Nat.zero_le _) (Nat.zero_le _) rfl (fun H locs hP hD hS => ?_)
      refine lv_isub hx hb dX8_rate_67 ?_
      refine lv_istore (lv' := [(5, .int (((f_clerk (((4 : Int32) * x2)).toNatClampNeg) - (4 : Int32)) - y64)), (4, .int (((f_clerk (((4 : Int32) * x2)).toNatClampNeg) - (4 : Int32)) + y47)), (3, .int ((f_clerk (((4 : Int32) * x2)).toNatClampNeg) - (4 : Int32))), (0, .ref a), (1, .int x1), (2, .int x2)]) hx hb dX8_rate_68 hl (by decide) rfl (fun ls hl => ?_)
      refine lv_aload_n hx hb dX8_rate_70 rfl (lv_at hl 3 rfl) ?_
      refine lv_dup hx hb dX8_rate_71 rfl ?_
      refine va_get (D := G.1) (ci := 8) (v := .long v_trace) (C := RX8) (T := TX8) (N := 23) hx hb hts in_X8_rate_X8 hown hK.1 hP 0 rfl rfl 1 (by decide) (hts (.fieldLink RX8 188 "NineHandsModel" "trace" "J") (by decide +kernel)) (fun _ h9 => h9) rfl dX8_rate_72 ?_
      refine lv_iload_n hx hb dX8_rate_75 rfl (lv_at hl 4 rfl) ?_
      refine lv_if_ne (tgt := 83) hx hb dX8_rate_76 (by decide) (fun c76 => ?_) (fun c76 => ?_)
      · have h := zf c76 h
        refine lv_iload_n hx hb dX8_rate_83 rfl (lv_at hl 4 rfl) ?_
        refine lv_iconst (v := (1 : Int32)) hx hb dX8_rate_84 (by decide) ?_
        refine lv_icmp_ne (tgt := 94) hx hb dX8_rate_85 (by decide) (fun c85 => ?_) (fun c85 => ?_)
        · have h := zf c85 h
          refine lv_iload_n hx hb dX8_rate_94 rfl (lv_at hl 4 rfl) ?_
          refine lv_iconst (v := (2 : Int32)) hx hb dX8_rate_95 (by decide) ?_
          refine lv_icmp_ne (tgt := 105) hx hb dX8_rate_96 (by decide) (fun c96 => ?_) (fun c96 => ?_)
          · have h := zf c96 h
            refine lv_iload_n hx hb dX8_rate_105 rfl (lv_at hl 4 rfl) ?_
            refine lv_iconst (v := (3 : Int32)) hx hb dX8_rate_106 (by decide) ?_
            refine lv_icmp_ne (tgt := 116) hx hb dX8_rate_107 (by decide) (fun c107 => ?_) (fun c107 => ?_)
            · have h := zf c107 h
              refine lv_iload_n hx hb dX8_rate_116 rfl (lv_at hl 4 rfl) ?_
              refine lv_iconst (v := (4 : Int32)) hx hb dX8_rate_117 (by decide) ?_
              refine lv_icmp_ne (tgt := 127) hx hb dX8_rate_118 (by decide) (fun c118 => ?_) (fun c118 => ?_)
              · have h := zf c118 h
                refine lv_ldc2 hx hb hown (hts (.constantLong RX8 200 (100001)) (by decide +kernel)) dX8_rate_127 ?_
                exact join_130 _ _ _ _ _ _ _ _ _ _ h hP hD hS (lv_sub hl [3, 4, 5, 2, 1, 0] rfl)
              · have h := zt c118 h
                refine lv_ldc2 hx hb hown (hts (.constantLong RX8 198 (10101)) (by decide +kernel)) dX8_rate_121 ?_
                refine lv_goto (tgt := 130) hx hb dX8_rate_124 (by decide) ?_
                exact join_130 _ _ _ _ _ _ _ _ _ _ h hP hD hS (lv_sub hl [3, 4, 5, 2, 1, 0] rfl)
            · have h := zt c107 h
              refine lv_ldc2 hx hb hown (hts (.constantLong RX8 196 (1011)) (by decide +kernel)) dX8_rate_110 ?_
              refine lv_goto (tgt := 130) hx hb dX8_rate_113 (by decide) ?_
              exact join_130 _ _ _ _ _ _ _ _ _ _ h hP hD hS (lv_sub hl [3, 4, 5, 2, 1, 0] rfl)
          · have h := zt c96 h
            refine lv_ldc2 hx hb hown (hts (.constantLong RX8 194 (101)) (by decide +kernel)) dX8_rate_99 ?_
            refine lv_goto (tgt := 130) hx hb dX8_rate_102 (by decide) ?_
            exact join_130 _ _ _ _ _ _ _ _ _ _ h hP hD hS (lv_sub hl [3, 4, 5, 2, 1, 0] rfl)
        · have h := zt c85 h
          refine lv_ldc2 hx hb hown (hts (.constantLong RX8 192 (11)) (by decide +kernel)) dX8_rate_88 ?_
          refine lv_goto (tgt := 130) hx hb dX8_rate_91 (by decide) ?_
          exact join_130 _ _ _ _ _ _ _ _ _ _ h hP hD hS (lv_sub hl [3, 4, 5, 2, 1, 0] rfl)
      · have h := zt c76 h
        refine lv_lconst (v := (1 : Int64)) hx hb dX8_rate_79 (by decide) ?_
        refine lv_goto (tgt := 130) hx hb dX8_rate_80 (by decide) ?_
        exact join_130 _ _ _ _ _ _ _ _ _ _ h hP hD hS (lv_sub hl [3, 4, 5, 2, 1, 0] rfl)
    · have h := zt c19 h
      refine lv_ldc hx hb hown (hts (.constant RX8 187 (-1000000)) (by decide +kernel)) dX8_rate_22 ?_
      cases h
      exact W.iret hx hb hr (fun t9 ht9 _ => zend hP hD hS ht9) hS.2.2 dX8_rate_24
abbrev w_X8_keep (G : zG) (a : Nat) (a_text : Nat) (a_clerk : Nat) (a_s : Nat) (a_kept : Nat) (a_isKept : Nat) (a_signed : Nat) (a_slips : Nat) (a_row : Nat) (a_best : Nat) (v_thrown : Int32) (v_trace : Int64) (v_typed : Int32) (v_next : Int32) (v_token : Int32) (v_place : Int32) (v_value : Int32) (v_fault : Int32) (v_clerks : Int32) (v_draftClerks : Int32) (v_draftLine : Int32) (v_signMany : Int32) (v_copies : Int32) (v_rowMany : Int32) (f_s : (Nat → Int32)) (f_kept : (Nat → Int32)) (f_isKept : (Nat → Int32)) : va_W := [(a, .inr (8, [.int v_thrown, .long v_trace, .ref a_text, .int v_typed, .int v_next, .int v_token, .int v_place, .int v_value, .int v_fault, .ref a_clerk, .int v_clerks, .int v_draftClerks, .int v_draftLine, .ref a_s, .ref a_kept, .ref a_isKept, .ref a_signed, .int v_signMany, .ref a_slips, .int v_copies, .ref a_row, .ref a_best, .int v_rowMany])), (a_s, .inl (zCI G, 22, .inl f_s)), (a_kept, .inl (zCI G, 44, .inl f_kept)), (a_isKept, .inl (zCZ G, 2, .inl f_isKept))]
theorem in_X8_keep_X8 : ∀ w ∈ wsX80, w ∈ wsX8_keep := by decide +kernel
set_option maxHeartbeats 4000000 in
set_option maxRecDepth 100000 in
theorem c_X8_keep (l : Launch) (G : zG) (fu : Nat) (a : Nat) (a_text : Nat) (a_clerk : Nat) (a_s : Nat) (a_kept : Nat) (a_isKept : Nat) (a_signed : Nat) (a_slips : Nat) (a_row : Nat) (a_best : Nat) (v_thrown : Int32) (v_trace : Int64) (v_typed : Int32) (v_next : Int32) (v_token : Int32) (v_place : Int32) (v_value : Int32) (v_fault : Int32) (v_clerks : Int32) (v_draftClerks : Int32) (v_draftLine : Int32) (v_signMany : Int32) (v_copies : Int32) (v_rowMany : Int32) (f_s : (Nat → Int32)) (f_kept : (Nat → Int32)) (f_isKept : (Nat → Int32)) (x1 : Int32) (rv : Int32) (ov_thrown : Int32) (of_kept : (Nat → Int32)) (of_isKept : (Nat → Int32)) (h : fX8_keep fu v_thrown f_s f_kept f_isKept x1 = some (rv, ov_thrown, of_kept, of_isKept)) : zC l yX8_keep wsX8_keep 1 22 G [.ref a, .int x1] (w_X8_keep G a a_text a_clerk a_s a_kept a_isKept a_signed a_slips a_row a_best v_thrown v_trace v_typed v_next v_token v_place v_value v_fault v_clerks v_draftClerks v_draftLine v_signMany v_copies v_rowMany f_s f_kept f_isKept) (some (.int rv)) (w_X8_keep G a a_text a_clerk a_s a_kept a_isKept a_signed a_slips a_row a_best ov_thrown v_trace v_typed v_next v_token v_place v_value v_fault v_clerks v_draftClerks v_draftLine v_signMany v_copies v_rowMany f_s of_kept of_isKept) := by
  refine fun sz => Met.ofW (cc := cX8_keep) (maxL := 3) (ret := (some .int)) (by decide) rfl ?_
  intro p e s m args below meth c s₁ B hml hv
  obtain ⟨rfl, hsz, hP, hK, hD0, hE⟩ := hv
  have hx := B.exec
  have hb := B.bytes
  have hr := B.returns
  have hts := atoms_spec (ws := wsX8_keep) B.pre
  have hown : s.vm.findClass RX8 = some m.cls := findClass_of_methodNamed B.named
  have hlocks := B.notSynchronized
  subst hsz
  have hD := hD0.self (sz := s.heap.size)
  generalize hAe : va_A (w_X8_keep G a a_text a_clerk a_s a_kept a_isKept a_signed a_slips a_row a_best v_thrown v_trace v_typed v_next v_token v_place v_value v_fault v_clerks v_draftClerks v_draftLine v_signMany v_copies v_rowMany f_s f_kept f_isKept) s.heap.size = A at hD hE ⊢
  have hA : ∀ q : Nat, s.heap.size ≤ q → A q := fun q h => by rw [← hAe]; exact Or.inr h
  have hS : va_S A s.heap s.heap [] := va_S.rf
  have hl := lv_entry ([.ref a, .int x1]) (n := 3) (Nat.le_of_ble_eq_true rfl)
  rw [lg_entry_eq]
  generalize (lg_sl ([.ref a, .int x1]) ++ List.replicate (3 - (lg_sl ([.ref a, .int x1])).length) Slot.unset).toArray = ls at hl ⊢
  have hl : lv_has ls 3 [(0, .ref a), (1, .int x1)] := hl
  have hP : va_P G.1 vwCl (w_X8_keep G a a_text a_clerk a_s a_kept a_isKept a_signed a_slips a_row a_best v_thrown v_trace v_typed v_next v_token v_place v_value v_fault v_clerks v_draftClerks v_draftLine v_signMany v_copies v_rowMany f_s f_kept f_isKept) s.heap := hP
  rw [fX8_keep] at h
  refine lv_aload_n hx hb dX8_keep_0 rfl (lv_at hl 0 rfl) ?_
  refine lv_iconst (v := (0 : Int32)) hx hb dX8_keep_1 (by decide) ?_
  refine zput1 (D := G.1) (ci := 8) (C := RX8) (T := TX8) (N := 23) (ty := .int) (ws' := (w_X8_keep G a a_text a_clerk a_s a_kept a_isKept a_signed a_slips a_row a_best (0 : Int32) v_trace v_typed v_next v_token v_place v_value v_fault v_clerks v_draftClerks v_draftLine v_signMany v_copies v_rowMany f_s f_kept f_isKept)) hx hb hts in_X8_keep_X8 tyX8 tyX8_ok nmX8 hown hK.1 hP hD hS 0 rfl rfl 0 (by decide) (hts (.fieldLink RX8 42 "NineHandsModel" "thrown" "I") (by decide +kernel)) (fun _ h9 => h9) rfl (by decide +kernel) rfl rfl (Nat.le_of_ble_eq_true rfl) rfl dX8_keep_2 (fun H locs hP hD hS => ?_)
  refine lv_iload_n hx hb dX8_keep_5 rfl (lv_at hl 1 rfl) ?_
  refine lv_iconst (v := (0 : Int32)) hx hb dX8_keep_6 (by decide) ?_
  refine lv_iconst (v := (1 : Int32)) hx hb dX8_keep_7 (by decide) ?_
  obtain ⟨y8, hc8, h⟩ := zb1_e h
  refine zcS (As := [.int x1, .int (0 : Int32), .int (1 : Int32)]) (rest := []) (ws' := (w_X8_keep G a a_text a_clerk a_s a_kept a_isKept a_signed a_slips a_row a_best (0 : Int32) v_trace v_typed v_next v_token v_place v_value v_fault v_clerks v_draftClerks v_draftLine v_signMany v_copies v_rowMany f_s f_kept f_isKept)) (st1 := [.int y8]) ⟨hx, hb, hml, hown, hts⟩ (c_X8_in l G x1 (0 : Int32) (1 : Int32) y8 hc8) (va_cwS 3 hts gX8_keep_X8_in rfl rfl rfl (by decide +kernel) ⟨Nat.le_of_ble_eq_true rfl, Nat.le_of_ble_eq_true rfl⟩) hK hE hP hD hS hA [] rfl rfl rfl rfl rfl hl.1 rfl (Nat.le_of_ble_eq_true rfl) dX8_keep_8 (Nat.zero_le _) (Nat.zero_le _) rfl (fun H locs hP hD hS => ?_)
  refine lv_if_ne (tgt := 16) hx hb dX8_keep_11 (by decide) (fun c11 => ?_) (fun c11 => ?_)
  · have h := zf c11 h
    refine lv_iconst (v := (0 : Int32)) hx hb dX8_keep_16 (by decide) ?_
    refine lv_istore_n (lv' := [(2, .int (0 : Int32)), (0, .ref a), (1, .int x1)]) hx hb dX8_keep_17 rfl hl (by decide) rfl (fun ls hl => ?_)
    have loop_18 : ∀ (n : Nat) (K : (Nat → Int32) → Option (Int32 × Int32 × (Nat → Int32) × (Nat → Int32))) (l2_18 : Int32) (f_kept_18 : (Nat → Int32)) (H : Heap) (locs : List Loc) (ls : Array Slot), fX8_keep_L18 fu x1 f_s K n l2_18 f_kept_18 = some (rv, ov_thrown, of_kept, of_isKept) → (∀ (f_kept_18e : (Nat → Int32)) (H : Heap) (locs : List Loc) (ls : Array Slot), K f_kept_18e = some (rv, ov_thrown, of_kept, of_isKept) → va_P G.1 vwCl (w_X8_keep G a a_text a_clerk a_s a_kept a_isKept a_signed a_slips a_row a_best (0 : Int32) v_trace v_typed v_next v_token v_place v_value v_fault v_clerks v_draftClerks v_draftLine v_signMany v_copies v_rowMany f_s f_kept_18e f_isKept) H → va_D A (w_X8_keep G a a_text a_clerk a_s a_kept a_isKept a_signed a_slips a_row a_best (0 : Int32) v_trace v_typed v_next v_token v_place v_value v_fault v_clerks v_draftClerks v_draftLine v_signMany v_copies v_rowMany f_s f_kept_18e f_isKept) → va_S A s.heap H locs → lv_has ls 3 [(0, .ref a), (1, .int x1)] → W p l e (headSpec wsX8_keep { frames := 1, cells := 0, slots := 0, locals := 22 }).room s m ([.ref a, .int x1] : List Value).toArray below meth c H locs 0 0 (MQ below (zQ (some (.int rv)) G (w_X8_keep G a a_text a_clerk a_s a_kept a_isKept a_signed a_slips a_row a_best ov_thrown v_trace v_typed v_next v_token v_place v_value v_fault v_clerks v_draftClerks v_draftLine v_signMany v_copies v_rowMany f_s of_kept of_isKept) A) ([.ref a, .int x1] : List Value).toArray s 0 0 A) (F0 m 47 ls [])) → va_P G.1 vwCl (w_X8_keep G a a_text a_clerk a_s a_kept a_isKept a_signed a_slips a_row a_best (0 : Int32) v_trace v_typed v_next v_token v_place v_value v_fault v_clerks v_draftClerks v_draftLine v_signMany v_copies v_rowMany f_s f_kept_18 f_isKept) H → va_D A (w_X8_keep G a a_text a_clerk a_s a_kept a_isKept a_signed a_slips a_row a_best (0 : Int32) v_trace v_typed v_next v_token v_place v_value v_fault v_clerks v_draftClerks v_draftLine v_signMany v_copies v_rowMany f_s f_kept_18 f_isKept) → va_S A s.heap H locs → lv_has ls 3 [(0, .ref a), (1, .int x1), (2, .int l2_18)] → W p l e (headSpec wsX8_keep { frames := 1, cells := 0, slots := 0, locals := 22 }).room s m ([.ref a, .int x1] : List Value).toArray below meth c H locs 0 0 (MQ below (zQ (some (.int rv)) G (w_X8_keep G a a_text a_clerk a_s a_kept a_isKept a_signed a_slips a_row a_best ov_thrown v_trace v_typed v_next v_token v_place v_value v_fault v_clerks v_draftClerks v_draftLine v_signMany v_copies v_rowMany f_s of_kept of_isKept) A) ([.ref a, .int x1] : List Value).toArray s 0 0 A) (F0 m 18 ls []) := by
      intro n
      induction n with
      | zero => intro K l2_18 f_kept_18 H locs ls h; rw [fX8_keep_L18] at h; cases h
      | succ n ih =>
        intro K l2_18 f_kept_18 H locs ls h hk hP hD hS hl
        rw [fX8_keep_L18] at h
        refine lv_iload_n hx hb dX8_keep_18 rfl (lv_at hl 2 rfl) ?_
        refine lv_bipush (v := (22 : Int32)) hx hb dX8_keep_19 (by decide) ?_
        refine lv_icmp_ge (tgt := 47) hx hb dX8_keep_21 (by decide) (fun c21 => ?_) (fun c21 => ?_)
        · have h := zt c21 h
          exact hk _ _ _ _ h hP hD hS (lv_sub hl [0, 1] rfl)
        · have h := zf c21 h
          refine lv_aload_n hx hb dX8_keep_24 rfl (lv_at hl 0 rfl) ?_
          refine va_get (D := G.1) (ci := 8) (v := .ref a_kept) (C := RX8) (T := TX8) (N := 23) hx hb hts in_X8_keep_X8 hown hK.1 hP 0 rfl rfl 14 (by decide) (hts (.fieldLink RX8 19 "NineHandsModel" "kept" "[I") (by decide +kernel)) (fun _ h9 => h9) rfl dX8_keep_25 ?_
          refine lv_bipush (v := (22 : Int32)) hx hb dX8_keep_28 (by decide) ?_
          refine lv_iload_n hx hb dX8_keep_30 rfl (lv_at hl 1 rfl) ?_
          refine lv_imul hx hb dX8_keep_31 ?_
          refine lv_iload_n hx hb dX8_keep_32 rfl (lv_at hl 2 rfl) ?_
          refine lv_iadd hx hb dX8_keep_33 ?_
          refine lv_aload_n hx hb dX8_keep_34 rfl (lv_at hl 0 rfl) ?_
          refine va_get (D := G.1) (ci := 8) (v := .ref a_s) (C := RX8) (T := TX8) (N := 23) hx hb hts in_X8_keep_X8 hown hK.1 hP 0 rfl rfl 13 (by decide) (hts (.fieldLink RX8 16 "NineHandsModel" "s" "[I") (by decide +kernel)) (fun _ h9 => h9) rfl dX8_keep_35 ?_
          refine lv_iload_n hx hb dX8_keep_38 rfl (lv_at hl 2 rfl) ?_
          obtain ⟨g39, h⟩ := zg h
          refine zald hx hb hK.1 hP 1 0 rfl rfl g39 (j := (l2_18).toNatClampNeg) rfl dX8_keep_39 ?_
          obtain ⟨g40, h⟩ := zg h
          refine zast hx hb hK.1 hP hD hS 2 0 rfl rfl g40 (j := ((((22 : Int32) * x1) + l2_18)).toNatClampNeg) rfl (ws' := (w_X8_keep G a a_text a_clerk a_s a_kept a_isKept a_signed a_slips a_row a_best (0 : Int32) v_trace v_typed v_next v_token v_place v_value v_fault v_clerks v_draftClerks v_draftLine v_signMany v_copies v_rowMany f_s (upd f_kept_18 ((((22 : Int32) * x1) + l2_18)).toNatClampNeg (f_s (l2_18).toNatClampNeg)) f_isKept)) rfl dX8_keep_40 (fun H locs hP hD hS => ?_)
          refine lv_iinc (v := (l2_18 + (1 : Int32))) (lv' := [(2, .int (l2_18 + (1 : Int32))), (0, .ref a), (1, .int x1)]) hx hb dX8_keep_41 hl (k := 2) rfl rfl (by decide) rfl (fun ls hl => ?_)
          refine lv_goto (tgt := 18) hx hb dX8_keep_44 (by decide) ?_
          exact ih K _ _ _ _ _ h hk hP hD hS (lv_sub hl [1, 2, 0] rfl)
    refine loop_18 fu _ _ _ _ _ _ h (fun f_kept_18e H locs ls h hP hD hS hl => ?_) hP hD hS (lv_sub hl [1, 2, 0] rfl)
    refine lv_aload_n hx hb dX8_keep_47 rfl (lv_at hl 0 rfl) ?_
    refine va_get (D := G.1) (ci := 8) (v := .ref a_isKept) (C := RX8) (T := TX8) (N := 23) hx hb hts in_X8_keep_X8 hown hK.1 hP 0 rfl rfl 15 (by decide) (hts (.fieldLink RX8 22 "NineHandsModel" "isKept" "[Z") (by decide +kernel)) (fun _ h9 => h9) rfl dX8_keep_48 ?_
    refine lv_iload_n hx hb dX8_keep_51 rfl (lv_at hl 1 rfl) ?_
    refine lv_iconst (v := (1 : Int32)) hx hb dX8_keep_52 (by decide) ?_
    obtain ⟨g53, h⟩ := zg h
    refine zzst hx hb hK.1 hP hD hS 3 2 rfl rfl g53 (j := (x1).toNatClampNeg) rfl (y := (1 : Int32)) (by rfl) (ws' := (w_X8_keep G a a_text a_clerk a_s a_kept a_isKept a_signed a_slips a_row a_best (0 : Int32) v_trace v_typed v_next v_token v_place v_value v_fault v_clerks v_draftClerks v_draftLine v_signMany v_copies v_rowMany f_s f_kept_18e (upd f_isKept (x1).toNatClampNeg (1 : Int32)))) rfl dX8_keep_53 (fun H locs hP hD hS => ?_)
    refine lv_aload_n hx hb dX8_keep_54 rfl (lv_at hl 0 rfl) ?_
    refine va_get (D := G.1) (ci := 8) (v := .ref a_s) (C := RX8) (T := TX8) (N := 23) hx hb hts in_X8_keep_X8 hown hK.1 hP 0 rfl rfl 13 (by decide) (hts (.fieldLink RX8 16 "NineHandsModel" "s" "[I") (by decide +kernel)) (fun _ h9 => h9) rfl dX8_keep_55 ?_
    refine lv_bipush (v := (20 : Int32)) hx hb dX8_keep_58 (by decide) ?_
    refine zald hx hb hK.1 hP 1 0 rfl rfl (show ¬ ((20 : Int32) < 0 ∨ 22 ≤ ((20 : Int32)).toNatClampNeg) by decide) (j := 20) (by decide) dX8_keep_60 ?_
    cases h
    exact W.iret hx hb hr (fun t9 ht9 _ => zend hP hD hS ht9) hS.2.2 dX8_keep_61
  · have h := zt c11 h
    refine lv_iconst (v := ((-1) : Int32)) hx hb dX8_keep_14 (by decide) ?_
    cases h
    exact W.iret hx hb hr (fun t9 ht9 _ => zend hP hD hS ht9) hS.2.2 dX8_keep_15
abbrev w_X8_back (G : zG) (a : Nat) (a_text : Nat) (a_clerk : Nat) (a_s : Nat) (a_kept : Nat) (a_isKept : Nat) (a_signed : Nat) (a_slips : Nat) (a_row : Nat) (a_best : Nat) (v_thrown : Int32) (v_trace : Int64) (v_typed : Int32) (v_next : Int32) (v_token : Int32) (v_place : Int32) (v_value : Int32) (v_fault : Int32) (v_clerks : Int32) (v_draftClerks : Int32) (v_draftLine : Int32) (v_signMany : Int32) (v_copies : Int32) (v_rowMany : Int32) (f_s : (Nat → Int32)) (f_kept : (Nat → Int32)) (f_isKept : (Nat → Int32)) : va_W := [(a, .inr (8, [.int v_thrown, .long v_trace, .ref a_text, .int v_typed, .int v_next, .int v_token, .int v_place, .int v_value, .int v_fault, .ref a_clerk, .int v_clerks, .int v_draftClerks, .int v_draftLine, .ref a_s, .ref a_kept, .ref a_isKept, .ref a_signed, .int v_signMany, .ref a_slips, .int v_copies, .ref a_row, .ref a_best, .int v_rowMany])), (a_s, .inl (zCI G, 22, .inl f_s)), (a_kept, .inl (zCI G, 44, .inl f_kept)), (a_isKept, .inl (zCZ G, 2, .inl f_isKept))]
theorem in_X8_back_X8 : ∀ w ∈ wsX80, w ∈ wsX8_back := by decide +kernel
set_option maxHeartbeats 4000000 in
set_option maxRecDepth 100000 in
theorem c_X8_back (l : Launch) (G : zG) (fu : Nat) (a : Nat) (a_text : Nat) (a_clerk : Nat) (a_s : Nat) (a_kept : Nat) (a_isKept : Nat) (a_signed : Nat) (a_slips : Nat) (a_row : Nat) (a_best : Nat) (v_thrown : Int32) (v_trace : Int64) (v_typed : Int32) (v_next : Int32) (v_token : Int32) (v_place : Int32) (v_value : Int32) (v_fault : Int32) (v_clerks : Int32) (v_draftClerks : Int32) (v_draftLine : Int32) (v_signMany : Int32) (v_copies : Int32) (v_rowMany : Int32) (f_s : (Nat → Int32)) (f_kept : (Nat → Int32)) (f_isKept : (Nat → Int32)) (x1 : Int32) (rv : Int32) (ov_thrown : Int32) (of_s : (Nat → Int32)) (h : fX8_back fu v_thrown f_s f_kept f_isKept x1 = some (rv, ov_thrown, of_s)) : zC l yX8_back wsX8_back 1 22 G [.ref a, .int x1] (w_X8_back G a a_text a_clerk a_s a_kept a_isKept a_signed a_slips a_row a_best v_thrown v_trace v_typed v_next v_token v_place v_value v_fault v_clerks v_draftClerks v_draftLine v_signMany v_copies v_rowMany f_s f_kept f_isKept) (some (.int rv)) (w_X8_back G a a_text a_clerk a_s a_kept a_isKept a_signed a_slips a_row a_best ov_thrown v_trace v_typed v_next v_token v_place v_value v_fault v_clerks v_draftClerks v_draftLine v_signMany v_copies v_rowMany of_s f_kept f_isKept) := by
  refine fun sz => Met.ofW (cc := cX8_back) (maxL := 3) (ret := (some .int)) (by decide) rfl ?_
  intro p e s m args below meth c s₁ B hml hv
  obtain ⟨rfl, hsz, hP, hK, hD0, hE⟩ := hv
  have hx := B.exec
  have hb := B.bytes
  have hr := B.returns
  have hts := atoms_spec (ws := wsX8_back) B.pre
  have hown : s.vm.findClass RX8 = some m.cls := findClass_of_methodNamed B.named
  have hlocks := B.notSynchronized
  subst hsz
  have hD := hD0.self (sz := s.heap.size)
  generalize hAe : va_A (w_X8_back G a a_text a_clerk a_s a_kept a_isKept a_signed a_slips a_row a_best v_thrown v_trace v_typed v_next v_token v_place v_value v_fault v_clerks v_draftClerks v_draftLine v_signMany v_copies v_rowMany f_s f_kept f_isKept) s.heap.size = A at hD hE ⊢
  have hA : ∀ q : Nat, s.heap.size ≤ q → A q := fun q h => by rw [← hAe]; exact Or.inr h
  have hS : va_S A s.heap s.heap [] := va_S.rf
  have hl := lv_entry ([.ref a, .int x1]) (n := 3) (Nat.le_of_ble_eq_true rfl)
  rw [lg_entry_eq]
  generalize (lg_sl ([.ref a, .int x1]) ++ List.replicate (3 - (lg_sl ([.ref a, .int x1])).length) Slot.unset).toArray = ls at hl ⊢
  have hl : lv_has ls 3 [(0, .ref a), (1, .int x1)] := hl
  have hP : va_P G.1 vwCl (w_X8_back G a a_text a_clerk a_s a_kept a_isKept a_signed a_slips a_row a_best v_thrown v_trace v_typed v_next v_token v_place v_value v_fault v_clerks v_draftClerks v_draftLine v_signMany v_copies v_rowMany f_s f_kept f_isKept) s.heap := hP
  rw [fX8_back] at h
  refine lv_aload_n hx hb dX8_back_0 rfl (lv_at hl 0 rfl) ?_
  refine lv_iconst (v := (0 : Int32)) hx hb dX8_back_1 (by decide) ?_
  refine zput1 (D := G.1) (ci := 8) (C := RX8) (T := TX8) (N := 23) (ty := .int) (ws' := (w_X8_back G a a_text a_clerk a_s a_kept a_isKept a_signed a_slips a_row a_best (0 : Int32) v_trace v_typed v_next v_token v_place v_value v_fault v_clerks v_draftClerks v_draftLine v_signMany v_copies v_rowMany f_s f_kept f_isKept)) hx hb hts in_X8_back_X8 tyX8 tyX8_ok nmX8 hown hK.1 hP hD hS 0 rfl rfl 0 (by decide) (hts (.fieldLink RX8 42 "NineHandsModel" "thrown" "I") (by decide +kernel)) (fun _ h9 => h9) rfl (by decide +kernel) rfl rfl (Nat.le_of_ble_eq_true rfl) rfl dX8_back_2 (fun H locs hP hD hS => ?_)
  refine lv_iload_n hx hb dX8_back_5 rfl (lv_at hl 1 rfl) ?_
  refine lv_iconst (v := (0 : Int32)) hx hb dX8_back_6 (by decide) ?_
  refine lv_iconst (v := (1 : Int32)) hx hb dX8_back_7 (by decide) ?_
  obtain ⟨y8, hc8, h⟩ := zb1_e h
  refine zcS (As := [.int x1, .int (0 : Int32), .int (1 : Int32)]) (rest := []) (ws' := (w_X8_back G a a_text a_clerk a_s a_kept a_isKept a_signed a_slips a_row a_best (0 : Int32) v_trace v_typed v_next v_token v_place v_value v_fault v_clerks v_draftClerks v_draftLine v_signMany v_copies v_rowMany f_s f_kept f_isKept)) (st1 := [.int y8]) ⟨hx, hb, hml, hown, hts⟩ (c_X8_in l G x1 (0 : Int32) (1 : Int32) y8 hc8) (va_cwS 3 hts gX8_back_X8_in rfl rfl rfl (by decide +kernel) ⟨Nat.le_of_ble_eq_true rfl, Nat.le_of_ble_eq_true rfl⟩) hK hE hP hD hS hA [] rfl rfl rfl rfl rfl hl.1 rfl (Nat.le_of_ble_eq_true rfl) dX8_back_8 (Nat.zero_le _) (Nat.zero_le _) rfl (fun H locs hP hD hS => ?_)
  refine lv_if_ne (tgt := 16) hx hb dX8_back_11 (by decide) (fun c11 => ?_) (fun c11 => ?_)
  · have h := zf c11 h
    refine lv_aload_n hx hb dX8_back_16 rfl (lv_at hl 0 rfl) ?_
    refine va_get (D := G.1) (ci := 8) (v := .ref a_isKept) (C := RX8) (T := TX8) (N := 23) hx hb hts in_X8_back_X8 hown hK.1 hP 0 rfl rfl 15 (by decide) (hts (.fieldLink RX8 22 "NineHandsModel" "isKept" "[Z") (by decide +kernel)) (fun _ h9 => h9) rfl dX8_back_17 ?_
    refine lv_iload_n hx hb dX8_back_20 rfl (lv_at hl 1 rfl) ?_
    obtain ⟨g21, h⟩ := zg h
    refine zzld hx hb hK.1 hP 3 2 rfl rfl g21 (j := (x1).toNatClampNeg) rfl dX8_back_21 ?_
    refine lv_if_ne (tgt := 28) hx hb dX8_back_22 (by decide) (fun c22 => ?_) (fun c22 => ?_)
    · have h := zf c22 h
      refine lv_iconst (v := (0 : Int32)) hx hb dX8_back_28 (by decide) ?_
      refine lv_istore_n (lv' := [(2, .int (0 : Int32)), (0, .ref a), (1, .int x1)]) hx hb dX8_back_29 rfl hl (by decide) rfl (fun ls hl => ?_)
      have loop_30 : ∀ (n : Nat) (K : (Nat → Int32) → Option (Int32 × Int32 × (Nat → Int32))) (l2_30 : Int32) (f_s_30 : (Nat → Int32)) (H : Heap) (locs : List Loc) (ls : Array Slot), fX8_back_L30 fu x1 f_kept K n l2_30 f_s_30 = some (rv, ov_thrown, of_s) → (∀ (f_s_30e : (Nat → Int32)) (H : Heap) (locs : List Loc) (ls : Array Slot), K f_s_30e = some (rv, ov_thrown, of_s) → va_P G.1 vwCl (w_X8_back G a a_text a_clerk a_s a_kept a_isKept a_signed a_slips a_row a_best (0 : Int32) v_trace v_typed v_next v_token v_place v_value v_fault v_clerks v_draftClerks v_draftLine v_signMany v_copies v_rowMany f_s_30e f_kept f_isKept) H → va_D A (w_X8_back G a a_text a_clerk a_s a_kept a_isKept a_signed a_slips a_row a_best (0 : Int32) v_trace v_typed v_next v_token v_place v_value v_fault v_clerks v_draftClerks v_draftLine v_signMany v_copies v_rowMany f_s_30e f_kept f_isKept) → va_S A s.heap H locs → lv_has ls 3 [(0, .ref a)] → W p l e (headSpec wsX8_back { frames := 1, cells := 0, slots := 0, locals := 22 }).room s m ([.ref a, .int x1] : List Value).toArray below meth c H locs 0 0 (MQ below (zQ (some (.int rv)) G (w_X8_back G a a_text a_clerk a_s a_kept a_isKept a_signed a_slips a_row a_best ov_thrown v_trace v_typed v_next v_token v_place v_value v_fault v_clerks v_draftClerks v_draftLine v_signMany v_copies v_rowMany of_s f_kept f_isKept) A) ([.ref a, .int x1] : List Value).toArray s 0 0 A) (F0 m 59 ls [])) → va_P G.1 vwCl (w_X8_back G a a_text a_clerk a_s a_kept a_isKept a_signed a_slips a_row a_best (0 : Int32) v_trace v_typed v_next v_token v_place v_value v_fault v_clerks v_draftClerks v_draftLine v_signMany v_copies v_rowMany f_s_30 f_kept f_isKept) H → va_D A (w_X8_back G a a_text a_clerk a_s a_kept a_isKept a_signed a_slips a_row a_best (0 : Int32) v_trace v_typed v_next v_token v_place v_value v_fault v_clerks v_draftClerks v_draftLine v_signMany v_copies v_rowMany f_s_30 f_kept f_isKept) → va_S A s.heap H locs → lv_has ls 3 [(0, .ref a), (1, .int x1), (2, .int l2_30)] → W p l e (headSpec wsX8_back { frames := 1, cells := 0, slots := 0, locals := 22 }).room s m ([.ref a, .int x1] : List Value).toArray below meth c H locs 0 0 (MQ below (zQ (some (.int rv)) G (w_X8_back G a a_text a_clerk a_s a_kept a_isKept a_signed a_slips a_row a_best ov_thrown v_trace v_typed v_next v_token v_place v_value v_fault v_clerks v_draftClerks v_draftLine v_signMany v_copies v_rowMany of_s f_kept f_isKept) A) ([.ref a, .int x1] : List Value).toArray s 0 0 A) (F0 m 30 ls []) := by
        intro n
        induction n with
        | zero => intro K l2_30 f_s_30 H locs ls h; rw [fX8_back_L30] at h; cases h
        | succ n ih =>
          intro K l2_30 f_s_30 H locs ls h hk hP hD hS hl
          rw [fX8_back_L30] at h
          refine lv_iload_n hx hb dX8_back_30 rfl (lv_at hl 2 rfl) ?_
          refine lv_bipush (v := (22 : Int32)) hx hb dX8_back_31 (by decide) ?_
          refine lv_icmp_ge (tgt := 59) hx hb dX8_back_33 (by decide) (fun c33 => ?_) (fun c33 => ?_)
          · have h := zt c33 h
            exact hk _ _ _ _ h hP hD hS (lv_sub hl [0] rfl)
          · have h := zf c33 h
            refine lv_aload_n hx hb dX8_back_36 rfl (lv_at hl 0 rfl) ?_
            refine va_get (D := G.1) (ci := 8) (v := .ref a_s) (C := RX8) (T := TX8) (N := 23) hx hb hts in_X8_back_X8 hown hK.1 hP 0 rfl rfl 13 (by decide) (hts (.fieldLink RX8 16 "NineHandsModel" "s" "[I") (by decide +kernel)) (fun _ h9 => h9) rfl dX8_back_37 ?_
            refine lv_iload_n hx hb dX8_back_40 rfl (lv_at hl 2 rfl) ?_
            refine lv_aload_n hx hb dX8_back_41 rfl (lv_at hl 0 rfl) ?_
            refine va_get (D := G.1) (ci := 8) (v := .ref a_kept) (C := RX8) (T := TX8) (N := 23) hx hb hts in_X8_back_X8 hown hK.1 hP 0 rfl rfl 14 (by decide) (hts (.fieldLink RX8 19 "NineHandsModel" "kept" "[I") (by decide +kernel)) (fun _ h9 => h9) rfl dX8_back_42 ?_
            refine lv_bipush (v := (22 : Int32)) hx hb dX8_back_45 (by decide) ?_
            refine lv_iload_n hx hb dX8_back_47 rfl (lv_at hl 1 rfl) ?_
            refine lv_imul hx hb dX8_back_48 ?_
            refine lv_iload_n hx hb dX8_back_49 rfl (lv_at hl 2 rfl) ?_
            refine lv_iadd hx hb dX8_back_50 ?_
            obtain ⟨g51, h⟩ := zg h
            refine zald hx hb hK.1 hP 2 0 rfl rfl g51 (j := ((((22 : Int32) * x1) + l2_30)).toNatClampNeg) rfl dX8_back_51 ?_
            obtain ⟨g52, h⟩ := zg h
            refine zast hx hb hK.1 hP hD hS 1 0 rfl rfl g52 (j := (l2_30).toNatClampNeg) rfl (ws' := (w_X8_back G a a_text a_clerk a_s a_kept a_isKept a_signed a_slips a_row a_best (0 : Int32) v_trace v_typed v_next v_token v_place v_value v_fault v_clerks v_draftClerks v_draftLine v_signMany v_copies v_rowMany (upd f_s_30 (l2_30).toNatClampNeg (f_kept ((((22 : Int32) * x1) + l2_30)).toNatClampNeg)) f_kept f_isKept)) rfl dX8_back_52 (fun H locs hP hD hS => ?_)
            refine lv_iinc (v := (l2_30 + (1 : Int32))) (lv' := [(2, .int (l2_30 + (1 : Int32))), (0, .ref a), (1, .int x1)]) hx hb dX8_back_53 hl (k := 2) rfl rfl (by decide) rfl (fun ls hl => ?_)
            refine lv_goto (tgt := 30) hx hb dX8_back_56 (by decide) ?_
            exact ih K _ _ _ _ _ h hk hP hD hS (lv_sub hl [1, 2, 0] rfl)
      refine loop_30 fu _ _ _ _ _ _ h (fun f_s_30e H locs ls h hP hD hS hl => ?_) hP hD hS (lv_sub hl [1, 2, 0] rfl)
      refine lv_aload_n hx hb dX8_back_59 rfl (lv_at hl 0 rfl) ?_
      refine va_get (D := G.1) (ci := 8) (v := .ref a_s) (C := RX8) (T := TX8) (N := 23) hx hb hts in_X8_back_X8 hown hK.1 hP 0 rfl rfl 13 (by decide) (hts (.fieldLink RX8 16 "NineHandsModel" "s" "[I") (by decide +kernel)) (fun _ h9 => h9) rfl dX8_back_60 ?_
      refine lv_bipush (v := (20 : Int32)) hx hb dX8_back_63 (by decide) ?_
      refine zald hx hb hK.1 hP 1 0 rfl rfl (show ¬ ((20 : Int32) < 0 ∨ 22 ≤ ((20 : Int32)).toNatClampNeg) by decide) (j := 20) (by decide) dX8_back_65 ?_
      cases h
      exact W.iret hx hb hr (fun t9 ht9 _ => zend hP hD hS ht9) hS.2.2 dX8_back_66
    · have h := zt c22 h
      refine lv_bipush (v := ((-2) : Int32)) hx hb dX8_back_25 (by decide) ?_
      cases h
      exact W.iret hx hb hr (fun t9 ht9 _ => zend hP hD hS ht9) hS.2.2 dX8_back_27
  · have h := zt c11 h
    refine lv_iconst (v := ((-1) : Int32)) hx hb dX8_back_14 (by decide) ?_
    cases h
    exact W.iret hx hb hr (fun t9 ht9 _ => zend hP hD hS ht9) hS.2.2 dX8_back_15
abbrev w_X8_count (G : zG) (a : Nat) (a_text : Nat) (a_clerk : Nat) (a_s : Nat) (a_kept : Nat) (a_isKept : Nat) (a_signed : Nat) (a_slips : Nat) (a_row : Nat) (a_best : Nat) (v_thrown : Int32) (v_trace : Int64) (v_typed : Int32) (v_next : Int32) (v_token : Int32) (v_place : Int32) (v_value : Int32) (v_fault : Int32) (v_clerks : Int32) (v_draftClerks : Int32) (v_draftLine : Int32) (v_signMany : Int32) (v_copies : Int32) (v_rowMany : Int32) (f_s : (Nat → Int32)) : va_W := [(a, .inr (8, [.int v_thrown, .long v_trace, .ref a_text, .int v_typed, .int v_next, .int v_token, .int v_place, .int v_value, .int v_fault, .ref a_clerk, .int v_clerks, .int v_draftClerks, .int v_draftLine, .ref a_s, .ref a_kept, .ref a_isKept, .ref a_signed, .int v_signMany, .ref a_slips, .int v_copies, .ref a_row, .ref a_best, .int v_rowMany])), (a_s, .inl (zCI G, 22, .inl f_s))]
theorem in_X8_count_X8 : ∀ w ∈ wsX80, w ∈ wsX8_count := by decide +kernel
set_option maxHeartbeats 4000000 in
set_option maxRecDepth 100000 in
theorem c_X8_count (l : Launch) (G : zG) (a : Nat) (a_text : Nat) (a_clerk : Nat) (a_s : Nat) (a_kept : Nat) (a_isKept : Nat) (a_signed : Nat) (a_slips : Nat) (a_row : Nat) (a_best : Nat) (v_thrown : Int32) (v_trace : Int64) (v_typed : Int32) (v_next : Int32) (v_token : Int32) (v_place : Int32) (v_value : Int32) (v_fault : Int32) (v_clerks : Int32) (v_draftClerks : Int32) (v_draftLine : Int32) (v_signMany : Int32) (v_copies : Int32) (v_rowMany : Int32) (f_s : (Nat → Int32)) (x1 : Int32) (rv : Int32) (ov_thrown : Int32) (h : fX8_count v_thrown v_typed v_clerks v_signMany v_copies f_s x1 = some (rv, ov_thrown)) : zC l yX8_count wsX8_count 0 0 G [.ref a, .int x1] (w_X8_count G a a_text a_clerk a_s a_kept a_isKept a_signed a_slips a_row a_best v_thrown v_trace v_typed v_next v_token v_place v_value v_fault v_clerks v_draftClerks v_draftLine v_signMany v_copies v_rowMany f_s) (some (.int rv)) (w_X8_count G a a_text a_clerk a_s a_kept a_isKept a_signed a_slips a_row a_best ov_thrown v_trace v_typed v_next v_token v_place v_value v_fault v_clerks v_draftClerks v_draftLine v_signMany v_copies v_rowMany f_s) := by
  refine fun sz => Met.ofW (cc := cX8_count) (maxL := 2) (ret := (some .int)) (by decide) rfl ?_
  intro p e s m args below meth c s₁ B hml hv
  obtain ⟨rfl, hsz, hP, hK, hD0, hE⟩ := hv
  have hx := B.exec
  have hb := B.bytes
  have hr := B.returns
  have hts := atoms_spec (ws := wsX8_count) B.pre
  have hown : s.vm.findClass RX8 = some m.cls := findClass_of_methodNamed B.named
  have hlocks := B.notSynchronized
  subst hsz
  have hD := hD0.self (sz := s.heap.size)
  generalize hAe : va_A (w_X8_count G a a_text a_clerk a_s a_kept a_isKept a_signed a_slips a_row a_best v_thrown v_trace v_typed v_next v_token v_place v_value v_fault v_clerks v_draftClerks v_draftLine v_signMany v_copies v_rowMany f_s) s.heap.size = A at hD hE ⊢
  have hA : ∀ q : Nat, s.heap.size ≤ q → A q := fun q h => by rw [← hAe]; exact Or.inr h
  have hS : va_S A s.heap s.heap [] := va_S.rf
  have hl := lv_entry ([.ref a, .int x1]) (n := 2) (Nat.le_of_ble_eq_true rfl)
  rw [lg_entry_eq]
  generalize (lg_sl ([.ref a, .int x1]) ++ List.replicate (2 - (lg_sl ([.ref a, .int x1])).length) Slot.unset).toArray = ls at hl ⊢
  have hl : lv_has ls 2 [(0, .ref a), (1, .int x1)] := hl
  have hP : va_P G.1 vwCl (w_X8_count G a a_text a_clerk a_s a_kept a_isKept a_signed a_slips a_row a_best v_thrown v_trace v_typed v_next v_token v_place v_value v_fault v_clerks v_draftClerks v_draftLine v_signMany v_copies v_rowMany f_s) s.heap := hP
  rw [fX8_count] at h
  refine lv_aload_n hx hb dX8_count_0 rfl (lv_at hl 0 rfl) ?_
  refine lv_iconst (v := (0 : Int32)) hx hb dX8_count_1 (by decide) ?_
  refine zput1 (D := G.1) (ci := 8) (C := RX8) (T := TX8) (N := 23) (ty := .int) (ws' := (w_X8_count G a a_text a_clerk a_s a_kept a_isKept a_signed a_slips a_row a_best (0 : Int32) v_trace v_typed v_next v_token v_place v_value v_fault v_clerks v_draftClerks v_draftLine v_signMany v_copies v_rowMany f_s)) hx hb hts in_X8_count_X8 tyX8 tyX8_ok nmX8 hown hK.1 hP hD hS 0 rfl rfl 0 (by decide) (hts (.fieldLink RX8 42 "NineHandsModel" "thrown" "I") (by decide +kernel)) (fun _ h9 => h9) rfl (by decide +kernel) rfl rfl (Nat.le_of_ble_eq_true rfl) rfl dX8_count_2 (fun H locs hP hD hS => ?_)
  refine lv_iload_n hx hb dX8_count_5 rfl (lv_at hl 1 rfl) ?_
  refine lv_if_ne (tgt := 16) hx hb dX8_count_6 (by decide) (fun c6 => ?_) (fun c6 => ?_)
  · have h := zf c6 h
    refine lv_iload_n hx hb dX8_count_16 rfl (lv_at hl 1 rfl) ?_
    refine lv_iconst (v := (1 : Int32)) hx hb dX8_count_17 (by decide) ?_
    refine lv_icmp_ne (tgt := 31) hx hb dX8_count_18 (by decide) (fun c18 => ?_) (fun c18 => ?_)
    · have h := zf c18 h
      refine lv_iload_n hx hb dX8_count_31 rfl (lv_at hl 1 rfl) ?_
      refine lv_iconst (v := (2 : Int32)) hx hb dX8_count_32 (by decide) ?_
      refine lv_icmp_ne (tgt := 43) hx hb dX8_count_33 (by decide) (fun c33 => ?_) (fun c33 => ?_)
      · have h := zf c33 h
        refine lv_iload_n hx hb dX8_count_43 rfl (lv_at hl 1 rfl) ?_
        refine lv_iconst (v := (3 : Int32)) hx hb dX8_count_44 (by decide) ?_
        refine lv_icmp_ne (tgt := 55) hx hb dX8_count_45 (by decide) (fun c45 => ?_) (fun c45 => ?_)
        · have h := zf c45 h
          refine lv_iload_n hx hb dX8_count_55 rfl (lv_at hl 1 rfl) ?_
          refine lv_iconst (v := (4 : Int32)) hx hb dX8_count_56 (by decide) ?_
          refine lv_icmp_ne (tgt := 67) hx hb dX8_count_57 (by decide) (fun c57 => ?_) (fun c57 => ?_)
          · have h := zf c57 h
            refine lv_iconst (v := ((-1) : Int32)) hx hb dX8_count_67 (by decide) ?_
            cases h
            exact W.iret hx hb hr (fun t9 ht9 _ => zend hP hD hS ht9) hS.2.2 dX8_count_68
          · have h := zt c57 h
            refine lv_aload_n hx hb dX8_count_60 rfl (lv_at hl 0 rfl) ?_
            refine va_get (D := G.1) (ci := 8) (v := .int v_typed) (C := RX8) (T := TX8) (N := 23) hx hb hts in_X8_count_X8 hown hK.1 hP 0 rfl rfl 3 (by decide) (hts (.fieldLink RX8 50 "NineHandsModel" "typed" "I") (by decide +kernel)) (fun _ h9 => h9) rfl dX8_count_61 ?_
            refine lv_goto (tgt := 68) hx hb dX8_count_64 (by decide) ?_
            cases h
            exact W.iret hx hb hr (fun t9 ht9 _ => zend hP hD hS ht9) hS.2.2 dX8_count_68
        · have h := zt c45 h
          refine lv_aload_n hx hb dX8_count_48 rfl (lv_at hl 0 rfl) ?_
          refine va_get (D := G.1) (ci := 8) (v := .int v_copies) (C := RX8) (T := TX8) (N := 23) hx hb hts in_X8_count_X8 hown hK.1 hP 0 rfl rfl 19 (by decide) (hts (.fieldLink RX8 118 "NineHandsModel" "copies" "I") (by decide +kernel)) (fun _ h9 => h9) rfl dX8_count_49 ?_
          refine lv_goto (tgt := 68) hx hb dX8_count_52 (by decide) ?_
          cases h
          exact W.iret hx hb hr (fun t9 ht9 _ => zend hP hD hS ht9) hS.2.2 dX8_count_68
      · have h := zt c33 h
        refine lv_aload_n hx hb dX8_count_36 rfl (lv_at hl 0 rfl) ?_
        refine va_get (D := G.1) (ci := 8) (v := .int v_signMany) (C := RX8) (T := TX8) (N := 23) hx hb hts in_X8_count_X8 hown hK.1 hP 0 rfl rfl 17 (by decide) (hts (.fieldLink RX8 115 "NineHandsModel" "signMany" "I") (by decide +kernel)) (fun _ h9 => h9) rfl dX8_count_37 ?_
        refine lv_goto (tgt := 68) hx hb dX8_count_40 (by decide) ?_
        cases h
        exact W.iret hx hb hr (fun t9 ht9 _ => zend hP hD hS ht9) hS.2.2 dX8_count_68
    · have h := zt c18 h
      refine lv_aload_n hx hb dX8_count_21 rfl (lv_at hl 0 rfl) ?_
      refine va_get (D := G.1) (ci := 8) (v := .ref a_s) (C := RX8) (T := TX8) (N := 23) hx hb hts in_X8_count_X8 hown hK.1 hP 0 rfl rfl 13 (by decide) (hts (.fieldLink RX8 16 "NineHandsModel" "s" "[I") (by decide +kernel)) (fun _ h9 => h9) rfl dX8_count_22 ?_
      refine lv_bipush (v := (20 : Int32)) hx hb dX8_count_25 (by decide) ?_
      refine zald hx hb hK.1 hP 1 0 rfl rfl (show ¬ ((20 : Int32) < 0 ∨ 22 ≤ ((20 : Int32)).toNatClampNeg) by decide) (j := 20) (by decide) dX8_count_27 ?_
      refine lv_goto (tgt := 68) hx hb dX8_count_28 (by decide) ?_
      cases h
      exact W.iret hx hb hr (fun t9 ht9 _ => zend hP hD hS ht9) hS.2.2 dX8_count_68
  · have h := zt c6 h
    refine lv_aload_n hx hb dX8_count_9 rfl (lv_at hl 0 rfl) ?_
    refine va_get (D := G.1) (ci := 8) (v := .int v_clerks) (C := RX8) (T := TX8) (N := 23) hx hb hts in_X8_count_X8 hown hK.1 hP 0 rfl rfl 10 (by decide) (hts (.fieldLink RX8 112 "NineHandsModel" "clerks" "I") (by decide +kernel)) (fun _ h9 => h9) rfl dX8_count_10 ?_
    refine lv_goto (tgt := 68) hx hb dX8_count_13 (by decide) ?_
    cases h
    exact W.iret hx hb hr (fun t9 ht9 _ => zend hP hD hS ht9) hS.2.2 dX8_count_68
abbrev w_X8_trace (G : zG) (a : Nat) (a_text : Nat) (a_clerk : Nat) (a_s : Nat) (a_kept : Nat) (a_isKept : Nat) (a_signed : Nat) (a_slips : Nat) (a_row : Nat) (a_best : Nat) (v_thrown : Int32) (v_trace : Int64) (v_typed : Int32) (v_next : Int32) (v_token : Int32) (v_place : Int32) (v_value : Int32) (v_fault : Int32) (v_clerks : Int32) (v_draftClerks : Int32) (v_draftLine : Int32) (v_signMany : Int32) (v_copies : Int32) (v_rowMany : Int32) : va_W := [(a, .inr (8, [.int v_thrown, .long v_trace, .ref a_text, .int v_typed, .int v_next, .int v_token, .int v_place, .int v_value, .int v_fault, .ref a_clerk, .int v_clerks, .int v_draftClerks, .int v_draftLine, .ref a_s, .ref a_kept, .ref a_isKept, .ref a_signed, .int v_signMany, .ref a_slips, .int v_copies, .ref a_row, .ref a_best, .int v_rowMany]))]
theorem in_X8_trace_X8 : ∀ w ∈ wsX80, w ∈ wsX8_trace := by decide +kernel
set_option maxHeartbeats 4000000 in
set_option maxRecDepth 100000 in
theorem c_X8_trace (l : Launch) (G : zG) (a : Nat) (a_text : Nat) (a_clerk : Nat) (a_s : Nat) (a_kept : Nat) (a_isKept : Nat) (a_signed : Nat) (a_slips : Nat) (a_row : Nat) (a_best : Nat) (v_thrown : Int32) (v_trace : Int64) (v_typed : Int32) (v_next : Int32) (v_token : Int32) (v_place : Int32) (v_value : Int32) (v_fault : Int32) (v_clerks : Int32) (v_draftClerks : Int32) (v_draftLine : Int32) (v_signMany : Int32) (v_copies : Int32) (v_rowMany : Int32) (rv : Int64) (ov_thrown : Int32) (h : fX8_trace v_thrown v_trace = some (rv, ov_thrown)) : zC l yX8_trace wsX8_trace 0 0 G [.ref a] (w_X8_trace G a a_text a_clerk a_s a_kept a_isKept a_signed a_slips a_row a_best v_thrown v_trace v_typed v_next v_token v_place v_value v_fault v_clerks v_draftClerks v_draftLine v_signMany v_copies v_rowMany) (some (.long rv)) (w_X8_trace G a a_text a_clerk a_s a_kept a_isKept a_signed a_slips a_row a_best ov_thrown v_trace v_typed v_next v_token v_place v_value v_fault v_clerks v_draftClerks v_draftLine v_signMany v_copies v_rowMany) := by
  refine fun sz => Met.ofW (cc := cX8_trace) (maxL := 1) (ret := (some .long)) (by decide) rfl ?_
  intro p e s m args below meth c s₁ B hml hv
  obtain ⟨rfl, hsz, hP, hK, hD0, hE⟩ := hv
  have hx := B.exec
  have hb := B.bytes
  have hr := B.returns
  have hts := atoms_spec (ws := wsX8_trace) B.pre
  have hown : s.vm.findClass RX8 = some m.cls := findClass_of_methodNamed B.named
  have hlocks := B.notSynchronized
  subst hsz
  have hD := hD0.self (sz := s.heap.size)
  generalize hAe : va_A (w_X8_trace G a a_text a_clerk a_s a_kept a_isKept a_signed a_slips a_row a_best v_thrown v_trace v_typed v_next v_token v_place v_value v_fault v_clerks v_draftClerks v_draftLine v_signMany v_copies v_rowMany) s.heap.size = A at hD hE ⊢
  have hA : ∀ q : Nat, s.heap.size ≤ q → A q := fun q h => by rw [← hAe]; exact Or.inr h
  have hS : va_S A s.heap s.heap [] := va_S.rf
  have hl := lv_entry ([.ref a]) (n := 1) (Nat.le_of_ble_eq_true rfl)
  rw [lg_entry_eq]
  generalize (lg_sl ([.ref a]) ++ List.replicate (1 - (lg_sl ([.ref a])).length) Slot.unset).toArray = ls at hl ⊢
  have hl : lv_has ls 1 [(0, .ref a)] := hl
  have hP : va_P G.1 vwCl (w_X8_trace G a a_text a_clerk a_s a_kept a_isKept a_signed a_slips a_row a_best v_thrown v_trace v_typed v_next v_token v_place v_value v_fault v_clerks v_draftClerks v_draftLine v_signMany v_copies v_rowMany) s.heap := hP
  rw [fX8_trace] at h
  refine lv_aload_n hx hb dX8_trace_0 rfl (lv_at hl 0 rfl) ?_
  refine lv_iconst (v := (0 : Int32)) hx hb dX8_trace_1 (by decide) ?_
  refine zput1 (D := G.1) (ci := 8) (C := RX8) (T := TX8) (N := 23) (ty := .int) (ws' := (w_X8_trace G a a_text a_clerk a_s a_kept a_isKept a_signed a_slips a_row a_best (0 : Int32) v_trace v_typed v_next v_token v_place v_value v_fault v_clerks v_draftClerks v_draftLine v_signMany v_copies v_rowMany)) hx hb hts in_X8_trace_X8 tyX8 tyX8_ok nmX8 hown hK.1 hP hD hS 0 rfl rfl 0 (by decide) (hts (.fieldLink RX8 42 "NineHandsModel" "thrown" "I") (by decide +kernel)) (fun _ h9 => h9) rfl (by decide +kernel) rfl rfl (Nat.le_of_ble_eq_true rfl) rfl dX8_trace_2 (fun H locs hP hD hS => ?_)
  refine lv_aload_n hx hb dX8_trace_5 rfl (lv_at hl 0 rfl) ?_
  refine va_get (D := G.1) (ci := 8) (v := .long v_trace) (C := RX8) (T := TX8) (N := 23) hx hb hts in_X8_trace_X8 hown hK.1 hP 0 rfl rfl 1 (by decide) (hts (.fieldLink RX8 188 "NineHandsModel" "trace" "J") (by decide +kernel)) (fun _ h9 => h9) rfl dX8_trace_6 ?_
  cases h
  exact W.lret hx hb hr (fun t9 ht9 _ => zend hP hD hS ht9) hS.2.2 dX8_trace_9
