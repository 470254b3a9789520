abbrev w_X8_begins (G : zG) (a : Nat) (a_text : Nat) (a_clerk : Nat) (a_s : Nat) (a_kept : Nat) (a_isKept : Nat) (a_signed : Nat) (a_slips : Nat) (a_row : Nat) (a_best : Nat) (v_thrown : Int32) (v_trace : Int64) (v_typed : Int32) (v_next : Int32) (v_token : Int32) (v_place : Int32) (v_value : Int32) (v_fault : Int32) (v_clerks : Int32) (v_draftClerks : Int32) (v_draftLine : Int32) (v_signMany : Int32) (v_copies : Int32) (v_rowMany : Int32) (f_s : (Nat → Int32)) : va_W := [(a, .inr (8, [.int v_thrown, .long v_trace, .ref a_text, .int v_typed, .int v_next, .int v_token, .int v_place, .int v_value, .int v_fault, .ref a_clerk, .int v_clerks, .int v_draftClerks, .int v_draftLine, .ref a_s, .ref a_kept, .ref a_isKept, .ref a_signed, .int v_signMany, .ref a_slips, .int v_copies, .ref a_row, .ref a_best, .int v_rowMany])), (a_s, .inl (zCI G, 22, .inl f_s))]
theorem in_X8_begins_X8 : ∀ w ∈ wsX80, w ∈ wsX8_begins := by decide +kernel
set_option maxHeartbeats 4000000 in
set_option maxRecDepth 100000 in
theorem c_X8_begins (l : Launch) (G : zG) (a : Nat) (a_text : Nat) (a_clerk : Nat) (a_s : Nat) (a_kept : Nat) (a_isKept : Nat) (a_signed : Nat) (a_slips : Nat) (a_row : Nat) (a_best : Nat) (v_thrown : Int32) (v_trace : Int64) (v_typed : Int32) (v_next : Int32) (v_token : Int32) (v_place : Int32) (v_value : Int32) (v_fault : Int32) (v_clerks : Int32) (v_draftClerks : Int32) (v_draftLine : Int32) (v_signMany : Int32) (v_copies : Int32) (v_rowMany : Int32) (f_s : (Nat → Int32)) (x1 : Int32) (of_s : (Nat → Int32)) (h : fX8_begins f_s x1 = some of_s) : zC l yX8_begins wsX8_begins 0 0 G [.ref a, .int x1] (w_X8_begins G a a_text a_clerk a_s a_kept a_isKept a_signed a_slips a_row a_best v_thrown v_trace v_typed v_next v_token v_place v_value v_fault v_clerks v_draftClerks v_draftLine v_signMany v_copies v_rowMany f_s) none (w_X8_begins G a a_text a_clerk a_s a_kept a_isKept a_signed a_slips a_row a_best v_thrown v_trace v_typed v_next v_token v_place v_value v_fault v_clerks v_draftClerks v_draftLine v_signMany v_copies v_rowMany of_s) := by
  refine fun sz => Met.ofW (cc := cX8_begins) (maxL := 2) (ret := none) (by decide) rfl ?_
  intro p e s m args below meth c s₁ B hml hv
  obtain ⟨rfl, hsz, hP, hK, hD0, hE⟩ := hv
  have hx := B.exec
  have hb := B.bytes
  have hr := B.returns
  have hts := atoms_spec (ws := wsX8_begins) B.pre
  have hown : s.vm.findClass RX8 = some m.cls := findClass_of_methodNamed B.named
  have hlocks := B.notSynchronized
  subst hsz
  have hD := hD0.self (sz := s.heap.size)
  generalize hAe : va_A (w_X8_begins G a a_text a_clerk a_s a_kept a_isKept a_signed a_slips a_row a_best v_thrown v_trace v_typed v_next v_token v_place v_value v_fault v_clerks v_draftClerks v_draftLine v_signMany v_copies v_rowMany f_s) s.heap.size = A at hD hE ⊢
  have hA : ∀ q : Nat, s.heap.size ≤ q → A q := fun q h => by rw [← hAe]; exact Or.inr h
  have hS : va_S A s.heap s.heap [] := va_S.rf
  have hl := lv_entry ([.ref a, .int x1]) (n := 2) (Nat.le_of_ble_eq_true rfl)
  rw [lg_entry_eq]
  generalize (lg_sl ([.ref a, .int x1]) ++ List.replicate (2 - (lg_sl ([.ref a, .int x1])).length) Slot.unset).toArray = ls at hl ⊢
  have hl : lv_has ls 2 [(0, .ref a), (1, .int x1)] := hl
  have hP : va_P G.1 vwCl (w_X8_begins G a a_text a_clerk a_s a_kept a_isKept a_signed a_slips a_row a_best v_thrown v_trace v_typed v_next v_token v_place v_value v_fault v_clerks v_draftClerks v_draftLine v_signMany v_copies v_rowMany f_s) s.heap := hP
  rw [fX8_begins] at h
  refine lv_aload_n hx hb dX8_begins_0 rfl (lv_at hl 0 rfl) ?_
  refine va_get (D := G.1) (ci := 8) (v := .ref a_s) (C := RX8) (T := TX8) (N := 23) hx hb hts in_X8_begins_X8 hown hK.1 hP 0 rfl rfl 13 (by decide) (hts (.fieldLink RX8 16 "NineHandsModel" "s" "[I") (by decide +kernel)) (fun _ h9 => h9) rfl dX8_begins_1 ?_
  refine lv_iconst (v := (0 : Int32)) hx hb dX8_begins_4 (by decide) ?_
  refine lv_iload_n hx hb dX8_begins_5 rfl (lv_at hl 1 rfl) ?_
  refine zast hx hb hK.1 hP hD hS 1 0 rfl rfl (show ¬ ((0 : Int32) < 0 ∨ 22 ≤ ((0 : Int32)).toNatClampNeg) by decide) (j := 0) (by decide) (ws' := (w_X8_begins G a a_text a_clerk a_s a_kept a_isKept a_signed a_slips a_row a_best v_thrown v_trace v_typed v_next v_token v_place v_value v_fault v_clerks v_draftClerks v_draftLine v_signMany v_copies v_rowMany (upd f_s 0 x1))) rfl dX8_begins_6 (fun H locs hP hD hS => ?_)
  refine lv_aload_n hx hb dX8_begins_7 rfl (lv_at hl 0 rfl) ?_
  refine va_get (D := G.1) (ci := 8) (v := .ref a_s) (C := RX8) (T := TX8) (N := 23) hx hb hts in_X8_begins_X8 hown hK.1 hP 0 rfl rfl 13 (by decide) (hts (.fieldLink RX8 16 "NineHandsModel" "s" "[I") (by decide +kernel)) (fun _ h9 => h9) rfl dX8_begins_8 ?_
  refine lv_iconst (v := (1 : Int32)) hx hb dX8_begins_11 (by decide) ?_
  refine lv_bipush (v := ((-9) : Int32)) hx hb dX8_begins_12 (by decide) ?_
  refine zast hx hb hK.1 hP hD hS 1 0 rfl rfl (show ¬ ((1 : Int32) < 0 ∨ 22 ≤ ((1 : Int32)).toNatClampNeg) by decide) (j := 1) (by decide) (ws' := (w_X8_begins G a a_text a_clerk a_s a_kept a_isKept a_signed a_slips a_row a_best v_thrown v_trace v_typed v_next v_token v_place v_value v_fault v_clerks v_draftClerks v_draftLine v_signMany v_copies v_rowMany (upd (upd f_s 0 x1) 1 ((-9) : Int32)))) rfl dX8_begins_14 (fun H locs hP hD hS => ?_)
  refine lv_aload_n hx hb dX8_begins_15 rfl (lv_at hl 0 rfl) ?_
  refine va_get (D := G.1) (ci := 8) (v := .ref a_s) (C := RX8) (T := TX8) (N := 23) hx hb hts in_X8_begins_X8 hown hK.1 hP 0 rfl rfl 13 (by decide) (hts (.fieldLink RX8 16 "NineHandsModel" "s" "[I") (by decide +kernel)) (fun _ h9 => h9) rfl dX8_begins_16 ?_
  refine lv_bipush (v := (20 : Int32)) hx hb dX8_begins_19 (by decide) ?_
  refine lv_iconst (v := (1 : Int32)) hx hb dX8_begins_21 (by decide) ?_
  refine zast hx hb hK.1 hP hD hS 1 0 rfl rfl (show ¬ ((20 : Int32) < 0 ∨ 22 ≤ ((20 : Int32)).toNatClampNeg) by decide) (j := 20) (by decide) (ws' := (w_X8_begins G a a_text a_clerk a_s a_kept a_isKept a_signed a_slips a_row a_best v_thrown v_trace v_typed v_next v_token v_place v_value v_fault v_clerks v_draftClerks v_draftLine v_signMany v_copies v_rowMany (upd (upd (upd f_s 0 x1) 1 ((-9) : Int32)) 20 (1 : Int32)))) rfl dX8_begins_22 (fun H locs hP hD hS => ?_)
  cases h
  exact W.vret hx hb hr (fun t9 ht9 _ => zend hP hD hS ht9) hS.2.2 dX8_begins_23
abbrev w_X8_in (G : zG) : va_W := []
set_option maxHeartbeats 4000000 in
set_option maxRecDepth 100000 in
theorem c_X8_in (l : Launch) (G : zG) (x1 : Int32) (x2 : Int32) (x3 : Int32) (rv : Int32) (h : fX8_in x1 x2 x3 = some rv) : zC l yX8_in wsX8_in 0 0 G [.int x1, .int x2, .int x3] (w_X8_in G ) (some (.int rv)) (w_X8_in G ) := by
  refine fun sz => Met.ofW (cc := cX8_in) (maxL := 3) (ret := (some .boolean)) (by decide) rfl ?_
  intro p e s m args below meth c s₁ B hml hv
  obtain ⟨rfl, hsz, hP, hK, hD0, hE⟩ := hv
  have hx := B.exec
  have hb := B.bytes
  have hr := B.returns
  have hts := atoms_spec (ws := wsX8_in) B.pre
  have hown : s.vm.findClass RX8 = some m.cls := findClass_of_methodNamed B.named
  have hlocks := B.notSynchronized
  subst hsz
  have hD := hD0.self (sz := s.heap.size)
  generalize hAe : va_A (w_X8_in G ) s.heap.size = A at hD hE ⊢
  have hA : ∀ q : Nat, s.heap.size ≤ q → A q := fun q h => by rw [← hAe]; exact Or.inr h
  have hS : va_S A s.heap s.heap [] := va_S.rf
  have hl := lv_entry ([.int x1, .int x2, .int x3]) (n := 3) (Nat.le_of_ble_eq_true rfl)
  rw [lg_entry_eq]
  generalize (lg_sl ([.int x1, .int x2, .int x3]) ++ List.replicate (3 - (lg_sl ([.int x1, .int x2, .int x3])).length) Slot.unset).toArray = ls at hl ⊢
  have hl : lv_has ls 3 [(0, .int x1), (1, .int x2), (2, .int x3)] := hl
  have hP : va_P G.1 vwCl (w_X8_in G ) s.heap := hP
  rw [fX8_in] at h
  refine lv_iload_n hx hb dX8_in_0 rfl (lv_at hl 0 rfl) ?_
  refine lv_iload_n hx hb dX8_in_1 rfl (lv_at hl 1 rfl) ?_
  refine lv_icmp_lt (tgt := 14) hx hb dX8_in_2 (by decide) (fun c2 => ?_) (fun c2 => ?_)
  · have h := zt c2 h
    refine lv_iconst (v := (0 : Int32)) hx hb dX8_in_14 (by decide) ?_
    cases h
    exact W.zret (ty := .boolean) hx hb hr rfl (fun t9 ht9 _ => zend hP hD hS ht9) hS.2.2 dX8_in_15
  · have h := zf c2 h
    refine lv_iload_n hx hb dX8_in_5 rfl (lv_at hl 0 rfl) ?_
    refine lv_iload_n hx hb dX8_in_6 rfl (lv_at hl 2 rfl) ?_
    refine lv_icmp_gt (tgt := 14) hx hb dX8_in_7 (by decide) (fun c7 => ?_) (fun c7 => ?_)
    · have h := zt c7 h
      refine lv_iconst (v := (0 : Int32)) hx hb dX8_in_14 (by decide) ?_
      cases h
      exact W.zret (ty := .boolean) hx hb hr rfl (fun t9 ht9 _ => zend hP hD hS ht9) hS.2.2 dX8_in_15
    · have h := zf c7 h
      refine lv_iconst (v := (1 : Int32)) hx hb dX8_in_10 (by decide) ?_
      refine lv_goto (tgt := 15) hx hb dX8_in_11 (by decide) ?_
      cases h
      exact W.zret (ty := .boolean) hx hb hr rfl (fun t9 ht9 _ => zend hP hD hS ht9) hS.2.2 dX8_in_15
abbrev w_X8_size (G : zG) : va_W := []
set_option maxHeartbeats 4000000 in
set_option maxRecDepth 100000 in
theorem c_X8_size (l : Launch) (G : zG) (x1 : Int32) (rv : Int32) (h : fX8_size x1 = some rv) : zC l yX8_size wsX8_size 0 0 G [.int x1] (w_X8_size G ) (some (.int rv)) (w_X8_size G ) := by
  refine fun sz => Met.ofW (cc := cX8_size) (maxL := 1) (ret := (some .int)) (by decide) rfl ?_
  intro p e s m args below meth c s₁ B hml hv
  obtain ⟨rfl, hsz, hP, hK, hD0, hE⟩ := hv
  have hx := B.exec
  have hb := B.bytes
  have hr := B.returns
  have hts := atoms_spec (ws := wsX8_size) B.pre
  have hown : s.vm.findClass RX8 = some m.cls := findClass_of_methodNamed B.named
  have hlocks := B.notSynchronized
  subst hsz
  have hD := hD0.self (sz := s.heap.size)
  generalize hAe : va_A (w_X8_size G ) s.heap.size = A at hD hE ⊢
  have hA : ∀ q : Nat, s.heap.size ≤ q → A q := fun q h => by rw [← hAe]; exact Or.inr h
  have hS : va_S A s.heap s.heap [] := va_S.rf
  have hl := lv_entry ([.int x1]) (n := 1) (Nat.le_of_ble_eq_true rfl)
  rw [lg_entry_eq]
  generalize (lg_sl ([.int x1]) ++ List.replicate (1 - (lg_sl ([.int x1])).length) Slot.unset).toArray = ls at hl ⊢
  have hl : lv_has ls 1 [(0, .int x1)] := hl
  have hP : va_P G.1 vwCl (w_X8_size G ) s.heap := hP
  rw [fX8_size] at h
  refine lv_iload_n hx hb dX8_size_0 rfl (lv_at hl 0 rfl) ?_
  refine lv_if_ge (tgt := 9) hx hb dX8_size_1 (by decide) (fun c1 => ?_) (fun c1 => ?_)
  · have h := zt c1 h
    refine lv_iload_n hx hb dX8_size_9 rfl (lv_at hl 0 rfl) ?_
    cases h
    exact W.iret hx hb hr (fun t9 ht9 _ => zend hP hD hS ht9) hS.2.2 dX8_size_10
  · have h := zf c1 h
    refine lv_iload_n hx hb dX8_size_4 rfl (lv_at hl 0 rfl) ?_
    refine lv_ineg hx hb dX8_size_5 ?_
    refine lv_goto (tgt := 10) hx hb dX8_size_6 (by decide) ?_
    cases h
    exact W.iret hx hb hr (fun t9 ht9 _ => zend hP hD hS ht9) hS.2.2 dX8_size_10
abbrev w_X8_ones (G : zG) : va_W := []
set_option maxHeartbeats 4000000 in
set_option maxRecDepth 100000 in
theorem c_X8_ones (l : Launch) (G : zG) (fu : Nat) (x1 : Int32) (rv : Int32) (h : fX8_ones fu x1 = some rv) : zC l yX8_ones wsX8_ones 0 0 G [.int x1] (w_X8_ones G ) (some (.int rv)) (w_X8_ones G ) := by
  refine fun sz => Met.ofW (cc := cX8_ones) (maxL := 3) (ret := (some .int)) (by decide) rfl ?_
  intro p e s m args below meth c s₁ B hml hv
  obtain ⟨rfl, hsz, hP, hK, hD0, hE⟩ := hv
  have hx := B.exec
  have hb := B.bytes
  have hr := B.returns
  have hts := atoms_spec (ws := wsX8_ones) B.pre
  have hown : s.vm.findClass RX8 = some m.cls := findClass_of_methodNamed B.named
  have hlocks := B.notSynchronized
  subst hsz
  have hD := hD0.self (sz := s.heap.size)
  generalize hAe : va_A (w_X8_ones G ) s.heap.size = A at hD hE ⊢
  have hA : ∀ q : Nat, s.heap.size ≤ q → A q := fun q h => by rw [← hAe]; exact Or.inr h
  have hS : va_S A s.heap s.heap [] := va_S.rf
  have hl := lv_entry ([.int x1]) (n := 3) (Nat.le_of_ble_eq_true rfl)
  rw [lg_entry_eq]
  generalize (lg_sl ([.int x1]) ++ List.replicate (3 - (lg_sl ([.int x1])).length) Slot.unset).toArray = ls at hl ⊢
  have hl : lv_has ls 3 [(0, .int x1)] := hl
  have hP : va_P G.1 vwCl (w_X8_ones G ) s.heap := hP
  rw [fX8_ones] at h
  refine lv_iconst (v := (0 : Int32)) hx hb dX8_ones_0 (by decide) ?_
  refine lv_istore_n (lv' := [(1, .int (0 : Int32)), (0, .int x1)]) hx hb dX8_ones_1 rfl hl (by decide) rfl (fun ls hl => ?_)
  refine lv_iconst (v := (0 : Int32)) hx hb dX8_ones_2 (by decide) ?_
  refine lv_istore_n (lv' := [(2, .int (0 : Int32)), (1, .int (0 : Int32)), (0, .int x1)]) hx hb dX8_ones_3 rfl hl (by decide) rfl (fun ls hl => ?_)
  have loop_4 : ∀ (n : Nat) (K : Int32 → Option Int32) (l1_4 : Int32) (l2_4 : Int32) (H : Heap) (locs : List Loc) (ls : Array Slot), fX8_ones_L4 fu x1 K n l1_4 l2_4 = some rv → (∀ (l1_4e : Int32) (H : Heap) (locs : List Loc) (ls : Array Slot), K l1_4e = some rv → va_P G.1 vwCl (w_X8_ones G ) H → va_D A (w_X8_ones G ) → va_S A s.heap H locs → lv_has ls 3 [(1, .int l1_4e)] → W p l e (headSpec wsX8_ones { frames := 0, cells := 0, slots := 0, locals := 0 }).room s m ([.int x1] : List Value).toArray below meth c H locs 0 0 (MQ below (zQ (some (.int rv)) G (w_X8_ones G ) A) ([.int x1] : List Value).toArray s 0 0 A) (F0 m 24 ls [])) → va_P G.1 vwCl (w_X8_ones G ) H → va_D A (w_X8_ones G ) → va_S A s.heap H locs → lv_has ls 3 [(0, .int x1), (1, .int l1_4), (2, .int l2_4)] → W p l e (headSpec wsX8_ones { frames := 0, cells := 0, slots := 0, locals := 0 }).room s m ([.int x1] : List Value).toArray below meth c H locs 0 0 (MQ below (zQ (some (.int rv)) G (w_X8_ones G ) A) ([.int x1] : List Value).toArray s 0 0 A) (F0 m 4 ls []) := by
    intro n
    induction n with
    | zero => intro K l1_4 l2_4 H locs ls h; rw [fX8_ones_L4] at h; cases h
    | succ n ih =>
      intro K l1_4 l2_4 H locs ls h hk hP hD hS hl
      rw [fX8_ones_L4] at h
      refine lv_iload_n hx hb dX8_ones_4 rfl (lv_at hl 2 rfl) ?_
      refine lv_bipush (v := (8 : Int32)) hx hb dX8_ones_5 (by decide) ?_
      refine lv_icmp_ge (tgt := 24) hx hb dX8_ones_7 (by decide) (fun c7 => ?_) (fun c7 => ?_)
      · have h := zt c7 h
        exact hk _ _ _ _ h hP hD hS (lv_sub hl [1] rfl)
      · have h := zf c7 h
        refine lv_iload_n hx hb dX8_ones_10 rfl (lv_at hl 1 rfl) ?_
        refine lv_iload_n hx hb dX8_ones_11 rfl (lv_at hl 0 rfl) ?_
        refine lv_iload_n hx hb dX8_ones_12 rfl (lv_at hl 2 rfl) ?_
        refine lv_ishr hx hb dX8_ones_13 ?_
        refine lv_iconst (v := (1 : Int32)) hx hb dX8_ones_14 (by decide) ?_
        refine lv_iand hx hb dX8_ones_15 ?_
        refine lv_iadd hx hb dX8_ones_16 ?_
        refine lv_istore_n (lv' := [(1, .int (l1_4 + ((x1 >>> (l2_4 &&& 31)) &&& (1 : Int32)))), (0, .int x1), (2, .int l2_4)]) hx hb dX8_ones_17 rfl hl (by decide) rfl (fun ls hl => ?_)
        refine lv_iinc (v := (l2_4 + (1 : Int32))) (lv' := [(2, .int (l2_4 + (1 : Int32))), (1, .int (l1_4 + ((x1 >>> (l2_4 &&& 31)) &&& (1 : Int32)))), (0, .int x1)]) hx hb dX8_ones_18 hl (k := 2) rfl rfl (by decide) rfl (fun ls hl => ?_)
        refine lv_goto (tgt := 4) hx hb dX8_ones_21 (by decide) ?_
        exact ih K _ _ _ _ _ h hk hP hD hS (lv_sub hl [2, 1, 0] rfl)
  refine loop_4 fu _ _ _ _ _ _ h (fun l1_4e H locs ls h hP hD hS hl => ?_) hP hD hS (lv_sub hl [2, 1, 0] rfl)
  refine lv_iload_n hx hb dX8_ones_24 rfl (lv_at hl 0 rfl) ?_
  cases h
  exact W.iret hx hb hr (fun t9 ht9 _ => zend hP hD hS ht9) hS.2.2 dX8_ones_25
abbrev w_X8_type (G : zG) (a : Nat) (a_text : Nat) (a_clerk : Nat) (a_s : Nat) (a_kept : Nat) (a_isKept : Nat) (a_signed : Nat) (a_slips : Nat) (a_row : Nat) (a_best : Nat) (v_thrown : Int32) (v_trace : Int64) (v_typed : Int32) (v_next : Int32) (v_token : Int32) (v_place : Int32) (v_value : Int32) (v_fault : Int32) (v_clerks : Int32) (v_draftClerks : Int32) (v_draftLine : Int32) (v_signMany : Int32) (v_copies : Int32) (v_rowMany : Int32) (f_text : (Nat → Int32)) : va_W := [(a, .inr (8, [.int v_thrown, .long v_trace, .ref a_text, .int v_typed, .int v_next, .int v_token, .int v_place, .int v_value, .int v_fault, .ref a_clerk, .int v_clerks, .int v_draftClerks, .int v_draftLine, .ref a_s, .ref a_kept, .ref a_isKept, .ref a_signed, .int v_signMany, .ref a_slips, .int v_copies, .ref a_row, .ref a_best, .int v_rowMany])), (a_text, .inl (zCI G, 200, .inl f_text))]
theorem in_X8_type_X8 : ∀ w ∈ wsX80, w ∈ wsX8_type := by decide +kernel
set_option maxHeartbeats 4000000 in
set_option maxRecDepth 100000 in
theorem c_X8_type (l : Launch) (G : zG) (fu : Nat) (a : Nat) (a_text : Nat) (a_clerk : Nat) (a_s : Nat) (a_kept : Nat) (a_isKept : Nat) (a_signed : Nat) (a_slips : Nat) (a_row : Nat) (a_best : Nat) (v_thrown : Int32) (v_trace : Int64) (v_typed : Int32) (v_next : Int32) (v_token : Int32) (v_place : Int32) (v_value : Int32) (v_fault : Int32) (v_clerks : Int32) (v_draftClerks : Int32) (v_draftLine : Int32) (v_signMany : Int32) (v_copies : Int32) (v_rowMany : Int32) (f_text : (Nat → Int32)) (x1 : Int64) (x2 : Int32) (rv : Int32) (ov_thrown : Int32) (ov_typed : Int32) (of_text : (Nat → Int32)) (h : fX8_type fu v_thrown v_typed f_text x1 x2 = some (rv, ov_thrown, ov_typed, of_text)) : zC l yX8_type wsX8_type 1 22 G [.ref a, .long x1, .int x2] (w_X8_type G a a_text a_clerk a_s a_kept a_isKept a_signed a_slips a_row a_best v_thrown v_trace v_typed v_next v_token v_place v_value v_fault v_clerks v_draftClerks v_draftLine v_signMany v_copies v_rowMany f_text) (some (.int rv)) (w_X8_type G a a_text a_clerk a_s a_kept a_isKept a_signed a_slips a_row a_best ov_thrown v_trace ov_typed v_next v_token v_place v_value v_fault v_clerks v_draftClerks v_draftLine v_signMany v_copies v_rowMany of_text) := by
  refine fun sz => Met.ofW (cc := cX8_type) (maxL := 5) (ret := (some .int)) (by decide) rfl ?_
  intro p e s m args below meth c s₁ B hml hv
  obtain ⟨rfl, hsz, hP, hK, hD0, hE⟩ := hv
  have hx := B.exec
  have hb := B.bytes
  have hr := B.returns
  have hts := atoms_spec (ws := wsX8_type) B.pre
  have hown : s.vm.findClass RX8 = some m.cls := findClass_of_methodNamed B.named
  have hlocks := B.notSynchronized
  subst hsz
  have hD := hD0.self (sz := s.heap.size)
  generalize hAe : va_A (w_X8_type G a a_text a_clerk a_s a_kept a_isKept a_signed a_slips a_row a_best v_thrown v_trace v_typed v_next v_token v_place v_value v_fault v_clerks v_draftClerks v_draftLine v_signMany v_copies v_rowMany f_text) s.heap.size = A at hD hE ⊢
  have hA : ∀ q : Nat, s.heap.size ≤ q → A q := fun q h => by rw [← hAe]; exact Or.inr h
  have hS : va_S A s.heap s.heap [] := va_S.rf
  have hl := lv_entry ([.ref a, .long x1, .int x2]) (n := 5) (Nat.le_of_ble_eq_true rfl)
  rw [lg_entry_eq]
  generalize (lg_sl ([.ref a, .long x1, .int x2]) ++ List.replicate (5 - (lg_sl ([.ref a, .long x1, .int x2])).length) Slot.unset).toArray = ls at hl ⊢
  have hl : lv_has ls 5 [(0, .ref a), (1, .long x1), (3, .int x2)] := hl
  have hP : va_P G.1 vwCl (w_X8_type G a a_text a_clerk a_s a_kept a_isKept a_signed a_slips a_row a_best v_thrown v_trace v_typed v_next v_token v_place v_value v_fault v_clerks v_draftClerks v_draftLine v_signMany v_copies v_rowMany f_text) s.heap := hP
  rw [fX8_type] at h
  refine lv_aload_n hx hb dX8_type_0 rfl (lv_at hl 0 rfl) ?_
  refine lv_iconst (v := (0 : Int32)) hx hb dX8_type_1 (by decide) ?_
  refine zput1 (D := G.1) (ci := 8) (C := RX8) (T := TX8) (N := 23) (ty := .int) (ws' := (w_X8_type G a a_text a_clerk a_s a_kept a_isKept a_signed a_slips a_row a_best (0 : Int32) v_trace v_typed v_next v_token v_place v_value v_fault v_clerks v_draftClerks v_draftLine v_signMany v_copies v_rowMany f_text)) hx hb hts in_X8_type_X8 tyX8 tyX8_ok nmX8 hown hK.1 hP hD hS 0 rfl rfl 0 (by decide) (hts (.fieldLink RX8 42 "NineHandsModel" "thrown" "I") (by decide +kernel)) (fun _ h9 => h9) rfl (by decide +kernel) rfl rfl (Nat.le_of_ble_eq_true rfl) rfl dX8_type_2 (fun H locs hP hD hS => ?_)
  refine lv_iload_n hx hb dX8_type_5 rfl (lv_at hl 2 rfl) ?_
  refine lv_iconst (v := (1 : Int32)) hx hb dX8_type_6 (by decide) ?_
  refine lv_bipush (v := (8 : Int32)) hx hb dX8_type_7 (by decide) ?_
  obtain ⟨y9, hc9, h⟩ := zb1_e h
  refine zcS (As := [.int x2, .int (1 : Int32), .int (8 : Int32)]) (rest := []) (ws' := (w_X8_type G a a_text a_clerk a_s a_kept a_isKept a_signed a_slips a_row a_best (0 : Int32) v_trace v_typed v_next v_token v_place v_value v_fault v_clerks v_draftClerks v_draftLine v_signMany v_copies v_rowMany f_text)) (st1 := [.int y9]) ⟨hx, hb, hml, hown, hts⟩ (c_X8_in l G x2 (1 : Int32) (8 : Int32) y9 hc9) (va_cwS 3 hts gX8_type_X8_in rfl rfl rfl (by decide +kernel) ⟨Nat.le_of_ble_eq_true rfl, Nat.le_of_ble_eq_true rfl⟩) hK hE hP hD hS hA [] rfl rfl rfl rfl rfl hl.1 rfl (Nat.le_of_ble_eq_true rfl) dX8_type_9 (Nat.zero_le _) (Nat.zero_le _) rfl (fun H locs hP hD hS => ?_)
  refine lv_if_ne (tgt := 17) hx hb dX8_type_12 (by decide) (fun c12 => ?_) (fun c12 => ?_)
  · have h := zf c12 h
    refine lv_aload_n hx hb dX8_type_17 rfl (lv_at hl 0 rfl) ?_
    refine va_get (D := G.1) (ci := 8) (v := .int v_typed) (C := RX8) (T := TX8) (N := 23) hx hb hts in_X8_type_X8 hown hK.1 hP 0 rfl rfl 3 (by decide) (hts (.fieldLink RX8 50 "NineHandsModel" "typed" "I") (by decide +kernel)) (fun _ h9 => h9) rfl dX8_type_18 ?_
    refine lv_iload_n hx hb dX8_type_21 rfl (lv_at hl 2 rfl) ?_
    refine lv_iadd hx hb dX8_type_22 ?_
    refine lv_sipush (v := (200 : Int32)) hx hb dX8_type_23 (by decide) ?_
    refine lv_icmp_le (tgt := 32) hx hb dX8_type_26 (by decide) (fun c26 => ?_) (fun c26 => ?_)
    · have h := zt c26 h
      refine lv_iload_n hx hb dX8_type_32 rfl (lv_at hl 2 rfl) ?_
      refine lv_iconst (v := (1 : Int32)) hx hb dX8_type_33 (by decide) ?_
      refine lv_isub hx hb dX8_type_34 ?_
      refine lv_istore (lv' := [(4, .int (x2 - (1 : Int32))), (0, .ref a), (1, .long x1), (3, .int x2)]) hx hb dX8_type_35 hl (by decide) rfl (fun ls hl => ?_)
      have loop_37 : ∀ (n : Nat) (K : Int32 → (Nat → Int32) → Option (Int32 × Int32 × Int32 × (Nat → Int32))) (l4_37 : Int32) (v_typed_37 : Int32) (f_text_37 : (Nat → Int32)) (H : Heap) (locs : List Loc) (ls : Array Slot), fX8_type_L37 fu x1 K n l4_37 v_typed_37 f_text_37 = some (rv, ov_thrown, ov_typed, of_text) → (∀ (v_typed_37e : Int32) (f_text_37e : (Nat → Int32)) (H : Heap) (locs : List Loc) (ls : Array Slot), K v_typed_37e f_text_37e = some (rv, ov_thrown, ov_typed, of_text) → va_P G.1 vwCl (w_X8_type G a a_text a_clerk a_s a_kept a_isKept a_signed a_slips a_row a_best (0 : Int32) v_trace v_typed_37e v_next v_token v_place v_value v_fault v_clerks v_draftClerks v_draftLine v_signMany v_copies v_rowMany f_text_37e) H → va_D A (w_X8_type G a a_text a_clerk a_s a_kept a_isKept a_signed a_slips a_row a_best (0 : Int32) v_trace v_typed_37e v_next v_token v_place v_value v_fault v_clerks v_draftClerks v_draftLine v_signMany v_copies v_rowMany f_text_37e) → va_S A s.heap H locs → lv_has ls 5 [(0, .ref a)] → W p l e (headSpec wsX8_type { frames := 1, cells := 0, slots := 0, locals := 22 }).room s m ([.ref a, .long x1, .int x2] : List Value).toArray below meth c H locs 0 0 (MQ below (zQ (some (.int rv)) G (w_X8_type G a a_text a_clerk a_s a_kept a_isKept a_signed a_slips a_row a_best ov_thrown v_trace ov_typed v_next v_token v_place v_value v_fault v_clerks v_draftClerks v_draftLine v_signMany v_copies v_rowMany of_text) A) ([.ref a, .long x1, .int x2] : List Value).toArray s 0 0 A) (F0 m 79 ls [])) → va_P G.1 vwCl (w_X8_type G a a_text a_clerk a_s a_kept a_isKept a_signed a_slips a_row a_best (0 : Int32) v_trace v_typed_37 v_next v_token v_place v_value v_fault v_clerks v_draftClerks v_draftLine v_signMany v_copies v_rowMany f_text_37) H → va_D A (w_X8_type G a a_text a_clerk a_s a_kept a_isKept a_signed a_slips a_row a_best (0 : Int32) v_trace v_typed_37 v_next v_token v_place v_value v_fault v_clerks v_draftClerks v_draftLine v_signMany v_copies v_rowMany f_text_37) → va_S A s.heap H locs → lv_has ls 5 [(0, .ref a), (1, .long x1), (4, .int l4_37)] → W p l e (headSpec wsX8_type { frames := 1, cells := 0, slots := 0, locals := 22 }).room s m ([.ref a, .long x1, .int x2] : List Value).toArray below meth c H locs 0 0 (MQ below (zQ (some (.int rv)) G (w_X8_type G a a_text a_clerk a_s a_kept a_isKept a_signed a_slips a_row a_best ov_thrown v_trace ov_typed v_next v_token v_place v_value v_fault v_clerks v_draftClerks v_draftLine v_signMany v_copies v_rowMany of_text) A) ([.ref a, .long x1, .int x2] : List Value).toArray s 0 0 A) (F0 m 37 ls []) := by
        intro n
        induction n with
        | zero => intro K l4_37 v_typed_37 f_text_37 H locs ls h; rw [fX8_type_L37] at h; cases h
        | succ n ih =>
          intro K l4_37 v_typed_37 f_text_37 H locs ls h hk hP hD hS hl
          rw [fX8_type_L37] at h
          refine lv_iload hx hb dX8_type_37 (lv_at hl 2 rfl) ?_
          refine lv_if_lt (tgt := 79) hx hb dX8_type_39 (by decide) (fun c39 => ?_) (fun c39 => ?_)
          · have h := zt c39 h
            exact hk _ _ _ _ _ h hP hD hS (lv_sub hl [0] rfl)
          · have h := zf c39 h
            refine lv_aload_n hx hb dX8_type_42 rfl (lv_at hl 0 rfl) ?_
            refine va_get (D := G.1) (ci := 8) (v := .ref a_text) (C := RX8) (T := TX8) (N := 23) hx hb hts in_X8_type_X8 hown hK.1 hP 0 rfl rfl 2 (by decide) (hts (.fieldLink RX8 7 "NineHandsModel" "text" "[I") (by decide +kernel)) (fun _ h9 => h9) rfl dX8_type_43 ?_
            refine lv_aload_n hx hb dX8_type_46 rfl (lv_at hl 0 rfl) ?_
            refine va_get (D := G.1) (ci := 8) (v := .int v_typed_37) (C := RX8) (T := TX8) (N := 23) hx hb hts in_X8_type_X8 hown hK.1 hP 0 rfl rfl 3 (by decide) (hts (.fieldLink RX8 50 "NineHandsModel" "typed" "I") (by decide +kernel)) (fun _ h9 => h9) rfl dX8_type_47 ?_
            refine lv_lload_n hx hb dX8_type_50 rfl (lv_at hl 1 rfl) ?_
            refine lv_bipush (v := (8 : Int32)) hx hb dX8_type_51 (by decide) ?_
            refine lv_iload hx hb dX8_type_53 (lv_at hl 2 rfl) ?_
            refine lv_imul hx hb dX8_type_55 ?_
            refine lv_lshr (v := (x1 >>> ((((8 : Int32) * l4_37)).toInt64 &&& 63))) hx hb dX8_type_56 rfl ?_
            refine lv_ldc2 hx hb hown (hts (.constantLong RX8 53 (255)) (by decide +kernel)) dX8_type_57 ?_
            refine lv_land hx hb dX8_type_60 ?_
            refine lv_l2i (v := ((((x1 >>> ((((8 : Int32) * l4_37)).toInt64 &&& 63)) &&& (255 : Int64))).toInt32)) hx hb dX8_type_61 rfl ?_
            obtain ⟨g62, h⟩ := zg h
            refine zast hx hb hK.1 hP hD hS 1 0 rfl rfl g62 (j := (v_typed_37).toNatClampNeg) rfl (ws' := (w_X8_type G a a_text a_clerk a_s a_kept a_isKept a_signed a_slips a_row a_best (0 : Int32) v_trace v_typed_37 v_next v_token v_place v_value v_fault v_clerks v_draftClerks v_draftLine v_signMany v_copies v_rowMany (upd f_text_37 (v_typed_37).toNatClampNeg ((((x1 >>> ((((8 : Int32) * l4_37)).toInt64 &&& 63)) &&& (255 : Int64))).toInt32)))) rfl dX8_type_62 (fun H locs hP hD hS => ?_)
            refine lv_aload_n hx hb dX8_type_63 rfl (lv_at hl 0 rfl) ?_
            refine lv_dup hx hb dX8_type_64 rfl ?_
            refine va_get (D := G.1) (ci := 8) (v := .int v_typed_37) (C := RX8) (T := TX8) (N := 23) hx hb hts in_X8_type_X8 hown hK.1 hP 0 rfl rfl 3 (by decide) (hts (.fieldLink RX8 50 "NineHandsModel" "typed" "I") (by decide +kernel)) (fun _ h9 => h9) rfl dX8_type_65 ?_
            refine lv_iconst (v := (1 : Int32)) hx hb dX8_type_68 (by decide) ?_
            refine lv_iadd hx hb dX8_type_69 ?_
            refine zput1 (D := G.1) (ci := 8) (C := RX8) (T := TX8) (N := 23) (ty := .int) (ws' := (w_X8_type G a a_text a_clerk a_s a_kept a_isKept a_signed a_slips a_row a_best (0 : Int32) v_trace (v_typed_37 + (1 : Int32)) v_next v_token v_place v_value v_fault v_clerks v_draftClerks v_draftLine v_signMany v_copies v_rowMany (upd f_text_37 (v_typed_37).toNatClampNeg ((((x1 >>> ((((8 : Int32) * l4_37)).toInt64 &&& 63)) &&& (255 : Int64))).toInt32)))) hx hb hts in_X8_type_X8 tyX8 tyX8_ok nmX8 hown hK.1 hP hD hS 0 rfl rfl 3 (by decide) (hts (.fieldLink RX8 50 "NineHandsModel" "typed" "I") (by decide +kernel)) (fun _ h9 => h9) rfl (by decide +kernel) rfl rfl (Nat.le_of_ble_eq_true rfl) rfl dX8_type_70 (fun H locs hP hD hS => ?_)
            refine lv_iinc (v := (l4_37 + ((-1) : Int32))) (lv' := [(4, .int (l4_37 + ((-1) : Int32))), (0, .ref a), (1, .long x1)]) hx hb dX8_type_73 hl (k := 2) rfl rfl (by decide) rfl (fun ls hl => ?_)
            refine lv_goto (tgt := 37) hx hb dX8_type_76 (by decide) ?_
            exact ih K _ _ _ _ _ _ h hk hP hD hS (lv_sub hl [1, 2, 0] rfl)
      refine loop_37 fu _ _ _ _ _ _ _ h (fun v_typed_37e f_text_37e H locs ls h hP hD hS hl => ?_) hP hD hS (lv_sub hl [1, 2, 0] rfl)
      refine lv_aload_n hx hb dX8_type_79 rfl (lv_at hl 0 rfl) ?_
      refine va_get (D := G.1) (ci := 8) (v := .int v_typed_37e) (C := RX8) (T := TX8) (N := 23) hx hb hts in_X8_type_X8 hown hK.1 hP 0 rfl rfl 3 (by decide) (hts (.fieldLink RX8 50 "NineHandsModel" "typed" "I") (by decide +kernel)) (fun _ h9 => h9) rfl dX8_type_80 ?_
      cases h
      exact W.iret hx hb hr (fun t9 ht9 _ => zend hP hD hS ht9) hS.2.2 dX8_type_83
    · have h := zf c26 h
      refine lv_bipush (v := ((-3) : Int32)) hx hb dX8_type_29 (by decide) ?_
      cases h
      exact W.iret hx hb hr (fun t9 ht9 _ => zend hP hD hS ht9) hS.2.2 dX8_type_31
  · have h := zt c12 h
    refine lv_iconst (v := ((-1) : Int32)) hx hb dX8_type_15 (by decide) ?_
    cases h
    exact W.iret hx hb hr (fun t9 ht9 _ => zend hP hD hS ht9) hS.2.2 dX8_type_16
abbrev w_X8_clear (G : zG) (a : Nat) (a_text : Nat) (a_clerk : Nat) (a_s : Nat) (a_kept : Nat) (a_isKept : Nat) (a_signed : Nat) (a_slips : Nat) (a_row : Nat) (a_best : Nat) (v_thrown : Int32) (v_trace : Int64) (v_typed : Int32) (v_next : Int32) (v_token : Int32) (v_place : Int32) (v_value : Int32) (v_fault : Int32) (v_clerks : Int32) (v_draftClerks : Int32) (v_draftLine : Int32) (v_signMany : Int32) (v_copies : Int32) (v_rowMany : Int32) : va_W := [(a, .inr (8, [.int v_thrown, .long v_trace, .ref a_text, .int v_typed, .int v_next, .int v_token, .int v_place, .int v_value, .int v_fault, .ref a_clerk, .int v_clerks, .int v_draftClerks, .int v_draftLine, .ref a_s, .ref a_kept, .ref a_isKept, .ref a_signed, .int v_signMany, .ref a_slips, .int v_copies, .ref a_row, .ref a_best, .int v_rowMany]))]
theorem in_X8_clear_X8 : ∀ w ∈ wsX80, w ∈ wsX8_clear := by decide +kernel
set_option maxHeartbeats 4000000 in
set_option maxRecDepth 100000 in
theorem c_X8_clear (l : Launch) (G : zG) (a : Nat) (a_text : Nat) (a_clerk : Nat) (a_s : Nat) (a_kept : Nat) (a_isKept : Nat) (a_signed : Nat) (a_slips : Nat) (a_row : Nat) (a_best : Nat) (v_thrown : Int32) (v_trace : Int64) (v_typed : Int32) (v_next : Int32) (v_token : Int32) (v_place : Int32) (v_value : Int32) (v_fault : Int32) (v_clerks : Int32) (v_draftClerks : Int32) (v_draftLine : Int32) (v_signMany : Int32) (v_copies : Int32) (v_rowMany : Int32) (rv : Int32) (ov_thrown : Int32) (ov_typed : Int32) (h : fX8_clear v_thrown v_typed = some (rv, ov_thrown, ov_typed)) : zC l yX8_clear wsX8_clear 0 0 G [.ref a] (w_X8_clear G a a_text a_clerk a_s a_kept a_isKept a_signed a_slips a_row a_best v_thrown v_trace v_typed v_next v_token v_place v_value v_fault v_clerks v_draftClerks v_draftLine v_signMany v_copies v_rowMany) (some (.int rv)) (w_X8_clear G a a_text a_clerk a_s a_kept a_isKept a_signed a_slips a_row a_best ov_thrown v_trace ov_typed v_next v_token v_place v_value v_fault v_clerks v_draftClerks v_draftLine v_signMany v_copies v_rowMany) := by
  refine fun sz => Met.ofW (cc := cX8_clear) (maxL := 2) (ret := (some .int)) (by decide) rfl ?_
  intro p e s m args below meth c s₁ B hml hv
  obtain ⟨rfl, hsz, hP, hK, hD0, hE⟩ := hv
  have hx := B.exec
  have hb := B.bytes
  have hr := B.returns
  have hts := atoms_spec (ws := wsX8_clear) B.pre
  have hown : s.vm.findClass RX8 = some m.cls := findClass_of_methodNamed B.named
  have hlocks := B.notSynchronized
  subst hsz
  have hD := hD0.self (sz := s.heap.size)
  generalize hAe : va_A (w_X8_clear G a a_text a_clerk a_s a_kept a_isKept a_signed a_slips a_row a_best v_thrown v_trace v_typed v_next v_token v_place v_value v_fault v_clerks v_draftClerks v_draftLine v_signMany v_copies v_rowMany) s.heap.size = A at hD hE ⊢
  have hA : ∀ q : Nat, s.heap.size ≤ q → A q := fun q h => by rw [← hAe]; exact Or.inr h
  have hS : va_S A s.heap s.heap [] := va_S.rf
  have hl := lv_entry ([.ref a]) (n := 2) (Nat.le_of_ble_eq_true rfl)
  rw [lg_entry_eq]
  generalize (lg_sl ([.ref a]) ++ List.replicate (2 - (lg_sl ([.ref a])).length) Slot.unset).toArray = ls at hl ⊢
  have hl : lv_has ls 2 [(0, .ref a)] := hl
  have hP : va_P G.1 vwCl (w_X8_clear G a a_text a_clerk a_s a_kept a_isKept a_signed a_slips a_row a_best v_thrown v_trace v_typed v_next v_token v_place v_value v_fault v_clerks v_draftClerks v_draftLine v_signMany v_copies v_rowMany) s.heap := hP
  rw [fX8_clear] at h
  refine lv_aload_n hx hb dX8_clear_0 rfl (lv_at hl 0 rfl) ?_
  refine lv_iconst (v := (0 : Int32)) hx hb dX8_clear_1 (by decide) ?_
  refine zput1 (D := G.1) (ci := 8) (C := RX8) (T := TX8) (N := 23) (ty := .int) (ws' := (w_X8_clear G a a_text a_clerk a_s a_kept a_isKept a_signed a_slips a_row a_best (0 : Int32) v_trace v_typed v_next v_token v_place v_value v_fault v_clerks v_draftClerks v_draftLine v_signMany v_copies v_rowMany)) hx hb hts in_X8_clear_X8 tyX8 tyX8_ok nmX8 hown hK.1 hP hD hS 0 rfl rfl 0 (by decide) (hts (.fieldLink RX8 42 "NineHandsModel" "thrown" "I") (by decide +kernel)) (fun _ h9 => h9) rfl (by decide +kernel) rfl rfl (Nat.le_of_ble_eq_true rfl) rfl dX8_clear_2 (fun H locs hP hD hS => ?_)
  refine lv_aload_n hx hb dX8_clear_5 rfl (lv_at hl 0 rfl) ?_
  refine va_get (D := G.1) (ci := 8) (v := .int v_typed) (C := RX8) (T := TX8) (N := 23) hx hb hts in_X8_clear_X8 hown hK.1 hP 0 rfl rfl 3 (by decide) (hts (.fieldLink RX8 50 "NineHandsModel" "typed" "I") (by decide +kernel)) (fun _ h9 => h9) rfl dX8_clear_6 ?_
  refine lv_istore_n (lv' := [(1, .int v_typed), (0, .ref a)]) hx hb dX8_clear_9 rfl hl (by decide) rfl (fun ls hl => ?_)
  refine lv_aload_n hx hb dX8_clear_10 rfl (lv_at hl 1 rfl) ?_
  refine lv_iconst (v := (0 : Int32)) hx hb dX8_clear_11 (by decide) ?_
  refine zput1 (D := G.1) (ci := 8) (C := RX8) (T := TX8) (N := 23) (ty := .int) (ws' := (w_X8_clear G a a_text a_clerk a_s a_kept a_isKept a_signed a_slips a_row a_best (0 : Int32) v_trace (0 : Int32) v_next v_token v_place v_value v_fault v_clerks v_draftClerks v_draftLine v_signMany v_copies v_rowMany)) hx hb hts in_X8_clear_X8 tyX8 tyX8_ok nmX8 hown hK.1 hP hD hS 0 rfl rfl 3 (by decide) (hts (.fieldLink RX8 50 "NineHandsModel" "typed" "I") (by decide +kernel)) (fun _ h9 => h9) rfl (by decide +kernel) rfl rfl (Nat.le_of_ble_eq_true rfl) rfl dX8_clear_12 (fun H locs hP hD hS => ?_)
  refine lv_iload_n hx hb dX8_clear_15 rfl (lv_at hl 0 rfl) ?_
  cases h
  exact W.iret hx hb hr (fun t9 ht9 _ => zend hP hD hS ht9) hS.2.2 dX8_clear_16
abbrev w_X8_byteAt (G : zG) (a : Nat) (a_text : Nat) (a_clerk : Nat) (a_s : Nat) (a_kept : Nat) (a_isKept : Nat) (a_signed : Nat) (a_slips : Nat) (a_row : Nat) (a_best : Nat) (v_thrown : Int32) (v_trace : Int64) (v_typed : Int32) (v_next : Int32) (v_token : Int32) (v_place : Int32) (v_value : Int32) (v_fault : Int32) (v_clerks : Int32) (v_draftClerks : Int32) (v_draftLine : Int32) (v_signMany : Int32) (v_copies : Int32) (v_rowMany : Int32) (f_text : (Nat → Int32)) : va_W := [(a, .inr (8, [.int v_thrown, .long v_trace, .ref a_text, .int v_typed, .int v_next, .int v_token, .int v_place, .int v_value, .int v_fault, .ref a_clerk, .int v_clerks, .int v_draftClerks, .int v_draftLine, .ref a_s, .ref a_kept, .ref a_isKept, .ref a_signed, .int v_signMany, .ref a_slips, .int v_copies, .ref a_row, .ref a_best, .int v_rowMany])), (a_text, .inl (zCI G, 200, .inl f_text))]
theorem in_X8_byteAt_X8 : ∀ w ∈ wsX80, w ∈ wsX8_byteAt := by decide +kernel
set_option maxHeartbeats 4000000 in
set_option maxRecDepth 100000 in
theorem c_X8_byteAt (l : Launch) (G : zG) (a : Nat) (a_text : Nat) (a_clerk : Nat) (a_s : Nat) (a_kept : Nat) (a_isKept : Nat) (a_signed : Nat) (a_slips : Nat) (a_row : Nat) (a_best : Nat) (v_thrown : Int32) (v_trace : Int64) (v_typed : Int32) (v_next : Int32) (v_token : Int32) (v_place : Int32) (v_value : Int32) (v_fault : Int32) (v_clerks : Int32) (v_draftClerks : Int32) (v_draftLine : Int32) (v_signMany : Int32) (v_copies : Int32) (v_rowMany : Int32) (f_text : (Nat → Int32)) (x1 : Int32) (rv : Int32) (h : fX8_byteAt v_typed f_text x1 = some rv) : zC l yX8_byteAt wsX8_byteAt 0 0 G [.ref a, .int x1] (w_X8_byteAt G a a_text a_clerk a_s a_kept a_isKept a_signed a_slips a_row a_best v_thrown v_trace v_typed v_next v_token v_place v_value v_fault v_clerks v_draftClerks v_draftLine v_signMany v_copies v_rowMany f_text) (some (.int rv)) (w_X8_byteAt G a a_text a_clerk a_s a_kept a_isKept a_signed a_slips a_row a_best v_thrown v_trace v_typed v_next v_token v_place v_value v_fault v_clerks v_draftClerks v_draftLine v_signMany v_copies v_rowMany f_text) := by
  refine fun sz => Met.ofW (cc := cX8_byteAt) (maxL := 2) (ret := (some .int)) (by decide) rfl ?_
  intro p e s m args below meth c s₁ B hml hv
  obtain ⟨rfl, hsz, hP, hK, hD0, hE⟩ := hv
  have hx := B.exec
  have hb := B.bytes
  have hr := B.returns
  have hts := atoms_spec (ws := wsX8_byteAt) B.pre
  have hown : s.vm.findClass RX8 = some m.cls := findClass_of_methodNamed B.named
  have hlocks := B.notSynchronized
  subst hsz
  have hD := hD0.self (sz := s.heap.size)
  generalize hAe : va_A (w_X8_byteAt G a a_text a_clerk a_s a_kept a_isKept a_signed a_slips a_row a_best v_thrown v_trace v_typed v_next v_token v_place v_value v_fault v_clerks v_draftClerks v_draftLine v_signMany v_copies v_rowMany f_text) s.heap.size = A at hD hE ⊢
  have hA : ∀ q : Nat, s.heap.size ≤ q → A q := fun q h => by rw [← hAe]; exact Or.inr h
  have hS : va_S A s.heap s.heap [] := va_S.rf
  have hl := lv_entry ([.ref a, .int x1]) (n := 2) (Nat.le_of_ble_eq_true rfl)
  rw [lg_entry_eq]
  generalize (lg_sl ([.ref a, .int x1]) ++ List.replicate (2 - (lg_sl ([.ref a, .int x1])).length) Slot.unset).toArray = ls at hl ⊢
  have hl : lv_has ls 2 [(0, .ref a), (1, .int x1)] := hl
  have hP : va_P G.1 vwCl (w_X8_byteAt G a a_text a_clerk a_s a_kept a_isKept a_signed a_slips a_row a_best v_thrown v_trace v_typed v_next v_token v_place v_value v_fault v_clerks v_draftClerks v_draftLine v_signMany v_copies v_rowMany f_text) s.heap := hP
  rw [fX8_byteAt] at h
  refine lv_iload_n hx hb dX8_byteAt_0 rfl (lv_at hl 1 rfl) ?_
  refine lv_aload_n hx hb dX8_byteAt_1 rfl (lv_at hl 0 rfl) ?_
  refine va_get (D := G.1) (ci := 8) (v := .int v_typed) (C := RX8) (T := TX8) (N := 23) hx hb hts in_X8_byteAt_X8 hown hK.1 hP 0 rfl rfl 3 (by decide) (hts (.fieldLink RX8 50 "NineHandsModel" "typed" "I") (by decide +kernel)) (fun _ h9 => h9) rfl dX8_byteAt_2 ?_
  refine lv_icmp_ge (tgt := 17) hx hb dX8_byteAt_5 (by decide) (fun c5 => ?_) (fun c5 => ?_)
  · have h := zt c5 h
    refine lv_iconst (v := ((-1) : Int32)) hx hb dX8_byteAt_17 (by decide) ?_
    cases h
    exact W.iret hx hb hr (fun t9 ht9 _ => zend hP hD hS ht9) hS.2.2 dX8_byteAt_18
  · have h := zf c5 h
    refine lv_aload_n hx hb dX8_byteAt_8 rfl (lv_at hl 0 rfl) ?_
    refine va_get (D := G.1) (ci := 8) (v := .ref a_text) (C := RX8) (T := TX8) (N := 23) hx hb hts in_X8_byteAt_X8 hown hK.1 hP 0 rfl rfl 2 (by decide) (hts (.fieldLink RX8 7 "NineHandsModel" "text" "[I") (by decide +kernel)) (fun _ h9 => h9) rfl dX8_byteAt_9 ?_
    refine lv_iload_n hx hb dX8_byteAt_12 rfl (lv_at hl 1 rfl) ?_
    obtain ⟨g13, h⟩ := zg h
    refine zald hx hb hK.1 hP 1 0 rfl rfl g13 (j := (x1).toNatClampNeg) rfl dX8_byteAt_13 ?_
    refine lv_goto (tgt := 18) hx hb dX8_byteAt_14 (by decide) ?_
    cases h
    exact W.iret hx hb hr (fun t9 ht9 _ => zend hP hD hS ht9) hS.2.2 dX8_byteAt_18
abbrev w_X8_add (G : zG) : va_W := []
set_option maxHeartbeats 4000000 in
set_option maxRecDepth 100000 in
theorem c_X8_add (l : Launch) (G : zG) (x1 : Int64) (x2 : Int32) (rv : Int64) (h : fX8_add x1 x2 = some rv) : zC l yX8_add wsX8_add 0 0 G [.long x1, .int x2] (w_X8_add G ) (some (.long rv)) (w_X8_add G ) := by
  refine fun sz => Met.ofW (cc := cX8_add) (maxL := 3) (ret := (some .long)) (by decide) rfl ?_
  intro p e s m args below meth c s₁ B hml hv
  obtain ⟨rfl, hsz, hP, hK, hD0, hE⟩ := hv
  have hx := B.exec
  have hb := B.bytes
  have hr := B.returns
  have hts := atoms_spec (ws := wsX8_add) B.pre
  have hown : s.vm.findClass RX8 = some m.cls := findClass_of_methodNamed B.named
  have hlocks := B.notSynchronized
  subst hsz
  have hD := hD0.self (sz := s.heap.size)
  generalize hAe : va_A (w_X8_add G ) s.heap.size = A at hD hE ⊢
  have hA : ∀ q : Nat, s.heap.size ≤ q → A q := fun q h => by rw [← hAe]; exact Or.inr h
  have hS : va_S A s.heap s.heap [] := va_S.rf
  have hl := lv_entry ([.long x1, .int x2]) (n := 3) (Nat.le_of_ble_eq_true rfl)
  rw [lg_entry_eq]
  generalize (lg_sl ([.long x1, .int x2]) ++ List.replicate (3 - (lg_sl ([.long x1, .int x2])).length) Slot.unset).toArray = ls at hl ⊢
  have hl : lv_has ls 3 [(0, .long x1), (2, .int x2)] := hl
  have hP : va_P G.1 vwCl (w_X8_add G ) s.heap := hP
  rw [fX8_add] at h
  refine lv_iload_n hx hb dX8_add_0 rfl (lv_at hl 1 rfl) ?_
  refine lv_if_ne (tgt := 8) hx hb dX8_add_1 (by decide) (fun c1 => ?_) (fun c1 => ?_)
  · have h := zf c1 h
    refine lv_ldc2 hx hb hown (hts (.constantLong RX8 55 (256)) (by decide +kernel)) dX8_add_8 ?_
    refine lv_lload_n hx hb dX8_add_11 rfl (lv_at hl 0 rfl) ?_
    refine lv_lmul hx hb dX8_add_12 ?_
    refine lv_iload_n hx hb dX8_add_13 rfl (lv_at hl 1 rfl) ?_
    refine lv_i2l (v := ((x2).toInt64)) hx hb dX8_add_14 rfl ?_
    refine lv_ladd hx hb dX8_add_15 ?_
    cases h
    exact W.lret hx hb hr (fun t9 ht9 _ => zend hP hD hS ht9) hS.2.2 dX8_add_16
  · have h := zt c1 h
    refine lv_lload_n hx hb dX8_add_4 rfl (lv_at hl 0 rfl) ?_
    refine lv_goto (tgt := 16) hx hb dX8_add_5 (by decide) ?_
    cases h
    exact W.lret hx hb hr (fun t9 ht9 _ => zend hP hD hS ht9) hS.2.2 dX8_add_16
abbrev w_X8_named (G : zG) : va_W := []
set_option maxHeartbeats 4000000 in
set_option maxRecDepth 100000 in
theorem c_X8_named (l : Launch) (G : zG) (x1 : Int32) (x2 : Int32) (x3 : Int32) (x4 : Int32) (x5 : Int32) (x6 : Int32) (rv : Int64) (h : fX8_named x1 x2 x3 x4 x5 x6 = some rv) : zC l yX8_named wsX8_named 1 22 G [.int x1, .int x2, .int x3, .int x4, .int x5, .int x6] (w_X8_named G ) (some (.long rv)) (w_X8_named G ) := by
  refine fun sz => Met.ofW (cc := cX8_named) (maxL := 6) (ret := (some .long)) (by decide) rfl ?_
  intro p e s m args below meth c s₁ B hml hv
  obtain ⟨rfl, hsz, hP, hK, hD0, hE⟩ := hv
  have hx := B.exec
  have hb := B.bytes
  have hr := B.returns
  have hts := atoms_spec (ws := wsX8_named) B.pre
  have hown : s.vm.findClass RX8 = some m.cls := findClass_of_methodNamed B.named
  have hlocks := B.notSynchronized
  subst hsz
  have hD := hD0.self (sz := s.heap.size)
  generalize hAe : va_A (w_X8_named G ) s.heap.size = A at hD hE ⊢
  have hA : ∀ q : Nat, s.heap.size ≤ q → A q := fun q h => by rw [← hAe]; exact Or.inr h
  have hS : va_S A s.heap s.heap [] := va_S.rf
  have hl := lv_entry ([.int x1, .int x2, .int x3, .int x4, .int x5, .int x6]) (n := 6) (Nat.le_of_ble_eq_true rfl)
  rw [lg_entry_eq]
  generalize (lg_sl ([.int x1, .int x2, .int x3, .int x4, .int x5, .int x6]) ++ List.replicate (6 - (lg_sl ([.int x1, .int x2, .int x3, .int x4, .int x5, .int x6])).length) Slot.unset).toArray = ls at hl ⊢
  have hl : lv_has ls 6 [(0, .int x1), (1, .int x2), (2, .int x3), (3, .int x4), (4, .int x5), (5, .int x6)] := hl
  have hP : va_P G.1 vwCl (w_X8_named G ) s.heap := hP
  rw [fX8_named] at h
  refine lv_lconst (v := (0 : Int64)) hx hb dX8_named_0 (by decide) ?_
  refine lv_iload_n hx hb dX8_named_1 rfl (lv_at hl 0 rfl) ?_
  obtain ⟨y2, hc2, h⟩ := zb1_e h
  refine zcS (As := [.long (0 : Int64), .int x1]) (rest := []) (ws' := (w_X8_named G )) (st1 := [.long y2]) ⟨hx, hb, hml, hown, hts⟩ (c_X8_add l G (0 : Int64) x1 y2 hc2) (va_cwS 2 hts gX8_named_X8_add rfl rfl rfl (by decide +kernel) ⟨Nat.le_of_ble_eq_true rfl, Nat.le_of_ble_eq_true rfl⟩) hK hE hP hD hS hA [] rfl rfl rfl rfl rfl hl.1 rfl (Nat.le_of_ble_eq_true rfl) dX8_named_2 (Nat.zero_le _) (Nat.zero_le _) rfl (fun H locs hP hD hS => ?_)
  refine lv_iload_n hx hb dX8_named_5 rfl (lv_at hl 1 rfl) ?_
  obtain ⟨y6, hc6, h⟩ := zb1_e h
  refine zcS (As := [.long y2, .int x2]) (rest := []) (ws' := (w_X8_named G )) (st1 := [.long y6]) ⟨hx, hb, hml, hown, hts⟩ (c_X8_add l G y2 x2 y6 hc6) (va_cwS 2 hts gX8_named_X8_add rfl rfl rfl (by decide +kernel) ⟨Nat.le_of_ble_eq_true rfl, Nat.le_of_ble_eq_true rfl⟩) hK hE hP hD hS hA [] rfl rfl rfl rfl rfl hl.1 rfl (Nat.le_of_ble_eq_true rfl) dX8_named_6 (Nat.zero_le _) (Nat.zero_le _) rfl (fun H locs hP hD hS => ?_)
  refine lv_iload_n hx hb dX8_named_9 rfl (lv_at hl 2 rfl) ?_
  obtain ⟨y10, hc10, h⟩ := zb1_e h
  refine zcS (As := [.long y6, .int x3]) (rest := []) (ws' := (w_X8_named G )) (st1 := [.long y10]) ⟨hx, hb, hml, hown, hts⟩ (c_X8_add l G y6 x3 y10 hc10) (va_cwS 2 hts gX8_named_X8_add rfl rfl rfl (by decide +kernel) ⟨Nat.le_of_ble_eq_true rfl, Nat.le_of_ble_eq_true rfl⟩) hK hE hP hD hS hA [] rfl rfl rfl rfl rfl hl.1 rfl (Nat.le_of_ble_eq_true rfl) dX8_named_10 (Nat.zero_le _) (Nat.zero_le _) rfl (fun H locs hP hD hS => ?_)
  refine lv_iload_n hx hb dX8_named_13 rfl (lv_at hl 3 rfl) ?_
  obtain ⟨y14, hc14, h⟩ := zb1_e h
  refine zcS (As := [.long y10, .int x4]) (rest := []) (ws' := (w_X8_named G )) (st1 := [.long y14]) ⟨hx, hb, hml, hown, hts⟩ (c_X8_add l G y10 x4 y14 hc14) (va_cwS 2 hts gX8_named_X8_add rfl rfl rfl (by decide +kernel) ⟨Nat.le_of_ble_eq_true rfl, Nat.le_of_ble_eq_true rfl⟩) hK hE hP hD hS hA [] rfl rfl rfl rfl rfl hl.1 rfl (Nat.le_of_ble_eq_true rfl) dX8_named_14 (Nat.zero_le _) (Nat.zero_le _) rfl (fun H locs hP hD hS => ?_)
  refine lv_iload hx hb dX8_named_17 (lv_at hl 4 rfl) ?_
  obtain ⟨y19, hc19, h⟩ := zb1_e h
  refine zcS (As := [.long y14, .int x5]) (rest := []) (ws' := (w_X8_named G )) (st1 := [.long y19]) ⟨hx, hb, hml, hown, hts⟩ (c_X8_add l G y14 x5 y19 hc19) (va_cwS 2 hts gX8_named_X8_add rfl rfl rfl (by decide +kernel) ⟨Nat.le_of_ble_eq_true rfl, Nat.le_of_ble_eq_true rfl⟩) hK hE hP hD hS hA [] rfl rfl rfl rfl rfl hl.1 rfl (Nat.le_of_ble_eq_true rfl) dX8_named_19 (Nat.zero_le _) (Nat.zero_le _) rfl (fun H locs hP hD hS => ?_)
  refine lv_iload hx hb dX8_named_22 (lv_at hl 5 rfl) ?_
  obtain ⟨y24, hc24, h⟩ := zb1_e h
  refine zcS (As := [.long y19, .int x6]) (rest := []) (ws' := (w_X8_named G )) (st1 := [.long y24]) ⟨hx, hb, hml, hown, hts⟩ (c_X8_add l G y19 x6 y24 hc24) (va_cwS 2 hts gX8_named_X8_add rfl rfl rfl (by decide +kernel) ⟨Nat.le_of_ble_eq_true rfl, Nat.le_of_ble_eq_true rfl⟩) hK hE hP hD hS hA [] rfl rfl rfl rfl rfl hl.1 rfl (Nat.le_of_ble_eq_true rfl) dX8_named_24 (Nat.zero_le _) (Nat.zero_le _) rfl (fun H locs hP hD hS => ?_)
  cases h
  exact W.lret hx hb hr (fun t9 ht9 _ => zend hP hD hS ht9) hS.2.2 dX8_named_27
abbrev w_X8_wordOf (G : zG) : va_W := []
set_option maxHeartbeats 4000000 in
set_option maxRecDepth 100000 in
theorem c_X8_wordOf (l : Launch) (G : zG) (x1 : Int64) (rv : Int32) (h : fX8_wordOf x1 = some rv) : zC l yX8_wordOf wsX8_wordOf 2 47 G [.long x1] (w_X8_wordOf G ) (some (.int rv)) (w_X8_wordOf G ) := by
  refine fun sz => Met.ofW (cc := cX8_wordOf) (maxL := 2) (ret := (some .int)) (by decide) rfl ?_
  intro p e s m args below meth c s₁ B hml hv
  obtain ⟨rfl, hsz, hP, hK, hD0, hE⟩ := hv
  have hx := B.exec
  have hb := B.bytes
  have hr := B.returns
  have hts := atoms_spec (ws := wsX8_wordOf) B.pre
  have hown : s.vm.findClass RX8 = some m.cls := findClass_of_methodNamed B.named
  have hlocks := B.notSynchronized
  subst hsz
  have hD := hD0.self (sz := s.heap.size)
  generalize hAe : va_A (w_X8_wordOf G ) s.heap.size = A at hD hE ⊢
  have hA : ∀ q : Nat, s.heap.size ≤ q → A q := fun q h => by rw [← hAe]; exact Or.inr h
  have hS : va_S A s.heap s.heap [] := va_S.rf
  have hl := lv_entry ([.long x1]) (n := 2) (Nat.le_of_ble_eq_true rfl)
  rw [lg_entry_eq]
  generalize (lg_sl ([.long x1]) ++ List.replicate (2 - (lg_sl ([.long x1])).length) Slot.unset).toArray = ls at hl ⊢
  have hl : lv_has ls 2 [(0, .long x1)] := hl
  have hP : va_P G.1 vwCl (w_X8_wordOf G ) s.heap := hP
  rw [fX8_wordOf] at h
  refine lv_lload_n hx hb dX8_wordOf_0 rfl (lv_at hl 0 rfl) ?_
  refine lv_bipush (v := (99 : Int32)) hx hb dX8_wordOf_1 (by decide) ?_
  refine lv_bipush (v := (108 : Int32)) hx hb dX8_wordOf_3 (by decide) ?_
  refine lv_bipush (v := (101 : Int32)) hx hb dX8_wordOf_5 (by decide) ?_
  refine lv_bipush (v := (114 : Int32)) hx hb dX8_wordOf_7 (by decide) ?_
  refine lv_bipush (v := (107 : Int32)) hx hb dX8_wordOf_9 (by decide) ?_
  refine lv_iconst (v := (0 : Int32)) hx hb dX8_wordOf_11 (by decide) ?_
  obtain ⟨y12, hc12, h⟩ := zb1_e h
  refine zcS (As := [.int (99 : Int32), .int (108 : Int32), .int (101 : Int32), .int (114 : Int32), .int (107 : Int32), .int (0 : Int32)]) (rest := [.long x1]) (ws' := (w_X8_wordOf G )) (st1 := [.long y12, .long x1]) ⟨hx, hb, hml, hown, hts⟩ (c_X8_named l G (99 : Int32) (108 : Int32) (101 : Int32) (114 : Int32) (107 : Int32) (0 : Int32) y12 hc12) (va_cwS 6 hts gX8_wordOf_X8_named rfl rfl rfl (by decide +kernel) ⟨Nat.le_of_ble_eq_true rfl, Nat.le_of_ble_eq_true rfl⟩) hK hE hP hD hS hA [] rfl rfl rfl rfl rfl hl.1 rfl (Nat.le_of_ble_eq_true rfl) dX8_wordOf_12 (Nat.zero_le _) (Nat.zero_le _) rfl (fun H locs hP hD hS => ?_)
  refine W.lcmp hx hb dX8_wordOf_15 ?_
  refine lv_if_ne (tgt := 23) hx hb dX8_wordOf_16 (by decide) (fun c16 => ?_) (fun c16 => ?_)
  · have h := zf c16 h
    refine lv_lload_n hx hb dX8_wordOf_23 rfl (lv_at hl 0 rfl) ?_
    refine lv_bipush (v := (108 : Int32)) hx hb dX8_wordOf_24 (by decide) ?_
    refine lv_bipush (v := (101 : Int32)) hx hb dX8_wordOf_26 (by decide) ?_
    refine lv_bipush (v := (116 : Int32)) hx hb dX8_wordOf_28 (by decide) ?_
    refine lv_bipush (v := (116 : Int32)) hx hb dX8_wordOf_30 (by decide) ?_
    refine lv_bipush (v := (101 : Int32)) hx hb dX8_wordOf_32 (by decide) ?_
    refine lv_bipush (v := (114 : Int32)) hx hb dX8_wordOf_34 (by decide) ?_
    obtain ⟨y36, hc36, h⟩ := zb1_e h
    refine zcS (As := [.int (108 : Int32), .int (101 : Int32), .int (116 : Int32), .int (116 : Int32), .int (101 : Int32), .int (114 : Int32)]) (rest := [.long x1]) (ws' := (w_X8_wordOf G )) (st1 := [.long y36, .long x1]) ⟨hx, hb, hml, hown, hts⟩ (c_X8_named l G (108 : Int32) (101 : Int32) (116 : Int32) (116 : Int32) (101 : Int32) (114 : Int32) y36 hc36) (va_cwS 6 hts gX8_wordOf_X8_named rfl rfl rfl (by decide +kernel) ⟨Nat.le_of_ble_eq_true rfl, Nat.le_of_ble_eq_true rfl⟩) hK hE hP hD hS hA [] rfl rfl rfl rfl rfl hl.1 rfl (Nat.le_of_ble_eq_true rfl) dX8_wordOf_36 (Nat.zero_le _) (Nat.zero_le _) rfl (fun H locs hP hD hS => ?_)
    refine W.lcmp hx hb dX8_wordOf_39 ?_
    refine lv_if_ne (tgt := 47) hx hb dX8_wordOf_40 (by decide) (fun c40 => ?_) (fun c40 => ?_)
    · have h := zf c40 h
      refine lv_bipush (v := ((-9) : Int32)) hx hb dX8_wordOf_47 (by decide) ?_
      cases h
      exact W.iret hx hb hr (fun t9 ht9 _ => zend hP hD hS ht9) hS.2.2 dX8_wordOf_49
    · have h := zt c40 h
      refine lv_iconst (v := (1 : Int32)) hx hb dX8_wordOf_43 (by decide) ?_
      refine lv_goto (tgt := 49) hx hb dX8_wordOf_44 (by decide) ?_
      cases h
      exact W.iret hx hb hr (fun t9 ht9 _ => zend hP hD hS ht9) hS.2.2 dX8_wordOf_49
  · have h := zt c16 h
    refine lv_iconst (v := (0 : Int32)) hx hb dX8_wordOf_19 (by decide) ?_
    refine lv_goto (tgt := 49) hx hb dX8_wordOf_20 (by decide) ?_
    cases h
    exact W.iret hx hb hr (fun t9 ht9 _ => zend hP hD hS ht9) hS.2.2 dX8_wordOf_49
abbrev w_X8_advances (G : zG) (a : Nat) (a_text : Nat) (a_clerk : Nat) (a_s : Nat) (a_kept : Nat) (a_isKept : Nat) (a_signed : Nat) (a_slips : Nat) (a_row : Nat) (a_best : Nat) (v_thrown : Int32) (v_trace : Int64) (v_typed : Int32) (v_next : Int32) (v_token : Int32) (v_place : Int32) (v_value : Int32) (v_fault : Int32) (v_clerks : Int32) (v_draftClerks : Int32) (v_draftLine : Int32) (v_signMany : Int32) (v_copies : Int32) (v_rowMany : Int32) (f_text : (Nat → Int32)) : va_W := [(a, .inr (8, [.int v_thrown, .long v_trace, .ref a_text, .int v_typed, .int v_next, .int v_token, .int v_place, .int v_value, .int v_fault, .ref a_clerk, .int v_clerks, .int v_draftClerks, .int v_draftLine, .ref a_s, .ref a_kept, .ref a_isKept, .ref a_signed, .int v_signMany, .ref a_slips, .int v_copies, .ref a_row, .ref a_best, .int v_rowMany])), (a_text, .inl (zCI G, 200, .inl f_text))]
theorem in_X8_advances_X8 : ∀ w ∈ wsX80, w ∈ wsX8_advances := by decide +kernel
set_option maxHeartbeats 4000000 in
set_option maxRecDepth 100000 in
theorem c_X8_advances (l : Launch) (G : zG) (fu : Nat) (a : Nat) (a_text : Nat) (a_clerk : Nat) (a_s : Nat) (a_kept : Nat) (a_isKept : Nat) (a_signed : Nat) (a_slips : Nat) (a_row : Nat) (a_best : Nat) (v_thrown : Int32) (v_trace : Int64) (v_typed : Int32) (v_next : Int32) (v_token : Int32) (v_place : Int32) (v_value : Int32) (v_fault : Int32) (v_clerks : Int32) (v_draftClerks : Int32) (v_draftLine : Int32) (v_signMany : Int32) (v_copies : Int32) (v_rowMany : Int32) (f_text : (Nat → Int32)) (ov_next : Int32) (ov_token : Int32) (ov_place : Int32) (ov_value : Int32) (h : fX8_advances fu v_typed v_next v_token v_place v_value f_text = some (ov_next, ov_token, ov_place, ov_value)) : zC l yX8_advances wsX8_advances 3 68 G [.ref a] (w_X8_advances G a a_text a_clerk a_s a_kept a_isKept a_signed a_slips a_row a_best v_thrown v_trace v_typed v_next v_token v_place v_value v_fault v_clerks v_draftClerks v_draftLine v_signMany v_copies v_rowMany f_text) none (w_X8_advances G a a_text a_clerk a_s a_kept a_isKept a_signed a_slips a_row a_best v_thrown v_trace v_typed ov_next ov_token ov_place ov_value v_fault v_clerks v_draftClerks v_draftLine v_signMany v_copies v_rowMany f_text) := by
  refine fun sz => Met.ofW (cc := cX8_advances) (maxL := 4) (ret := none) (by decide) rfl ?_
  intro p e s m args below meth c s₁ B hml hv
  obtain ⟨rfl, hsz, hP, hK, hD0, hE⟩ := hv
  have hx := B.exec
  have hb := B.bytes
  have hr := B.returns
  have hts := atoms_spec (ws := wsX8_advances) B.pre
  have hown : s.vm.findClass RX8 = some m.cls := findClass_of_methodNamed B.named
  have hlocks := B.notSynchronized
  subst hsz
  have hD := hD0.self (sz := s.heap.size)
  generalize hAe : va_A (w_X8_advances G a a_text a_clerk a_s a_kept a_isKept a_signed a_slips a_row a_best v_thrown v_trace v_typed v_next v_token v_place v_value v_fault v_clerks v_draftClerks v_draftLine v_signMany v_copies v_rowMany f_text) s.heap.size = A at hD hE ⊢
  have hA : ∀ q : Nat, s.heap.size ≤ q → A q := fun q h => by rw [← hAe]; exact Or.inr h
  have hS : va_S A s.heap s.heap [] := va_S.rf
  have hl := lv_entry ([.ref a]) (n := 4) (Nat.le_of_ble_eq_true rfl)
  rw [lg_entry_eq]
  generalize (lg_sl ([.ref a]) ++ List.replicate (4 - (lg_sl ([.ref a])).length) Slot.unset).toArray = ls at hl ⊢
  have hl : lv_has ls 4 [(0, .ref a)] := hl
  have hP : va_P G.1 vwCl (w_X8_advances G a a_text a_clerk a_s a_kept a_isKept a_signed a_slips a_row a_best v_thrown v_trace v_typed v_next v_token v_place v_value v_fault v_clerks v_draftClerks v_draftLine v_signMany v_copies v_rowMany f_text) s.heap := hP
  rw [fX8_advances] at h
  have loop_0 : ∀ (n : Nat) (K : Int32 → Option (Int32 × Int32 × Int32 × Int32)) (v_next_0 : Int32) (H : Heap) (locs : List Loc) (ls : Array Slot), fX8_advances_L0 fu v_typed f_text K n v_next_0 = some (ov_next, ov_token, ov_place, ov_value) → (∀ (v_next_0e : Int32) (H : Heap) (locs : List Loc) (ls : Array Slot), K v_next_0e = some (ov_next, ov_token, ov_place, ov_value) → va_P G.1 vwCl (w_X8_advances G a a_text a_clerk a_s a_kept a_isKept a_signed a_slips a_row a_best v_thrown v_trace v_typed v_next_0e v_token v_place v_value v_fault v_clerks v_draftClerks v_draftLine v_signMany v_copies v_rowMany f_text) H → va_D A (w_X8_advances G a a_text a_clerk a_s a_kept a_isKept a_signed a_slips a_row a_best v_thrown v_trace v_typed v_next_0e v_token v_place v_value v_fault v_clerks v_draftClerks v_draftLine v_signMany v_copies v_rowMany f_text) → va_S A s.heap H locs → lv_has ls 4 [(0, .ref a)] → W p l e (headSpec wsX8_advances { frames := 3, cells := 0, slots := 0, locals := 68 }).room s m ([.ref a] : List Value).toArray below meth c H locs 0 0 (MQ below (zQ none G (w_X8_advances G a a_text a_clerk a_s a_kept a_isKept a_signed a_slips a_row a_best v_thrown v_trace v_typed ov_next ov_token ov_place ov_value v_fault v_clerks v_draftClerks v_draftLine v_signMany v_copies v_rowMany f_text) A) ([.ref a] : List Value).toArray s 0 0 A) (F0 m 26 ls [])) → va_P G.1 vwCl (w_X8_advances G a a_text a_clerk a_s a_kept a_isKept a_signed a_slips a_row a_best v_thrown v_trace v_typed v_next_0 v_token v_place v_value v_fault v_clerks v_draftClerks v_draftLine v_signMany v_copies v_rowMany f_text) H → va_D A (w_X8_advances G a a_text a_clerk a_s a_kept a_isKept a_signed a_slips a_row a_best v_thrown v_trace v_typed v_next_0 v_token v_place v_value v_fault v_clerks v_draftClerks v_draftLine v_signMany v_copies v_rowMany f_text) → va_S A s.heap H locs → lv_has ls 4 [(0, .ref a)] → W p l e (headSpec wsX8_advances { frames := 3, cells := 0, slots := 0, locals := 68 }).room s m ([.ref a] : List Value).toArray below meth c H locs 0 0 (MQ below (zQ none G (w_X8_advances G a a_text a_clerk a_s a_kept a_isKept a_signed a_slips a_row a_best v_thrown v_trace v_typed ov_next ov_token ov_place ov_value v_fault v_clerks v_draftClerks v_draftLine v_signMany v_copies v_rowMany f_text) A) ([.ref a] : List Value).toArray s 0 0 A) (F0 m 0 ls []) := by
    intro n
    induction n with
    | zero => intro K v_next_0 H locs ls h; rw [fX8_advances_L0] at h; cases h
    | succ n ih =>
      intro K v_next_0 H locs ls h hk hP hD hS hl
      rw [fX8_advances_L0] at h
      refine lv_aload_n hx hb dX8_advances_0 rfl (lv_at hl 0 rfl) ?_
      refine lv_aload_n hx hb dX8_advances_1 rfl (lv_at hl 0 rfl) ?_
      refine va_get (D := G.1) (ci := 8) (v := .int v_next_0) (C := RX8) (T := TX8) (N := 23) hx hb hts in_X8_advances_X8 hown hK.1 hP 0 rfl rfl 4 (by decide) (hts (.fieldLink RX8 65 "NineHandsModel" "next" "I") (by decide +kernel)) (fun _ h9 => h9) rfl dX8_advances_2 ?_
      obtain ⟨y5, hc5, h⟩ := zb1_e h
      refine zcV (As := [.int v_next_0]) (rest := []) (ws' := (w_X8_advances G a a_text a_clerk a_s a_kept a_isKept a_signed a_slips a_row a_best v_thrown v_trace v_typed v_next_0 v_token v_place v_value v_fault v_clerks v_draftClerks v_draftLine v_signMany v_copies v_rowMany f_text)) (st1 := [.int y5]) ⟨hx, hb, hml, hown, hts⟩ (c_X8_byteAt l G a a_text a_clerk a_s a_kept a_isKept a_signed a_slips a_row a_best v_thrown v_trace v_typed v_next_0 v_token v_place v_value v_fault v_clerks v_draftClerks v_draftLine v_signMany v_copies v_rowMany f_text v_next_0 y5 hc5) (cwV 1 hts gX8_advances_X8_byteAt rfl rfl rfl (by decide +kernel) ⟨Nat.le_of_ble_eq_true rfl, Nat.le_of_ble_eq_true rfl⟩) hK hE hP hD hS hA [0, 1] rfl rfl 0 8 rfl rfl rfl rfl rfl rfl hl.1 rfl (Nat.le_of_ble_eq_true rfl) dX8_advances_5 (Nat.zero_le _) (Nat.zero_le _) rfl (fun H locs hP hD hS => ?_)
      refine lv_bipush (v := (32 : Int32)) hx hb dX8_advances_8 (by decide) ?_
      refine lv_icmp_ne (tgt := 26) hx hb dX8_advances_10 (by decide) (fun c10 => ?_) (fun c10 => ?_)
      · have h := zf c10 h
        exact hk _ _ _ _ h hP hD hS (lv_sub hl [0] rfl)
      · have h := zt c10 h
        refine lv_aload_n hx hb dX8_advances_13 rfl (lv_at hl 0 rfl) ?_
        refine lv_dup hx hb dX8_advances_14 rfl ?_
        refine va_get (D := G.1) (ci := 8) (v := .int v_next_0) (C := RX8) (T := TX8) (N := 23) hx hb hts in_X8_advances_X8 hown hK.1 hP 0 rfl rfl 4 (by decide) (hts (.fieldLink RX8 65 "NineHandsModel" "next" "I") (by decide +kernel)) (fun _ h9 => h9) rfl dX8_advances_15 ?_
        refine lv_iconst (v := (1 : Int32)) hx hb dX8_advances_18 (by decide) ?_
        refine lv_iadd hx hb dX8_advances_19 ?_
        refine zput1 (D := G.1) (ci := 8) (C := RX8) (T := TX8) (N := 23) (ty := .int) (ws' := (w_X8_advances G a a_text a_clerk a_s a_kept a_isKept a_signed a_slips a_row a_best v_thrown v_trace v_typed (v_next_0 + (1 : Int32)) v_token v_place v_value v_fault v_clerks v_draftClerks v_draftLine v_signMany v_copies v_rowMany f_text)) hx hb hts in_X8_advances_X8 tyX8 tyX8_ok nmX8 hown hK.1 hP hD hS 0 rfl rfl 4 (by decide) (hts (.fieldLink RX8 65 "NineHandsModel" "next" "I") (by decide +kernel)) (fun _ h9 => h9) rfl (by decide +kernel) rfl rfl (Nat.le_of_ble_eq_true rfl) rfl dX8_advances_20 (fun H locs hP hD hS => ?_)
        refine lv_goto (tgt := 0) hx hb dX8_advances_23 (by decide) ?_
        exact ih K _ _ _ _ h hk hP hD hS (lv_sub hl [0] rfl)
  refine loop_0 fu _ _ _ _ _ h (fun v_next_0e H locs ls h hP hD hS hl => ?_) hP hD hS (lv_sub hl [0] rfl)
  refine lv_aload_n hx hb dX8_advances_26 rfl (lv_at hl 0 rfl) ?_
  refine lv_aload_n hx hb dX8_advances_27 rfl (lv_at hl 0 rfl) ?_
  refine va_get (D := G.1) (ci := 8) (v := .int v_next_0e) (C := RX8) (T := TX8) (N := 23) hx hb hts in_X8_advances_X8 hown hK.1 hP 0 rfl rfl 4 (by decide) (hts (.fieldLink RX8 65 "NineHandsModel" "next" "I") (by decide +kernel)) (fun _ h9 => h9) rfl dX8_advances_28 ?_
  refine zput1 (D := G.1) (ci := 8) (C := RX8) (T := TX8) (N := 23) (ty := .int) (ws' := (w_X8_advances G a a_text a_clerk a_s a_kept a_isKept a_signed a_slips a_row a_best v_thrown v_trace v_typed v_next_0e v_token v_next_0e v_value v_fault v_clerks v_draftClerks v_draftLine v_signMany v_copies v_rowMany f_text)) hx hb hts in_X8_advances_X8 tyX8 tyX8_ok nmX8 hown hK.1 hP hD hS 0 rfl rfl 6 (by decide) (hts (.fieldLink RX8 72 "NineHandsModel" "place" "I") (by decide +kernel)) (fun _ h9 => h9) rfl (by decide +kernel) rfl rfl (Nat.le_of_ble_eq_true rfl) rfl dX8_advances_31 (fun H locs hP hD hS => ?_)
  refine lv_aload_n hx hb dX8_advances_34 rfl (lv_at hl 0 rfl) ?_
  refine lv_aload_n hx hb dX8_advances_35 rfl (lv_at hl 0 rfl) ?_
  refine va_get (D := G.1) (ci := 8) (v := .int v_next_0e) (C := RX8) (T := TX8) (N := 23) hx hb hts in_X8_advances_X8 hown hK.1 hP 0 rfl rfl 4 (by decide) (hts (.fieldLink RX8 65 "NineHandsModel" "next" "I") (by decide +kernel)) (fun _ h9 => h9) rfl dX8_advances_36 ?_
  obtain ⟨y39, hc39, h⟩ := zb1_e h
  refine zcV (As := [.int v_next_0e]) (rest := []) (ws' := (w_X8_advances G a a_text a_clerk a_s a_kept a_isKept a_signed a_slips a_row a_best v_thrown v_trace v_typed v_next_0e v_token v_next_0e v_value v_fault v_clerks v_draftClerks v_draftLine v_signMany v_copies v_rowMany f_text)) (st1 := [.int y39]) ⟨hx, hb, hml, hown, hts⟩ (c_X8_byteAt l G a a_text a_clerk a_s a_kept a_isKept a_signed a_slips a_row a_best v_thrown v_trace v_typed v_next_0e v_token v_next_0e v_value v_fault v_clerks v_draftClerks v_draftLine v_signMany v_copies v_rowMany f_text v_next_0e y39 hc39) (cwV 1 hts gX8_advances_X8_byteAt rfl rfl rfl (by decide +kernel) ⟨Nat.le_of_ble_eq_true rfl, Nat.le_of_ble_eq_true rfl⟩) hK hE hP hD hS hA [0, 1] rfl rfl 0 8 rfl rfl rfl rfl rfl rfl hl.1 rfl (Nat.le_of_ble_eq_true rfl) dX8_advances_39 (Nat.zero_le _) (Nat.zero_le _) rfl (fun H locs hP hD hS => ?_)
  refine lv_istore_n (lv' := [(1, .int y39), (0, .ref a)]) hx hb dX8_advances_42 rfl hl (by decide) rfl (fun ls hl => ?_)
  refine lv_iload_n hx hb dX8_advances_43 rfl (lv_at hl 0 rfl) ?_
  refine lv_if_ge (tgt := 55) hx hb dX8_advances_44 (by decide) (fun c44 => ?_) (fun c44 => ?_)
  · have h := zt c44 h
    refine lv_iload_n hx hb dX8_advances_55 rfl (lv_at hl 0 rfl) ?_
    refine lv_bipush (v := (97 : Int32)) hx hb dX8_advances_56 (by decide) ?_
    refine lv_bipush (v := (122 : Int32)) hx hb dX8_advances_58 (by decide) ?_
    obtain ⟨y60, hc60, h⟩ := zb1_e h
    refine zcS (As := [.int y39, .int (97 : Int32), .int (122 : Int32)]) (rest := []) (ws' := (w_X8_advances G a a_text a_clerk a_s a_kept a_isKept a_signed a_slips a_row a_best v_thrown v_trace v_typed v_next_0e v_token v_next_0e v_value v_fault v_clerks v_draftClerks v_draftLine v_signMany v_copies v_rowMany f_text)) (st1 := [.int y60]) ⟨hx, hb, hml, hown, hts⟩ (c_X8_in l G y39 (97 : Int32) (122 : Int32) y60 hc60) (va_cwS 3 hts gX8_advances_X8_in rfl rfl rfl (by decide +kernel) ⟨Nat.le_of_ble_eq_true rfl, Nat.le_of_ble_eq_true rfl⟩) hK hE hP hD hS hA [] rfl rfl rfl rfl rfl hl.1 rfl (Nat.le_of_ble_eq_true rfl) dX8_advances_60 (Nat.zero_le _) (Nat.zero_le _) rfl (fun H locs hP hD hS => ?_)
    refine lv_if_eq (tgt := 159) hx hb dX8_advances_63 (by decide) (fun c63 => ?_) (fun c63 => ?_)
    · have h := zt c63 h
      refine lv_iload_n hx hb dX8_advances_159 rfl (lv_at hl 0 rfl) ?_
      refine lv_bipush (v := (48 : Int32)) hx hb dX8_advances_160 (by decide) ?_
      refine lv_bipush (v := (57 : Int32)) hx hb dX8_advances_162 (by decide) ?_
      obtain ⟨y164, hc164, h⟩ := zb1_e h
      refine zcS (As := [.int y39, .int (48 : Int32), .int (57 : Int32)]) (rest := []) (ws' := (w_X8_advances G a a_text a_clerk a_s a_kept a_isKept a_signed a_slips a_row a_best v_thrown v_trace v_typed v_next_0e v_token v_next_0e v_value v_fault v_clerks v_draftClerks v_draftLine v_signMany v_copies v_rowMany f_text)) (st1 := [.int y164]) ⟨hx, hb, hml, hown, hts⟩ (c_X8_in l G y39 (48 : Int32) (57 : Int32) y164 hc164) (va_cwS 3 hts gX8_advances_X8_in rfl rfl rfl (by decide +kernel) ⟨Nat.le_of_ble_eq_true rfl, Nat.le_of_ble_eq_true rfl⟩) hK hE hP hD hS hA [] rfl rfl rfl rfl rfl hl.1 rfl (Nat.le_of_ble_eq_true rfl) dX8_advances_164 (Nat.zero_le _) (Nat.zero_le _) rfl (fun H locs hP hD hS => ?_)
      refine lv_if_eq (tgt := 285) hx hb dX8_advances_167 (by decide) (fun c167 => ?_) (fun c167 => ?_)
      · have h := zt c167 h
        refine lv_aload_n hx hb dX8_advances_285 rfl (lv_at hl 1 rfl) ?_
        refine lv_dup hx hb dX8_advances_286 rfl ?_
        refine va_get (D := G.1) (ci := 8) (v := .int v_next_0e) (C := RX8) (T := TX8) (N := 23) hx hb hts in_X8_advances_X8 hown hK.1 hP 0 rfl rfl 4 (by decide) (hts (.fieldLink RX8 65 "NineHandsModel" "next" "I") (by decide +kernel)) (fun _ h9 => h9) rfl dX8_advances_287 ?_
        refine lv_iconst (v := (1 : Int32)) hx hb dX8_advances_290 (by decide) ?_
        refine lv_iadd hx hb dX8_advances_291 ?_
        refine zput1 (D := G.1) (ci := 8) (C := RX8) (T := TX8) (N := 23) (ty := .int) (ws' := (w_X8_advances G a a_text a_clerk a_s a_kept a_isKept a_signed a_slips a_row a_best v_thrown v_trace v_typed (v_next_0e + (1 : Int32)) v_token v_next_0e v_value v_fault v_clerks v_draftClerks v_draftLine v_signMany v_copies v_rowMany f_text)) hx hb hts in_X8_advances_X8 tyX8 tyX8_ok nmX8 hown hK.1 hP hD hS 0 rfl rfl 4 (by decide) (hts (.fieldLink RX8 65 "NineHandsModel" "next" "I") (by decide +kernel)) (fun _ h9 => h9) rfl (by decide +kernel) rfl rfl (Nat.le_of_ble_eq_true rfl) rfl dX8_advances_292 (fun H locs hP hD hS => ?_)
        refine lv_aload_n hx hb dX8_advances_295 rfl (lv_at hl 1 rfl) ?_
        refine lv_iload_n hx hb dX8_advances_296 rfl (lv_at hl 0 rfl) ?_
        refine lv_bipush (v := (59 : Int32)) hx hb dX8_advances_297 (by decide) ?_
        refine lv_icmp_ne (tgt := 306) hx hb dX8_advances_299 (by decide) (fun c299 => ?_) (fun c299 => ?_)
        · have h := zf c299 h
          refine lv_iconst (v := (4 : Int32)) hx hb dX8_advances_306 (by decide) ?_
          refine zput1 (D := G.1) (ci := 8) (C := RX8) (T := TX8) (N := 23) (ty := .int) (ws' := (w_X8_advances G a a_text a_clerk a_s a_kept a_isKept a_signed a_slips a_row a_best v_thrown v_trace v_typed (v_next_0e + (1 : Int32)) (4 : Int32) v_next_0e v_value v_fault v_clerks v_draftClerks v_draftLine v_signMany v_copies v_rowMany f_text)) hx hb hts in_X8_advances_X8 tyX8 tyX8_ok nmX8 hown hK.1 hP hD hS 0 rfl rfl 5 (by decide) (hts (.fieldLink RX8 75 "NineHandsModel" "token" "I") (by decide +kernel)) (fun _ h9 => h9) rfl (by decide +kernel) rfl rfl (Nat.le_of_ble_eq_true rfl) rfl dX8_advances_307 (fun H locs hP hD hS => ?_)
          cases h
          exact W.vret hx hb hr (fun t9 ht9 _ => zend hP hD hS ht9) hS.2.2 dX8_advances_310
        · have h := zt c299 h
          refine lv_iconst (v := (3 : Int32)) hx hb dX8_advances_302 (by decide) ?_
          refine lv_goto (tgt := 307) hx hb dX8_advances_303 (by decide) ?_
          refine zput1 (D := G.1) (ci := 8) (C := RX8) (T := TX8) (N := 23) (ty := .int) (ws' := (w_X8_advances G a a_text a_clerk a_s a_kept a_isKept a_signed a_slips a_row a_best v_thrown v_trace v_typed (v_next_0e + (1 : Int32)) (3 : Int32) v_next_0e v_value v_fault v_clerks v_draftClerks v_draftLine v_signMany v_copies v_rowMany f_text)) hx hb hts in_X8_advances_X8 tyX8 tyX8_ok nmX8 hown hK.1 hP hD hS 0 rfl rfl 5 (by decide) (hts (.fieldLink RX8 75 "NineHandsModel" "token" "I") (by decide +kernel)) (fun _ h9 => h9) rfl (by decide +kernel) rfl rfl (Nat.le_of_ble_eq_true rfl) rfl dX8_advances_307 (fun H locs hP hD hS => ?_)
          cases h
          exact W.vret hx hb hr (fun t9 ht9 _ => zend hP hD hS ht9) hS.2.2 dX8_advances_310
      · have h := zf c167 h
        refine lv_aload_n hx hb dX8_advances_170 rfl (lv_at hl 1 rfl) ?_
        refine lv_iconst (v := (0 : Int32)) hx hb dX8_advances_171 (by decide) ?_
        refine zput1 (D := G.1) (ci := 8) (C := RX8) (T := TX8) (N := 23) (ty := .int) (ws' := (w_X8_advances G a a_text a_clerk a_s a_kept a_isKept a_signed a_slips a_row a_best v_thrown v_trace v_typed v_next_0e v_token v_next_0e (0 : Int32) v_fault v_clerks v_draftClerks v_draftLine v_signMany v_copies v_rowMany f_text)) hx hb hts in_X8_advances_X8 tyX8 tyX8_ok nmX8 hown hK.1 hP hD hS 0 rfl rfl 7 (by decide) (hts (.fieldLink RX8 82 "NineHandsModel" "value" "I") (by decide +kernel)) (fun _ h9 => h9) rfl (by decide +kernel) rfl rfl (Nat.le_of_ble_eq_true rfl) rfl dX8_advances_172 (fun H locs hP hD hS => ?_)
        have loop_175 : ∀ (n : Nat) (K : Int32 → Int32 → Option (Int32 × Int32 × Int32 × Int32)) (v_next_175 : Int32) (v_value_175 : Int32) (H : Heap) (locs : List Loc) (ls : Array Slot), fX8_advances_L175 fu y39 v_typed f_text K n v_next_175 v_value_175 = some (ov_next, ov_token, ov_place, ov_value) → (∀ (v_next_175e : Int32) (v_value_175e : Int32) (H : Heap) (locs : List Loc) (ls : Array Slot), K v_next_175e v_value_175e = some (ov_next, ov_token, ov_place, ov_value) → va_P G.1 vwCl (w_X8_advances G a a_text a_clerk a_s a_kept a_isKept a_signed a_slips a_row a_best v_thrown v_trace v_typed v_next_175e v_token v_next_0e v_value_175e v_fault v_clerks v_draftClerks v_draftLine v_signMany v_copies v_rowMany f_text) H → va_D A (w_X8_advances G a a_text a_clerk a_s a_kept a_isKept a_signed a_slips a_row a_best v_thrown v_trace v_typed v_next_175e v_token v_next_0e v_value_175e v_fault v_clerks v_draftClerks v_draftLine v_signMany v_copies v_rowMany f_text) → va_S A s.heap H locs → lv_has ls 4 [(0, .ref a), (1, .int y39)] → W p l e (headSpec wsX8_advances { frames := 3, cells := 0, slots := 0, locals := 68 }).room s m ([.ref a] : List Value).toArray below meth c H locs 0 0 (MQ below (zQ none G (w_X8_advances G a a_text a_clerk a_s a_kept a_isKept a_signed a_slips a_row a_best v_thrown v_trace v_typed ov_next ov_token ov_place ov_value v_fault v_clerks v_draftClerks v_draftLine v_signMany v_copies v_rowMany f_text) A) ([.ref a] : List Value).toArray s 0 0 A) (F0 m 245 ls [])) → va_P G.1 vwCl (w_X8_advances G a a_text a_clerk a_s a_kept a_isKept a_signed a_slips a_row a_best v_thrown v_trace v_typed v_next_175 v_token v_next_0e v_value_175 v_fault v_clerks v_draftClerks v_draftLine v_signMany v_copies v_rowMany f_text) H → va_D A (w_X8_advances G a a_text a_clerk a_s a_kept a_isKept a_signed a_slips a_row a_best v_thrown v_trace v_typed v_next_175 v_token v_next_0e v_value_175 v_fault v_clerks v_draftClerks v_draftLine v_signMany v_copies v_rowMany f_text) → va_S A s.heap H locs → lv_has ls 4 [(0, .ref a), (1, .int y39)] → W p l e (headSpec wsX8_advances { frames := 3, cells := 0, slots := 0, locals := 68 }).room s m ([.ref a] : List Value).toArray below meth c H locs 0 0 (MQ below (zQ none G (w_X8_advances G a a_text a_clerk a_s a_kept a_isKept a_signed a_slips a_row a_best v_thrown v_trace v_typed ov_next ov_token ov_place ov_value v_fault v_clerks v_draftClerks v_draftLine v_signMany v_copies v_rowMany f_text) A) ([.ref a] : List Value).toArray s 0 0 A) (F0 m 175 ls []) := by
          intro n
          induction n with
          | zero => intro K v_next_175 v_value_175 H locs ls h; rw [fX8_advances_L175] at h; cases h
          | succ n ih =>
            intro K v_next_175 v_value_175 H locs ls h hk hP hD hS hl
            rw [fX8_advances_L175] at h
            have join_229 : ∀ (s1_229 : Int32) (v_next_229 : Int32) (v_value_229 : Int32) (H : Heap) (locs : List Loc) (ls : Array Slot), fX8_advances_J229 fu y39 K (fun (v_next_175b : Int32) (v_value_175b : Int32) => fX8_advances_L175 fu y39 v_typed f_text K n v_next_175b v_value_175b) s1_229 v_next_229 v_value_229 = some (ov_next, ov_token, ov_place, ov_value) → va_P G.1 vwCl (w_X8_advances G a a_text a_clerk a_s a_kept a_isKept a_signed a_slips a_row a_best v_thrown v_trace v_typed v_next_229 v_token v_next_0e v_value_229 v_fault v_clerks v_draftClerks v_draftLine v_signMany v_copies v_rowMany f_text) H → va_D A (w_X8_advances G a a_text a_clerk a_s a_kept a_isKept a_signed a_slips a_row a_best v_thrown v_trace v_typed v_next_229 v_token v_next_0e v_value_229 v_fault v_clerks v_draftClerks v_draftLine v_signMany v_copies v_rowMany f_text) → va_S A s.heap H locs → lv_has ls 4 [(0, .ref a), (1, .int y39)] → W p l e (headSpec wsX8_advances { frames := 3, cells := 0, slots := 0, locals := 68 }).room s m ([.ref a] : List Value).toArray below meth c H locs 0 0 (MQ below (zQ none G (w_X8_advances G a a_text a_clerk a_s a_kept a_isKept a_signed a_slips a_row a_best v_thrown v_trace v_typed ov_next ov_token ov_place ov_value v_fault v_clerks v_draftClerks v_draftLine v_signMany v_copies v_rowMany f_text) A) ([.ref a] : List Value).toArray s 0 0 A) (F0 m 229 ls [.int s1_229, .ref a]) := by
              intro s1_229 v_next_229 v_value_229 H locs ls h hP hD hS hl
              rw [fX8_advances_J229] at h
              refine zput1 (D := G.1) (ci := 8) (C := RX8) (T := TX8) (N := 23) (ty := .int) (ws' := (w_X8_advances G a a_text a_clerk a_s a_kept a_isKept a_signed a_slips a_row a_best v_thrown v_trace v_typed v_next_229 v_token v_next_0e s1_229 v_fault v_clerks v_draftClerks v_draftLine v_signMany v_copies v_rowMany f_text)) hx hb hts in_X8_advances_X8 tyX8 tyX8_ok nmX8 hown hK.1 hP hD hS 0 rfl rfl 7 (by decide) (hts (.fieldLink RX8 82 "NineHandsModel" "value" "I") (by decide +kernel)) (fun _ h9 => h9) rfl (by decide +kernel) rfl rfl (Nat.le_of_ble_eq_true rfl) rfl dX8_advances_229 (fun H locs hP hD hS => ?_)
              refine lv_aload_n hx hb dX8_advances_232 rfl (lv_at hl 0 rfl) ?_
              refine lv_dup hx hb dX8_advances_233 rfl ?_
              refine va_get (D := G.1) (ci := 8) (v := .int v_next_229) (C := RX8) (T := TX8) (N := 23) hx hb hts in_X8_advances_X8 hown hK.1 hP 0 rfl rfl 4 (by decide) (hts (.fieldLink RX8 65 "NineHandsModel" "next" "I") (by decide +kernel)) (fun _ h9 => h9) rfl dX8_advances_234 ?_
              refine lv_iconst (v := (1 : Int32)) hx hb dX8_advances_237 (by decide) ?_
              refine lv_iadd hx hb dX8_advances_238 ?_
              refine zput1 (D := G.1) (ci := 8) (C := RX8) (T := TX8) (N := 23) (ty := .int) (ws' := (w_X8_advances G a a_text a_clerk a_s a_kept a_isKept a_signed a_slips a_row a_best v_thrown v_trace v_typed (v_next_229 + (1 : Int32)) v_token v_next_0e s1_229 v_fault v_clerks v_draftClerks v_draftLine v_signMany v_copies v_rowMany f_text)) hx hb hts in_X8_advances_X8 tyX8 tyX8_ok nmX8 hown hK.1 hP hD hS 0 rfl rfl 4 (by decide) (hts (.fieldLink RX8 65 "NineHandsModel" "next" "I") (by decide +kernel)) (fun _ h9 => h9) rfl (by decide +kernel) rfl rfl (Nat.le_of_ble_eq_true rfl) rfl dX8_advances_239 (fun H locs hP hD hS => ?_)
              refine lv_goto (tgt := 175) hx hb dX8_advances_242 (by decide) ?_
              exact ih K _ _ _ _ _ h hk hP hD hS (lv_sub hl [0, 1] rfl)
            refine lv_aload_n hx hb dX8_advances_175 rfl (lv_at hl 0 rfl) ?_
            refine lv_aload_n hx hb dX8_advances_176 rfl (lv_at hl 0 rfl) ?_
            refine va_get (D := G.1) (ci := 8) (v := .int v_next_175) (C := RX8) (T := TX8) (N := 23) hx hb hts in_X8_advances_X8 hown hK.1 hP 0 rfl rfl 4 (by decide) (hts (.fieldLink RX8 65 "NineHandsModel" "next" "I") (by decide +kernel)) (fun _ h9 => h9) rfl dX8_advances_177 ?_
            obtain ⟨y180, hc180, h⟩ := zb1_e h
            refine zcV (As := [.int v_next_175]) (rest := []) (ws' := (w_X8_advances G a a_text a_clerk a_s a_kept a_isKept a_signed a_slips a_row a_best v_thrown v_trace v_typed v_next_175 v_token v_next_0e v_value_175 v_fault v_clerks v_draftClerks v_draftLine v_signMany v_copies v_rowMany f_text)) (st1 := [.int y180]) ⟨hx, hb, hml, hown, hts⟩ (c_X8_byteAt l G a a_text a_clerk a_s a_kept a_isKept a_signed a_slips a_row a_best v_thrown v_trace v_typed v_next_175 v_token v_next_0e v_value_175 v_fault v_clerks v_draftClerks v_draftLine v_signMany v_copies v_rowMany f_text v_next_175 y180 hc180) (cwV 1 hts gX8_advances_X8_byteAt rfl rfl rfl (by decide +kernel) ⟨Nat.le_of_ble_eq_true rfl, Nat.le_of_ble_eq_true rfl⟩) hK hE hP hD hS hA [0, 1] rfl rfl 0 8 rfl rfl rfl rfl rfl rfl hl.1 rfl (Nat.le_of_ble_eq_true rfl) dX8_advances_180 (Nat.zero_le _) (Nat.zero_le _) rfl (fun H locs hP hD hS => ?_)
            refine lv_bipush (v := (48 : Int32)) hx hb dX8_advances_183 (by decide) ?_
            refine lv_bipush (v := (57 : Int32)) hx hb dX8_advances_185 (by decide) ?_
            obtain ⟨y187, hc187, h⟩ := zb1_e h
            refine zcS (As := [.int y180, .int (48 : Int32), .int (57 : Int32)]) (rest := []) (ws' := (w_X8_advances G a a_text a_clerk a_s a_kept a_isKept a_signed a_slips a_row a_best v_thrown v_trace v_typed v_next_175 v_token v_next_0e v_value_175 v_fault v_clerks v_draftClerks v_draftLine v_signMany v_copies v_rowMany f_text)) (st1 := [.int y187]) ⟨hx, hb, hml, hown, hts⟩ (c_X8_in l G y180 (48 : Int32) (57 : Int32) y187 hc187) (va_cwS 3 hts gX8_advances_X8_in rfl rfl rfl (by decide +kernel) ⟨Nat.le_of_ble_eq_true rfl, Nat.le_of_ble_eq_true rfl⟩) hK hE hP hD hS hA [] rfl rfl rfl rfl rfl hl.1 rfl (Nat.le_of_ble_eq_true rfl) dX8_advances_187 (Nat.zero_le _) (Nat.zero_le _) rfl (fun H locs hP hD hS => ?_)
            refine lv_if_eq (tgt := 245) hx hb dX8_advances_190 (by decide) (fun c190 => ?_) (fun c190 => ?_)
            · have h := zt c190 h
              exact hk _ _ _ _ _ h hP hD hS (lv_sub hl [0, 1] rfl)
            · have h := zf c190 h
              refine lv_aload_n hx hb dX8_advances_193 rfl (lv_at hl 0 rfl) ?_
              refine lv_aload_n hx hb dX8_advances_194 rfl (lv_at hl 0 rfl) ?_
              refine va_get (D := G.1) (ci := 8) (v := .int v_value_175) (C := RX8) (T := TX8) (N := 23) hx hb hts in_X8_advances_X8 hown hK.1 hP 0 rfl rfl 7 (by decide) (hts (.fieldLink RX8 82 "NineHandsModel" "value" "I") (by decide +kernel)) (fun _ h9 => h9) rfl dX8_advances_195 ?_
              refine lv_bipush (v := (99 : Int32)) hx hb dX8_advances_198 (by decide) ?_
              refine lv_icmp_le (tgt := 210) hx hb dX8_advances_200 (by decide) (fun c200 => ?_) (fun c200 => ?_)
              · have h := zt c200 h
                refine lv_bipush (v := (10 : Int32)) hx hb dX8_advances_210 (by decide) ?_
                refine lv_aload_n hx hb dX8_advances_212 rfl (lv_at hl 0 rfl) ?_
                refine va_get (D := G.1) (ci := 8) (v := .int v_value_175) (C := RX8) (T := TX8) (N := 23) hx hb hts in_X8_advances_X8 hown hK.1 hP 0 rfl rfl 7 (by decide) (hts (.fieldLink RX8 82 "NineHandsModel" "value" "I") (by decide +kernel)) (fun _ h9 => h9) rfl dX8_advances_213 ?_
                refine lv_imul hx hb dX8_advances_216 ?_
                refine lv_aload_n hx hb dX8_advances_217 rfl (lv_at hl 0 rfl) ?_
                refine lv_aload_n hx hb dX8_advances_218 rfl (lv_at hl 0 rfl) ?_
                refine va_get (D := G.1) (ci := 8) (v := .int v_next_175) (C := RX8) (T := TX8) (N := 23) hx hb hts in_X8_advances_X8 hown hK.1 hP 0 rfl rfl 4 (by decide) (hts (.fieldLink RX8 65 "NineHandsModel" "next" "I") (by decide +kernel)) (fun _ h9 => h9) rfl dX8_advances_219 ?_
                obtain ⟨y222, hc222, h⟩ := zb1_e h
                refine zcV (As := [.int v_next_175]) (rest := [.int ((10 : Int32) * v_value_175), .ref a]) (ws' := (w_X8_advances G a a_text a_clerk a_s a_kept a_isKept a_signed a_slips a_row a_best v_thrown v_trace v_typed v_next_175 v_token v_next_0e v_value_175 v_fault v_clerks v_draftClerks v_draftLine v_signMany v_copies v_rowMany f_text)) (st1 := [.int y222, .int ((10 : Int32) * v_value_175), .ref a]) ⟨hx, hb, hml, hown, hts⟩ (c_X8_byteAt l G a a_text a_clerk a_s a_kept a_isKept a_signed a_slips a_row a_best v_thrown v_trace v_typed v_next_175 v_token v_next_0e v_value_175 v_fault v_clerks v_draftClerks v_draftLine v_signMany v_copies v_rowMany f_text v_next_175 y222 hc222) (cwV 1 hts gX8_advances_X8_byteAt rfl rfl rfl (by decide +kernel) ⟨Nat.le_of_ble_eq_true rfl, Nat.le_of_ble_eq_true rfl⟩) hK hE hP hD hS hA [0, 1] rfl rfl 0 8 rfl rfl rfl rfl rfl rfl hl.1 rfl (Nat.le_of_ble_eq_true rfl) dX8_advances_222 (Nat.zero_le _) (Nat.zero_le _) rfl (fun H locs hP hD hS => ?_)
                refine lv_iadd hx hb dX8_advances_225 ?_
                refine lv_bipush (v := (48 : Int32)) hx hb dX8_advances_226 (by decide) ?_
                refine lv_isub hx hb dX8_advances_228 ?_
                exact join_229 _ _ _ _ _ _ h hP hD hS (lv_sub hl [0, 1] rfl)
              · have h := zf c200 h
                refine lv_aload_n hx hb dX8_advances_203 rfl (lv_at hl 0 rfl) ?_
                refine va_get (D := G.1) (ci := 8) (v := .int v_value_175) (C := RX8) (T := TX8) (N := 23) hx hb hts in_X8_advances_X8 hown hK.1 hP 0 rfl rfl 7 (by decide) (hts (.fieldLink RX8 82 "NineHandsModel" "value" "I") (by decide +kernel)) (fun _ h9 => h9) rfl dX8_advances_204 ?_
                refine lv_goto (tgt := 229) hx hb dX8_advances_207 (by decide) ?_
                exact join_229 _ _ _ _ _ _ h hP hD hS (lv_sub hl [0, 1] rfl)
        refine loop_175 fu _ _ _ _ _ _ h (fun v_next_175e v_value_175e H locs ls h hP hD hS hl => ?_) hP hD hS (lv_sub hl [1, 0] rfl)
        refine lv_aload_n hx hb dX8_advances_245 rfl (lv_at hl 0 rfl) ?_
        refine lv_aload_n hx hb dX8_advances_246 rfl (lv_at hl 0 rfl) ?_
        refine va_get (D := G.1) (ci := 8) (v := .int v_value_175e) (C := RX8) (T := TX8) (N := 23) hx hb hts in_X8_advances_X8 hown hK.1 hP 0 rfl rfl 7 (by decide) (hts (.fieldLink RX8 82 "NineHandsModel" "value" "I") (by decide +kernel)) (fun _ h9 => h9) rfl dX8_advances_247 ?_
        refine lv_bipush (v := (99 : Int32)) hx hb dX8_advances_250 (by decide) ?_
        refine lv_icmp_gt (tgt := 274) hx hb dX8_advances_252 (by decide) (fun c252 => ?_) (fun c252 => ?_)
        · have h := zt c252 h
          refine lv_iconst (v := (4 : Int32)) hx hb dX8_advances_274 (by decide) ?_
          refine lv_goto (tgt := 279) hx hb dX8_advances_275 (by decide) ?_
          refine zput1 (D := G.1) (ci := 8) (C := RX8) (T := TX8) (N := 23) (ty := .int) (ws' := (w_X8_advances G a a_text a_clerk a_s a_kept a_isKept a_signed a_slips a_row a_best v_thrown v_trace v_typed v_next_175e (4 : Int32) v_next_0e v_value_175e v_fault v_clerks v_draftClerks v_draftLine v_signMany v_copies v_rowMany f_text)) hx hb hts in_X8_advances_X8 tyX8 tyX8_ok nmX8 hown hK.1 hP hD hS 0 rfl rfl 5 (by decide) (hts (.fieldLink RX8 75 "NineHandsModel" "token" "I") (by decide +kernel)) (fun _ h9 => h9) rfl (by decide +kernel) rfl rfl (Nat.le_of_ble_eq_true rfl) rfl dX8_advances_279 (fun H locs hP hD hS => ?_)
          refine lv_goto (tgt := 310) hx hb dX8_advances_282 (by decide) ?_
          cases h
          exact W.vret hx hb hr (fun t9 ht9 _ => zend hP hD hS ht9) hS.2.2 dX8_advances_310
        · have h := zf c252 h
          refine lv_iload_n hx hb dX8_advances_255 rfl (lv_at hl 1 rfl) ?_
          refine lv_bipush (v := (48 : Int32)) hx hb dX8_advances_256 (by decide) ?_
          refine lv_icmp_ne (tgt := 278) hx hb dX8_advances_258 (by decide) (fun c258 => ?_) (fun c258 => ?_)
          · have h := zf c258 h
            refine lv_iconst (v := (2 : Int32)) hx hb dX8_advances_278 (by decide) ?_
            refine zput1 (D := G.1) (ci := 8) (C := RX8) (T := TX8) (N := 23) (ty := .int) (ws' := (w_X8_advances G a a_text a_clerk a_s a_kept a_isKept a_signed a_slips a_row a_best v_thrown v_trace v_typed v_next_175e (2 : Int32) v_next_0e v_value_175e v_fault v_clerks v_draftClerks v_draftLine v_signMany v_copies v_rowMany f_text)) hx hb hts in_X8_advances_X8 tyX8 tyX8_ok nmX8 hown hK.1 hP hD hS 0 rfl rfl 5 (by decide) (hts (.fieldLink RX8 75 "NineHandsModel" "token" "I") (by decide +kernel)) (fun _ h9 => h9) rfl (by decide +kernel) rfl rfl (Nat.le_of_ble_eq_true rfl) rfl dX8_advances_279 (fun H locs hP hD hS => ?_)
            refine lv_goto (tgt := 310) hx hb dX8_advances_282 (by decide) ?_
            cases h
            exact W.vret hx hb hr (fun t9 ht9 _ => zend hP hD hS ht9) hS.2.2 dX8_advances_310
          · have h := zt c258 h
            refine lv_aload_n hx hb dX8_advances_261 rfl (lv_at hl 0 rfl) ?_
            refine va_get (D := G.1) (ci := 8) (v := .int v_next_175e) (C := RX8) (T := TX8) (N := 23) hx hb hts in_X8_advances_X8 hown hK.1 hP 0 rfl rfl 4 (by decide) (hts (.fieldLink RX8 65 "NineHandsModel" "next" "I") (by decide +kernel)) (fun _ h9 => h9) rfl dX8_advances_262 ?_
            refine lv_aload_n hx hb dX8_advances_265 rfl (lv_at hl 0 rfl) ?_
            refine va_get (D := G.1) (ci := 8) (v := .int v_next_0e) (C := RX8) (T := TX8) (N := 23) hx hb hts in_X8_advances_X8 hown hK.1 hP 0 rfl rfl 6 (by decide) (hts (.fieldLink RX8 72 "NineHandsModel" "place" "I") (by decide +kernel)) (fun _ h9 => h9) rfl dX8_advances_266 ?_
            refine lv_isub hx hb dX8_advances_269 ?_
            refine lv_iconst (v := (1 : Int32)) hx hb dX8_advances_270 (by decide) ?_
            refine lv_icmp_le (tgt := 278) hx hb dX8_advances_271 (by decide) (fun c271 => ?_) (fun c271 => ?_)
            · have h := zt c271 h
              refine lv_iconst (v := (2 : Int32)) hx hb dX8_advances_278 (by decide) ?_
              refine zput1 (D := G.1) (ci := 8) (C := RX8) (T := TX8) (N := 23) (ty := .int) (ws' := (w_X8_advances G a a_text a_clerk a_s a_kept a_isKept a_signed a_slips a_row a_best v_thrown v_trace v_typed v_next_175e (2 : Int32) v_next_0e v_value_175e v_fault v_clerks v_draftClerks v_draftLine v_signMany v_copies v_rowMany f_text)) hx hb hts in_X8_advances_X8 tyX8 tyX8_ok nmX8 hown hK.1 hP hD hS 0 rfl rfl 5 (by decide) (hts (.fieldLink RX8 75 "NineHandsModel" "token" "I") (by decide +kernel)) (fun _ h9 => h9) rfl (by decide +kernel) rfl rfl (Nat.le_of_ble_eq_true rfl) rfl dX8_advances_279 (fun H locs hP hD hS => ?_)
              refine lv_goto (tgt := 310) hx hb dX8_advances_282 (by decide) ?_
              cases h
              exact W.vret hx hb hr (fun t9 ht9 _ => zend hP hD hS ht9) hS.2.2 dX8_advances_310
            · have h := zf c271 h
              refine lv_iconst (v := (4 : Int32)) hx hb dX8_advances_274 (by decide) ?_
              refine lv_goto (tgt := 279) hx hb dX8_advances_275 (by decide) ?_
              refine zput1 (D := G.1) (ci := 8) (C := RX8) (T := TX8) (N := 23) (ty := .int) (ws' := (w_X8_advances G a a_text a_clerk a_s a_kept a_isKept a_signed a_slips a_row a_best v_thrown v_trace v_typed v_next_175e (4 : Int32) v_next_0e v_value_175e v_fault v_clerks v_draftClerks v_draftLine v_signMany v_copies v_rowMany f_text)) hx hb hts in_X8_advances_X8 tyX8 tyX8_ok nmX8 hown hK.1 hP hD hS 0 rfl rfl 5 (by decide) (hts (.fieldLink RX8 75 "NineHandsModel" "token" "I") (by decide +kernel)) (fun _ h9 => h9) rfl (by decide +kernel) rfl rfl (Nat.le_of_ble_eq_true rfl) rfl dX8_advances_279 (fun H locs hP hD hS => ?_)
              refine lv_goto (tgt := 310) hx hb dX8_advances_282 (by decide) ?_
              cases h
              exact W.vret hx hb hr (fun t9 ht9 _ => zend hP hD hS ht9) hS.2.2 dX8_advances_310
    · have h := zf c63 h
      refine lv_lconst (v := (0 : Int64)) hx hb dX8_advances_66 (by decide) ?_
      refine lv_lstore_n (lv' := [(2, .long (0 : Int64)), (1, .int y39), (0, .ref a)]) hx hb dX8_advances_67 rfl hl (by decide) rfl (fun ls hl => ?_)
      have loop_68 : ∀ (n : Nat) (K : Int64 → Int32 → Option (Int32 × Int32 × Int32 × Int32)) (l2_68 : Int64) (v_next_68 : Int32) (H : Heap) (locs : List Loc) (ls : Array Slot), fX8_advances_L68 fu v_typed v_next_0e f_text K n l2_68 v_next_68 = some (ov_next, ov_token, ov_place, ov_value) → (∀ (l2_68e : Int64) (v_next_68e : Int32) (H : Heap) (locs : List Loc) (ls : Array Slot), K l2_68e v_next_68e = some (ov_next, ov_token, ov_place, ov_value) → va_P G.1 vwCl (w_X8_advances G a a_text a_clerk a_s a_kept a_isKept a_signed a_slips a_row a_best v_thrown v_trace v_typed v_next_68e v_token v_next_0e v_value v_fault v_clerks v_draftClerks v_draftLine v_signMany v_copies v_rowMany f_text) H → va_D A (w_X8_advances G a a_text a_clerk a_s a_kept a_isKept a_signed a_slips a_row a_best v_thrown v_trace v_typed v_next_68e v_token v_next_0e v_value v_fault v_clerks v_draftClerks v_draftLine v_signMany v_copies v_rowMany f_text) → va_S A s.heap H locs → lv_has ls 4 [(0, .ref a), (2, .long l2_68e)] → W p l e (headSpec wsX8_advances { frames := 3, cells := 0, slots := 0, locals := 68 }).room s m ([.ref a] : List Value).toArray below meth c H locs 0 0 (MQ below (zQ none G (w_X8_advances G a a_text a_clerk a_s a_kept a_isKept a_signed a_slips a_row a_best v_thrown v_trace v_typed ov_next ov_token ov_place ov_value v_fault v_clerks v_draftClerks v_draftLine v_signMany v_copies v_rowMany f_text) A) ([.ref a] : List Value).toArray s 0 0 A) (F0 m 130 ls [])) → va_P G.1 vwCl (w_X8_advances G a a_text a_clerk a_s a_kept a_isKept a_signed a_slips a_row a_best v_thrown v_trace v_typed v_next_68 v_token v_next_0e v_value v_fault v_clerks v_draftClerks v_draftLine v_signMany v_copies v_rowMany f_text) H → va_D A (w_X8_advances G a a_text a_clerk a_s a_kept a_isKept a_signed a_slips a_row a_best v_thrown v_trace v_typed v_next_68 v_token v_next_0e v_value v_fault v_clerks v_draftClerks v_draftLine v_signMany v_copies v_rowMany f_text) → va_S A s.heap H locs → lv_has ls 4 [(0, .ref a), (2, .long l2_68)] → W p l e (headSpec wsX8_advances { frames := 3, cells := 0, slots := 0, locals := 68 }).room s m ([.ref a] : List Value).toArray below meth c H locs 0 0 (MQ below (zQ none G (w_X8_advances G a a_text a_clerk a_s a_kept a_isKept a_signed a_slips a_row a_best v_thrown v_trace v_typed ov_next ov_token ov_place ov_value v_fault v_clerks v_draftClerks v_draftLine v_signMany v_copies v_rowMany f_text) A) ([.ref a] : List Value).toArray s 0 0 A) (F0 m 68 ls []) := by
        intro n
        induction n with
        | zero => intro K l2_68 v_next_68 H locs ls h; rw [fX8_advances_L68] at h; cases h
        | succ n ih =>
          intro K l2_68 v_next_68 H locs ls h hk hP hD hS hl
          rw [fX8_advances_L68] at h
          have join_116 : ∀ (s0_116 : Int64) (v_next_116 : Int32) (H : Heap) (locs : List Loc) (ls : Array Slot), fX8_advances_J116 fu K (fun (l2_68b : Int64) (v_next_68b : Int32) => fX8_advances_L68 fu v_typed v_next_0e f_text K n l2_68b v_next_68b) s0_116 v_next_116 = some (ov_next, ov_token, ov_place, ov_value) → va_P G.1 vwCl (w_X8_advances G a a_text a_clerk a_s a_kept a_isKept a_signed a_slips a_row a_best v_thrown v_trace v_typed v_next_116 v_token v_next_0e v_value v_fault v_clerks v_draftClerks v_draftLine v_signMany v_copies v_rowMany f_text) H → va_D A (w_X8_advances G a a_text a_clerk a_s a_kept a_isKept a_signed a_slips a_row a_best v_thrown v_trace v_typed v_next_116 v_token v_next_0e v_value v_fault v_clerks v_draftClerks v_draftLine v_signMany v_copies v_rowMany f_text) → va_S A s.heap H locs → lv_has ls 4 [(0, .ref a)] → W p l e (headSpec wsX8_advances { frames := 3, cells := 0, slots := 0, locals := 68 }).room s m ([.ref a] : List Value).toArray below meth c H locs 0 0 (MQ below (zQ none G (w_X8_advances G a a_text a_clerk a_s a_kept a_isKept a_signed a_slips a_row a_best v_thrown v_trace v_typed ov_next ov_token ov_place ov_value v_fault v_clerks v_draftClerks v_draftLine v_signMany v_copies v_rowMany f_text) A) ([.ref a] : List Value).toArray s 0 0 A) (F0 m 116 ls [.long s0_116]) := by
            intro s0_116 v_next_116 H locs ls h hP hD hS hl
            rw [fX8_advances_J116] at h
            refine lv_lstore_n (lv' := [(2, .long s0_116), (0, .ref a)]) hx hb dX8_advances_116 rfl hl (by decide) rfl (fun ls hl => ?_)
            refine lv_aload_n hx hb dX8_advances_117 rfl (lv_at hl 1 rfl) ?_
            refine lv_dup hx hb dX8_advances_118 rfl ?_
            refine va_get (D := G.1) (ci := 8) (v := .int v_next_116) (C := RX8) (T := TX8) (N := 23) hx hb hts in_X8_advances_X8 hown hK.1 hP 0 rfl rfl 4 (by decide) (hts (.fieldLink RX8 65 "NineHandsModel" "next" "I") (by decide +kernel)) (fun _ h9 => h9) rfl dX8_advances_119 ?_
            refine lv_iconst (v := (1 : Int32)) hx hb dX8_advances_122 (by decide) ?_
            refine lv_iadd hx hb dX8_advances_123 ?_
            refine zput1 (D := G.1) (ci := 8) (C := RX8) (T := TX8) (N := 23) (ty := .int) (ws' := (w_X8_advances G a a_text a_clerk a_s a_kept a_isKept a_signed a_slips a_row a_best v_thrown v_trace v_typed (v_next_116 + (1 : Int32)) v_token v_next_0e v_value v_fault v_clerks v_draftClerks v_draftLine v_signMany v_copies v_rowMany f_text)) hx hb hts in_X8_advances_X8 tyX8 tyX8_ok nmX8 hown hK.1 hP hD hS 0 rfl rfl 4 (by decide) (hts (.fieldLink RX8 65 "NineHandsModel" "next" "I") (by decide +kernel)) (fun _ h9 => h9) rfl (by decide +kernel) rfl rfl (Nat.le_of_ble_eq_true rfl) rfl dX8_advances_124 (fun H locs hP hD hS => ?_)
            refine lv_goto (tgt := 68) hx hb dX8_advances_127 (by decide) ?_
            exact ih K _ _ _ _ _ h hk hP hD hS (lv_sub hl [1, 0] rfl)
          refine lv_aload_n hx hb dX8_advances_68 rfl (lv_at hl 0 rfl) ?_
          refine lv_aload_n hx hb dX8_advances_69 rfl (lv_at hl 0 rfl) ?_
          refine va_get (D := G.1) (ci := 8) (v := .int v_next_68) (C := RX8) (T := TX8) (N := 23) hx hb hts in_X8_advances_X8 hown hK.1 hP 0 rfl rfl 4 (by decide) (hts (.fieldLink RX8 65 "NineHandsModel" "next" "I") (by decide +kernel)) (fun _ h9 => h9) rfl dX8_advances_70 ?_
          obtain ⟨y73, hc73, h⟩ := zb1_e h
          refine zcV (As := [.int v_next_68]) (rest := []) (ws' := (w_X8_advances G a a_text a_clerk a_s a_kept a_isKept a_signed a_slips a_row a_best v_thrown v_trace v_typed v_next_68 v_token v_next_0e v_value v_fault v_clerks v_draftClerks v_draftLine v_signMany v_copies v_rowMany f_text)) (st1 := [.int y73]) ⟨hx, hb, hml, hown, hts⟩ (c_X8_byteAt l G a a_text a_clerk a_s a_kept a_isKept a_signed a_slips a_row a_best v_thrown v_trace v_typed v_next_68 v_token v_next_0e v_value v_fault v_clerks v_draftClerks v_draftLine v_signMany v_copies v_rowMany f_text v_next_68 y73 hc73) (cwV 1 hts gX8_advances_X8_byteAt rfl rfl rfl (by decide +kernel) ⟨Nat.le_of_ble_eq_true rfl, Nat.le_of_ble_eq_true rfl⟩) hK hE hP hD hS hA [0, 1] rfl rfl 0 8 rfl rfl rfl rfl rfl rfl hl.1 rfl (Nat.le_of_ble_eq_true rfl) dX8_advances_73 (Nat.zero_le _) (Nat.zero_le _) rfl (fun H locs hP hD hS => ?_)
          refine lv_bipush (v := (97 : Int32)) hx hb dX8_advances_76 (by decide) ?_
          refine lv_bipush (v := (122 : Int32)) hx hb dX8_advances_78 (by decide) ?_
          obtain ⟨y80, hc80, h⟩ := zb1_e h
          refine zcS (As := [.int y73, .int (97 : Int32), .int (122 : Int32)]) (rest := []) (ws' := (w_X8_advances G a a_text a_clerk a_s a_kept a_isKept a_signed a_slips a_row a_best v_thrown v_trace v_typed v_next_68 v_token v_next_0e v_value v_fault v_clerks v_draftClerks v_draftLine v_signMany v_copies v_rowMany f_text)) (st1 := [.int y80]) ⟨hx, hb, hml, hown, hts⟩ (c_X8_in l G y73 (97 : Int32) (122 : Int32) y80 hc80) (va_cwS 3 hts gX8_advances_X8_in rfl rfl rfl (by decide +kernel) ⟨Nat.le_of_ble_eq_true rfl, Nat.le_of_ble_eq_true rfl⟩) hK hE hP hD hS hA [] rfl rfl rfl rfl rfl hl.1 rfl (Nat.le_of_ble_eq_true rfl) dX8_advances_80 (Nat.zero_le _) (Nat.zero_le _) rfl (fun H locs hP hD hS => ?_)
          refine lv_if_eq (tgt := 130) hx hb dX8_advances_83 (by decide) (fun c83 => ?_) (fun c83 => ?_)
          · have h := zt c83 h
            exact hk _ _ _ _ _ h hP hD hS (lv_sub hl [0, 1] rfl)
          · have h := zf c83 h
            refine lv_aload_n hx hb dX8_advances_86 rfl (lv_at hl 0 rfl) ?_
            refine va_get (D := G.1) (ci := 8) (v := .int v_next_68) (C := RX8) (T := TX8) (N := 23) hx hb hts in_X8_advances_X8 hown hK.1 hP 0 rfl rfl 4 (by decide) (hts (.fieldLink RX8 65 "NineHandsModel" "next" "I") (by decide +kernel)) (fun _ h9 => h9) rfl dX8_advances_87 ?_
            refine lv_aload_n hx hb dX8_advances_90 rfl (lv_at hl 0 rfl) ?_
            refine va_get (D := G.1) (ci := 8) (v := .int v_next_0e) (C := RX8) (T := TX8) (N := 23) hx hb hts in_X8_advances_X8 hown hK.1 hP 0 rfl rfl 6 (by decide) (hts (.fieldLink RX8 72 "NineHandsModel" "place" "I") (by decide +kernel)) (fun _ h9 => h9) rfl dX8_advances_91 ?_
            refine lv_isub hx hb dX8_advances_94 ?_
            refine lv_bipush (v := (7 : Int32)) hx hb dX8_advances_95 (by decide) ?_
            refine lv_icmp_ge (tgt := 115) hx hb dX8_advances_97 (by decide) (fun c97 => ?_) (fun c97 => ?_)
            · have h := zt c97 h
              refine lv_lload_n hx hb dX8_advances_115 rfl (lv_at hl 1 rfl) ?_
              exact join_116 _ _ _ _ _ h hP hD hS (lv_sub hl [0] rfl)
            · have h := zf c97 h
              refine lv_lload_n hx hb dX8_advances_100 rfl (lv_at hl 1 rfl) ?_
              refine lv_aload_n hx hb dX8_advances_101 rfl (lv_at hl 0 rfl) ?_
              refine lv_aload_n hx hb dX8_advances_102 rfl (lv_at hl 0 rfl) ?_
              refine va_get (D := G.1) (ci := 8) (v := .int v_next_68) (C := RX8) (T := TX8) (N := 23) hx hb hts in_X8_advances_X8 hown hK.1 hP 0 rfl rfl 4 (by decide) (hts (.fieldLink RX8 65 "NineHandsModel" "next" "I") (by decide +kernel)) (fun _ h9 => h9) rfl dX8_advances_103 ?_
              obtain ⟨y106, hc106, h⟩ := zb1_e h
              refine zcV (As := [.int v_next_68]) (rest := [.long l2_68]) (ws' := (w_X8_advances G a a_text a_clerk a_s a_kept a_isKept a_signed a_slips a_row a_best v_thrown v_trace v_typed v_next_68 v_token v_next_0e v_value v_fault v_clerks v_draftClerks v_draftLine v_signMany v_copies v_rowMany f_text)) (st1 := [.int y106, .long l2_68]) ⟨hx, hb, hml, hown, hts⟩ (c_X8_byteAt l G a a_text a_clerk a_s a_kept a_isKept a_signed a_slips a_row a_best v_thrown v_trace v_typed v_next_68 v_token v_next_0e v_value v_fault v_clerks v_draftClerks v_draftLine v_signMany v_copies v_rowMany f_text v_next_68 y106 hc106) (cwV 1 hts gX8_advances_X8_byteAt rfl rfl rfl (by decide +kernel) ⟨Nat.le_of_ble_eq_true rfl, Nat.le_of_ble_eq_true rfl⟩) hK hE hP hD hS hA [0, 1] rfl rfl 0 8 rfl rfl rfl rfl rfl rfl hl.1 rfl (Nat.le_of_ble_eq_true rfl) dX8_advances_106 (Nat.zero_le _) (Nat.zero_le _) rfl (fun H locs hP hD hS => ?_)
              obtain ⟨y109, hc109, h⟩ := zb1_e h
              refine zcS (As := [.long l2_68, .int y106]) (rest := []) (ws' := (w_X8_advances G a a_text a_clerk a_s a_kept a_isKept a_signed a_slips a_row a_best v_thrown v_trace v_typed v_next_68 v_token v_next_0e v_value v_fault v_clerks v_draftClerks v_draftLine v_signMany v_copies v_rowMany f_text)) (st1 := [.long y109]) ⟨hx, hb, hml, hown, hts⟩ (c_X8_add l G l2_68 y106 y109 hc109) (va_cwS 2 hts gX8_advances_X8_add rfl rfl rfl (by decide +kernel) ⟨Nat.le_of_ble_eq_true rfl, Nat.le_of_ble_eq_true rfl⟩) hK hE hP hD hS hA [] rfl rfl rfl rfl rfl hl.1 rfl (Nat.le_of_ble_eq_true rfl) dX8_advances_109 (Nat.zero_le _) (Nat.zero_le _) rfl (fun H locs hP hD hS => ?_)
              refine lv_goto (tgt := 116) hx hb dX8_advances_112 (by decide) ?_
              exact join_116 _ _ _ _ _ h hP hD hS (lv_sub hl [0] rfl)
      refine loop_68 fu _ _ _ _ _ _ h (fun l2_68e v_next_68e H locs ls h hP hD hS hl => ?_) hP hD hS (lv_sub hl [2, 0] rfl)
      refine lv_aload_n hx hb dX8_advances_130 rfl (lv_at hl 0 rfl) ?_
      refine lv_lload_n hx hb dX8_advances_131 rfl (lv_at hl 1 rfl) ?_
      obtain ⟨y132, hc132, h⟩ := zb1_e h
      refine zcS (As := [.long l2_68e]) (rest := [.ref a]) (ws' := (w_X8_advances G a a_text a_clerk a_s a_kept a_isKept a_signed a_slips a_row a_best v_thrown v_trace v_typed v_next_68e v_token v_next_0e v_value v_fault v_clerks v_draftClerks v_draftLine v_signMany v_copies v_rowMany f_text)) (st1 := [.int y132, .ref a]) ⟨hx, hb, hml, hown, hts⟩ (c_X8_wordOf l G l2_68e y132 hc132) (va_cwS 1 hts gX8_advances_X8_wordOf rfl rfl rfl (by decide +kernel) ⟨Nat.le_of_ble_eq_true rfl, Nat.le_of_ble_eq_true rfl⟩) hK hE hP hD hS hA [] rfl rfl rfl rfl rfl hl.1 rfl (Nat.le_of_ble_eq_true rfl) dX8_advances_132 (Nat.zero_le _) (Nat.zero_le _) rfl (fun H locs hP hD hS => ?_)
      refine zput1 (D := G.1) (ci := 8) (C := RX8) (T := TX8) (N := 23) (ty := .int) (ws' := (w_X8_advances G a a_text a_clerk a_s a_kept a_isKept a_signed a_slips a_row a_best v_thrown v_trace v_typed v_next_68e v_token v_next_0e y132 v_fault v_clerks v_draftClerks v_draftLine v_signMany v_copies v_rowMany f_text)) hx hb hts in_X8_advances_X8 tyX8 tyX8_ok nmX8 hown hK.1 hP hD hS 0 rfl rfl 7 (by decide) (hts (.fieldLink RX8 82 "NineHandsModel" "value" "I") (by decide +kernel)) (fun _ h9 => h9) rfl (by decide +kernel) rfl rfl (Nat.le_of_ble_eq_true rfl) rfl dX8_advances_135 (fun H locs hP hD hS => ?_)
      refine lv_aload_n hx hb dX8_advances_138 rfl (lv_at hl 0 rfl) ?_
      refine lv_aload_n hx hb dX8_advances_139 rfl (lv_at hl 0 rfl) ?_
      refine va_get (D := G.1) (ci := 8) (v := .int y132) (C := RX8) (T := TX8) (N := 23) hx hb hts in_X8_advances_X8 hown hK.1 hP 0 rfl rfl 7 (by decide) (hts (.fieldLink RX8 82 "NineHandsModel" "value" "I") (by decide +kernel)) (fun _ h9 => h9) rfl dX8_advances_140 ?_
      refine lv_bipush (v := ((-9) : Int32)) hx hb dX8_advances_143 (by decide) ?_
      refine lv_icmp_ne (tgt := 152) hx hb dX8_advances_145 (by decide) (fun c145 => ?_) (fun c145 => ?_)
      · have h := zf c145 h
        refine lv_iconst (v := (1 : Int32)) hx hb dX8_advances_152 (by decide) ?_
        refine zput1 (D := G.1) (ci := 8) (C := RX8) (T := TX8) (N := 23) (ty := .int) (ws' := (w_X8_advances G a a_text a_clerk a_s a_kept a_isKept a_signed a_slips a_row a_best v_thrown v_trace v_typed v_next_68e (1 : Int32) v_next_0e y132 v_fault v_clerks v_draftClerks v_draftLine v_signMany v_copies v_rowMany f_text)) hx hb hts in_X8_advances_X8 tyX8 tyX8_ok nmX8 hown hK.1 hP hD hS 0 rfl rfl 5 (by decide) (hts (.fieldLink RX8 75 "NineHandsModel" "token" "I") (by decide +kernel)) (fun _ h9 => h9) rfl (by decide +kernel) rfl rfl (Nat.le_of_ble_eq_true rfl) rfl dX8_advances_153 (fun H locs hP hD hS => ?_)
        refine lv_goto (tgt := 310) hx hb dX8_advances_156 (by decide) ?_
        cases h
        exact W.vret hx hb hr (fun t9 ht9 _ => zend hP hD hS ht9) hS.2.2 dX8_advances_310
      · have h := zt c145 h
        refine lv_iconst (v := (4 : Int32)) hx hb dX8_advances_148 (by decide) ?_
        refine lv_goto (tgt := 153) hx hb dX8_advances_149 (by decide) ?_
        refine zput1 (D := G.1) (ci := 8) (C := RX8) (T := TX8) (N := 23) (ty := .int) (ws' := (w_X8_advances G a a_text a_clerk a_s a_kept a_isKept a_signed a_slips a_row a_best v_thrown v_trace v_typed v_next_68e (4 : Int32) v_next_0e y132 v_fault v_clerks v_draftClerks v_draftLine v_signMany v_copies v_rowMany f_text)) hx hb hts in_X8_advances_X8 tyX8 tyX8_ok nmX8 hown hK.1 hP hD hS 0 rfl rfl 5 (by decide) (hts (.fieldLink RX8 75 "NineHandsModel" "token" "I") (by decide +kernel)) (fun _ h9 => h9) rfl (by decide +kernel) rfl rfl (Nat.le_of_ble_eq_true rfl) rfl dX8_advances_153 (fun H locs hP hD hS => ?_)
        refine lv_goto (tgt := 310) hx hb dX8_advances_156 (by decide) ?_
        cases h
        exact W.vret hx hb hr (fun t9 ht9 _ => zend hP hD hS ht9) hS.2.2 dX8_advances_310
  · have h := zf c44 h
    refine lv_aload_n hx hb dX8_advances_47 rfl (lv_at hl 1 rfl) ?_
    refine lv_iconst (v := (0 : Int32)) hx hb dX8_advances_48 (by decide) ?_
    refine zput1 (D := G.1) (ci := 8) (C := RX8) (T := TX8) (N := 23) (ty := .int) (ws' := (w_X8_advances G a a_text a_clerk a_s a_kept a_isKept a_signed a_slips a_row a_best v_thrown v_trace v_typed v_next_0e (0 : Int32) v_next_0e v_value v_fault v_clerks v_draftClerks v_draftLine v_signMany v_copies v_rowMany f_text)) hx hb hts in_X8_advances_X8 tyX8 tyX8_ok nmX8 hown hK.1 hP hD hS 0 rfl rfl 5 (by decide) (hts (.fieldLink RX8 75 "NineHandsModel" "token" "I") (by decide +kernel)) (fun _ h9 => h9) rfl (by decide +kernel) rfl rfl (Nat.le_of_ble_eq_true rfl) rfl dX8_advances_49 (fun H locs hP hD hS => ?_)
    refine lv_goto (tgt := 310) hx hb dX8_advances_52 (by decide) ?_
    cases h
    exact W.vret hx hb hr (fun t9 ht9 _ => zend hP hD hS ht9) hS.2.2 dX8_advances_310
abbrev w_X8_isWell (G : zG) (a : Nat) (a_text : Nat) (a_clerk : Nat) (a_s : Nat) (a_kept : Nat) (a_isKept : Nat) (a_signed : Nat) (a_slips : Nat) (a_row : Nat) (a_best : Nat) (v_thrown : Int32) (v_trace : Int64) (v_typed : Int32) (v_next : Int32) (v_token : Int32) (v_place : Int32) (v_value : Int32) (v_fault : Int32) (v_clerks : Int32) (v_draftClerks : Int32) (v_draftLine : Int32) (v_signMany : Int32) (v_copies : Int32) (v_rowMany : Int32) : va_W := [(a, .inr (8, [.int v_thrown, .long v_trace, .ref a_text, .int v_typed, .int v_next, .int v_token, .int v_place, .int v_value, .int v_fault, .ref a_clerk, .int v_clerks, .int v_draftClerks, .int v_draftLine, .ref a_s, .ref a_kept, .ref a_isKept, .ref a_signed, .int v_signMany, .ref a_slips, .int v_copies, .ref a_row, .ref a_best, .int v_rowMany]))]
theorem in_X8_isWell_X8 : ∀ w ∈ wsX80, w ∈ wsX8_isWell := by decide +kernel
set_option maxHeartbeats 4000000 in
set_option maxRecDepth 100000 in
theorem c_X8_isWell (l : Launch) (G : zG) (a : Nat) (a_text : Nat) (a_clerk : Nat) (a_s : Nat) (a_kept : Nat) (a_isKept : Nat) (a_signed : Nat) (a_slips : Nat) (a_row : Nat) (a_best : Nat) (v_thrown : Int32) (v_trace : Int64) (v_typed : Int32) (v_next : Int32) (v_token : Int32) (v_place : Int32) (v_value : Int32) (v_fault : Int32) (v_clerks : Int32) (v_draftClerks : Int32) (v_draftLine : Int32) (v_signMany : Int32) (v_copies : Int32) (v_rowMany : Int32) (rv : Int32) (h : fX8_isWell v_fault = some rv) : zC l yX8_isWell wsX8_isWell 0 0 G [.ref a] (w_X8_isWell G a a_text a_clerk a_s a_kept a_isKept a_signed a_slips a_row a_best v_thrown v_trace v_typed v_next v_token v_place v_value v_fault v_clerks v_draftClerks v_draftLine v_signMany v_copies v_rowMany) (some (.int rv)) (w_X8_isWell G a a_text a_clerk a_s a_kept a_isKept a_signed a_slips a_row a_best v_thrown v_trace v_typed v_next v_token v_place v_value v_fault v_clerks v_draftClerks v_draftLine v_signMany v_copies v_rowMany) := by
  refine fun sz => Met.ofW (cc := cX8_isWell) (maxL := 1) (ret := (some .boolean)) (by decide) rfl ?_
  intro p e s m args below meth c s₁ B hml hv
  obtain ⟨rfl, hsz, hP, hK, hD0, hE⟩ := hv
  have hx := B.exec
  have hb := B.bytes
  have hr := B.returns
  have hts := atoms_spec (ws := wsX8_isWell) B.pre
  have hown : s.vm.findClass RX8 = some m.cls := findClass_of_methodNamed B.named
  have hlocks := B.notSynchronized
  subst hsz
  have hD := hD0.self (sz := s.heap.size)
  generalize hAe : va_A (w_X8_isWell G a a_text a_clerk a_s a_kept a_isKept a_signed a_slips a_row a_best v_thrown v_trace v_typed v_next v_token v_place v_value v_fault v_clerks v_draftClerks v_draftLine v_signMany v_copies v_rowMany) s.heap.size = A at hD hE ⊢
  have hA : ∀ q : Nat, s.heap.size ≤ q → A q := fun q h => by rw [← hAe]; exact Or.inr h
  have hS : va_S A s.heap s.heap [] := va_S.rf
  have hl := lv_entry ([.ref a]) (n := 1) (Nat.le_of_ble_eq_true rfl)
  rw [lg_entry_eq]
  generalize (lg_sl ([.ref a]) ++ List.replicate (1 - (lg_sl ([.ref a])).length) Slot.unset).toArray = ls at hl ⊢
  have hl : lv_has ls 1 [(0, .ref a)] := hl
  have hP : va_P G.1 vwCl (w_X8_isWell G a a_text a_clerk a_s a_kept a_isKept a_signed a_slips a_row a_best v_thrown v_trace v_typed v_next v_token v_place v_value v_fault v_clerks v_draftClerks v_draftLine v_signMany v_copies v_rowMany) s.heap := hP
  rw [fX8_isWell] at h
  refine lv_aload_n hx hb dX8_isWell_0 rfl (lv_at hl 0 rfl) ?_
  refine va_get (D := G.1) (ci := 8) (v := .int v_fault) (C := RX8) (T := TX8) (N := 23) hx hb hts in_X8_isWell_X8 hown hK.1 hP 0 rfl rfl 8 (by decide) (hts (.fieldLink RX8 85 "NineHandsModel" "fault" "I") (by decide +kernel)) (fun _ h9 => h9) rfl dX8_isWell_1 ?_
  refine lv_if_ge (tgt := 11) hx hb dX8_isWell_4 (by decide) (fun c4 => ?_) (fun c4 => ?_)
  · have h := zt c4 h
    refine lv_iconst (v := (0 : Int32)) hx hb dX8_isWell_11 (by decide) ?_
    cases h
    exact W.zret (ty := .boolean) hx hb hr rfl (fun t9 ht9 _ => zend hP hD hS ht9) hS.2.2 dX8_isWell_12
  · have h := zf c4 h
    refine lv_iconst (v := (1 : Int32)) hx hb dX8_isWell_7 (by decide) ?_
    refine lv_goto (tgt := 12) hx hb dX8_isWell_8 (by decide) ?_
    cases h
    exact W.zret (ty := .boolean) hx hb hr rfl (fun t9 ht9 _ => zend hP hD hS ht9) hS.2.2 dX8_isWell_12
abbrev w_X8_takes (G : zG) (a : Nat) (a_text : Nat) (a_clerk : Nat) (a_s : Nat) (a_kept : Nat) (a_isKept : Nat) (a_signed : Nat) (a_slips : Nat) (a_row : Nat) (a_best : Nat) (v_thrown : Int32) (v_trace : Int64) (v_typed : Int32) (v_next : Int32) (v_token : Int32) (v_place : Int32) (v_value : Int32) (v_fault : Int32) (v_clerks : Int32) (v_draftClerks : Int32) (v_draftLine : Int32) (v_signMany : Int32) (v_copies : Int32) (v_rowMany : Int32) (f_text : (Nat → Int32)) : va_W := [(a, .inr (8, [.int v_thrown, .long v_trace, .ref a_text, .int v_typed, .int v_next, .int v_token, .int v_place, .int v_value, .int v_fault, .ref a_clerk, .int v_clerks, .int v_draftClerks, .int v_draftLine, .ref a_s, .ref a_kept, .ref a_isKept, .ref a_signed, .int v_signMany, .ref a_slips, .int v_copies, .ref a_row, .ref a_best, .int v_rowMany])), (a_text, .inl (zCI G, 200, .inl f_text))]
theorem in_X8_takes_X8 : ∀ w ∈ wsX80, w ∈ wsX8_takes := by decide +kernel
set_option maxHeartbeats 4000000 in
set_option maxRecDepth 100000 in
theorem c_X8_takes (l : Launch) (G : zG) (fu : Nat) (a : Nat) (a_text : Nat) (a_clerk : Nat) (a_s : Nat) (a_kept : Nat) (a_isKept : Nat) (a_signed : Nat) (a_slips : Nat) (a_row : Nat) (a_best : Nat) (v_thrown : Int32) (v_trace : Int64) (v_typed : Int32) (v_next : Int32) (v_token : Int32) (v_place : Int32) (v_value : Int32) (v_fault : Int32) (v_clerks : Int32) (v_draftClerks : Int32) (v_draftLine : Int32) (v_signMany : Int32) (v_copies : Int32) (v_rowMany : Int32) (f_text : (Nat → Int32)) (x1 : Int32) (rv : Int32) (ov_next : Int32) (ov_token : Int32) (ov_place : Int32) (ov_value : Int32) (ov_fault : Int32) (h : fX8_takes fu v_typed v_next v_token v_place v_value v_fault f_text x1 = some (rv, ov_next, ov_token, ov_place, ov_value, ov_fault)) : zC l yX8_takes wsX8_takes 4 91 G [.ref a, .int x1] (w_X8_takes G a a_text a_clerk a_s a_kept a_isKept a_signed a_slips a_row a_best v_thrown v_trace v_typed v_next v_token v_place v_value v_fault v_clerks v_draftClerks v_draftLine v_signMany v_copies v_rowMany f_text) (some (.int rv)) (w_X8_takes G a a_text a_clerk a_s a_kept a_isKept a_signed a_slips a_row a_best v_thrown v_trace v_typed ov_next ov_token ov_place ov_value ov_fault v_clerks v_draftClerks v_draftLine v_signMany v_copies v_rowMany f_text) := by
  refine fun sz => Met.ofW (cc := cX8_takes) (maxL := 3) (ret := (some .int)) (by decide) rfl ?_
  intro p e s m args below meth c s₁ B hml hv
  obtain ⟨rfl, hsz, hP, hK, hD0, hE⟩ := hv
  have hx := B.exec
  have hb := B.bytes
  have hr := B.returns
  have hts := atoms_spec (ws := wsX8_takes) B.pre
  have hown : s.vm.findClass RX8 = some m.cls := findClass_of_methodNamed B.named
  have hlocks := B.notSynchronized
  subst hsz
  have hD := hD0.self (sz := s.heap.size)
  generalize hAe : va_A (w_X8_takes G a a_text a_clerk a_s a_kept a_isKept a_signed a_slips a_row a_best v_thrown v_trace v_typed v_next v_token v_place v_value v_fault v_clerks v_draftClerks v_draftLine v_signMany v_copies v_rowMany f_text) s.heap.size = A at hD hE ⊢
  have hA : ∀ q : Nat, s.heap.size ≤ q → A q := fun q h => by rw [← hAe]; exact Or.inr h
  have hS : va_S A s.heap s.heap [] := va_S.rf
  have hl := lv_entry ([.ref a, .int x1]) (n := 3) (Nat.le_of_ble_eq_true rfl)
  rw [lg_entry_eq]
  generalize (lg_sl ([.ref a, .int x1]) ++ List.replicate (3 - (lg_sl ([.ref a, .int x1])).length) Slot.unset).toArray = ls at hl ⊢
  have hl : lv_has ls 3 [(0, .ref a), (1, .int x1)] := hl
  have hP : va_P G.1 vwCl (w_X8_takes G a a_text a_clerk a_s a_kept a_isKept a_signed a_slips a_row a_best v_thrown v_trace v_typed v_next v_token v_place v_value v_fault v_clerks v_draftClerks v_draftLine v_signMany v_copies v_rowMany f_text) s.heap := hP
  rw [fX8_takes] at h
  refine lv_aload_n hx hb dX8_takes_0 rfl (lv_at hl 0 rfl) ?_
  obtain ⟨y1, hc1, h⟩ := zb1_e h
  refine zcV (As := []) (rest := []) (ws' := (w_X8_takes G a a_text a_clerk a_s a_kept a_isKept a_signed a_slips a_row a_best v_thrown v_trace v_typed v_next v_token v_place v_value v_fault v_clerks v_draftClerks v_draftLine v_signMany v_copies v_rowMany f_text)) (st1 := [.int y1]) ⟨hx, hb, hml, hown, hts⟩ (c_X8_isWell l G a a_text a_clerk a_s a_kept a_isKept a_signed a_slips a_row a_best v_thrown v_trace v_typed v_next v_token v_place v_value v_fault v_clerks v_draftClerks v_draftLine v_signMany v_copies v_rowMany y1 hc1) (cwV 0 hts gX8_takes_X8_isWell rfl rfl rfl (by decide +kernel) ⟨Nat.le_of_ble_eq_true rfl, Nat.le_of_ble_eq_true rfl⟩) hK hE hP hD hS hA [0] rfl rfl 0 8 rfl rfl rfl rfl rfl rfl hl.1 rfl (Nat.le_of_ble_eq_true rfl) dX8_takes_1 (Nat.zero_le _) (Nat.zero_le _) rfl (fun H locs hP hD hS => ?_)
  refine lv_if_ne (tgt := 9) hx hb dX8_takes_4 (by decide) (fun c4 => ?_) (fun c4 => ?_)
  · have h := zf c4 h
    refine lv_iload_n hx hb dX8_takes_9 rfl (lv_at hl 1 rfl) ?_
    refine lv_if_ne (tgt := 23) hx hb dX8_takes_10 (by decide) (fun c10 => ?_) (fun c10 => ?_)
    · have h := zf c10 h
      refine lv_aload_n hx hb dX8_takes_23 rfl (lv_at hl 0 rfl) ?_
      refine va_get (D := G.1) (ci := 8) (v := .int v_value) (C := RX8) (T := TX8) (N := 23) hx hb hts in_X8_takes_X8 hown hK.1 hP 0 rfl rfl 7 (by decide) (hts (.fieldLink RX8 82 "NineHandsModel" "value" "I") (by decide +kernel)) (fun _ h9 => h9) rfl dX8_takes_24 ?_
      refine lv_istore_n (lv' := [(2, .int v_value), (0, .ref a), (1, .int x1)]) hx hb dX8_takes_27 rfl hl (by decide) rfl (fun ls hl => ?_)
      refine lv_aload_n hx hb dX8_takes_28 rfl (lv_at hl 1 rfl) ?_
      obtain ⟨y29_v_next, y29_v_token, y29_v_place, y29_v_value, hc29, h⟩ := zb4_e h
      refine zcV (As := []) (rest := []) (ws' := (w_X8_takes G a a_text a_clerk a_s a_kept a_isKept a_signed a_slips a_row a_best v_thrown v_trace v_typed y29_v_next y29_v_token y29_v_place y29_v_value v_fault v_clerks v_draftClerks v_draftLine v_signMany v_copies v_rowMany f_text)) (st1 := []) ⟨hx, hb, hml, hown, hts⟩ (c_X8_advances l G fu a a_text a_clerk a_s a_kept a_isKept a_signed a_slips a_row a_best v_thrown v_trace v_typed v_next v_token v_place v_value v_fault v_clerks v_draftClerks v_draftLine v_signMany v_copies v_rowMany f_text y29_v_next y29_v_token y29_v_place y29_v_value hc29) (cwV 0 hts gX8_takes_X8_advances rfl rfl rfl (by decide +kernel) ⟨Nat.le_of_ble_eq_true rfl, Nat.le_of_ble_eq_true rfl⟩) hK hE hP hD hS hA [0, 1] rfl rfl 0 8 rfl rfl rfl rfl rfl rfl hl.1 rfl (Nat.le_of_ble_eq_true rfl) dX8_takes_29 (Nat.zero_le _) (Nat.zero_le _) rfl (fun H locs hP hD hS => ?_)
      refine lv_iload_n hx hb dX8_takes_32 rfl (lv_at hl 0 rfl) ?_
      cases h
      exact W.iret hx hb hr (fun t9 ht9 _ => zend hP hD hS ht9) hS.2.2 dX8_takes_33
    · have h := zt c10 h
      refine lv_aload_n hx hb dX8_takes_13 rfl (lv_at hl 0 rfl) ?_
      refine lv_aload_n hx hb dX8_takes_14 rfl (lv_at hl 0 rfl) ?_
      refine va_get (D := G.1) (ci := 8) (v := .int v_place) (C := RX8) (T := TX8) (N := 23) hx hb hts in_X8_takes_X8 hown hK.1 hP 0 rfl rfl 6 (by decide) (hts (.fieldLink RX8 72 "NineHandsModel" "place" "I") (by decide +kernel)) (fun _ h9 => h9) rfl dX8_takes_15 ?_
      refine zput1 (D := G.1) (ci := 8) (C := RX8) (T := TX8) (N := 23) (ty := .int) (ws' := (w_X8_takes G a a_text a_clerk a_s a_kept a_isKept a_signed a_slips a_row a_best v_thrown v_trace v_typed v_next v_token v_place v_value v_place v_clerks v_draftClerks v_draftLine v_signMany v_copies v_rowMany f_text)) hx hb hts in_X8_takes_X8 tyX8 tyX8_ok nmX8 hown hK.1 hP hD hS 0 rfl rfl 8 (by decide) (hts (.fieldLink RX8 85 "NineHandsModel" "fault" "I") (by decide +kernel)) (fun _ h9 => h9) rfl (by decide +kernel) rfl rfl (Nat.le_of_ble_eq_true rfl) rfl dX8_takes_18 (fun H locs hP hD hS => ?_)
      refine lv_iconst (v := (0 : Int32)) hx hb dX8_takes_21 (by decide) ?_
      cases h
      exact W.iret hx hb hr (fun t9 ht9 _ => zend hP hD hS ht9) hS.2.2 dX8_takes_22
  · have h := zt c4 h
    refine lv_iconst (v := (0 : Int32)) hx hb dX8_takes_7 (by decide) ?_
    cases h
    exact W.iret hx hb hr (fun t9 ht9 _ => zend hP hD hS ht9) hS.2.2 dX8_takes_8
abbrev w_X8_number (G : zG) (a : Nat) (a_text : Nat) (a_clerk : Nat) (a_s : Nat) (a_kept : Nat) (a_isKept : Nat) (a_signed : Nat) (a_slips : Nat) (a_row : Nat) (a_best : Nat) (v_thrown : Int32) (v_trace : Int64) (v_typed : Int32) (v_next : Int32) (v_token : Int32) (v_place : Int32) (v_value : Int32) (v_fault : Int32) (v_clerks : Int32) (v_draftClerks : Int32) (v_draftLine : Int32) (v_signMany : Int32) (v_copies : Int32) (v_rowMany : Int32) (f_text : (Nat → Int32)) : va_W := [(a, .inr (8, [.int v_thrown, .long v_trace, .ref a_text, .int v_typed, .int v_next, .int v_token, .int v_place, .int v_value, .int v_fault, .ref a_clerk, .int v_clerks, .int v_draftClerks, .int v_draftLine, .ref a_s, .ref a_kept, .ref a_isKept, .ref a_signed, .int v_signMany, .ref a_slips, .int v_copies, .ref a_row, .ref a_best, .int v_rowMany])), (a_text, .inl (zCI G, 200, .inl f_text))]
theorem in_X8_number_X8 : ∀ w ∈ wsX80, w ∈ wsX8_number := by decide +kernel
set_option maxHeartbeats 4000000 in
set_option maxRecDepth 100000 in
theorem c_X8_number (l : Launch) (G : zG) (fu : Nat) (a : Nat) (a_text : Nat) (a_clerk : Nat) (a_s : Nat) (a_kept : Nat) (a_isKept : Nat) (a_signed : Nat) (a_slips : Nat) (a_row : Nat) (a_best : Nat) (v_thrown : Int32) (v_trace : Int64) (v_typed : Int32) (v_next : Int32) (v_token : Int32) (v_place : Int32) (v_value : Int32) (v_fault : Int32) (v_clerks : Int32) (v_draftClerks : Int32) (v_draftLine : Int32) (v_signMany : Int32) (v_copies : Int32) (v_rowMany : Int32) (f_text : (Nat → Int32)) (x1 : Int32) (x2 : Int32) (rv : Int32) (ov_next : Int32) (ov_token : Int32) (ov_place : Int32) (ov_value : Int32) (ov_fault : Int32) (h : fX8_number fu v_typed v_next v_token v_place v_value v_fault f_text x1 x2 = some (rv, ov_next, ov_token, ov_place, ov_value, ov_fault)) : zC l yX8_number wsX8_number 5 113 G [.ref a, .int x1, .int x2] (w_X8_number G a a_text a_clerk a_s a_kept a_isKept a_signed a_slips a_row a_best v_thrown v_trace v_typed v_next v_token v_place v_value v_fault v_clerks v_draftClerks v_draftLine v_signMany v_copies v_rowMany f_text) (some (.int rv)) (w_X8_number G a a_text a_clerk a_s a_kept a_isKept a_signed a_slips a_row a_best v_thrown v_trace v_typed ov_next ov_token ov_place ov_value ov_fault v_clerks v_draftClerks v_draftLine v_signMany v_copies v_rowMany f_text) := by
  refine fun sz => Met.ofW (cc := cX8_number) (maxL := 3) (ret := (some .int)) (by decide) rfl ?_
  intro p e s m args below meth c s₁ B hml hv
  obtain ⟨rfl, hsz, hP, hK, hD0, hE⟩ := hv
  have hx := B.exec
  have hb := B.bytes
  have hr := B.returns
  have hts := atoms_spec (ws := wsX8_number) B.pre
  have hown : s.vm.findClass RX8 = some m.cls := findClass_of_methodNamed B.named
  have hlocks := B.notSynchronized
  subst hsz
  have hD := hD0.self (sz := s.heap.size)
  generalize hAe : va_A (w_X8_number G a a_text a_clerk a_s a_kept a_isKept a_signed a_slips a_row a_best v_thrown v_trace v_typed v_next v_token v_place v_value v_fault v_clerks v_draftClerks v_draftLine v_signMany v_copies v_rowMany f_text) s.heap.size = A at hD hE ⊢
  have hA : ∀ q : Nat, s.heap.size ≤ q → A q := fun q h => by rw [← hAe]; exact Or.inr h
  have hS : va_S A s.heap s.heap [] := va_S.rf
  have hl := lv_entry ([.ref a, .int x1, .int x2]) (n := 3) (Nat.le_of_ble_eq_true rfl)
  rw [lg_entry_eq]
  generalize (lg_sl ([.ref a, .int x1, .int x2]) ++ List.replicate (3 - (lg_sl ([.ref a, .int x1, .int x2])).length) Slot.unset).toArray = ls at hl ⊢
  have hl : lv_has ls 3 [(0, .ref a), (1, .int x1), (2, .int x2)] := hl
  have hP : va_P G.1 vwCl (w_X8_number G a a_text a_clerk a_s a_kept a_isKept a_signed a_slips a_row a_best v_thrown v_trace v_typed v_next v_token v_place v_value v_fault v_clerks v_draftClerks v_draftLine v_signMany v_copies v_rowMany f_text) s.heap := hP
  rw [fX8_number] at h
  refine lv_aload_n hx hb dX8_number_0 rfl (lv_at hl 0 rfl) ?_
  refine lv_aload_n hx hb dX8_number_1 rfl (lv_at hl 0 rfl) ?_
  refine va_get (D := G.1) (ci := 8) (v := .int v_token) (C := RX8) (T := TX8) (N := 23) hx hb hts in_X8_number_X8 hown hK.1 hP 0 rfl rfl 5 (by decide) (hts (.fieldLink RX8 75 "NineHandsModel" "token" "I") (by decide +kernel)) (fun _ h9 => h9) rfl dX8_number_2 ?_
  refine lv_iconst (v := (2 : Int32)) hx hb dX8_number_5 (by decide) ?_
  refine lv_icmp_ne (tgt := 25) hx hb dX8_number_6 (by decide) (fun c6 => ?_) (fun c6 => ?_)
  · have h := zf c6 h
    refine lv_iconst (v := (0 : Int32)) hx hb dX8_number_25 (by decide) ?_
    obtain ⟨y26, y26_v_next, y26_v_token, y26_v_place, y26_v_value, y26_v_fault, hc26, h⟩ := zb6_e h
    refine zcV (As := [.int (0 : Int32)]) (rest := []) (ws' := (w_X8_number G a a_text a_clerk a_s a_kept a_isKept a_signed a_slips a_row a_best v_thrown v_trace v_typed y26_v_next y26_v_token y26_v_place y26_v_value y26_v_fault v_clerks v_draftClerks v_draftLine v_signMany v_copies v_rowMany f_text)) (st1 := [.int y26]) ⟨hx, hb, hml, hown, hts⟩ (c_X8_takes l G fu a a_text a_clerk a_s a_kept a_isKept a_signed a_slips a_row a_best v_thrown v_trace v_typed v_next v_token v_place v_value v_fault v_clerks v_draftClerks v_draftLine v_signMany v_copies v_rowMany f_text (0 : Int32) y26 y26_v_next y26_v_token y26_v_place y26_v_value y26_v_fault hc26) (cwV 1 hts gX8_number_X8_takes rfl rfl rfl (by decide +kernel) ⟨Nat.le_of_ble_eq_true rfl, Nat.le_of_ble_eq_true rfl⟩) hK hE hP hD hS hA [0, 1] rfl rfl 0 8 rfl rfl rfl rfl rfl rfl hl.1 rfl (Nat.le_of_ble_eq_true rfl) dX8_number_26 (Nat.zero_le _) (Nat.zero_le _) rfl (fun H locs hP hD hS => ?_)
    cases h
    exact W.iret hx hb hr (fun t9 ht9 _ => zend hP hD hS ht9) hS.2.2 dX8_number_29
  · have h := zt c6 h
    refine lv_aload_n hx hb dX8_number_9 rfl (lv_at hl 0 rfl) ?_
    refine va_get (D := G.1) (ci := 8) (v := .int v_value) (C := RX8) (T := TX8) (N := 23) hx hb hts in_X8_number_X8 hown hK.1 hP 0 rfl rfl 7 (by decide) (hts (.fieldLink RX8 82 "NineHandsModel" "value" "I") (by decide +kernel)) (fun _ h9 => h9) rfl dX8_number_10 ?_
    refine lv_iload_n hx hb dX8_number_13 rfl (lv_at hl 1 rfl) ?_
    refine lv_iload_n hx hb dX8_number_14 rfl (lv_at hl 2 rfl) ?_
    obtain ⟨y15, hc15, h⟩ := zb1_e h
    refine zcS (As := [.int v_value, .int x1, .int x2]) (rest := [.ref a]) (ws' := (w_X8_number G a a_text a_clerk a_s a_kept a_isKept a_signed a_slips a_row a_best v_thrown v_trace v_typed v_next v_token v_place v_value v_fault v_clerks v_draftClerks v_draftLine v_signMany v_copies v_rowMany f_text)) (st1 := [.int y15, .ref a]) ⟨hx, hb, hml, hown, hts⟩ (c_X8_in l G v_value x1 x2 y15 hc15) (va_cwS 3 hts gX8_number_X8_in rfl rfl rfl (by decide +kernel) ⟨Nat.le_of_ble_eq_true rfl, Nat.le_of_ble_eq_true rfl⟩) hK hE hP hD hS hA [] rfl rfl rfl rfl rfl hl.1 rfl (Nat.le_of_ble_eq_true rfl) dX8_number_15 (Nat.zero_le _) (Nat.zero_le _) rfl (fun H locs hP hD hS => ?_)
    refine lv_if_eq (tgt := 25) hx hb dX8_number_18 (by decide) (fun c18 => ?_) (fun c18 => ?_)
    · have h := zt c18 h
      refine lv_iconst (v := (0 : Int32)) hx hb dX8_number_25 (by decide) ?_
      obtain ⟨y26, y26_v_next, y26_v_token, y26_v_place, y26_v_value, y26_v_fault, hc26, h⟩ := zb6_e h
      refine zcV (As := [.int (0 : Int32)]) (rest := []) (ws' := (w_X8_number G a a_text a_clerk a_s a_kept a_isKept a_signed a_slips a_row a_best v_thrown v_trace v_typed y26_v_next y26_v_token y26_v_place y26_v_value y26_v_fault v_clerks v_draftClerks v_draftLine v_signMany v_copies v_rowMany f_text)) (st1 := [.int y26]) ⟨hx, hb, hml, hown, hts⟩ (c_X8_takes l G fu a a_text a_clerk a_s a_kept a_isKept a_signed a_slips a_row a_best v_thrown v_trace v_typed v_next v_token v_place v_value v_fault v_clerks v_draftClerks v_draftLine v_signMany v_copies v_rowMany f_text (0 : Int32) y26 y26_v_next y26_v_token y26_v_place y26_v_value y26_v_fault hc26) (cwV 1 hts gX8_number_X8_takes rfl rfl rfl (by decide +kernel) ⟨Nat.le_of_ble_eq_true rfl, Nat.le_of_ble_eq_true rfl⟩) hK hE hP hD hS hA [0, 1] rfl rfl 0 8 rfl rfl rfl rfl rfl rfl hl.1 rfl (Nat.le_of_ble_eq_true rfl) dX8_number_26 (Nat.zero_le _) (Nat.zero_le _) rfl (fun H locs hP hD hS => ?_)
      cases h
      exact W.iret hx hb hr (fun t9 ht9 _ => zend hP hD hS ht9) hS.2.2 dX8_number_29
    · have h := zf c18 h
      refine lv_iconst (v := (1 : Int32)) hx hb dX8_number_21 (by decide) ?_
      refine lv_goto (tgt := 26) hx hb dX8_number_22 (by decide) ?_
      obtain ⟨y26, y26_v_next, y26_v_token, y26_v_place, y26_v_value, y26_v_fault, hc26, h⟩ := zb6_e h
      refine zcV (As := [.int (1 : Int32)]) (rest := []) (ws' := (w_X8_number G a a_text a_clerk a_s a_kept a_isKept a_signed a_slips a_row a_best v_thrown v_trace v_typed y26_v_next y26_v_token y26_v_place y26_v_value y26_v_fault v_clerks v_draftClerks v_draftLine v_signMany v_copies v_rowMany f_text)) (st1 := [.int y26]) ⟨hx, hb, hml, hown, hts⟩ (c_X8_takes l G fu a a_text a_clerk a_s a_kept a_isKept a_signed a_slips a_row a_best v_thrown v_trace v_typed v_next v_token v_place v_value v_fault v_clerks v_draftClerks v_draftLine v_signMany v_copies v_rowMany f_text (1 : Int32) y26 y26_v_next y26_v_token y26_v_place y26_v_value y26_v_fault hc26) (cwV 1 hts gX8_number_X8_takes rfl rfl rfl (by decide +kernel) ⟨Nat.le_of_ble_eq_true rfl, Nat.le_of_ble_eq_true rfl⟩) hK hE hP hD hS hA [0, 1] rfl rfl 0 8 rfl rfl rfl rfl rfl rfl hl.1 rfl (Nat.le_of_ble_eq_true rfl) dX8_number_26 (Nat.zero_le _) (Nat.zero_le _) rfl (fun H locs hP hD hS => ?_)
      cases h
      exact W.iret hx hb hr (fun t9 ht9 _ => zend hP hD hS ht9) hS.2.2 dX8_number_29
abbrev w_X8_readsItem (G : zG) (a : Nat) (a_text : Nat) (a_clerk : Nat) (a_s : Nat) (a_kept : Nat) (a_isKept : Nat) (a_signed : Nat) (a_slips : Nat) (a_row : Nat) (a_best : Nat) (v_thrown : Int32) (v_trace : Int64) (v_typed : Int32) (v_next : Int32) (v_token : Int32) (v_place : Int32) (v_value : Int32) (v_fault : Int32) (v_clerks : Int32) (v_draftClerks : Int32) (v_draftLine : Int32) (v_signMany : Int32) (v_copies : Int32) (v_rowMany : Int32) (f_text : (Nat → Int32)) (f_clerk : (Nat → Int32)) : va_W := [(a, .inr (8, [.int v_thrown, .long v_trace, .ref a_text, .int v_typed, .int v_next, .int v_token, .int v_place, .int v_value, .int v_fault, .ref a_clerk, .int v_clerks, .int v_draftClerks, .int v_draftLine, .ref a_s, .ref a_kept, .ref a_isKept, .ref a_signed, .int v_signMany, .ref a_slips, .int v_copies, .ref a_row, .ref a_best, .int v_rowMany])), (a_text, .inl (zCI G, 200, .inl f_text)), (a_clerk, .inl (zCI G, 48, .inl f_clerk))]
theorem in_X8_readsItem_X8 : ∀ w ∈ wsX80, w ∈ wsX8_readsItem := by decide +kernel
set_option maxHeartbeats 4000000 in
set_option maxRecDepth 100000 in
theorem c_X8_readsItem (l : Launch) (G : zG) (fu : Nat) (a : Nat) (a_text : Nat) (a_clerk : Nat) (a_s : Nat) (a_kept : Nat) (a_isKept : Nat) (a_signed : Nat) (a_slips : Nat) (a_row : Nat) (a_best : Nat) (v_thrown : Int32) (v_trace : Int64) (v_typed : Int32) (v_next : Int32) (v_token : Int32) (v_place : Int32) (v_value : Int32) (v_fault : Int32) (v_clerks : Int32) (v_draftClerks : Int32) (v_draftLine : Int32) (v_signMany : Int32) (v_copies : Int32) (v_rowMany : Int32) (f_text : (Nat → Int32)) (f_clerk : (Nat → Int32)) (x1 : Int32) (ov_next : Int32) (ov_token : Int32) (ov_place : Int32) (ov_value : Int32) (ov_fault : Int32) (ov_draftClerks : Int32) (ov_draftLine : Int32) (of_clerk : (Nat → Int32)) (h : fX8_readsItem fu v_typed v_next v_token v_place v_value v_fault v_draftClerks v_draftLine f_text f_clerk x1 = some (ov_next, ov_token, ov_place, ov_value, ov_fault, ov_draftClerks, ov_draftLine, of_clerk)) : zC l yX8_readsItem wsX8_readsItem 6 135 G [.ref a, .int x1] (w_X8_readsItem G a a_text a_clerk a_s a_kept a_isKept a_signed a_slips a_row a_best v_thrown v_trace v_typed v_next v_token v_place v_value v_fault v_clerks v_draftClerks v_draftLine v_signMany v_copies v_rowMany f_text f_clerk) none (w_X8_readsItem G a a_text a_clerk a_s a_kept a_isKept a_signed a_slips a_row a_best v_thrown v_trace v_typed ov_next ov_token ov_place ov_value ov_fault v_clerks ov_draftClerks ov_draftLine v_signMany v_copies v_rowMany f_text of_clerk) := by
  refine fun sz => Met.ofW (cc := cX8_readsItem) (maxL := 4) (ret := none) (by decide) rfl ?_
  intro p e s m args below meth c s₁ B hml hv
  obtain ⟨rfl, hsz, hP, hK, hD0, hE⟩ := hv
  have hx := B.exec
  have hb := B.bytes
  have hr := B.returns
  have hts := atoms_spec (ws := wsX8_readsItem) B.pre
  have hown : s.vm.findClass RX8 = some m.cls := findClass_of_methodNamed B.named
  have hlocks := B.notSynchronized
  subst hsz
  have hD := hD0.self (sz := s.heap.size)
  generalize hAe : va_A (w_X8_readsItem G a a_text a_clerk a_s a_kept a_isKept a_signed a_slips a_row a_best v_thrown v_trace v_typed v_next v_token v_place v_value v_fault v_clerks v_draftClerks v_draftLine v_signMany v_copies v_rowMany f_text f_clerk) s.heap.size = A at hD hE ⊢
  have hA : ∀ q : Nat, s.heap.size ≤ q → A q := fun q h => by rw [← hAe]; exact Or.inr h
  have hS : va_S A s.heap s.heap [] := va_S.rf
  have hl := lv_entry ([.ref a, .int x1]) (n := 4) (Nat.le_of_ble_eq_true rfl)
  rw [lg_entry_eq]
  generalize (lg_sl ([.ref a, .int x1]) ++ List.replicate (4 - (lg_sl ([.ref a, .int x1])).length) Slot.unset).toArray = ls at hl ⊢
  have hl : lv_has ls 4 [(0, .ref a), (1, .int x1)] := hl
  have hP : va_P G.1 vwCl (w_X8_readsItem G a a_text a_clerk a_s a_kept a_isKept a_signed a_slips a_row a_best v_thrown v_trace v_typed v_next v_token v_place v_value v_fault v_clerks v_draftClerks v_draftLine v_signMany v_copies v_rowMany f_text f_clerk) s.heap := hP
  rw [fX8_readsItem] at h
  have join_87 : ∀ (s1_87 : Int32) (s3_87 : Int32) (l2_87 : Int32) (v_next_87 : Int32) (v_token_87 : Int32) (v_place_87 : Int32) (v_value_87 : Int32) (v_fault_87 : Int32) (v_draftClerks_87 : Int32) (v_draftLine_87 : Int32) (f_clerk_87 : (Nat → Int32)) (H : Heap) (locs : List Loc) (ls : Array Slot), fX8_readsItem_J87 fu v_typed f_text s1_87 s3_87 l2_87 v_next_87 v_token_87 v_place_87 v_value_87 v_fault_87 v_draftClerks_87 v_draftLine_87 f_clerk_87 = some (ov_next, ov_token, ov_place, ov_value, ov_fault, ov_draftClerks, ov_draftLine, of_clerk) → va_P G.1 vwCl (w_X8_readsItem G a a_text a_clerk a_s a_kept a_isKept a_signed a_slips a_row a_best v_thrown v_trace v_typed v_next_87 v_token_87 v_place_87 v_value_87 v_fault_87 v_clerks v_draftClerks_87 v_draftLine_87 v_signMany v_copies v_rowMany f_text f_clerk_87) H → va_D A (w_X8_readsItem G a a_text a_clerk a_s a_kept a_isKept a_signed a_slips a_row a_best v_thrown v_trace v_typed v_next_87 v_token_87 v_place_87 v_value_87 v_fault_87 v_clerks v_draftClerks_87 v_draftLine_87 v_signMany v_copies v_rowMany f_text f_clerk_87) → va_S A s.heap H locs → lv_has ls 4 [(0, .ref a), (2, .int l2_87)] → W p l e (headSpec wsX8_readsItem { frames := 6, cells := 0, slots := 0, locals := 135 }).room s m ([.ref a, .int x1] : List Value).toArray below meth c H locs 0 0 (MQ below (zQ none G (w_X8_readsItem G a a_text a_clerk a_s a_kept a_isKept a_signed a_slips a_row a_best v_thrown v_trace v_typed ov_next ov_token ov_place ov_value ov_fault v_clerks ov_draftClerks ov_draftLine v_signMany v_copies v_rowMany f_text of_clerk) A) ([.ref a, .int x1] : List Value).toArray s 0 0 A) (F0 m 87 ls [.int s3_87, .ref a, .int s1_87, .ref a_clerk]) := by
    intro s1_87 s3_87 l2_87 v_next_87 v_token_87 v_place_87 v_value_87 v_fault_87 v_draftClerks_87 v_draftLine_87 f_clerk_87 H locs ls h hP hD hS hl
    rw [fX8_readsItem_J87] at h
    obtain ⟨y87, y87_v_next, y87_v_token, y87_v_place, y87_v_value, y87_v_fault, hc87, h⟩ := zb6_e h
    refine zcV (As := [.int s3_87]) (rest := [.int s1_87, .ref a_clerk]) (ws' := (w_X8_readsItem G a a_text a_clerk a_s a_kept a_isKept a_signed a_slips a_row a_best v_thrown v_trace v_typed y87_v_next y87_v_token y87_v_place y87_v_value y87_v_fault v_clerks v_draftClerks_87 v_draftLine_87 v_signMany v_copies v_rowMany f_text f_clerk_87)) (st1 := [.int y87, .int s1_87, .ref a_clerk]) ⟨hx, hb, hml, hown, hts⟩ (c_X8_takes l G fu a a_text a_clerk a_s a_kept a_isKept a_signed a_slips a_row a_best v_thrown v_trace v_typed v_next_87 v_token_87 v_place_87 v_value_87 v_fault_87 v_clerks v_draftClerks_87 v_draftLine_87 v_signMany v_copies v_rowMany f_text s3_87 y87 y87_v_next y87_v_token y87_v_place y87_v_value y87_v_fault hc87) (cwV 1 hts gX8_readsItem_X8_takes rfl rfl rfl (by decide +kernel) ⟨Nat.le_of_ble_eq_true rfl, Nat.le_of_ble_eq_true rfl⟩) hK hE hP hD hS hA [0, 1] rfl rfl 0 8 rfl rfl rfl rfl rfl rfl hl.1 rfl (Nat.le_of_ble_eq_true rfl) dX8_readsItem_87 (Nat.zero_le _) (Nat.zero_le _) rfl (fun H locs hP hD hS => ?_)
    obtain ⟨g90, h⟩ := zg h
    refine zast hx hb hK.1 hP hD hS 2 0 rfl rfl g90 (j := (s1_87).toNatClampNeg) rfl (ws' := (w_X8_readsItem G a a_text a_clerk a_s a_kept a_isKept a_signed a_slips a_row a_best v_thrown v_trace v_typed y87_v_next y87_v_token y87_v_place y87_v_value y87_v_fault v_clerks v_draftClerks_87 v_draftLine_87 v_signMany v_copies v_rowMany f_text (upd f_clerk_87 (s1_87).toNatClampNeg y87))) rfl dX8_readsItem_90 (fun H locs hP hD hS => ?_)
    refine lv_aload_n hx hb dX8_readsItem_91 rfl (lv_at hl 0 rfl) ?_
    refine va_get (D := G.1) (ci := 8) (v := .ref a_clerk) (C := RX8) (T := TX8) (N := 23) hx hb hts in_X8_readsItem_X8 hown hK.1 hP 0 rfl rfl 9 (by decide) (hts (.fieldLink RX8 13 "NineHandsModel" "clerk" "[I") (by decide +kernel)) (fun _ h9 => h9) rfl dX8_readsItem_92 ?_
    refine lv_iload_n hx hb dX8_readsItem_95 rfl (lv_at hl 1 rfl) ?_
    refine lv_iconst (v := (3 : Int32)) hx hb dX8_readsItem_96 (by decide) ?_
    refine lv_iadd hx hb dX8_readsItem_97 ?_
    refine lv_aload_n hx hb dX8_readsItem_98 rfl (lv_at hl 0 rfl) ?_
    refine lv_iconst (v := (0 : Int32)) hx hb dX8_readsItem_99 (by decide) ?_
    refine lv_bipush (v := (10 : Int32)) hx hb dX8_readsItem_100 (by decide) ?_
    obtain ⟨y102, y102_v_next, y102_v_token, y102_v_place, y102_v_value, y102_v_fault, hc102, h⟩ := zb6_e h
    refine zcV (As := [.int (0 : Int32), .int (10 : Int32)]) (rest := [.int (l2_87 + (3 : Int32)), .ref a_clerk]) (ws' := (w_X8_readsItem G a a_text a_clerk a_s a_kept a_isKept a_signed a_slips a_row a_best v_thrown v_trace v_typed y102_v_next y102_v_token y102_v_place y102_v_value y102_v_fault v_clerks v_draftClerks_87 v_draftLine_87 v_signMany v_copies v_rowMany f_text (upd f_clerk_87 (s1_87).toNatClampNeg y87))) (st1 := [.int y102, .int (l2_87 + (3 : Int32)), .ref a_clerk]) ⟨hx, hb, hml, hown, hts⟩ (c_X8_number l G fu a a_text a_clerk a_s a_kept a_isKept a_signed a_slips a_row a_best v_thrown v_trace v_typed y87_v_next y87_v_token y87_v_place y87_v_value y87_v_fault v_clerks v_draftClerks_87 v_draftLine_87 v_signMany v_copies v_rowMany f_text (0 : Int32) (10 : Int32) y102 y102_v_next y102_v_token y102_v_place y102_v_value y102_v_fault hc102) (cwV 2 hts gX8_readsItem_X8_number rfl rfl rfl (by decide +kernel) ⟨Nat.le_of_ble_eq_true rfl, Nat.le_of_ble_eq_true rfl⟩) hK hE hP hD hS hA [0, 1] rfl rfl 0 8 rfl rfl rfl rfl rfl rfl hl.1 rfl (Nat.le_of_ble_eq_true rfl) dX8_readsItem_102 (Nat.zero_le _) (Nat.zero_le _) rfl (fun H locs hP hD hS => ?_)
    obtain ⟨g105, h⟩ := zg h
    refine zast hx hb hK.1 hP hD hS 2 0 rfl rfl g105 (j := ((l2_87 + (3 : Int32))).toNatClampNeg) rfl (ws' := (w_X8_readsItem G a a_text a_clerk a_s a_kept a_isKept a_signed a_slips a_row a_best v_thrown v_trace v_typed y102_v_next y102_v_token y102_v_place y102_v_value y102_v_fault v_clerks v_draftClerks_87 v_draftLine_87 v_signMany v_copies v_rowMany f_text (upd (upd f_clerk_87 (s1_87).toNatClampNeg y87) ((l2_87 + (3 : Int32))).toNatClampNeg y102))) rfl dX8_readsItem_105 (fun H locs hP hD hS => ?_)
    refine lv_aload_n hx hb dX8_readsItem_106 rfl (lv_at hl 0 rfl) ?_
    refine lv_dup hx hb dX8_readsItem_107 rfl ?_
    refine va_get (D := G.1) (ci := 8) (v := .int v_draftClerks_87) (C := RX8) (T := TX8) (N := 23) hx hb hts in_X8_readsItem_X8 hown hK.1 hP 0 rfl rfl 11 (by decide) (hts (.fieldLink RX8 99 "NineHandsModel" "draftClerks" "I") (by decide +kernel)) (fun _ h9 => h9) rfl dX8_readsItem_108 ?_
    refine lv_iconst (v := (1 : Int32)) hx hb dX8_readsItem_111 (by decide) ?_
    refine lv_iadd hx hb dX8_readsItem_112 ?_
    refine zput1 (D := G.1) (ci := 8) (C := RX8) (T := TX8) (N := 23) (ty := .int) (ws' := (w_X8_readsItem G a a_text a_clerk a_s a_kept a_isKept a_signed a_slips a_row a_best v_thrown v_trace v_typed y102_v_next y102_v_token y102_v_place y102_v_value y102_v_fault v_clerks (v_draftClerks_87 + (1 : Int32)) v_draftLine_87 v_signMany v_copies v_rowMany f_text (upd (upd f_clerk_87 (s1_87).toNatClampNeg y87) ((l2_87 + (3 : Int32))).toNatClampNeg y102))) hx hb hts in_X8_readsItem_X8 tyX8 tyX8_ok nmX8 hown hK.1 hP hD hS 0 rfl rfl 11 (by decide) (hts (.fieldLink RX8 99 "NineHandsModel" "draftClerks" "I") (by decide +kernel)) (fun _ h9 => h9) rfl (by decide +kernel) rfl rfl (Nat.le_of_ble_eq_true rfl) rfl dX8_readsItem_113 (fun H locs hP hD hS => ?_)
    refine lv_goto (tgt := 143) hx hb dX8_readsItem_116 (by decide) ?_
    simp only [Option.some.injEq, Prod.mk.injEq] at h
    obtain ⟨rfl, rfl, rfl, rfl, rfl, rfl, rfl, rfl⟩ := h
    exact W.vret hx hb hr (fun t9 ht9 _ => zend hP hD hS ht9) hS.2.2 dX8_readsItem_143
  refine lv_iload_n hx hb dX8_readsItem_0 rfl (lv_at hl 1 rfl) ?_
  refine lv_if_ne (tgt := 119) hx hb dX8_readsItem_1 (by decide) (fun c1 => ?_) (fun c1 => ?_)
  · have h := zf c1 h
    refine lv_aload_n hx hb dX8_readsItem_119 rfl (lv_at hl 0 rfl) ?_
    refine lv_iconst (v := (0 : Int32)) hx hb dX8_readsItem_120 (by decide) ?_
    refine lv_bipush (v := (9 : Int32)) hx hb dX8_readsItem_121 (by decide) ?_
    obtain ⟨y123, y123_v_next, y123_v_token, y123_v_place, y123_v_value, y123_v_fault, hc123, h⟩ := zb6_e h
    refine zcV (As := [.int (0 : Int32), .int (9 : Int32)]) (rest := []) (ws' := (w_X8_readsItem G a a_text a_clerk a_s a_kept a_isKept a_signed a_slips a_row a_best v_thrown v_trace v_typed y123_v_next y123_v_token y123_v_place y123_v_value y123_v_fault v_clerks v_draftClerks v_draftLine v_signMany v_copies v_rowMany f_text f_clerk)) (st1 := [.int y123]) ⟨hx, hb, hml, hown, hts⟩ (c_X8_number l G fu a a_text a_clerk a_s a_kept a_isKept a_signed a_slips a_row a_best v_thrown v_trace v_typed v_next v_token v_place v_value v_fault v_clerks v_draftClerks v_draftLine v_signMany v_copies v_rowMany f_text (0 : Int32) (9 : Int32) y123 y123_v_next y123_v_token y123_v_place y123_v_value y123_v_fault hc123) (cwV 2 hts gX8_readsItem_X8_number rfl rfl rfl (by decide +kernel) ⟨Nat.le_of_ble_eq_true rfl, Nat.le_of_ble_eq_true rfl⟩) hK hE hP hD hS hA [0, 1] rfl rfl 0 8 rfl rfl rfl rfl rfl rfl hl.1 rfl (Nat.le_of_ble_eq_true rfl) dX8_readsItem_123 (Nat.zero_le _) (Nat.zero_le _) rfl (fun H locs hP hD hS => ?_)
    refine lv_istore_n (lv' := [(2, .int y123), (0, .ref a), (1, .int x1)]) hx hb dX8_readsItem_126 rfl hl (by decide) rfl (fun ls hl => ?_)
    refine lv_aload_n hx hb dX8_readsItem_127 rfl (lv_at hl 1 rfl) ?_
    refine lv_iload_n hx hb dX8_readsItem_128 rfl (lv_at hl 0 rfl) ?_
    refine lv_bipush (v := (10 : Int32)) hx hb dX8_readsItem_129 (by decide) ?_
    refine lv_aload_n hx hb dX8_readsItem_131 rfl (lv_at hl 1 rfl) ?_
    refine lv_iconst (v := (0 : Int32)) hx hb dX8_readsItem_132 (by decide) ?_
    refine lv_bipush (v := (7 : Int32)) hx hb dX8_readsItem_133 (by decide) ?_
    obtain ⟨y135, y135_v_next, y135_v_token, y135_v_place, y135_v_value, y135_v_fault, hc135, h⟩ := zb6_e h
    refine zcV (As := [.int (0 : Int32), .int (7 : Int32)]) (rest := [.int (10 : Int32), .int y123, .ref a]) (ws' := (w_X8_readsItem G a a_text a_clerk a_s a_kept a_isKept a_signed a_slips a_row a_best v_thrown v_trace v_typed y135_v_next y135_v_token y135_v_place y135_v_value y135_v_fault v_clerks v_draftClerks v_draftLine v_signMany v_copies v_rowMany f_text f_clerk)) (st1 := [.int y135, .int (10 : Int32), .int y123, .ref a]) ⟨hx, hb, hml, hown, hts⟩ (c_X8_number l G fu a a_text a_clerk a_s a_kept a_isKept a_signed a_slips a_row a_best v_thrown v_trace v_typed y123_v_next y123_v_token y123_v_place y123_v_value y123_v_fault v_clerks v_draftClerks v_draftLine v_signMany v_copies v_rowMany f_text (0 : Int32) (7 : Int32) y135 y135_v_next y135_v_token y135_v_place y135_v_value y135_v_fault hc135) (cwV 2 hts gX8_readsItem_X8_number rfl rfl rfl (by decide +kernel) ⟨Nat.le_of_ble_eq_true rfl, Nat.le_of_ble_eq_true rfl⟩) hK hE hP hD hS hA [0, 1] rfl rfl 0 8 rfl rfl rfl rfl rfl rfl hl.1 rfl (Nat.le_of_ble_eq_true rfl) dX8_readsItem_135 (Nat.zero_le _) (Nat.zero_le _) rfl (fun H locs hP hD hS => ?_)
    refine lv_imul hx hb dX8_readsItem_138 ?_
    refine lv_iadd hx hb dX8_readsItem_139 ?_
    refine zput1 (D := G.1) (ci := 8) (C := RX8) (T := TX8) (N := 23) (ty := .int) (ws' := (w_X8_readsItem G a a_text a_clerk a_s a_kept a_isKept a_signed a_slips a_row a_best v_thrown v_trace v_typed y135_v_next y135_v_token y135_v_place y135_v_value y135_v_fault v_clerks v_draftClerks (y123 + ((10 : Int32) * y135)) v_signMany v_copies v_rowMany f_text f_clerk)) hx hb hts in_X8_readsItem_X8 tyX8 tyX8_ok nmX8 hown hK.1 hP hD hS 0 rfl rfl 12 (by decide) (hts (.fieldLink RX8 106 "NineHandsModel" "draftLine" "I") (by decide +kernel)) (fun _ h9 => h9) rfl (by decide +kernel) rfl rfl (Nat.le_of_ble_eq_true rfl) rfl dX8_readsItem_140 (fun H locs hP hD hS => ?_)
    simp only [Option.some.injEq, Prod.mk.injEq] at h
    obtain ⟨rfl, rfl, rfl, rfl, rfl, rfl, rfl, rfl⟩ := h
    exact W.vret hx hb hr (fun t9 ht9 _ => zend hP hD hS ht9) hS.2.2 dX8_readsItem_143
  · have h := zt c1 h
    refine lv_bipush (v := (24 : Int32)) hx hb dX8_readsItem_4 (by decide) ?_
    refine lv_iconst (v := (4 : Int32)) hx hb dX8_readsItem_6 (by decide) ?_
    refine lv_aload_n hx hb dX8_readsItem_7 rfl (lv_at hl 0 rfl) ?_
    refine va_get (D := G.1) (ci := 8) (v := .int v_draftClerks) (C := RX8) (T := TX8) (N := 23) hx hb hts in_X8_readsItem_X8 hown hK.1 hP 0 rfl rfl 11 (by decide) (hts (.fieldLink RX8 99 "NineHandsModel" "draftClerks" "I") (by decide +kernel)) (fun _ h9 => h9) rfl dX8_readsItem_8 ?_
    refine lv_imul hx hb dX8_readsItem_11 ?_
    refine lv_iadd hx hb dX8_readsItem_12 ?_
    refine lv_istore_n (lv' := [(2, .int ((24 : Int32) + ((4 : Int32) * v_draftClerks))), (0, .ref a), (1, .int x1)]) hx hb dX8_readsItem_13 rfl hl (by decide) rfl (fun ls hl => ?_)
    refine lv_aload_n hx hb dX8_readsItem_14 rfl (lv_at hl 1 rfl) ?_
    refine va_get (D := G.1) (ci := 8) (v := .ref a_clerk) (C := RX8) (T := TX8) (N := 23) hx hb hts in_X8_readsItem_X8 hown hK.1 hP 0 rfl rfl 9 (by decide) (hts (.fieldLink RX8 13 "NineHandsModel" "clerk" "[I") (by decide +kernel)) (fun _ h9 => h9) rfl dX8_readsItem_15 ?_
    refine lv_iload_n hx hb dX8_readsItem_18 rfl (lv_at hl 0 rfl) ?_
    refine lv_aload_n hx hb dX8_readsItem_19 rfl (lv_at hl 1 rfl) ?_
    refine lv_iconst (v := (0 : Int32)) hx hb dX8_readsItem_20 (by decide) ?_
    refine lv_bipush (v := (8 : Int32)) hx hb dX8_readsItem_21 (by decide) ?_
    obtain ⟨y23, y23_v_next, y23_v_token, y23_v_place, y23_v_value, y23_v_fault, hc23, h⟩ := zb6_e h
    refine zcV (As := [.int (0 : Int32), .int (8 : Int32)]) (rest := [.int ((24 : Int32) + ((4 : Int32) * v_draftClerks)), .ref a_clerk]) (ws' := (w_X8_readsItem G a a_text a_clerk a_s a_kept a_isKept a_signed a_slips a_row a_best v_thrown v_trace v_typed y23_v_next y23_v_token y23_v_place y23_v_value y23_v_fault v_clerks v_draftClerks v_draftLine v_signMany v_copies v_rowMany f_text f_clerk)) (st1 := [.int y23, .int ((24 : Int32) + ((4 : Int32) * v_draftClerks)), .ref a_clerk]) ⟨hx, hb, hml, hown, hts⟩ (c_X8_number l G fu a a_text a_clerk a_s a_kept a_isKept a_signed a_slips a_row a_best v_thrown v_trace v_typed v_next v_token v_place v_value v_fault v_clerks v_draftClerks v_draftLine v_signMany v_copies v_rowMany f_text (0 : Int32) (8 : Int32) y23 y23_v_next y23_v_token y23_v_place y23_v_value y23_v_fault hc23) (cwV 2 hts gX8_readsItem_X8_number rfl rfl rfl (by decide +kernel) ⟨Nat.le_of_ble_eq_true rfl, Nat.le_of_ble_eq_true rfl⟩) hK hE hP hD hS hA [0, 1] rfl rfl 0 8 rfl rfl rfl rfl rfl rfl hl.1 rfl (Nat.le_of_ble_eq_true rfl) dX8_readsItem_23 (Nat.zero_le _) (Nat.zero_le _) rfl (fun H locs hP hD hS => ?_)
    obtain ⟨g26, h⟩ := zg h
    refine zast hx hb hK.1 hP hD hS 2 0 rfl rfl g26 (j := (((24 : Int32) + ((4 : Int32) * v_draftClerks))).toNatClampNeg) rfl (ws' := (w_X8_readsItem G a a_text a_clerk a_s a_kept a_isKept a_signed a_slips a_row a_best v_thrown v_trace v_typed y23_v_next y23_v_token y23_v_place y23_v_value y23_v_fault v_clerks v_draftClerks v_draftLine v_signMany v_copies v_rowMany f_text (upd f_clerk (((24 : Int32) + ((4 : Int32) * v_draftClerks))).toNatClampNeg y23))) rfl dX8_readsItem_26 (fun H locs hP hD hS => ?_)
    refine lv_aload_n hx hb dX8_readsItem_27 rfl (lv_at hl 1 rfl) ?_
    refine lv_iconst (v := (0 : Int32)) hx hb dX8_readsItem_28 (by decide) ?_
    refine lv_bipush (v := (7 : Int32)) hx hb dX8_readsItem_29 (by decide) ?_
    obtain ⟨y31, y31_v_next, y31_v_token, y31_v_place, y31_v_value, y31_v_fault, hc31, h⟩ := zb6_e h
    refine zcV (As := [.int (0 : Int32), .int (7 : Int32)]) (rest := []) (ws' := (w_X8_readsItem G a a_text a_clerk a_s a_kept a_isKept a_signed a_slips a_row a_best v_thrown v_trace v_typed y31_v_next y31_v_token y31_v_place y31_v_value y31_v_fault v_clerks v_draftClerks v_draftLine v_signMany v_copies v_rowMany f_text (upd f_clerk (((24 : Int32) + ((4 : Int32) * v_draftClerks))).toNatClampNeg y23))) (st1 := [.int y31]) ⟨hx, hb, hml, hown, hts⟩ (c_X8_number l G fu a a_text a_clerk a_s a_kept a_isKept a_signed a_slips a_row a_best v_thrown v_trace v_typed y23_v_next y23_v_token y23_v_place y23_v_value y23_v_fault v_clerks v_draftClerks v_draftLine v_signMany v_copies v_rowMany f_text (0 : Int32) (7 : Int32) y31 y31_v_next y31_v_token y31_v_place y31_v_value y31_v_fault hc31) (cwV 2 hts gX8_readsItem_X8_number rfl rfl rfl (by decide +kernel) ⟨Nat.le_of_ble_eq_true rfl, Nat.le_of_ble_eq_true rfl⟩) hK hE hP hD hS hA [0, 1] rfl rfl 0 8 rfl rfl rfl rfl rfl rfl hl.1 rfl (Nat.le_of_ble_eq_true rfl) dX8_readsItem_31 (Nat.zero_le _) (Nat.zero_le _) rfl (fun H locs hP hD hS => ?_)
    refine lv_istore_n (lv' := [(3, .int y31), (2, .int ((24 : Int32) + ((4 : Int32) * v_draftClerks))), (0, .ref a), (1, .int x1)]) hx hb dX8_readsItem_34 rfl hl (by decide) rfl (fun ls hl => ?_)
    refine lv_aload_n hx hb dX8_readsItem_35 rfl (lv_at hl 2 rfl) ?_
    refine va_get (D := G.1) (ci := 8) (v := .ref a_clerk) (C := RX8) (T := TX8) (N := 23) hx hb hts in_X8_readsItem_X8 hown hK.1 hP 0 rfl rfl 9 (by decide) (hts (.fieldLink RX8 13 "NineHandsModel" "clerk" "[I") (by decide +kernel)) (fun _ h9 => h9) rfl dX8_readsItem_36 ?_
    refine lv_iload_n hx hb dX8_readsItem_39 rfl (lv_at hl 1 rfl) ?_
    refine lv_iconst (v := (1 : Int32)) hx hb dX8_readsItem_40 (by decide) ?_
    refine lv_iadd hx hb dX8_readsItem_41 ?_
    refine lv_iload_n hx hb dX8_readsItem_42 rfl (lv_at hl 0 rfl) ?_
    obtain ⟨g43, h⟩ := zg h
    refine zast hx hb hK.1 hP hD hS 2 0 rfl rfl g43 (j := ((((24 : Int32) + ((4 : Int32) * v_draftClerks)) + (1 : Int32))).toNatClampNeg) rfl (ws' := (w_X8_readsItem G a a_text a_clerk a_s a_kept a_isKept a_signed a_slips a_row a_best v_thrown v_trace v_typed y31_v_next y31_v_token y31_v_place y31_v_value y31_v_fault v_clerks v_draftClerks v_draftLine v_signMany v_copies v_rowMany f_text (upd (upd f_clerk (((24 : Int32) + ((4 : Int32) * v_draftClerks))).toNatClampNeg y23) ((((24 : Int32) + ((4 : Int32) * v_draftClerks)) + (1 : Int32))).toNatClampNeg y31))) rfl dX8_readsItem_43 (fun H locs hP hD hS => ?_)
    refine lv_aload_n hx hb dX8_readsItem_44 rfl (lv_at hl 2 rfl) ?_
    refine va_get (D := G.1) (ci := 8) (v := .ref a_clerk) (C := RX8) (T := TX8) (N := 23) hx hb hts in_X8_readsItem_X8 hown hK.1 hP 0 rfl rfl 9 (by decide) (hts (.fieldLink RX8 13 "NineHandsModel" "clerk" "[I") (by decide +kernel)) (fun _ h9 => h9) rfl dX8_readsItem_45 ?_
    refine lv_iload_n hx hb dX8_readsItem_48 rfl (lv_at hl 1 rfl) ?_
    refine lv_iconst (v := (2 : Int32)) hx hb dX8_readsItem_49 (by decide) ?_
    refine lv_iadd hx hb dX8_readsItem_50 ?_
    refine lv_aload_n hx hb dX8_readsItem_51 rfl (lv_at hl 2 rfl) ?_
    refine lv_aload_n hx hb dX8_readsItem_52 rfl (lv_at hl 2 rfl) ?_
    refine va_get (D := G.1) (ci := 8) (v := .int y31_v_token) (C := RX8) (T := TX8) (N := 23) hx hb hts in_X8_readsItem_X8 hown hK.1 hP 0 rfl rfl 5 (by decide) (hts (.fieldLink RX8 75 "NineHandsModel" "token" "I") (by decide +kernel)) (fun _ h9 => h9) rfl dX8_readsItem_53 ?_
    refine lv_iconst (v := (2 : Int32)) hx hb dX8_readsItem_56 (by decide) ?_
    refine lv_icmp_ne (tgt := 86) hx hb dX8_readsItem_57 (by decide) (fun c57 => ?_) (fun c57 => ?_)
    · have h := zf c57 h
      refine lv_iconst (v := (0 : Int32)) hx hb dX8_readsItem_86 (by decide) ?_
      exact join_87 _ _ _ _ _ _ _ _ _ _ _ _ _ _ h hP hD hS (lv_sub hl [2, 1] rfl)
    · have h := zt c57 h
      refine lv_aload_n hx hb dX8_readsItem_60 rfl (lv_at hl 2 rfl) ?_
      refine va_get (D := G.1) (ci := 8) (v := .int y31_v_value) (C := RX8) (T := TX8) (N := 23) hx hb hts in_X8_readsItem_X8 hown hK.1 hP 0 rfl rfl 7 (by decide) (hts (.fieldLink RX8 82 "NineHandsModel" "value" "I") (by decide +kernel)) (fun _ h9 => h9) rfl dX8_readsItem_61 ?_
      refine lv_iconst (v := (0 : Int32)) hx hb dX8_readsItem_64 (by decide) ?_
      refine lv_bipush (v := (7 : Int32)) hx hb dX8_readsItem_65 (by decide) ?_
      obtain ⟨y67, hc67, h⟩ := zb1_e h
      refine zcS (As := [.int y31_v_value, .int (0 : Int32), .int (7 : Int32)]) (rest := [.ref a, .int (((24 : Int32) + ((4 : Int32) * v_draftClerks)) + (2 : Int32)), .ref a_clerk]) (ws' := (w_X8_readsItem G a a_text a_clerk a_s a_kept a_isKept a_signed a_slips a_row a_best v_thrown v_trace v_typed y31_v_next y31_v_token y31_v_place y31_v_value y31_v_fault v_clerks v_draftClerks v_draftLine v_signMany v_copies v_rowMany f_text (upd (upd f_clerk (((24 : Int32) + ((4 : Int32) * v_draftClerks))).toNatClampNeg y23) ((((24 : Int32) + ((4 : Int32) * v_draftClerks)) + (1 : Int32))).toNatClampNeg y31))) (st1 := [.int y67, .ref a, .int (((24 : Int32) + ((4 : Int32) * v_draftClerks)) + (2 : Int32)), .ref a_clerk]) ⟨hx, hb, hml, hown, hts⟩ (c_X8_in l G y31_v_value (0 : Int32) (7 : Int32) y67 hc67) (va_cwS 3 hts gX8_readsItem_X8_in rfl rfl rfl (by decide +kernel) ⟨Nat.le_of_ble_eq_true rfl, Nat.le_of_ble_eq_true rfl⟩) hK hE hP hD hS hA [] rfl rfl rfl rfl rfl hl.1 rfl (Nat.le_of_ble_eq_true rfl) dX8_readsItem_67 (Nat.zero_le _) (Nat.zero_le _) rfl (fun H locs hP hD hS => ?_)
      refine lv_if_eq (tgt := 86) hx hb dX8_readsItem_70 (by decide) (fun c70 => ?_) (fun c70 => ?_)
      · have h := zt c70 h
        refine lv_iconst (v := (0 : Int32)) hx hb dX8_readsItem_86 (by decide) ?_
        exact join_87 _ _ _ _ _ _ _ _ _ _ _ _ _ _ h hP hD hS (lv_sub hl [2, 1] rfl)
      · have h := zf c70 h
        refine lv_aload_n hx hb dX8_readsItem_73 rfl (lv_at hl 2 rfl) ?_
        refine va_get (D := G.1) (ci := 8) (v := .int y31_v_value) (C := RX8) (T := TX8) (N := 23) hx hb hts in_X8_readsItem_X8 hown hK.1 hP 0 rfl rfl 7 (by decide) (hts (.fieldLink RX8 82 "NineHandsModel" "value" "I") (by decide +kernel)) (fun _ h9 => h9) rfl dX8_readsItem_74 ?_
        refine lv_iload_n hx hb dX8_readsItem_77 rfl (lv_at hl 0 rfl) ?_
        refine lv_iand hx hb dX8_readsItem_78 ?_
        refine lv_if_ne (tgt := 86) hx hb dX8_readsItem_79 (by decide) (fun c79 => ?_) (fun c79 => ?_)
        · have h := zf c79 h
          refine lv_iconst (v := (0 : Int32)) hx hb dX8_readsItem_86 (by decide) ?_
          exact join_87 _ _ _ _ _ _ _ _ _ _ _ _ _ _ h hP hD hS (lv_sub hl [2, 1] rfl)
        · have h := zt c79 h
          refine lv_iconst (v := (1 : Int32)) hx hb dX8_readsItem_82 (by decide) ?_
          refine lv_goto (tgt := 87) hx hb dX8_readsItem_83 (by decide) ?_
          exact join_87 _ _ _ _ _ _ _ _ _ _ _ _ _ _ h hP hD hS (lv_sub hl [2, 1] rfl)
abbrev w_X8_chancery (G : zG) (a : Nat) (a_text : Nat) (a_clerk : Nat) (a_s : Nat) (a_kept : Nat) (a_isKept : Nat) (a_signed : Nat) (a_slips : Nat) (a_row : Nat) (a_best : Nat) (v_thrown : Int32) (v_trace : Int64) (v_typed : Int32) (v_next : Int32) (v_token : Int32) (v_place : Int32) (v_value : Int32) (v_fault : Int32) (v_clerks : Int32) (v_draftClerks : Int32) (v_draftLine : Int32) (v_signMany : Int32) (v_copies : Int32) (v_rowMany : Int32) (f_text : (Nat → Int32)) (f_clerk : (Nat → Int32)) (f_s : (Nat → Int32)) (f_isKept : (Nat → Int32)) : va_W := [(a, .inr (8, [.int v_thrown, .long v_trace, .ref a_text, .int v_typed, .int v_next, .int v_token, .int v_place, .int v_value, .int v_fault, .ref a_clerk, .int v_clerks, .int v_draftClerks, .int v_draftLine, .ref a_s, .ref a_kept, .ref a_isKept, .ref a_signed, .int v_signMany, .ref a_slips, .int v_copies, .ref a_row, .ref a_best, .int v_rowMany])), (a_text, .inl (zCI G, 200, .inl f_text)), (a_clerk, .inl (zCI G, 48, .inl f_clerk)), (a_s, .inl (zCI G, 22, .inl f_s)), (a_isKept, .inl (zCZ G, 2, .inl f_isKept))]
theorem in_X8_chancery_X8 : ∀ w ∈ wsX80, w ∈ wsX8_chancery := by decide +kernel
set_option maxHeartbeats 4000000 in
set_option maxRecDepth 100000 in
theorem c_X8_chancery (l : Launch) (G : zG) (fu : Nat) (a : Nat) (a_text : Nat) (a_clerk : Nat) (a_s : Nat) (a_kept : Nat) (a_isKept : Nat) (a_signed : Nat) (a_slips : Nat) (a_row : Nat) (a_best : Nat) (v_thrown : Int32) (v_trace : Int64) (v_typed : Int32) (v_next : Int32) (v_token : Int32) (v_place : Int32) (v_value : Int32) (v_fault : Int32) (v_clerks : Int32) (v_draftClerks : Int32) (v_draftLine : Int32) (v_signMany : Int32) (v_copies : Int32) (v_rowMany : Int32) (f_text : (Nat → Int32)) (f_clerk : (Nat → Int32)) (f_s : (Nat → Int32)) (f_isKept : (Nat → Int32)) (rv : Int32) (ov_thrown : Int32) (ov_typed : Int32) (ov_next : Int32) (ov_token : Int32) (ov_place : Int32) (ov_value : Int32) (ov_fault : Int32) (ov_clerks : Int32) (ov_draftClerks : Int32) (ov_draftLine : Int32) (ov_signMany : Int32) (ov_copies : Int32) (of_clerk : (Nat → Int32)) (of_s : (Nat → Int32)) (of_isKept : (Nat → Int32)) (h : fX8_chancery fu v_thrown v_typed v_next v_token v_place v_value v_fault v_clerks v_draftClerks v_draftLine v_signMany v_copies f_text f_clerk f_s f_isKept = some (rv, ov_thrown, ov_typed, ov_next, ov_token, ov_place, ov_value, ov_fault, ov_clerks, ov_draftClerks, ov_draftLine, ov_signMany, ov_copies, of_clerk, of_s, of_isKept)) : zC l yX8_chancery wsX8_chancery 7 158 G [.ref a] (w_X8_chancery G a a_text a_clerk a_s a_kept a_isKept a_signed a_slips a_row a_best v_thrown v_trace v_typed v_next v_token v_place v_value v_fault v_clerks v_draftClerks v_draftLine v_signMany v_copies v_rowMany f_text f_clerk f_s f_isKept) (some (.int rv)) (w_X8_chancery G a a_text a_clerk a_s a_kept a_isKept a_signed a_slips a_row a_best ov_thrown v_trace ov_typed ov_next ov_token ov_place ov_value ov_fault ov_clerks ov_draftClerks ov_draftLine ov_signMany ov_copies v_rowMany f_text of_clerk of_s of_isKept) := by
  refine fun sz => Met.ofW (cc := cX8_chancery) (maxL := 3) (ret := (some .int)) (by decide) rfl ?_
  intro p e s m args below meth c s₁ B hml hv
  obtain ⟨rfl, hsz, hP, hK, hD0, hE⟩ := hv
  have hx := B.exec
  have hb := B.bytes
  have hr := B.returns
  have hts := atoms_spec (ws := wsX8_chancery) B.pre
  have hown : s.vm.findClass RX8 = some m.cls := findClass_of_methodNamed B.named
  have hlocks := B.notSynchronized
  subst hsz
  have hD := hD0.self (sz := s.heap.size)
  generalize hAe : va_A (w_X8_chancery G a a_text a_clerk a_s a_kept a_isKept a_signed a_slips a_row a_best v_thrown v_trace v_typed v_next v_token v_place v_value v_fault v_clerks v_draftClerks v_draftLine v_signMany v_copies v_rowMany f_text f_clerk f_s f_isKept) s.heap.size = A at hD hE ⊢
  have hA : ∀ q : Nat, s.heap.size ≤ q → A q := fun q h => by rw [← hAe]; exact Or.inr h
  have hS : va_S A s.heap s.heap [] := va_S.rf
  have hl := lv_entry ([.ref a]) (n := 3) (Nat.le_of_ble_eq_true rfl)
  rw [lg_entry_eq]
  generalize (lg_sl ([.ref a]) ++ List.replicate (3 - (lg_sl ([.ref a])).length) Slot.unset).toArray = ls at hl ⊢
  have hl : lv_has ls 3 [(0, .ref a)] := hl
  have hP : va_P G.1 vwCl (w_X8_chancery G a a_text a_clerk a_s a_kept a_isKept a_signed a_slips a_row a_best v_thrown v_trace v_typed v_next v_token v_place v_value v_fault v_clerks v_draftClerks v_draftLine v_signMany v_copies v_rowMany f_text f_clerk f_s f_isKept) s.heap := hP
  rw [fX8_chancery] at h
  have join_128 : ∀ (l1_128 : Int32) (v_thrown_128 : Int32) (v_typed_128 : Int32) (v_next_128 : Int32) (v_token_128 : Int32) (v_place_128 : Int32) (v_value_128 : Int32) (v_fault_128 : Int32) (v_clerks_128 : Int32) (v_draftClerks_128 : Int32) (v_draftLine_128 : Int32) (v_signMany_128 : Int32) (v_copies_128 : Int32) (f_clerk_128 : (Nat → Int32)) (f_s_128 : (Nat → Int32)) (f_isKept_128 : (Nat → Int32)) (H : Heap) (locs : List Loc) (ls : Array Slot), fX8_chancery_J128 fu l1_128 v_thrown_128 v_typed_128 v_next_128 v_token_128 v_place_128 v_value_128 v_fault_128 v_clerks_128 v_draftClerks_128 v_draftLine_128 v_signMany_128 v_copies_128 f_clerk_128 f_s_128 f_isKept_128 = some (rv, ov_thrown, ov_typed, ov_next, ov_token, ov_place, ov_value, ov_fault, ov_clerks, ov_draftClerks, ov_draftLine, ov_signMany, ov_copies, of_clerk, of_s, of_isKept) → va_P G.1 vwCl (w_X8_chancery G a a_text a_clerk a_s a_kept a_isKept a_signed a_slips a_row a_best v_thrown_128 v_trace v_typed_128 v_next_128 v_token_128 v_place_128 v_value_128 v_fault_128 v_clerks_128 v_draftClerks_128 v_draftLine_128 v_signMany_128 v_copies_128 v_rowMany f_text f_clerk_128 f_s_128 f_isKept_128) H → va_D A (w_X8_chancery G a a_text a_clerk a_s a_kept a_isKept a_signed a_slips a_row a_best v_thrown_128 v_trace v_typed_128 v_next_128 v_token_128 v_place_128 v_value_128 v_fault_128 v_clerks_128 v_draftClerks_128 v_draftLine_128 v_signMany_128 v_copies_128 v_rowMany f_text f_clerk_128 f_s_128 f_isKept_128) → va_S A s.heap H locs → lv_has ls 3 [(0, .ref a), (1, .int l1_128)] → W p l e (headSpec wsX8_chancery { frames := 7, cells := 0, slots := 0, locals := 158 }).room s m ([.ref a] : List Value).toArray below meth c H locs 0 0 (MQ below (zQ (some (.int rv)) G (w_X8_chancery G a a_text a_clerk a_s a_kept a_isKept a_signed a_slips a_row a_best ov_thrown v_trace ov_typed ov_next ov_token ov_place ov_value ov_fault ov_clerks ov_draftClerks ov_draftLine ov_signMany ov_copies v_rowMany f_text of_clerk of_s of_isKept) A) ([.ref a] : List Value).toArray s 0 0 A) (F0 m 128 ls []) := by
    intro l1_128 v_thrown_128 v_typed_128 v_next_128 v_token_128 v_place_128 v_value_128 v_fault_128 v_clerks_128 v_draftClerks_128 v_draftLine_128 v_signMany_128 v_copies_128 f_clerk_128 f_s_128 f_isKept_128 H locs ls h hP hD hS hl
    rw [fX8_chancery_J128] at h
    refine lv_aload_n hx hb dX8_chancery_128 rfl (lv_at hl 0 rfl) ?_
    obtain ⟨y129, hc129, h⟩ := zb1_e h
    refine zcV (As := []) (rest := []) (ws' := (w_X8_chancery G a a_text a_clerk a_s a_kept a_isKept a_signed a_slips a_row a_best v_thrown_128 v_trace v_typed_128 v_next_128 v_token_128 v_place_128 v_value_128 v_fault_128 v_clerks_128 v_draftClerks_128 v_draftLine_128 v_signMany_128 v_copies_128 v_rowMany f_text f_clerk_128 f_s_128 f_isKept_128)) (st1 := [.int y129]) ⟨hx, hb, hml, hown, hts⟩ (c_X8_isWell l G a a_text a_clerk a_s a_kept a_isKept a_signed a_slips a_row a_best v_thrown_128 v_trace v_typed_128 v_next_128 v_token_128 v_place_128 v_value_128 v_fault_128 v_clerks_128 v_draftClerks_128 v_draftLine_128 v_signMany_128 v_copies_128 v_rowMany y129 hc129) (cwV 0 hts gX8_chancery_X8_isWell rfl rfl rfl (by decide +kernel) ⟨Nat.le_of_ble_eq_true rfl, Nat.le_of_ble_eq_true rfl⟩) hK hE hP hD hS hA [0] rfl rfl 0 8 rfl rfl rfl rfl rfl rfl hl.1 rfl (Nat.le_of_ble_eq_true rfl) dX8_chancery_129 (Nat.zero_le _) (Nat.zero_le _) rfl (fun H locs hP hD hS => ?_)
    refine lv_if_ne (tgt := 143) hx hb dX8_chancery_132 (by decide) (fun c132 => ?_) (fun c132 => ?_)
    · have h := zf c132 h
      refine lv_aload_n hx hb dX8_chancery_143 rfl (lv_at hl 0 rfl) ?_
      refine lv_aload_n hx hb dX8_chancery_144 rfl (lv_at hl 0 rfl) ?_
      refine va_get (D := G.1) (ci := 8) (v := .int v_draftClerks_128) (C := RX8) (T := TX8) (N := 23) hx hb hts in_X8_chancery_X8 hown hK.1 hP 0 rfl rfl 11 (by decide) (hts (.fieldLink RX8 99 "NineHandsModel" "draftClerks" "I") (by decide +kernel)) (fun _ h9 => h9) rfl dX8_chancery_145 ?_
      refine zput1 (D := G.1) (ci := 8) (C := RX8) (T := TX8) (N := 23) (ty := .int) (ws' := (w_X8_chancery G a a_text a_clerk a_s a_kept a_isKept a_signed a_slips a_row a_best v_thrown_128 v_trace v_typed_128 v_next_128 v_token_128 v_place_128 v_value_128 v_fault_128 v_draftClerks_128 v_draftClerks_128 v_draftLine_128 v_signMany_128 v_copies_128 v_rowMany f_text f_clerk_128 f_s_128 f_isKept_128)) hx hb hts in_X8_chancery_X8 tyX8 tyX8_ok nmX8 hown hK.1 hP hD hS 0 rfl rfl 10 (by decide) (hts (.fieldLink RX8 112 "NineHandsModel" "clerks" "I") (by decide +kernel)) (fun _ h9 => h9) rfl (by decide +kernel) rfl rfl (Nat.le_of_ble_eq_true rfl) rfl dX8_chancery_148 (fun H locs hP hD hS => ?_)
      refine lv_iconst (v := (0 : Int32)) hx hb dX8_chancery_151 (by decide) ?_
      refine lv_istore_n (lv' := [(2, .int (0 : Int32)), (0, .ref a), (1, .int l1_128)]) hx hb dX8_chancery_152 rfl hl (by decide) rfl (fun ls hl => ?_)
      have loop_153 : ∀ (n : Nat) (K : (Nat → Int32) → Option (Int32 × Int32 × Int32 × Int32 × Int32 × Int32 × Int32 × Int32 × Int32 × Int32 × Int32 × Int32 × Int32 × (Nat → Int32) × (Nat → Int32) × (Nat → Int32))) (l2_153 : Int32) (f_clerk_153 : (Nat → Int32)) (H : Heap) (locs : List Loc) (ls : Array Slot), fX8_chancery_L153 fu l1_128 K n l2_153 f_clerk_153 = some (rv, ov_thrown, ov_typed, ov_next, ov_token, ov_place, ov_value, ov_fault, ov_clerks, ov_draftClerks, ov_draftLine, ov_signMany, ov_copies, of_clerk, of_s, of_isKept) → (∀ (f_clerk_153e : (Nat → Int32)) (H : Heap) (locs : List Loc) (ls : Array Slot), K f_clerk_153e = some (rv, ov_thrown, ov_typed, ov_next, ov_token, ov_place, ov_value, ov_fault, ov_clerks, ov_draftClerks, ov_draftLine, ov_signMany, ov_copies, of_clerk, of_s, of_isKept) → va_P G.1 vwCl (w_X8_chancery G a a_text a_clerk a_s a_kept a_isKept a_signed a_slips a_row a_best v_thrown_128 v_trace v_typed_128 v_next_128 v_token_128 v_place_128 v_value_128 v_fault_128 v_draftClerks_128 v_draftClerks_128 v_draftLine_128 v_signMany_128 v_copies_128 v_rowMany f_text f_clerk_153e f_s_128 f_isKept_128) H → va_D A (w_X8_chancery G a a_text a_clerk a_s a_kept a_isKept a_signed a_slips a_row a_best v_thrown_128 v_trace v_typed_128 v_next_128 v_token_128 v_place_128 v_value_128 v_fault_128 v_draftClerks_128 v_draftClerks_128 v_draftLine_128 v_signMany_128 v_copies_128 v_rowMany f_text f_clerk_153e f_s_128 f_isKept_128) → va_S A s.heap H locs → lv_has ls 3 [(0, .ref a), (1, .int l1_128)] → W p l e (headSpec wsX8_chancery { frames := 7, cells := 0, slots := 0, locals := 158 }).room s m ([.ref a] : List Value).toArray below meth c H locs 0 0 (MQ below (zQ (some (.int rv)) G (w_X8_chancery G a a_text a_clerk a_s a_kept a_isKept a_signed a_slips a_row a_best ov_thrown v_trace ov_typed ov_next ov_token ov_place ov_value ov_fault ov_clerks ov_draftClerks ov_draftLine ov_signMany ov_copies v_rowMany f_text of_clerk of_s of_isKept) A) ([.ref a] : List Value).toArray s 0 0 A) (F0 m 180 ls [])) → va_P G.1 vwCl (w_X8_chancery G a a_text a_clerk a_s a_kept a_isKept a_signed a_slips a_row a_best v_thrown_128 v_trace v_typed_128 v_next_128 v_token_128 v_place_128 v_value_128 v_fault_128 v_draftClerks_128 v_draftClerks_128 v_draftLine_128 v_signMany_128 v_copies_128 v_rowMany f_text f_clerk_153 f_s_128 f_isKept_128) H → va_D A (w_X8_chancery G a a_text a_clerk a_s a_kept a_isKept a_signed a_slips a_row a_best v_thrown_128 v_trace v_typed_128 v_next_128 v_token_128 v_place_128 v_value_128 v_fault_128 v_draftClerks_128 v_draftClerks_128 v_draftLine_128 v_signMany_128 v_copies_128 v_rowMany f_text f_clerk_153 f_s_128 f_isKept_128) → va_S A s.heap H locs → lv_has ls 3 [(0, .ref a), (1, .int l1_128), (2, .int l2_153)] → W p l e (headSpec wsX8_chancery { frames := 7, cells := 0, slots := 0, locals := 158 }).room s m ([.ref a] : List Value).toArray below meth c H locs 0 0 (MQ below (zQ (some (.int rv)) G (w_X8_chancery G a a_text a_clerk a_s a_kept a_isKept a_signed a_slips a_row a_best ov_thrown v_trace ov_typed ov_next ov_token ov_place ov_value ov_fault ov_clerks ov_draftClerks ov_draftLine ov_signMany ov_copies v_rowMany f_text of_clerk of_s of_isKept) A) ([.ref a] : List Value).toArray s 0 0 A) (F0 m 153 ls []) := by
        intro n
        induction n with
        | zero => intro K l2_153 f_clerk_153 H locs ls h; rw [fX8_chancery_L153] at h; cases h
        | succ n ih =>
          intro K l2_153 f_clerk_153 H locs ls h hk hP hD hS hl
          rw [fX8_chancery_L153] at h
          refine lv_iload_n hx hb dX8_chancery_153 rfl (lv_at hl 2 rfl) ?_
          refine lv_bipush (v := (24 : Int32)) hx hb dX8_chancery_154 (by decide) ?_
          refine lv_icmp_ge (tgt := 180) hx hb dX8_chancery_156 (by decide) (fun c156 => ?_) (fun c156 => ?_)
          · have h := zt c156 h
            exact hk _ _ _ _ h hP hD hS (lv_sub hl [0, 1] rfl)
          · have h := zf c156 h
            refine lv_aload_n hx hb dX8_chancery_159 rfl (lv_at hl 0 rfl) ?_
            refine va_get (D := G.1) (ci := 8) (v := .ref a_clerk) (C := RX8) (T := TX8) (N := 23) hx hb hts in_X8_chancery_X8 hown hK.1 hP 0 rfl rfl 9 (by decide) (hts (.fieldLink RX8 13 "NineHandsModel" "clerk" "[I") (by decide +kernel)) (fun _ h9 => h9) rfl dX8_chancery_160 ?_
            refine lv_iload_n hx hb dX8_chancery_163 rfl (lv_at hl 2 rfl) ?_
            refine lv_aload_n hx hb dX8_chancery_164 rfl (lv_at hl 0 rfl) ?_
            refine va_get (D := G.1) (ci := 8) (v := .ref a_clerk) (C := RX8) (T := TX8) (N := 23) hx hb hts in_X8_chancery_X8 hown hK.1 hP 0 rfl rfl 9 (by decide) (hts (.fieldLink RX8 13 "NineHandsModel" "clerk" "[I") (by decide +kernel)) (fun _ h9 => h9) rfl dX8_chancery_165 ?_
            refine lv_bipush (v := (24 : Int32)) hx hb dX8_chancery_168 (by decide) ?_
            refine lv_iload_n hx hb dX8_chancery_170 rfl (lv_at hl 2 rfl) ?_
            refine lv_iadd hx hb dX8_chancery_171 ?_
            obtain ⟨g172, h⟩ := zg h
            refine zald hx hb hK.1 hP 2 0 rfl rfl g172 (j := (((24 : Int32) + l2_153)).toNatClampNeg) rfl dX8_chancery_172 ?_
            obtain ⟨g173, h⟩ := zg h
            refine zast hx hb hK.1 hP hD hS 2 0 rfl rfl g173 (j := (l2_153).toNatClampNeg) rfl (ws' := (w_X8_chancery G a a_text a_clerk a_s a_kept a_isKept a_signed a_slips a_row a_best v_thrown_128 v_trace v_typed_128 v_next_128 v_token_128 v_place_128 v_value_128 v_fault_128 v_draftClerks_128 v_draftClerks_128 v_draftLine_128 v_signMany_128 v_copies_128 v_rowMany f_text (upd f_clerk_153 (l2_153).toNatClampNeg (f_clerk_153 (((24 : Int32) + l2_153)).toNatClampNeg)) f_s_128 f_isKept_128)) rfl dX8_chancery_173 (fun H locs hP hD hS => ?_)
            refine lv_iinc (v := (l2_153 + (1 : Int32))) (lv' := [(2, .int (l2_153 + (1 : Int32))), (0, .ref a), (1, .int l1_128)]) hx hb dX8_chancery_174 hl (k := 2) rfl rfl (by decide) rfl (fun ls hl => ?_)
            refine lv_goto (tgt := 153) hx hb dX8_chancery_177 (by decide) ?_
            exact ih K _ _ _ _ _ h hk hP hD hS (lv_sub hl [1, 2, 0] rfl)
      refine loop_153 fu _ _ _ _ _ _ h (fun f_clerk_153e H locs ls h hP hD hS hl => ?_) hP hD hS (lv_sub hl [1, 2, 0] rfl)
      refine lv_aload_n hx hb dX8_chancery_180 rfl (lv_at hl 0 rfl) ?_
      refine lv_iconst (v := (0 : Int32)) hx hb dX8_chancery_181 (by decide) ?_
      refine zput1 (D := G.1) (ci := 8) (C := RX8) (T := TX8) (N := 23) (ty := .int) (ws' := (w_X8_chancery G a a_text a_clerk a_s a_kept a_isKept a_signed a_slips a_row a_best v_thrown_128 v_trace (0 : Int32) v_next_128 v_token_128 v_place_128 v_value_128 v_fault_128 v_draftClerks_128 v_draftClerks_128 v_draftLine_128 v_signMany_128 v_copies_128 v_rowMany f_text f_clerk_153e f_s_128 f_isKept_128)) hx hb hts in_X8_chancery_X8 tyX8 tyX8_ok nmX8 hown hK.1 hP hD hS 0 rfl rfl 3 (by decide) (hts (.fieldLink RX8 50 "NineHandsModel" "typed" "I") (by decide +kernel)) (fun _ h9 => h9) rfl (by decide +kernel) rfl rfl (Nat.le_of_ble_eq_true rfl) rfl dX8_chancery_182 (fun H locs hP hD hS => ?_)
      refine lv_aload_n hx hb dX8_chancery_185 rfl (lv_at hl 0 rfl) ?_
      refine lv_iconst (v := (0 : Int32)) hx hb dX8_chancery_186 (by decide) ?_
      refine zput1 (D := G.1) (ci := 8) (C := RX8) (T := TX8) (N := 23) (ty := .int) (ws' := (w_X8_chancery G a a_text a_clerk a_s a_kept a_isKept a_signed a_slips a_row a_best v_thrown_128 v_trace (0 : Int32) v_next_128 v_token_128 v_place_128 v_value_128 v_fault_128 v_draftClerks_128 v_draftClerks_128 v_draftLine_128 (0 : Int32) v_copies_128 v_rowMany f_text f_clerk_153e f_s_128 f_isKept_128)) hx hb hts in_X8_chancery_X8 tyX8 tyX8_ok nmX8 hown hK.1 hP hD hS 0 rfl rfl 17 (by decide) (hts (.fieldLink RX8 115 "NineHandsModel" "signMany" "I") (by decide +kernel)) (fun _ h9 => h9) rfl (by decide +kernel) rfl rfl (Nat.le_of_ble_eq_true rfl) rfl dX8_chancery_187 (fun H locs hP hD hS => ?_)
      refine lv_aload_n hx hb dX8_chancery_190 rfl (lv_at hl 0 rfl) ?_
      refine lv_iconst (v := (0 : Int32)) hx hb dX8_chancery_191 (by decide) ?_
      refine zput1 (D := G.1) (ci := 8) (C := RX8) (T := TX8) (N := 23) (ty := .int) (ws' := (w_X8_chancery G a a_text a_clerk a_s a_kept a_isKept a_signed a_slips a_row a_best v_thrown_128 v_trace (0 : Int32) v_next_128 v_token_128 v_place_128 v_value_128 v_fault_128 v_draftClerks_128 v_draftClerks_128 v_draftLine_128 (0 : Int32) (0 : Int32) v_rowMany f_text f_clerk_153e f_s_128 f_isKept_128)) hx hb hts in_X8_chancery_X8 tyX8 tyX8_ok nmX8 hown hK.1 hP hD hS 0 rfl rfl 19 (by decide) (hts (.fieldLink RX8 118 "NineHandsModel" "copies" "I") (by decide +kernel)) (fun _ h9 => h9) rfl (by decide +kernel) rfl rfl (Nat.le_of_ble_eq_true rfl) rfl dX8_chancery_192 (fun H locs hP hD hS => ?_)
      refine lv_aload_n hx hb dX8_chancery_195 rfl (lv_at hl 0 rfl) ?_
      refine va_get (D := G.1) (ci := 8) (v := .ref a_isKept) (C := RX8) (T := TX8) (N := 23) hx hb hts in_X8_chancery_X8 hown hK.1 hP 0 rfl rfl 15 (by decide) (hts (.fieldLink RX8 22 "NineHandsModel" "isKept" "[Z") (by decide +kernel)) (fun _ h9 => h9) rfl dX8_chancery_196 ?_
      refine lv_iconst (v := (0 : Int32)) hx hb dX8_chancery_199 (by decide) ?_
      refine lv_iconst (v := (0 : Int32)) hx hb dX8_chancery_200 (by decide) ?_
      refine zzst hx hb hK.1 hP hD hS 4 2 rfl rfl (show ¬ ((0 : Int32) < 0 ∨ 2 ≤ ((0 : Int32)).toNatClampNeg) by decide) (j := 0) (by decide) (y := (0 : Int32)) (by rfl) (ws' := (w_X8_chancery G a a_text a_clerk a_s a_kept a_isKept a_signed a_slips a_row a_best v_thrown_128 v_trace (0 : Int32) v_next_128 v_token_128 v_place_128 v_value_128 v_fault_128 v_draftClerks_128 v_draftClerks_128 v_draftLine_128 (0 : Int32) (0 : Int32) v_rowMany f_text f_clerk_153e f_s_128 (upd f_isKept_128 0 (0 : Int32)))) rfl dX8_chancery_201 (fun H locs hP hD hS => ?_)
      refine lv_aload_n hx hb dX8_chancery_202 rfl (lv_at hl 0 rfl) ?_
      refine va_get (D := G.1) (ci := 8) (v := .ref a_isKept) (C := RX8) (T := TX8) (N := 23) hx hb hts in_X8_chancery_X8 hown hK.1 hP 0 rfl rfl 15 (by decide) (hts (.fieldLink RX8 22 "NineHandsModel" "isKept" "[Z") (by decide +kernel)) (fun _ h9 => h9) rfl dX8_chancery_203 ?_
      refine lv_iconst (v := (1 : Int32)) hx hb dX8_chancery_206 (by decide) ?_
      refine lv_iconst (v := (0 : Int32)) hx hb dX8_chancery_207 (by decide) ?_
      refine zzst hx hb hK.1 hP hD hS 4 2 rfl rfl (show ¬ ((1 : Int32) < 0 ∨ 2 ≤ ((1 : Int32)).toNatClampNeg) by decide) (j := 1) (by decide) (y := (0 : Int32)) (by rfl) (ws' := (w_X8_chancery G a a_text a_clerk a_s a_kept a_isKept a_signed a_slips a_row a_best v_thrown_128 v_trace (0 : Int32) v_next_128 v_token_128 v_place_128 v_value_128 v_fault_128 v_draftClerks_128 v_draftClerks_128 v_draftLine_128 (0 : Int32) (0 : Int32) v_rowMany f_text f_clerk_153e f_s_128 (upd (upd f_isKept_128 0 (0 : Int32)) 1 (0 : Int32)))) rfl dX8_chancery_208 (fun H locs hP hD hS => ?_)
      refine lv_aload_n hx hb dX8_chancery_209 rfl (lv_at hl 0 rfl) ?_
      refine lv_aload_n hx hb dX8_chancery_210 rfl (lv_at hl 0 rfl) ?_
      refine va_get (D := G.1) (ci := 8) (v := .int v_draftLine_128) (C := RX8) (T := TX8) (N := 23) hx hb hts in_X8_chancery_X8 hown hK.1 hP 0 rfl rfl 12 (by decide) (hts (.fieldLink RX8 106 "NineHandsModel" "draftLine" "I") (by decide +kernel)) (fun _ h9 => h9) rfl dX8_chancery_211 ?_
      refine lv_bipush (v := ((-9) : Int32)) hx hb dX8_chancery_214 (by decide) ?_
      refine lv_icmp_ne (tgt := 223) hx hb dX8_chancery_216 (by decide) (fun c216 => ?_) (fun c216 => ?_)
      · have h := zf c216 h
        refine lv_aload_n hx hb dX8_chancery_223 rfl (lv_at hl 0 rfl) ?_
        refine va_get (D := G.1) (ci := 8) (v := .int v_draftLine_128) (C := RX8) (T := TX8) (N := 23) hx hb hts in_X8_chancery_X8 hown hK.1 hP 0 rfl rfl 12 (by decide) (hts (.fieldLink RX8 106 "NineHandsModel" "draftLine" "I") (by decide +kernel)) (fun _ h9 => h9) rfl dX8_chancery_224 ?_
        obtain ⟨y227_f_s, hc227, h⟩ := zb1_e h
        refine zcV (As := [.int v_draftLine_128]) (rest := []) (ws' := (w_X8_chancery G a a_text a_clerk a_s a_kept a_isKept a_signed a_slips a_row a_best v_thrown_128 v_trace (0 : Int32) v_next_128 v_token_128 v_place_128 v_value_128 v_fault_128 v_draftClerks_128 v_draftClerks_128 v_draftLine_128 (0 : Int32) (0 : Int32) v_rowMany f_text f_clerk_153e y227_f_s (upd (upd f_isKept_128 0 (0 : Int32)) 1 (0 : Int32)))) (st1 := []) ⟨hx, hb, hml, hown, hts⟩ (c_X8_begins l G a a_text a_clerk a_s a_kept a_isKept a_signed a_slips a_row a_best v_thrown_128 v_trace (0 : Int32) v_next_128 v_token_128 v_place_128 v_value_128 v_fault_128 v_draftClerks_128 v_draftClerks_128 v_draftLine_128 (0 : Int32) (0 : Int32) v_rowMany f_s_128 v_draftLine_128 y227_f_s hc227) (cwV 1 hts gX8_chancery_X8_begins rfl rfl rfl (by decide +kernel) ⟨Nat.le_of_ble_eq_true rfl, Nat.le_of_ble_eq_true rfl⟩) hK hE hP hD hS hA [0, 3] rfl rfl 0 8 rfl rfl rfl rfl rfl rfl hl.1 rfl (Nat.le_of_ble_eq_true rfl) dX8_chancery_227 (Nat.zero_le _) (Nat.zero_le _) rfl (fun H locs hP hD hS => ?_)
        refine lv_iload_n hx hb dX8_chancery_230 rfl (lv_at hl 1 rfl) ?_
        simp only [Option.some.injEq, Prod.mk.injEq] at h
        obtain ⟨rfl, rfl, rfl, rfl, rfl, rfl, rfl, rfl, rfl, rfl, rfl, rfl, rfl, rfl, rfl, rfl⟩ := h
        exact W.iret hx hb hr (fun t9 ht9 _ => zend hP hD hS ht9) hS.2.2 dX8_chancery_231
      · have h := zt c216 h
        refine lv_iconst (v := (5 : Int32)) hx hb dX8_chancery_219 (by decide) ?_
        refine lv_goto (tgt := 227) hx hb dX8_chancery_220 (by decide) ?_
        obtain ⟨y227_f_s, hc227, h⟩ := zb1_e h
        refine zcV (As := [.int (5 : Int32)]) (rest := []) (ws' := (w_X8_chancery G a a_text a_clerk a_s a_kept a_isKept a_signed a_slips a_row a_best v_thrown_128 v_trace (0 : Int32) v_next_128 v_token_128 v_place_128 v_value_128 v_fault_128 v_draftClerks_128 v_draftClerks_128 v_draftLine_128 (0 : Int32) (0 : Int32) v_rowMany f_text f_clerk_153e y227_f_s (upd (upd f_isKept_128 0 (0 : Int32)) 1 (0 : Int32)))) (st1 := []) ⟨hx, hb, hml, hown, hts⟩ (c_X8_begins l G a a_text a_clerk a_s a_kept a_isKept a_signed a_slips a_row a_best v_thrown_128 v_trace (0 : Int32) v_next_128 v_token_128 v_place_128 v_value_128 v_fault_128 v_draftClerks_128 v_draftClerks_128 v_draftLine_128 (0 : Int32) (0 : Int32) v_rowMany f_s_128 (5 : Int32) y227_f_s hc227) (cwV 1 hts gX8_chancery_X8_begins rfl rfl rfl (by decide +kernel) ⟨Nat.le_of_ble_eq_true rfl, Nat.le_of_ble_eq_true rfl⟩) hK hE hP hD hS hA [0, 3] rfl rfl 0 8 rfl rfl rfl rfl rfl rfl hl.1 rfl (Nat.le_of_ble_eq_true rfl) dX8_chancery_227 (Nat.zero_le _) (Nat.zero_le _) rfl (fun H locs hP hD hS => ?_)
        refine lv_iload_n hx hb dX8_chancery_230 rfl (lv_at hl 1 rfl) ?_
        simp only [Option.some.injEq, Prod.mk.injEq] at h
        obtain ⟨rfl, rfl, rfl, rfl, rfl, rfl, rfl, rfl, rfl, rfl, rfl, rfl, rfl, rfl, rfl, rfl⟩ := h
        exact W.iret hx hb hr (fun t9 ht9 _ => zend hP hD hS ht9) hS.2.2 dX8_chancery_231
    · have h := zt c132 h
      refine lv_bipush (v := ((-10) : Int32)) hx hb dX8_chancery_135 (by decide) ?_
      refine lv_aload_n hx hb dX8_chancery_137 rfl (lv_at hl 0 rfl) ?_
      refine va_get (D := G.1) (ci := 8) (v := .int v_fault_128) (C := RX8) (T := TX8) (N := 23) hx hb hts in_X8_chancery_X8 hown hK.1 hP 0 rfl rfl 8 (by decide) (hts (.fieldLink RX8 85 "NineHandsModel" "fault" "I") (by decide +kernel)) (fun _ h9 => h9) rfl dX8_chancery_138 ?_
      refine lv_isub hx hb dX8_chancery_141 ?_
      simp only [Option.some.injEq, Prod.mk.injEq] at h
      obtain ⟨rfl, rfl, rfl, rfl, rfl, rfl, rfl, rfl, rfl, rfl, rfl, rfl, rfl, rfl, rfl, rfl⟩ := h
      exact W.iret hx hb hr (fun t9 ht9 _ => zend hP hD hS ht9) hS.2.2 dX8_chancery_142
  refine lv_aload_n hx hb dX8_chancery_0 rfl (lv_at hl 0 rfl) ?_
  refine lv_iconst (v := (0 : Int32)) hx hb dX8_chancery_1 (by decide) ?_
  refine zput1 (D := G.1) (ci := 8) (C := RX8) (T := TX8) (N := 23) (ty := .int) (ws' := (w_X8_chancery G a a_text a_clerk a_s a_kept a_isKept a_signed a_slips a_row a_best (0 : Int32) v_trace v_typed v_next v_token v_place v_value v_fault v_clerks v_draftClerks v_draftLine v_signMany v_copies v_rowMany f_text f_clerk f_s f_isKept)) hx hb hts in_X8_chancery_X8 tyX8 tyX8_ok nmX8 hown hK.1 hP hD hS 0 rfl rfl 0 (by decide) (hts (.fieldLink RX8 42 "NineHandsModel" "thrown" "I") (by decide +kernel)) (fun _ h9 => h9) rfl (by decide +kernel) rfl rfl (Nat.le_of_ble_eq_true rfl) rfl dX8_chancery_2 (fun H locs hP hD hS => ?_)
  refine lv_aload_n hx hb dX8_chancery_5 rfl (lv_at hl 0 rfl) ?_
  refine lv_iconst (v := ((-1) : Int32)) hx hb dX8_chancery_6 (by decide) ?_
  refine zput1 (D := G.1) (ci := 8) (C := RX8) (T := TX8) (N := 23) (ty := .int) (ws' := (w_X8_chancery G a a_text a_clerk a_s a_kept a_isKept a_signed a_slips a_row a_best (0 : Int32) v_trace v_typed v_next v_token v_place v_value ((-1) : Int32) v_clerks v_draftClerks v_draftLine v_signMany v_copies v_rowMany f_text f_clerk f_s f_isKept)) hx hb hts in_X8_chancery_X8 tyX8 tyX8_ok nmX8 hown hK.1 hP hD hS 0 rfl rfl 8 (by decide) (hts (.fieldLink RX8 85 "NineHandsModel" "fault" "I") (by decide +kernel)) (fun _ h9 => h9) rfl (by decide +kernel) rfl rfl (Nat.le_of_ble_eq_true rfl) rfl dX8_chancery_7 (fun H locs hP hD hS => ?_)
  refine lv_aload_n hx hb dX8_chancery_10 rfl (lv_at hl 0 rfl) ?_
  refine lv_iconst (v := (0 : Int32)) hx hb dX8_chancery_11 (by decide) ?_
  refine zput1 (D := G.1) (ci := 8) (C := RX8) (T := TX8) (N := 23) (ty := .int) (ws' := (w_X8_chancery G a a_text a_clerk a_s a_kept a_isKept a_signed a_slips a_row a_best (0 : Int32) v_trace v_typed (0 : Int32) v_token v_place v_value ((-1) : Int32) v_clerks v_draftClerks v_draftLine v_signMany v_copies v_rowMany f_text f_clerk f_s f_isKept)) hx hb hts in_X8_chancery_X8 tyX8 tyX8_ok nmX8 hown hK.1 hP hD hS 0 rfl rfl 4 (by decide) (hts (.fieldLink RX8 65 "NineHandsModel" "next" "I") (by decide +kernel)) (fun _ h9 => h9) rfl (by decide +kernel) rfl rfl (Nat.le_of_ble_eq_true rfl) rfl dX8_chancery_12 (fun H locs hP hD hS => ?_)
  refine lv_iconst (v := (0 : Int32)) hx hb dX8_chancery_15 (by decide) ?_
  refine lv_istore_n (lv' := [(1, .int (0 : Int32)), (0, .ref a)]) hx hb dX8_chancery_16 rfl hl (by decide) rfl (fun ls hl => ?_)
  refine lv_aload_n hx hb dX8_chancery_17 rfl (lv_at hl 1 rfl) ?_
  refine lv_iconst (v := (0 : Int32)) hx hb dX8_chancery_18 (by decide) ?_
  refine zput1 (D := G.1) (ci := 8) (C := RX8) (T := TX8) (N := 23) (ty := .int) (ws' := (w_X8_chancery G a a_text a_clerk a_s a_kept a_isKept a_signed a_slips a_row a_best (0 : Int32) v_trace v_typed (0 : Int32) v_token v_place v_value ((-1) : Int32) v_clerks (0 : Int32) v_draftLine v_signMany v_copies v_rowMany f_text f_clerk f_s f_isKept)) hx hb hts in_X8_chancery_X8 tyX8 tyX8_ok nmX8 hown hK.1 hP hD hS 0 rfl rfl 11 (by decide) (hts (.fieldLink RX8 99 "NineHandsModel" "draftClerks" "I") (by decide +kernel)) (fun _ h9 => h9) rfl (by decide +kernel) rfl rfl (Nat.le_of_ble_eq_true rfl) rfl dX8_chancery_19 (fun H locs hP hD hS => ?_)
  refine lv_aload_n hx hb dX8_chancery_22 rfl (lv_at hl 1 rfl) ?_
  refine lv_bipush (v := ((-9) : Int32)) hx hb dX8_chancery_23 (by decide) ?_
  refine zput1 (D := G.1) (ci := 8) (C := RX8) (T := TX8) (N := 23) (ty := .int) (ws' := (w_X8_chancery G a a_text a_clerk a_s a_kept a_isKept a_signed a_slips a_row a_best (0 : Int32) v_trace v_typed (0 : Int32) v_token v_place v_value ((-1) : Int32) v_clerks (0 : Int32) ((-9) : Int32) v_signMany v_copies v_rowMany f_text f_clerk f_s f_isKept)) hx hb hts in_X8_chancery_X8 tyX8 tyX8_ok nmX8 hown hK.1 hP hD hS 0 rfl rfl 12 (by decide) (hts (.fieldLink RX8 106 "NineHandsModel" "draftLine" "I") (by decide +kernel)) (fun _ h9 => h9) rfl (by decide +kernel) rfl rfl (Nat.le_of_ble_eq_true rfl) rfl dX8_chancery_25 (fun H locs hP hD hS => ?_)
  refine lv_aload_n hx hb dX8_chancery_28 rfl (lv_at hl 1 rfl) ?_
  obtain ⟨y29_v_next, y29_v_token, y29_v_place, y29_v_value, hc29, h⟩ := zb4_e h
  refine zcV (As := []) (rest := []) (ws' := (w_X8_chancery G a a_text a_clerk a_s a_kept a_isKept a_signed a_slips a_row a_best (0 : Int32) v_trace v_typed y29_v_next y29_v_token y29_v_place y29_v_value ((-1) : Int32) v_clerks (0 : Int32) ((-9) : Int32) v_signMany v_copies v_rowMany f_text f_clerk f_s f_isKept)) (st1 := []) ⟨hx, hb, hml, hown, hts⟩ (c_X8_advances l G fu a a_text a_clerk a_s a_kept a_isKept a_signed a_slips a_row a_best (0 : Int32) v_trace v_typed (0 : Int32) v_token v_place v_value ((-1) : Int32) v_clerks (0 : Int32) ((-9) : Int32) v_signMany v_copies v_rowMany f_text y29_v_next y29_v_token y29_v_place y29_v_value hc29) (cwV 0 hts gX8_chancery_X8_advances rfl rfl rfl (by decide +kernel) ⟨Nat.le_of_ble_eq_true rfl, Nat.le_of_ble_eq_true rfl⟩) hK hE hP hD hS hA [0, 1] rfl rfl 0 8 rfl rfl rfl rfl rfl rfl hl.1 rfl (Nat.le_of_ble_eq_true rfl) dX8_chancery_29 (Nat.zero_le _) (Nat.zero_le _) rfl (fun H locs hP hD hS => ?_)
  have loop_32 : ∀ (n : Nat) (K : Int32 → Int32 → Int32 → Int32 → Int32 → Int32 → Int32 → Int32 → (Nat → Int32) → Option (Int32 × Int32 × Int32 × Int32 × Int32 × Int32 × Int32 × Int32 × Int32 × Int32 × Int32 × Int32 × Int32 × (Nat → Int32) × (Nat → Int32) × (Nat → Int32))) (l1_32 : Int32) (v_next_32 : Int32) (v_token_32 : Int32) (v_place_32 : Int32) (v_value_32 : Int32) (v_fault_32 : Int32) (v_draftClerks_32 : Int32) (v_draftLine_32 : Int32) (f_clerk_32 : (Nat → Int32)) (H : Heap) (locs : List Loc) (ls : Array Slot), fX8_chancery_L32 fu v_typed f_text K n l1_32 v_next_32 v_token_32 v_place_32 v_value_32 v_fault_32 v_draftClerks_32 v_draftLine_32 f_clerk_32 = some (rv, ov_thrown, ov_typed, ov_next, ov_token, ov_place, ov_value, ov_fault, ov_clerks, ov_draftClerks, ov_draftLine, ov_signMany, ov_copies, of_clerk, of_s, of_isKept) → (∀ (l1_32e : Int32) (v_next_32e : Int32) (v_token_32e : Int32) (v_place_32e : Int32) (v_value_32e : Int32) (v_fault_32e : Int32) (v_draftClerks_32e : Int32) (v_draftLine_32e : Int32) (f_clerk_32e : (Nat → Int32)) (H : Heap) (locs : List Loc) (ls : Array Slot), K l1_32e v_next_32e v_token_32e v_place_32e v_value_32e v_fault_32e v_draftClerks_32e v_draftLine_32e f_clerk_32e = some (rv, ov_thrown, ov_typed, ov_next, ov_token, ov_place, ov_value, ov_fault, ov_clerks, ov_draftClerks, ov_draftLine, ov_signMany, ov_copies, of_clerk, of_s, of_isKept) → va_P G.1 vwCl (w_X8_chancery G a a_text a_clerk a_s a_kept a_isKept a_signed a_slips a_row a_best (0 : Int32) v_trace v_typed v_next_32e v_token_32e v_place_32e v_value_32e v_fault_32e v_clerks v_draftClerks_32e v_draftLine_32e v_signMany v_copies v_rowMany f_text f_clerk_32e f_s f_isKept) H → va_D A (w_X8_chancery G a a_text a_clerk a_s a_kept a_isKept a_signed a_slips a_row a_best (0 : Int32) v_trace v_typed v_next_32e v_token_32e v_place_32e v_value_32e v_fault_32e v_clerks v_draftClerks_32e v_draftLine_32e v_signMany v_copies v_rowMany f_text f_clerk_32e f_s f_isKept) → va_S A s.heap H locs → lv_has ls 3 [(0, .ref a), (1, .int l1_32e)] → W p l e (headSpec wsX8_chancery { frames := 7, cells := 0, slots := 0, locals := 158 }).room s m ([.ref a] : List Value).toArray below meth c H locs 0 0 (MQ below (zQ (some (.int rv)) G (w_X8_chancery G a a_text a_clerk a_s a_kept a_isKept a_signed a_slips a_row a_best ov_thrown v_trace ov_typed ov_next ov_token ov_place ov_value ov_fault ov_clerks ov_draftClerks ov_draftLine ov_signMany ov_copies v_rowMany f_text of_clerk of_s of_isKept) A) ([.ref a] : List Value).toArray s 0 0 A) (F0 m 128 ls [])) → va_P G.1 vwCl (w_X8_chancery G a a_text a_clerk a_s a_kept a_isKept a_signed a_slips a_row a_best (0 : Int32) v_trace v_typed v_next_32 v_token_32 v_place_32 v_value_32 v_fault_32 v_clerks v_draftClerks_32 v_draftLine_32 v_signMany v_copies v_rowMany f_text f_clerk_32 f_s f_isKept) H → va_D A (w_X8_chancery G a a_text a_clerk a_s a_kept a_isKept a_signed a_slips a_row a_best (0 : Int32) v_trace v_typed v_next_32 v_token_32 v_place_32 v_value_32 v_fault_32 v_clerks v_draftClerks_32 v_draftLine_32 v_signMany v_copies v_rowMany f_text f_clerk_32 f_s f_isKept) → va_S A s.heap H locs → lv_has ls 3 [(0, .ref a), (1, .int l1_32)] → W p l e (headSpec wsX8_chancery { frames := 7, cells := 0, slots := 0, locals := 158 }).room s m ([.ref a] : List Value).toArray below meth c H locs 0 0 (MQ below (zQ (some (.int rv)) G (w_X8_chancery G a a_text a_clerk a_s a_kept a_isKept a_signed a_slips a_row a_best ov_thrown v_trace ov_typed ov_next ov_token ov_place ov_value ov_fault ov_clerks ov_draftClerks ov_draftLine ov_signMany ov_copies v_rowMany f_text of_clerk of_s of_isKept) A) ([.ref a] : List Value).toArray s 0 0 A) (F0 m 32 ls []) := by
    intro n
    induction n with
    | zero => intro K l1_32 v_next_32 v_token_32 v_place_32 v_value_32 v_fault_32 v_draftClerks_32 v_draftLine_32 f_clerk_32 H locs ls h; rw [fX8_chancery_L32] at h; cases h
    | succ n ih =>
      intro K l1_32 v_next_32 v_token_32 v_place_32 v_value_32 v_fault_32 v_draftClerks_32 v_draftLine_32 f_clerk_32 H locs ls h hk hP hD hS hl
      rw [fX8_chancery_L32] at h
      have join_104 : ∀ (l1_104 : Int32) (v_next_104 : Int32) (v_token_104 : Int32) (v_place_104 : Int32) (v_value_104 : Int32) (v_fault_104 : Int32) (v_draftClerks_104 : Int32) (v_draftLine_104 : Int32) (f_clerk_104 : (Nat → Int32)) (H : Heap) (locs : List Loc) (ls : Array Slot), fX8_chancery_J104 fu v_typed f_text K (fun (l1_32b : Int32) (v_next_32b : Int32) (v_token_32b : Int32) (v_place_32b : Int32) (v_value_32b : Int32) (v_fault_32b : Int32) (v_draftClerks_32b : Int32) (v_draftLine_32b : Int32) (f_clerk_32b : (Nat → Int32)) => fX8_chancery_L32 fu v_typed f_text K n l1_32b v_next_32b v_token_32b v_place_32b v_value_32b v_fault_32b v_draftClerks_32b v_draftLine_32b f_clerk_32b) l1_104 v_next_104 v_token_104 v_place_104 v_value_104 v_fault_104 v_draftClerks_104 v_draftLine_104 f_clerk_104 = some (rv, ov_thrown, ov_typed, ov_next, ov_token, ov_place, ov_value, ov_fault, ov_clerks, ov_draftClerks, ov_draftLine, ov_signMany, ov_copies, of_clerk, of_s, of_isKept) → va_P G.1 vwCl (w_X8_chancery G a a_text a_clerk a_s a_kept a_isKept a_signed a_slips a_row a_best (0 : Int32) v_trace v_typed v_next_104 v_token_104 v_place_104 v_value_104 v_fault_104 v_clerks v_draftClerks_104 v_draftLine_104 v_signMany v_copies v_rowMany f_text f_clerk_104 f_s f_isKept) H → va_D A (w_X8_chancery G a a_text a_clerk a_s a_kept a_isKept a_signed a_slips a_row a_best (0 : Int32) v_trace v_typed v_next_104 v_token_104 v_place_104 v_value_104 v_fault_104 v_clerks v_draftClerks_104 v_draftLine_104 v_signMany v_copies v_rowMany f_text f_clerk_104 f_s f_isKept) → va_S A s.heap H locs → lv_has ls 3 [(0, .ref a), (1, .int l1_104)] → W p l e (headSpec wsX8_chancery { frames := 7, cells := 0, slots := 0, locals := 158 }).room s m ([.ref a] : List Value).toArray below meth c H locs 0 0 (MQ below (zQ (some (.int rv)) G (w_X8_chancery G a a_text a_clerk a_s a_kept a_isKept a_signed a_slips a_row a_best ov_thrown v_trace ov_typed ov_next ov_token ov_place ov_value ov_fault ov_clerks ov_draftClerks ov_draftLine ov_signMany ov_copies v_rowMany f_text of_clerk of_s of_isKept) A) ([.ref a] : List Value).toArray s 0 0 A) (F0 m 104 ls []) := by
        intro l1_104 v_next_104 v_token_104 v_place_104 v_value_104 v_fault_104 v_draftClerks_104 v_draftLine_104 f_clerk_104 H locs ls h hP hD hS hl
        rw [fX8_chancery_J104] at h
        refine lv_aload_n hx hb dX8_chancery_104 rfl (lv_at hl 0 rfl) ?_
        refine lv_aload_n hx hb dX8_chancery_105 rfl (lv_at hl 0 rfl) ?_
        refine va_get (D := G.1) (ci := 8) (v := .int v_token_104) (C := RX8) (T := TX8) (N := 23) hx hb hts in_X8_chancery_X8 hown hK.1 hP 0 rfl rfl 5 (by decide) (hts (.fieldLink RX8 75 "NineHandsModel" "token" "I") (by decide +kernel)) (fun _ h9 => h9) rfl dX8_chancery_106 ?_
        refine lv_iconst (v := (3 : Int32)) hx hb dX8_chancery_109 (by decide) ?_
        refine lv_icmp_ne (tgt := 117) hx hb dX8_chancery_110 (by decide) (fun c110 => ?_) (fun c110 => ?_)
        · have h := zf c110 h
          refine lv_iconst (v := (0 : Int32)) hx hb dX8_chancery_117 (by decide) ?_
          obtain ⟨y118, y118_v_next, y118_v_token, y118_v_place, y118_v_value, y118_v_fault, hc118, h⟩ := zb6_e h
          refine zcV (As := [.int (0 : Int32)]) (rest := []) (ws' := (w_X8_chancery G a a_text a_clerk a_s a_kept a_isKept a_signed a_slips a_row a_best (0 : Int32) v_trace v_typed y118_v_next y118_v_token y118_v_place y118_v_value y118_v_fault v_clerks v_draftClerks_104 v_draftLine_104 v_signMany v_copies v_rowMany f_text f_clerk_104 f_s f_isKept)) (st1 := [.int y118]) ⟨hx, hb, hml, hown, hts⟩ (c_X8_takes l G fu a a_text a_clerk a_s a_kept a_isKept a_signed a_slips a_row a_best (0 : Int32) v_trace v_typed v_next_104 v_token_104 v_place_104 v_value_104 v_fault_104 v_clerks v_draftClerks_104 v_draftLine_104 v_signMany v_copies v_rowMany f_text (0 : Int32) y118 y118_v_next y118_v_token y118_v_place y118_v_value y118_v_fault hc118) (cwV 1 hts gX8_chancery_X8_takes rfl rfl rfl (by decide +kernel) ⟨Nat.le_of_ble_eq_true rfl, Nat.le_of_ble_eq_true rfl⟩) hK hE hP hD hS hA [0, 1] rfl rfl 0 8 rfl rfl rfl rfl rfl rfl hl.1 rfl (Nat.le_of_ble_eq_true rfl) dX8_chancery_118 (Nat.zero_le _) (Nat.zero_le _) rfl (fun H locs hP hD hS => ?_)
          refine lv_pop hx hb dX8_chancery_121 rfl ?_
          refine lv_iinc (v := (l1_104 + (1 : Int32))) (lv' := [(1, .int (l1_104 + (1 : Int32))), (0, .ref a)]) hx hb dX8_chancery_122 hl (k := 1) rfl rfl (by decide) rfl (fun ls hl => ?_)
          refine lv_goto (tgt := 32) hx hb dX8_chancery_125 (by decide) ?_
          exact ih K _ _ _ _ _ _ _ _ _ _ _ _ h hk hP hD hS (lv_sub hl [1, 0] rfl)
        · have h := zt c110 h
          refine lv_iconst (v := (1 : Int32)) hx hb dX8_chancery_113 (by decide) ?_
          refine lv_goto (tgt := 118) hx hb dX8_chancery_114 (by decide) ?_
          obtain ⟨y118, y118_v_next, y118_v_token, y118_v_place, y118_v_value, y118_v_fault, hc118, h⟩ := zb6_e h
          refine zcV (As := [.int (1 : Int32)]) (rest := []) (ws' := (w_X8_chancery G a a_text a_clerk a_s a_kept a_isKept a_signed a_slips a_row a_best (0 : Int32) v_trace v_typed y118_v_next y118_v_token y118_v_place y118_v_value y118_v_fault v_clerks v_draftClerks_104 v_draftLine_104 v_signMany v_copies v_rowMany f_text f_clerk_104 f_s f_isKept)) (st1 := [.int y118]) ⟨hx, hb, hml, hown, hts⟩ (c_X8_takes l G fu a a_text a_clerk a_s a_kept a_isKept a_signed a_slips a_row a_best (0 : Int32) v_trace v_typed v_next_104 v_token_104 v_place_104 v_value_104 v_fault_104 v_clerks v_draftClerks_104 v_draftLine_104 v_signMany v_copies v_rowMany f_text (1 : Int32) y118 y118_v_next y118_v_token y118_v_place y118_v_value y118_v_fault hc118) (cwV 1 hts gX8_chancery_X8_takes rfl rfl rfl (by decide +kernel) ⟨Nat.le_of_ble_eq_true rfl, Nat.le_of_ble_eq_true rfl⟩) hK hE hP hD hS hA [0, 1] rfl rfl 0 8 rfl rfl rfl rfl rfl rfl hl.1 rfl (Nat.le_of_ble_eq_true rfl) dX8_chancery_118 (Nat.zero_le _) (Nat.zero_le _) rfl (fun H locs hP hD hS => ?_)
          refine lv_pop hx hb dX8_chancery_121 rfl ?_
          refine lv_iinc (v := (l1_104 + (1 : Int32))) (lv' := [(1, .int (l1_104 + (1 : Int32))), (0, .ref a)]) hx hb dX8_chancery_122 hl (k := 1) rfl rfl (by decide) rfl (fun ls hl => ?_)
          refine lv_goto (tgt := 32) hx hb dX8_chancery_125 (by decide) ?_
          exact ih K _ _ _ _ _ _ _ _ _ _ _ _ h hk hP hD hS (lv_sub hl [1, 0] rfl)
      have join_88 : ∀ (s1_88 : Int32) (l1_88 : Int32) (v_next_88 : Int32) (v_token_88 : Int32) (v_place_88 : Int32) (v_value_88 : Int32) (v_fault_88 : Int32) (v_draftClerks_88 : Int32) (v_draftLine_88 : Int32) (f_clerk_88 : (Nat → Int32)) (H : Heap) (locs : List Loc) (ls : Array Slot), fX8_chancery_J88 fu v_typed f_text K (fun (l1_32b : Int32) (v_next_32b : Int32) (v_token_32b : Int32) (v_place_32b : Int32) (v_value_32b : Int32) (v_fault_32b : Int32) (v_draftClerks_32b : Int32) (v_draftLine_32b : Int32) (f_clerk_32b : (Nat → Int32)) => fX8_chancery_L32 fu v_typed f_text K n l1_32b v_next_32b v_token_32b v_place_32b v_value_32b v_fault_32b v_draftClerks_32b v_draftLine_32b f_clerk_32b) s1_88 l1_88 v_next_88 v_token_88 v_place_88 v_value_88 v_fault_88 v_draftClerks_88 v_draftLine_88 f_clerk_88 = some (rv, ov_thrown, ov_typed, ov_next, ov_token, ov_place, ov_value, ov_fault, ov_clerks, ov_draftClerks, ov_draftLine, ov_signMany, ov_copies, of_clerk, of_s, of_isKept) → va_P G.1 vwCl (w_X8_chancery G a a_text a_clerk a_s a_kept a_isKept a_signed a_slips a_row a_best (0 : Int32) v_trace v_typed v_next_88 v_token_88 v_place_88 v_value_88 v_fault_88 v_clerks v_draftClerks_88 v_draftLine_88 v_signMany v_copies v_rowMany f_text f_clerk_88 f_s f_isKept) H → va_D A (w_X8_chancery G a a_text a_clerk a_s a_kept a_isKept a_signed a_slips a_row a_best (0 : Int32) v_trace v_typed v_next_88 v_token_88 v_place_88 v_value_88 v_fault_88 v_clerks v_draftClerks_88 v_draftLine_88 v_signMany v_copies v_rowMany f_text f_clerk_88 f_s f_isKept) → va_S A s.heap H locs → lv_has ls 3 [(0, .ref a), (1, .int l1_88)] → W p l e (headSpec wsX8_chancery { frames := 7, cells := 0, slots := 0, locals := 158 }).room s m ([.ref a] : List Value).toArray below meth c H locs 0 0 (MQ below (zQ (some (.int rv)) G (w_X8_chancery G a a_text a_clerk a_s a_kept a_isKept a_signed a_slips a_row a_best ov_thrown v_trace ov_typed ov_next ov_token ov_place ov_value ov_fault ov_clerks ov_draftClerks ov_draftLine ov_signMany ov_copies v_rowMany f_text of_clerk of_s of_isKept) A) ([.ref a] : List Value).toArray s 0 0 A) (F0 m 88 ls [.int s1_88, .ref a]) := by
        intro s1_88 l1_88 v_next_88 v_token_88 v_place_88 v_value_88 v_fault_88 v_draftClerks_88 v_draftLine_88 f_clerk_88 H locs ls h hP hD hS hl
        rw [fX8_chancery_J88] at h
        obtain ⟨y88, y88_v_next, y88_v_token, y88_v_place, y88_v_value, y88_v_fault, hc88, h⟩ := zb6_e h
        refine zcV (As := [.int s1_88]) (rest := []) (ws' := (w_X8_chancery G a a_text a_clerk a_s a_kept a_isKept a_signed a_slips a_row a_best (0 : Int32) v_trace v_typed y88_v_next y88_v_token y88_v_place y88_v_value y88_v_fault v_clerks v_draftClerks_88 v_draftLine_88 v_signMany v_copies v_rowMany f_text f_clerk_88 f_s f_isKept)) (st1 := [.int y88]) ⟨hx, hb, hml, hown, hts⟩ (c_X8_takes l G fu a a_text a_clerk a_s a_kept a_isKept a_signed a_slips a_row a_best (0 : Int32) v_trace v_typed v_next_88 v_token_88 v_place_88 v_value_88 v_fault_88 v_clerks v_draftClerks_88 v_draftLine_88 v_signMany v_copies v_rowMany f_text s1_88 y88 y88_v_next y88_v_token y88_v_place y88_v_value y88_v_fault hc88) (cwV 1 hts gX8_chancery_X8_takes rfl rfl rfl (by decide +kernel) ⟨Nat.le_of_ble_eq_true rfl, Nat.le_of_ble_eq_true rfl⟩) hK hE hP hD hS hA [0, 1] rfl rfl 0 8 rfl rfl rfl rfl rfl rfl hl.1 rfl (Nat.le_of_ble_eq_true rfl) dX8_chancery_88 (Nat.zero_le _) (Nat.zero_le _) rfl (fun H locs hP hD hS => ?_)
        refine lv_istore_n (lv' := [(2, .int y88), (0, .ref a), (1, .int l1_88)]) hx hb dX8_chancery_91 rfl hl (by decide) rfl (fun ls hl => ?_)
        refine lv_aload_n hx hb dX8_chancery_92 rfl (lv_at hl 1 rfl) ?_
        obtain ⟨y93, hc93, h⟩ := zb1_e h
        refine zcV (As := []) (rest := []) (ws' := (w_X8_chancery G a a_text a_clerk a_s a_kept a_isKept a_signed a_slips a_row a_best (0 : Int32) v_trace v_typed y88_v_next y88_v_token y88_v_place y88_v_value y88_v_fault v_clerks v_draftClerks_88 v_draftLine_88 v_signMany v_copies v_rowMany f_text f_clerk_88 f_s f_isKept)) (st1 := [.int y93]) ⟨hx, hb, hml, hown, hts⟩ (c_X8_isWell l G a a_text a_clerk a_s a_kept a_isKept a_signed a_slips a_row a_best (0 : Int32) v_trace v_typed y88_v_next y88_v_token y88_v_place y88_v_value y88_v_fault v_clerks v_draftClerks_88 v_draftLine_88 v_signMany v_copies v_rowMany y93 hc93) (cwV 0 hts gX8_chancery_X8_isWell rfl rfl rfl (by decide +kernel) ⟨Nat.le_of_ble_eq_true rfl, Nat.le_of_ble_eq_true rfl⟩) hK hE hP hD hS hA [0] rfl rfl 0 8 rfl rfl rfl rfl rfl rfl hl.1 rfl (Nat.le_of_ble_eq_true rfl) dX8_chancery_93 (Nat.zero_le _) (Nat.zero_le _) rfl (fun H locs hP hD hS => ?_)
        refine lv_if_eq (tgt := 104) hx hb dX8_chancery_96 (by decide) (fun c96 => ?_) (fun c96 => ?_)
        · have h := zt c96 h
          exact join_104 _ _ _ _ _ _ _ _ _ _ _ _ h hP hD hS (lv_sub hl [1, 2] rfl)
        · have h := zf c96 h
          refine lv_aload_n hx hb dX8_chancery_99 rfl (lv_at hl 1 rfl) ?_
          refine lv_iload_n hx hb dX8_chancery_100 rfl (lv_at hl 0 rfl) ?_
          obtain ⟨y101_v_next, y101_v_token, y101_v_place, y101_v_value, y101_v_fault, y101_v_draftClerks, y101_v_draftLine, y101_f_clerk, hc101, h⟩ := zb8_e h
          refine zcV (As := [.int y88]) (rest := []) (ws' := (w_X8_chancery G a a_text a_clerk a_s a_kept a_isKept a_signed a_slips a_row a_best (0 : Int32) v_trace v_typed y101_v_next y101_v_token y101_v_place y101_v_value y101_v_fault v_clerks y101_v_draftClerks y101_v_draftLine v_signMany v_copies v_rowMany f_text y101_f_clerk f_s f_isKept)) (st1 := []) ⟨hx, hb, hml, hown, hts⟩ (c_X8_readsItem l G fu a a_text a_clerk a_s a_kept a_isKept a_signed a_slips a_row a_best (0 : Int32) v_trace v_typed y88_v_next y88_v_token y88_v_place y88_v_value y88_v_fault v_clerks v_draftClerks_88 v_draftLine_88 v_signMany v_copies v_rowMany f_text f_clerk_88 y88 y101_v_next y101_v_token y101_v_place y101_v_value y101_v_fault y101_v_draftClerks y101_v_draftLine y101_f_clerk hc101) (cwV 1 hts gX8_chancery_X8_readsItem rfl rfl rfl (by decide +kernel) ⟨Nat.le_of_ble_eq_true rfl, Nat.le_of_ble_eq_true rfl⟩) hK hE hP hD hS hA [0, 1, 2] rfl rfl 0 8 rfl rfl rfl rfl rfl rfl hl.1 rfl (Nat.le_of_ble_eq_true rfl) dX8_chancery_101 (Nat.zero_le _) (Nat.zero_le _) rfl (fun H locs hP hD hS => ?_)
          exact join_104 _ _ _ _ _ _ _ _ _ _ _ _ h hP hD hS (lv_sub hl [1, 2] rfl)
      refine lv_aload_n hx hb dX8_chancery_32 rfl (lv_at hl 0 rfl) ?_
      obtain ⟨y33, hc33, h⟩ := zb1_e h
      refine zcV (As := []) (rest := []) (ws' := (w_X8_chancery G a a_text a_clerk a_s a_kept a_isKept a_signed a_slips a_row a_best (0 : Int32) v_trace v_typed v_next_32 v_token_32 v_place_32 v_value_32 v_fault_32 v_clerks v_draftClerks_32 v_draftLine_32 v_signMany v_copies v_rowMany f_text f_clerk_32 f_s f_isKept)) (st1 := [.int y33]) ⟨hx, hb, hml, hown, hts⟩ (c_X8_isWell l G a a_text a_clerk a_s a_kept a_isKept a_signed a_slips a_row a_best (0 : Int32) v_trace v_typed v_next_32 v_token_32 v_place_32 v_value_32 v_fault_32 v_clerks v_draftClerks_32 v_draftLine_32 v_signMany v_copies v_rowMany y33 hc33) (cwV 0 hts gX8_chancery_X8_isWell rfl rfl rfl (by decide +kernel) ⟨Nat.le_of_ble_eq_true rfl, Nat.le_of_ble_eq_true rfl⟩) hK hE hP hD hS hA [0] rfl rfl 0 8 rfl rfl rfl rfl rfl rfl hl.1 rfl (Nat.le_of_ble_eq_true rfl) dX8_chancery_33 (Nat.zero_le _) (Nat.zero_le _) rfl (fun H locs hP hD hS => ?_)
      refine lv_if_eq (tgt := 128) hx hb dX8_chancery_36 (by decide) (fun c36 => ?_) (fun c36 => ?_)
      · have h := zt c36 h
        exact hk _ _ _ _ _ _ _ _ _ _ _ _ h hP hD hS (lv_sub hl [0, 1] rfl)
      · have h := zf c36 h
        refine lv_aload_n hx hb dX8_chancery_39 rfl (lv_at hl 0 rfl) ?_
        refine va_get (D := G.1) (ci := 8) (v := .int v_token_32) (C := RX8) (T := TX8) (N := 23) hx hb hts in_X8_chancery_X8 hown hK.1 hP 0 rfl rfl 5 (by decide) (hts (.fieldLink RX8 75 "NineHandsModel" "token" "I") (by decide +kernel)) (fun _ h9 => h9) rfl dX8_chancery_40 ?_
        refine lv_if_eq (tgt := 128) hx hb dX8_chancery_43 (by decide) (fun c43 => ?_) (fun c43 => ?_)
        · have h := zt c43 h
          exact hk _ _ _ _ _ _ _ _ _ _ _ _ h hP hD hS (lv_sub hl [0, 1] rfl)
        · have h := zf c43 h
          refine lv_aload_n hx hb dX8_chancery_46 rfl (lv_at hl 0 rfl) ?_
          refine lv_aload_n hx hb dX8_chancery_47 rfl (lv_at hl 0 rfl) ?_
          refine va_get (D := G.1) (ci := 8) (v := .int v_token_32) (C := RX8) (T := TX8) (N := 23) hx hb hts in_X8_chancery_X8 hown hK.1 hP 0 rfl rfl 5 (by decide) (hts (.fieldLink RX8 75 "NineHandsModel" "token" "I") (by decide +kernel)) (fun _ h9 => h9) rfl dX8_chancery_48 ?_
          refine lv_iconst (v := (1 : Int32)) hx hb dX8_chancery_51 (by decide) ?_
          refine lv_icmp_ne (tgt := 87) hx hb dX8_chancery_52 (by decide) (fun c52 => ?_) (fun c52 => ?_)
          · have h := zf c52 h
            refine lv_iconst (v := (0 : Int32)) hx hb dX8_chancery_87 (by decide) ?_
            exact join_88 _ _ _ _ _ _ _ _ _ _ _ _ _ h hP hD hS (lv_sub hl [0, 1] rfl)
          · have h := zt c52 h
            refine lv_aload_n hx hb dX8_chancery_55 rfl (lv_at hl 0 rfl) ?_
            refine va_get (D := G.1) (ci := 8) (v := .int v_value_32) (C := RX8) (T := TX8) (N := 23) hx hb hts in_X8_chancery_X8 hown hK.1 hP 0 rfl rfl 7 (by decide) (hts (.fieldLink RX8 82 "NineHandsModel" "value" "I") (by decide +kernel)) (fun _ h9 => h9) rfl dX8_chancery_56 ?_
            refine lv_if_ne (tgt := 74) hx hb dX8_chancery_59 (by decide) (fun c59 => ?_) (fun c59 => ?_)
            · have h := zf c59 h
              refine lv_aload_n hx hb dX8_chancery_74 rfl (lv_at hl 0 rfl) ?_
              refine va_get (D := G.1) (ci := 8) (v := .int v_draftLine_32) (C := RX8) (T := TX8) (N := 23) hx hb hts in_X8_chancery_X8 hown hK.1 hP 0 rfl rfl 12 (by decide) (hts (.fieldLink RX8 106 "NineHandsModel" "draftLine" "I") (by decide +kernel)) (fun _ h9 => h9) rfl dX8_chancery_75 ?_
              refine lv_bipush (v := ((-9) : Int32)) hx hb dX8_chancery_78 (by decide) ?_
              refine lv_icmp_ne (tgt := 87) hx hb dX8_chancery_80 (by decide) (fun c80 => ?_) (fun c80 => ?_)
              · have h := zf c80 h
                refine lv_iconst (v := (0 : Int32)) hx hb dX8_chancery_87 (by decide) ?_
                exact join_88 _ _ _ _ _ _ _ _ _ _ _ _ _ h hP hD hS (lv_sub hl [0, 1] rfl)
              · have h := zt c80 h
                refine lv_iconst (v := (1 : Int32)) hx hb dX8_chancery_83 (by decide) ?_
                refine lv_goto (tgt := 88) hx hb dX8_chancery_84 (by decide) ?_
                exact join_88 _ _ _ _ _ _ _ _ _ _ _ _ _ h hP hD hS (lv_sub hl [0, 1] rfl)
            · have h := zt c59 h
              refine lv_aload_n hx hb dX8_chancery_62 rfl (lv_at hl 0 rfl) ?_
              refine va_get (D := G.1) (ci := 8) (v := .int v_draftClerks_32) (C := RX8) (T := TX8) (N := 23) hx hb hts in_X8_chancery_X8 hown hK.1 hP 0 rfl rfl 11 (by decide) (hts (.fieldLink RX8 99 "NineHandsModel" "draftClerks" "I") (by decide +kernel)) (fun _ h9 => h9) rfl dX8_chancery_63 ?_
              refine lv_bipush (v := (6 : Int32)) hx hb dX8_chancery_66 (by decide) ?_
              refine lv_icmp_ge (tgt := 87) hx hb dX8_chancery_68 (by decide) (fun c68 => ?_) (fun c68 => ?_)
              · have h := zt c68 h
                refine lv_iconst (v := (0 : Int32)) hx hb dX8_chancery_87 (by decide) ?_
                exact join_88 _ _ _ _ _ _ _ _ _ _ _ _ _ h hP hD hS (lv_sub hl [0, 1] rfl)
              · have h := zf c68 h
                refine lv_goto (tgt := 83) hx hb dX8_chancery_71 (by decide) ?_
                refine lv_iconst (v := (1 : Int32)) hx hb dX8_chancery_83 (by decide) ?_
                refine lv_goto (tgt := 88) hx hb dX8_chancery_84 (by decide) ?_
                exact join_88 _ _ _ _ _ _ _ _ _ _ _ _ _ h hP hD hS (lv_sub hl [0, 1] rfl)
  refine loop_32 fu _ _ _ _ _ _ _ _ _ _ _ _ _ h (fun l1_32e v_next_32e v_token_32e v_place_32e v_value_32e v_fault_32e v_draftClerks_32e v_draftLine_32e f_clerk_32e H locs ls h hP hD hS hl => ?_) hP hD hS (lv_sub hl [1, 0] rfl)
  exact join_128 _ _ _ _ _ _ _ _ _ _ _ _ _ _ _ _ _ _ _ h hP hD hS (lv_sub hl [0, 1] rfl)
abbrev w_X8_isClerk (G : zG) (a : Nat) (a_text : Nat) (a_clerk : Nat) (a_s : Nat) (a_kept : Nat) (a_isKept : Nat) (a_signed : Nat) (a_slips : Nat) (a_row : Nat) (a_best : Nat) (v_thrown : Int32) (v_trace : Int64) (v_typed : Int32) (v_next : Int32) (v_token : Int32) (v_place : Int32) (v_value : Int32) (v_fault : Int32) (v_clerks : Int32) (v_draftClerks : Int32) (v_draftLine : Int32) (v_signMany : Int32) (v_copies : Int32) (v_rowMany : Int32) : va_W := [(a, .inr (8, [.int v_thrown, .long v_trace, .ref a_text, .int v_typed, .int v_next, .int v_token, .int v_place, .int v_value, .int v_fault, .ref a_clerk, .int v_clerks, .int v_draftClerks, .int v_draftLine, .ref a_s, .ref a_kept, .ref a_isKept, .ref a_signed, .int v_signMany, .ref a_slips, .int v_copies, .ref a_row, .ref a_best, .int v_rowMany]))]
theorem in_X8_isClerk_X8 : ∀ w ∈ wsX80, w ∈ wsX8_isClerk := by decide +kernel
set_option maxHeartbeats 4000000 in
set_option maxRecDepth 100000 in
theorem c_X8_isClerk (l : Launch) (G : zG) (a : Nat) (a_text : Nat) (a_clerk : Nat) (a_s : Nat) (a_kept : Nat) (a_isKept : Nat) (a_signed : Nat) (a_slips : Nat) (a_row : Nat) (a_best : Nat) (v_thrown : Int32) (v_trace : Int64) (v_typed : Int32) (v_next : Int32) (v_token : Int32) (v_place : Int32) (v_value : Int32) (v_fault : Int32) (v_clerks : Int32) (v_draftClerks : Int32) (v_draftLine : Int32) (v_signMany : Int32) (v_copies : Int32) (v_rowMany : Int32) (x1 : Int32) (rv : Int32) (h : fX8_isClerk v_clerks x1 = some rv) : zC l yX8_isClerk wsX8_isClerk 1 22 G [.ref a, .int x1] (w_X8_isClerk G a a_text a_clerk a_s a_kept a_isKept a_signed a_slips a_row a_best v_thrown v_trace v_typed v_next v_token v_place v_value v_fault v_clerks v_draftClerks v_draftLine v_signMany v_copies v_rowMany) (some (.int rv)) (w_X8_isClerk G a a_text a_clerk a_s a_kept a_isKept a_signed a_slips a_row a_best v_thrown v_trace v_typed v_next v_token v_place v_value v_fault v_clerks v_draftClerks v_draftLine v_signMany v_copies v_rowMany) := by
  refine fun sz => Met.ofW (cc := cX8_isClerk) (maxL := 2) (ret := (some .boolean)) (by decide) rfl ?_
  intro p e s m args below meth c s₁ B hml hv
  obtain ⟨rfl, hsz, hP, hK, hD0, hE⟩ := hv
  have hx := B.exec
  have hb := B.bytes
  have hr := B.returns
  have hts := atoms_spec (ws := wsX8_isClerk) B.pre
  have hown : s.vm.findClass RX8 = some m.cls := findClass_of_methodNamed B.named
  have hlocks := B.notSynchronized
  subst hsz
  have hD := hD0.self (sz := s.heap.size)
  generalize hAe : va_A (w_X8_isClerk G a a_text a_clerk a_s a_kept a_isKept a_signed a_slips a_row a_best v_thrown v_trace v_typed v_next v_token v_place v_value v_fault v_clerks v_draftClerks v_draftLine v_signMany v_copies v_rowMany) s.heap.size = A at hD hE ⊢
  have hA : ∀ q : Nat, s.heap.size ≤ q → A q := fun q h => by rw [← hAe]; exact Or.inr h
  have hS : va_S A s.heap s.heap [] := va_S.rf
  have hl := lv_entry ([.ref a, .int x1]) (n := 2) (Nat.le_of_ble_eq_true rfl)
  rw [lg_entry_eq]
  generalize (lg_sl ([.ref a, .int x1]) ++ List.replicate (2 - (lg_sl ([.ref a, .int x1])).length) Slot.unset).toArray = ls at hl ⊢
  have hl : lv_has ls 2 [(0, .ref a), (1, .int x1)] := hl
  have hP : va_P G.1 vwCl (w_X8_isClerk G a a_text a_clerk a_s a_kept a_isKept a_signed a_slips a_row a_best v_thrown v_trace v_typed v_next v_token v_place v_value v_fault v_clerks v_draftClerks v_draftLine v_signMany v_copies v_rowMany) s.heap := hP
  rw [fX8_isClerk] at h
  refine lv_iload_n hx hb dX8_isClerk_0 rfl (lv_at hl 1 rfl) ?_
  refine lv_iconst (v := (0 : Int32)) hx hb dX8_isClerk_1 (by decide) ?_
  refine lv_aload_n hx hb dX8_isClerk_2 rfl (lv_at hl 0 rfl) ?_
  refine va_get (D := G.1) (ci := 8) (v := .int v_clerks) (C := RX8) (T := TX8) (N := 23) hx hb hts in_X8_isClerk_X8 hown hK.1 hP 0 rfl rfl 10 (by decide) (hts (.fieldLink RX8 112 "NineHandsModel" "clerks" "I") (by decide +kernel)) (fun _ h9 => h9) rfl dX8_isClerk_3 ?_
  refine lv_iconst (v := (1 : Int32)) hx hb dX8_isClerk_6 (by decide) ?_
  refine lv_isub hx hb dX8_isClerk_7 ?_
  obtain ⟨y8, hc8, h⟩ := zb1_e h
  refine zcS (As := [.int x1, .int (0 : Int32), .int (v_clerks - (1 : Int32))]) (rest := []) (ws' := (w_X8_isClerk G a a_text a_clerk a_s a_kept a_isKept a_signed a_slips a_row a_best v_thrown v_trace v_typed v_next v_token v_place v_value v_fault v_clerks v_draftClerks v_draftLine v_signMany v_copies v_rowMany)) (st1 := [.int y8]) ⟨hx, hb, hml, hown, hts⟩ (c_X8_in l G x1 (0 : Int32) (v_clerks - (1 : Int32)) y8 hc8) (va_cwS 3 hts gX8_isClerk_X8_in rfl rfl rfl (by decide +kernel) ⟨Nat.le_of_ble_eq_true rfl, Nat.le_of_ble_eq_true rfl⟩) hK hE hP hD hS hA [] rfl rfl rfl rfl rfl hl.1 rfl (Nat.le_of_ble_eq_true rfl) dX8_isClerk_8 (Nat.zero_le _) (Nat.zero_le _) rfl (fun H locs hP hD hS => ?_)
  obtain ⟨g11, h⟩ := zg h
  cases h
  exact W.zret (ty := .boolean) hx hb hr (zbool g11) (fun t9 ht9 _ => zend hP hD hS ht9) hS.2.2 dX8_isClerk_11
abbrev w_X8_clerk (G : zG) (a : Nat) (a_text : Nat) (a_clerk : Nat) (a_s : Nat) (a_kept : Nat) (a_isKept : Nat) (a_signed : Nat) (a_slips : Nat) (a_row : Nat) (a_best : Nat) (v_thrown : Int32) (v_trace : Int64) (v_typed : Int32) (v_next : Int32) (v_token : Int32) (v_place : Int32) (v_value : Int32) (v_fault : Int32) (v_clerks : Int32) (v_draftClerks : Int32) (v_draftLine : Int32) (v_signMany : Int32) (v_copies : Int32) (v_rowMany : Int32) (f_clerk : (Nat → Int32)) : va_W := [(a, .inr (8, [.int v_thrown, .long v_trace, .ref a_text, .int v_typed, .int v_next, .int v_token, .int v_place, .int v_value, .int v_fault, .ref a_clerk, .int v_clerks, .int v_draftClerks, .int v_draftLine, .ref a_s, .ref a_kept, .ref a_isKept, .ref a_signed, .int v_signMany, .ref a_slips, .int v_copies, .ref a_row, .ref a_best, .int v_rowMany])), (a_clerk, .inl (zCI G, 48, .inl f_clerk))]
theorem in_X8_clerk_X8 : ∀ w ∈ wsX80, w ∈ wsX8_clerk := by decide +kernel
set_option maxHeartbeats 4000000 in
set_option maxRecDepth 100000 in
theorem c_X8_clerk (l : Launch) (G : zG) (a : Nat) (a_text : Nat) (a_clerk : Nat) (a_s : Nat) (a_kept : Nat) (a_isKept : Nat) (a_signed : Nat) (a_slips : Nat) (a_row : Nat) (a_best : Nat) (v_thrown : Int32) (v_trace : Int64) (v_typed : Int32) (v_next : Int32) (v_token : Int32) (v_place : Int32) (v_value : Int32) (v_fault : Int32) (v_clerks : Int32) (v_draftClerks : Int32) (v_draftLine : Int32) (v_signMany : Int32) (v_copies : Int32) (v_rowMany : Int32) (f_clerk : (Nat → Int32)) (x1 : Int32) (x2 : Int32) (rv : Int32) (ov_thrown : Int32) (h : fX8_clerk v_thrown v_clerks f_clerk x1 x2 = some (rv, ov_thrown)) : zC l yX8_clerk wsX8_clerk 2 43 G [.ref a, .int x1, .int x2] (w_X8_clerk G a a_text a_clerk a_s a_kept a_isKept a_signed a_slips a_row a_best v_thrown v_trace v_typed v_next v_token v_place v_value v_fault v_clerks v_draftClerks v_draftLine v_signMany v_copies v_rowMany f_clerk) (some (.int rv)) (w_X8_clerk G a a_text a_clerk a_s a_kept a_isKept a_signed a_slips a_row a_best ov_thrown v_trace v_typed v_next v_token v_place v_value v_fault v_clerks v_draftClerks v_draftLine v_signMany v_copies v_rowMany f_clerk) := by
  refine fun sz => Met.ofW (cc := cX8_clerk) (maxL := 3) (ret := (some .int)) (by decide) rfl ?_
  intro p e s m args below meth c s₁ B hml hv
  obtain ⟨rfl, hsz, hP, hK, hD0, hE⟩ := hv
  have hx := B.exec
  have hb := B.bytes
  have hr := B.returns
  have hts := atoms_spec (ws := wsX8_clerk) B.pre
  have hown : s.vm.findClass RX8 = some m.cls := findClass_of_methodNamed B.named
  have hlocks := B.notSynchronized
  subst hsz
  have hD := hD0.self (sz := s.heap.size)
  generalize hAe : va_A (w_X8_clerk G a a_text a_clerk a_s a_kept a_isKept a_signed a_slips a_row a_best v_thrown v_trace v_typed v_next v_token v_place v_value v_fault v_clerks v_draftClerks v_draftLine v_signMany v_copies v_rowMany f_clerk) s.heap.size = A at hD hE ⊢
  have hA : ∀ q : Nat, s.heap.size ≤ q → A q := fun q h => by rw [← hAe]; exact Or.inr h
  have hS : va_S A s.heap s.heap [] := va_S.rf
  have hl := lv_entry ([.ref a, .int x1, .int x2]) (n := 3) (Nat.le_of_ble_eq_true rfl)
  rw [lg_entry_eq]
  generalize (lg_sl ([.ref a, .int x1, .int x2]) ++ List.replicate (3 - (lg_sl ([.ref a, .int x1, .int x2])).length) Slot.unset).toArray = ls at hl ⊢
  have hl : lv_has ls 3 [(0, .ref a), (1, .int x1), (2, .int x2)] := hl
  have hP : va_P G.1 vwCl (w_X8_clerk G a a_text a_clerk a_s a_kept a_isKept a_signed a_slips a_row a_best v_thrown v_trace v_typed v_next v_token v_place v_value v_fault v_clerks v_draftClerks v_draftLine v_signMany v_copies v_rowMany f_clerk) s.heap := hP
  rw [fX8_clerk] at h
  refine lv_aload_n hx hb dX8_clerk_0 rfl (lv_at hl 0 rfl) ?_
  refine lv_iconst (v := (0 : Int32)) hx hb dX8_clerk_1 (by decide) ?_
  refine zput1 (D := G.1) (ci := 8) (C := RX8) (T := TX8) (N := 23) (ty := .int) (ws' := (w_X8_clerk G a a_text a_clerk a_s a_kept a_isKept a_signed a_slips a_row a_best (0 : Int32) v_trace v_typed v_next v_token v_place v_value v_fault v_clerks v_draftClerks v_draftLine v_signMany v_copies v_rowMany f_clerk)) hx hb hts in_X8_clerk_X8 tyX8 tyX8_ok nmX8 hown hK.1 hP hD hS 0 rfl rfl 0 (by decide) (hts (.fieldLink RX8 42 "NineHandsModel" "thrown" "I") (by decide +kernel)) (fun _ h9 => h9) rfl (by decide +kernel) rfl rfl (Nat.le_of_ble_eq_true rfl) rfl dX8_clerk_2 (fun H locs hP hD hS => ?_)
  refine lv_aload_n hx hb dX8_clerk_5 rfl (lv_at hl 0 rfl) ?_
  refine lv_iload_n hx hb dX8_clerk_6 rfl (lv_at hl 1 rfl) ?_
  obtain ⟨y7, hc7, h⟩ := zb1_e h
  refine zcV (As := [.int x1]) (rest := []) (ws' := (w_X8_clerk G a a_text a_clerk a_s a_kept a_isKept a_signed a_slips a_row a_best (0 : Int32) v_trace v_typed v_next v_token v_place v_value v_fault v_clerks v_draftClerks v_draftLine v_signMany v_copies v_rowMany f_clerk)) (st1 := [.int y7]) ⟨hx, hb, hml, hown, hts⟩ (c_X8_isClerk l G a a_text a_clerk a_s a_kept a_isKept a_signed a_slips a_row a_best (0 : Int32) v_trace v_typed v_next v_token v_place v_value v_fault v_clerks v_draftClerks v_draftLine v_signMany v_copies v_rowMany x1 y7 hc7) (cwV 1 hts gX8_clerk_X8_isClerk rfl rfl rfl (by decide +kernel) ⟨Nat.le_of_ble_eq_true rfl, Nat.le_of_ble_eq_true rfl⟩) hK hE hP hD hS hA [0] rfl rfl 0 8 rfl rfl rfl rfl rfl rfl hl.1 rfl (Nat.le_of_ble_eq_true rfl) dX8_clerk_7 (Nat.zero_le _) (Nat.zero_le _) rfl (fun H locs hP hD hS => ?_)
  refine lv_if_eq (tgt := 35) hx hb dX8_clerk_10 (by decide) (fun c10 => ?_) (fun c10 => ?_)
  · have h := zt c10 h
    refine lv_iconst (v := ((-1) : Int32)) hx hb dX8_clerk_35 (by decide) ?_
    cases h
    exact W.iret hx hb hr (fun t9 ht9 _ => zend hP hD hS ht9) hS.2.2 dX8_clerk_36
  · have h := zf c10 h
    refine lv_iload_n hx hb dX8_clerk_13 rfl (lv_at hl 2 rfl) ?_
    refine lv_iconst (v := (0 : Int32)) hx hb dX8_clerk_14 (by decide) ?_
    refine lv_iconst (v := (3 : Int32)) hx hb dX8_clerk_15 (by decide) ?_
    obtain ⟨y16, hc16, h⟩ := zb1_e h
    refine zcS (As := [.int x2, .int (0 : Int32), .int (3 : Int32)]) (rest := []) (ws' := (w_X8_clerk G a a_text a_clerk a_s a_kept a_isKept a_signed a_slips a_row a_best (0 : Int32) v_trace v_typed v_next v_token v_place v_value v_fault v_clerks v_draftClerks v_draftLine v_signMany v_copies v_rowMany f_clerk)) (st1 := [.int y16]) ⟨hx, hb, hml, hown, hts⟩ (c_X8_in l G x2 (0 : Int32) (3 : Int32) y16 hc16) (va_cwS 3 hts gX8_clerk_X8_in rfl rfl rfl (by decide +kernel) ⟨Nat.le_of_ble_eq_true rfl, Nat.le_of_ble_eq_true rfl⟩) hK hE hP hD hS hA [] rfl rfl rfl rfl rfl hl.1 rfl (Nat.le_of_ble_eq_true rfl) dX8_clerk_16 (Nat.zero_le _) (Nat.zero_le _) rfl (fun H locs hP hD hS => ?_)
    refine lv_if_eq (tgt := 35) hx hb dX8_clerk_19 (by decide) (fun c19 => ?_) (fun c19 => ?_)
    · have h := zt c19 h
      refine lv_iconst (v := ((-1) : Int32)) hx hb dX8_clerk_35 (by decide) ?_
      cases h
      exact W.iret hx hb hr (fun t9 ht9 _ => zend hP hD hS ht9) hS.2.2 dX8_clerk_36
    · have h := zf c19 h
      refine lv_aload_n hx hb dX8_clerk_22 rfl (lv_at hl 0 rfl) ?_
      refine va_get (D := G.1) (ci := 8) (v := .ref a_clerk) (C := RX8) (T := TX8) (N := 23) hx hb hts in_X8_clerk_X8 hown hK.1 hP 0 rfl rfl 9 (by decide) (hts (.fieldLink RX8 13 "NineHandsModel" "clerk" "[I") (by decide +kernel)) (fun _ h9 => h9) rfl dX8_clerk_23 ?_
      refine lv_iconst (v := (4 : Int32)) hx hb dX8_clerk_26 (by decide) ?_
      refine lv_iload_n hx hb dX8_clerk_27 rfl (lv_at hl 1 rfl) ?_
      refine lv_imul hx hb dX8_clerk_28 ?_
      refine lv_iload_n hx hb dX8_clerk_29 rfl (lv_at hl 2 rfl) ?_
      refine lv_iadd hx hb dX8_clerk_30 ?_
      obtain ⟨g31, h⟩ := zg h
      refine zald hx hb hK.1 hP 1 0 rfl rfl g31 (j := ((((4 : Int32) * x1) + x2)).toNatClampNeg) rfl dX8_clerk_31 ?_
      refine lv_goto (tgt := 36) hx hb dX8_clerk_32 (by decide) ?_
      cases h
      exact W.iret hx hb hr (fun t9 ht9 _ => zend hP hD hS ht9) hS.2.2 dX8_clerk_36
abbrev w_X8_line (G : zG) (a : Nat) (a_text : Nat) (a_clerk : Nat) (a_s : Nat) (a_kept : Nat) (a_isKept : Nat) (a_signed : Nat) (a_slips : Nat) (a_row : Nat) (a_best : Nat) (v_thrown : Int32) (v_trace : Int64) (v_typed : Int32) (v_next : Int32) (v_token : Int32) (v_place : Int32) (v_value : Int32) (v_fault : Int32) (v_clerks : Int32) (v_draftClerks : Int32) (v_draftLine : Int32) (v_signMany : Int32) (v_copies : Int32) (v_rowMany : Int32) (f_s : (Nat → Int32)) : va_W := [(a, .inr (8, [.int v_thrown, .long v_trace, .ref a_text, .int v_typed, .int v_next, .int v_token, .int v_place, .int v_value, .int v_fault, .ref a_clerk, .int v_clerks, .int v_draftClerks, .int v_draftLine, .ref a_s, .ref a_kept, .ref a_isKept, .ref a_signed, .int v_signMany, .ref a_slips, .int v_copies, .ref a_row, .ref a_best, .int v_rowMany])), (a_s, .inl (zCI G, 22, .inl f_s))]
theorem in_X8_line_X8 : ∀ w ∈ wsX80, w ∈ wsX8_line := by decide +kernel
set_option maxHeartbeats 4000000 in
set_option maxRecDepth 100000 in
theorem c_X8_line (l : Launch) (G : zG) (a : Nat) (a_text : Nat) (a_clerk : Nat) (a_s : Nat) (a_kept : Nat) (a_isKept : Nat) (a_signed : Nat) (a_slips : Nat) (a_row : Nat) (a_best : Nat) (v_thrown : Int32) (v_trace : Int64) (v_typed : Int32) (v_next : Int32) (v_token : Int32) (v_place : Int32) (v_value : Int32) (v_fault : Int32) (v_clerks : Int32) (v_draftClerks : Int32) (v_draftLine : Int32) (v_signMany : Int32) (v_copies : Int32) (v_rowMany : Int32) (f_s : (Nat → Int32)) (x1 : Int32) (x2 : Int32) (rv : Int32) (ov_thrown : Int32) (h : fX8_line v_thrown f_s x1 x2 = some (rv, ov_thrown)) : zC l yX8_line wsX8_line 1 22 G [.ref a, .int x1, .int x2] (w_X8_line G a a_text a_clerk a_s a_kept a_isKept a_signed a_slips a_row a_best v_thrown v_trace v_typed v_next v_token v_place v_value v_fault v_clerks v_draftClerks v_draftLine v_signMany v_copies v_rowMany f_s) (some (.int rv)) (w_X8_line G a a_text a_clerk a_s a_kept a_isKept a_signed a_slips a_row a_best ov_thrown v_trace v_typed v_next v_token v_place v_value v_fault v_clerks v_draftClerks v_draftLine v_signMany v_copies v_rowMany f_s) := by
  refine fun sz => Met.ofW (cc := cX8_line) (maxL := 3) (ret := (some .int)) (by decide) rfl ?_
  intro p e s m args below meth c s₁ B hml hv
  obtain ⟨rfl, hsz, hP, hK, hD0, hE⟩ := hv
  have hx := B.exec
  have hb := B.bytes
  have hr := B.returns
  have hts := atoms_spec (ws := wsX8_line) B.pre
  have hown : s.vm.findClass RX8 = some m.cls := findClass_of_methodNamed B.named
  have hlocks := B.notSynchronized
  subst hsz
  have hD := hD0.self (sz := s.heap.size)
  generalize hAe : va_A (w_X8_line G a a_text a_clerk a_s a_kept a_isKept a_signed a_slips a_row a_best v_thrown v_trace v_typed v_next v_token v_place v_value v_fault v_clerks v_draftClerks v_draftLine v_signMany v_copies v_rowMany f_s) s.heap.size = A at hD hE ⊢
  have hA : ∀ q : Nat, s.heap.size ≤ q → A q := fun q h => by rw [← hAe]; exact Or.inr h
  have hS : va_S A s.heap s.heap [] := va_S.rf
  have hl := lv_entry ([.ref a, .int x1, .int x2]) (n := 3) (Nat.le_of_ble_eq_true rfl)
  rw [lg_entry_eq]
  generalize (lg_sl ([.ref a, .int x1, .int x2]) ++ List.replicate (3 - (lg_sl ([.ref a, .int x1, .int x2])).length) Slot.unset).toArray = ls at hl ⊢
  have hl : lv_has ls 3 [(0, .ref a), (1, .int x1), (2, .int x2)] := hl
  have hP : va_P G.1 vwCl (w_X8_line G a a_text a_clerk a_s a_kept a_isKept a_signed a_slips a_row a_best v_thrown v_trace v_typed v_next v_token v_place v_value v_fault v_clerks v_draftClerks v_draftLine v_signMany v_copies v_rowMany f_s) s.heap := hP
  rw [fX8_line] at h
  refine lv_aload_n hx hb dX8_line_0 rfl (lv_at hl 0 rfl) ?_
  refine lv_iconst (v := (0 : Int32)) hx hb dX8_line_1 (by decide) ?_
  refine zput1 (D := G.1) (ci := 8) (C := RX8) (T := TX8) (N := 23) (ty := .int) (ws' := (w_X8_line G a a_text a_clerk a_s a_kept a_isKept a_signed a_slips a_row a_best (0 : Int32) v_trace v_typed v_next v_token v_place v_value v_fault v_clerks v_draftClerks v_draftLine v_signMany v_copies v_rowMany f_s)) hx hb hts in_X8_line_X8 tyX8 tyX8_ok nmX8 hown hK.1 hP hD hS 0 rfl rfl 0 (by decide) (hts (.fieldLink RX8 42 "NineHandsModel" "thrown" "I") (by decide +kernel)) (fun _ h9 => h9) rfl (by decide +kernel) rfl rfl (Nat.le_of_ble_eq_true rfl) rfl dX8_line_2 (fun H locs hP hD hS => ?_)
  refine lv_iload_n hx hb dX8_line_5 rfl (lv_at hl 1 rfl) ?_
  refine lv_iconst (v := (0 : Int32)) hx hb dX8_line_6 (by decide) ?_
  refine lv_aload_n hx hb dX8_line_7 rfl (lv_at hl 0 rfl) ?_
  refine va_get (D := G.1) (ci := 8) (v := .ref a_s) (C := RX8) (T := TX8) (N := 23) hx hb hts in_X8_line_X8 hown hK.1 hP 0 rfl rfl 13 (by decide) (hts (.fieldLink RX8 16 "NineHandsModel" "s" "[I") (by decide +kernel)) (fun _ h9 => h9) rfl dX8_line_8 ?_
  refine lv_bipush (v := (20 : Int32)) hx hb dX8_line_11 (by decide) ?_
  refine zald hx hb hK.1 hP 1 0 rfl rfl (show ¬ ((20 : Int32) < 0 ∨ 22 ≤ ((20 : Int32)).toNatClampNeg) by decide) (j := 20) (by decide) dX8_line_13 ?_
  refine lv_iconst (v := (1 : Int32)) hx hb dX8_line_14 (by decide) ?_
  refine lv_isub hx hb dX8_line_15 ?_
  obtain ⟨y16, hc16, h⟩ := zb1_e h
  refine zcS (As := [.int x1, .int (0 : Int32), .int ((f_s 20) - (1 : Int32))]) (rest := []) (ws' := (w_X8_line G a a_text a_clerk a_s a_kept a_isKept a_signed a_slips a_row a_best (0 : Int32) v_trace v_typed v_next v_token v_place v_value v_fault v_clerks v_draftClerks v_draftLine v_signMany v_copies v_rowMany f_s)) (st1 := [.int y16]) ⟨hx, hb, hml, hown, hts⟩ (c_X8_in l G x1 (0 : Int32) ((f_s 20) - (1 : Int32)) y16 hc16) (va_cwS 3 hts gX8_line_X8_in rfl rfl rfl (by decide +kernel) ⟨Nat.le_of_ble_eq_true rfl, Nat.le_of_ble_eq_true rfl⟩) hK hE hP hD hS hA [] rfl rfl rfl rfl rfl hl.1 rfl (Nat.le_of_ble_eq_true rfl) dX8_line_16 (Nat.zero_le _) (Nat.zero_le _) rfl (fun H locs hP hD hS => ?_)
  refine lv_if_eq (tgt := 31) hx hb dX8_line_19 (by decide) (fun c19 => ?_) (fun c19 => ?_)
  · have h := zt c19 h
    refine lv_iconst (v := ((-1) : Int32)) hx hb dX8_line_31 (by decide) ?_
    cases h
    exact W.iret hx hb hr (fun t9 ht9 _ => zend hP hD hS ht9) hS.2.2 dX8_line_32
  · have h := zf c19 h
    refine lv_iload_n hx hb dX8_line_22 rfl (lv_at hl 2 rfl) ?_
    refine lv_iconst (v := (0 : Int32)) hx hb dX8_line_23 (by decide) ?_
    refine lv_iconst (v := (2 : Int32)) hx hb dX8_line_24 (by decide) ?_
    obtain ⟨y25, hc25, h⟩ := zb1_e h
    refine zcS (As := [.int x2, .int (0 : Int32), .int (2 : Int32)]) (rest := []) (ws' := (w_X8_line G a a_text a_clerk a_s a_kept a_isKept a_signed a_slips a_row a_best (0 : Int32) v_trace v_typed v_next v_token v_place v_value v_fault v_clerks v_draftClerks v_draftLine v_signMany v_copies v_rowMany f_s)) (st1 := [.int y25]) ⟨hx, hb, hml, hown, hts⟩ (c_X8_in l G x2 (0 : Int32) (2 : Int32) y25 hc25) (va_cwS 3 hts gX8_line_X8_in rfl rfl rfl (by decide +kernel) ⟨Nat.le_of_ble_eq_true rfl, Nat.le_of_ble_eq_true rfl⟩) hK hE hP hD hS hA [] rfl rfl rfl rfl rfl hl.1 rfl (Nat.le_of_ble_eq_true rfl) dX8_line_25 (Nat.zero_le _) (Nat.zero_le _) rfl (fun H locs hP hD hS => ?_)
    refine lv_if_ne (tgt := 33) hx hb dX8_line_28 (by decide) (fun c28 => ?_) (fun c28 => ?_)
    · have h := zf c28 h
      refine lv_iload_n hx hb dX8_line_33 rfl (lv_at hl 2 rfl) ?_
      refine lv_if_ne (tgt := 51) hx hb dX8_line_34 (by decide) (fun c34 => ?_) (fun c34 => ?_)
      · have h := zf c34 h
        refine lv_iload_n hx hb dX8_line_51 rfl (lv_at hl 2 rfl) ?_
        refine lv_iconst (v := (1 : Int32)) hx hb dX8_line_52 (by decide) ?_
        refine lv_icmp_ne (tgt := 70) hx hb dX8_line_53 (by decide) (fun c53 => ?_) (fun c53 => ?_)
        · have h := zf c53 h
          refine lv_aload_n hx hb dX8_line_70 rfl (lv_at hl 0 rfl) ?_
          refine va_get (D := G.1) (ci := 8) (v := .ref a_s) (C := RX8) (T := TX8) (N := 23) hx hb hts in_X8_line_X8 hown hK.1 hP 0 rfl rfl 13 (by decide) (hts (.fieldLink RX8 16 "NineHandsModel" "s" "[I") (by decide +kernel)) (fun _ h9 => h9) rfl dX8_line_71 ?_
          refine lv_iconst (v := (2 : Int32)) hx hb dX8_line_74 (by decide) ?_
          refine lv_iload_n hx hb dX8_line_75 rfl (lv_at hl 1 rfl) ?_
          refine lv_imul hx hb dX8_line_76 ?_
          refine lv_iconst (v := (1 : Int32)) hx hb dX8_line_77 (by decide) ?_
          refine lv_iadd hx hb dX8_line_78 ?_
          obtain ⟨g79, h⟩ := zg h
          refine zald hx hb hK.1 hP 1 0 rfl rfl g79 (j := ((((2 : Int32) * x1) + (1 : Int32))).toNatClampNeg) rfl dX8_line_79 ?_
          cases h
          exact W.iret hx hb hr (fun t9 ht9 _ => zend hP hD hS ht9) hS.2.2 dX8_line_80
        · have h := zt c53 h
          refine lv_aload_n hx hb dX8_line_56 rfl (lv_at hl 0 rfl) ?_
          refine va_get (D := G.1) (ci := 8) (v := .ref a_s) (C := RX8) (T := TX8) (N := 23) hx hb hts in_X8_line_X8 hown hK.1 hP 0 rfl rfl 13 (by decide) (hts (.fieldLink RX8 16 "NineHandsModel" "s" "[I") (by decide +kernel)) (fun _ h9 => h9) rfl dX8_line_57 ?_
          refine lv_iconst (v := (2 : Int32)) hx hb dX8_line_60 (by decide) ?_
          refine lv_iload_n hx hb dX8_line_61 rfl (lv_at hl 1 rfl) ?_
          refine lv_imul hx hb dX8_line_62 ?_
          obtain ⟨g63, h⟩ := zg h
          refine zald hx hb hK.1 hP 1 0 rfl rfl g63 (j := (((2 : Int32) * x1)).toNatClampNeg) rfl dX8_line_63 ?_
          refine lv_bipush (v := (10 : Int32)) hx hb dX8_line_64 (by decide) ?_
          refine lv_idiv hx hb dX8_line_66 (by decide) ?_
          refine lv_goto (tgt := 80) hx hb dX8_line_67 (by decide) ?_
          cases h
          exact W.iret hx hb hr (fun t9 ht9 _ => zend hP hD hS ht9) hS.2.2 dX8_line_80
      · have h := zt c34 h
        refine lv_aload_n hx hb dX8_line_37 rfl (lv_at hl 0 rfl) ?_
        refine va_get (D := G.1) (ci := 8) (v := .ref a_s) (C := RX8) (T := TX8) (N := 23) hx hb hts in_X8_line_X8 hown hK.1 hP 0 rfl rfl 13 (by decide) (hts (.fieldLink RX8 16 "NineHandsModel" "s" "[I") (by decide +kernel)) (fun _ h9 => h9) rfl dX8_line_38 ?_
        refine lv_iconst (v := (2 : Int32)) hx hb dX8_line_41 (by decide) ?_
        refine lv_iload_n hx hb dX8_line_42 rfl (lv_at hl 1 rfl) ?_
        refine lv_imul hx hb dX8_line_43 ?_
        obtain ⟨g44, h⟩ := zg h
        refine zald hx hb hK.1 hP 1 0 rfl rfl g44 (j := (((2 : Int32) * x1)).toNatClampNeg) rfl dX8_line_44 ?_
        refine lv_bipush (v := (10 : Int32)) hx hb dX8_line_45 (by decide) ?_
        refine lv_irem hx hb dX8_line_47 (by decide) ?_
        refine lv_goto (tgt := 80) hx hb dX8_line_48 (by decide) ?_
        cases h
        exact W.iret hx hb hr (fun t9 ht9 _ => zend hP hD hS ht9) hS.2.2 dX8_line_80
    · have h := zt c28 h
      refine lv_iconst (v := ((-1) : Int32)) hx hb dX8_line_31 (by decide) ?_
      cases h
      exact W.iret hx hb hr (fun t9 ht9 _ => zend hP hD hS ht9) hS.2.2 dX8_line_32
abbrev w_X8_toneBy (G : zG) (a : Nat) (a_text : Nat) (a_clerk : Nat) (a_s : Nat) (a_kept : Nat) (a_isKept : Nat) (a_signed : Nat) (a_slips : Nat) (a_row : Nat) (a_best : Nat) (v_thrown : Int32) (v_trace : Int64) (v_typed : Int32) (v_next : Int32) (v_token : Int32) (v_place : Int32) (v_value : Int32) (v_fault : Int32) (v_clerks : Int32) (v_draftClerks : Int32) (v_draftLine : Int32) (v_signMany : Int32) (v_copies : Int32) (v_rowMany : Int32) (f_clerk : (Nat → Int32)) : va_W := [(a, .inr (8, [.int v_thrown, .long v_trace, .ref a_text, .int v_typed, .int v_next, .int v_token, .int v_place, .int v_value, .int v_fault, .ref a_clerk, .int v_clerks, .int v_draftClerks, .int v_draftLine, .ref a_s, .ref a_kept, .ref a_isKept, .ref a_signed, .int v_signMany, .ref a_slips, .int v_copies, .ref a_row, .ref a_best, .int v_rowMany])), (a_clerk, .inl (zCI G, 48, .inl f_clerk))]
theorem in_X8_toneBy_X8 : ∀ w ∈ wsX80, w ∈ wsX8_toneBy := by decide +kernel
set_option maxHeartbeats 4000000 in
set_option maxRecDepth 100000 in
theorem c_X8_toneBy (l : Launch) (G : zG) (a : Nat) (a_text : Nat) (a_clerk : Nat) (a_s : Nat) (a_kept : Nat) (a_isKept : Nat) (a_signed : Nat) (a_slips : Nat) (a_row : Nat) (a_best : Nat) (v_thrown : Int32) (v_trace : Int64) (v_typed : Int32) (v_next : Int32) (v_token : Int32) (v_place : Int32) (v_value : Int32) (v_fault : Int32) (v_clerks : Int32) (v_draftClerks : Int32) (v_draftLine : Int32) (v_signMany : Int32) (v_copies : Int32) (v_rowMany : Int32) (f_clerk : (Nat → Int32)) (x1 : Int32) (x2 : Int32) (rv : Int32) (h : fX8_toneBy f_clerk x1 x2 = some rv) : zC l yX8_toneBy wsX8_toneBy 0 0 G [.ref a, .int x1, .int x2] (w_X8_toneBy G a a_text a_clerk a_s a_kept a_isKept a_signed a_slips a_row a_best v_thrown v_trace v_typed v_next v_token v_place v_value v_fault v_clerks v_draftClerks v_draftLine v_signMany v_copies v_rowMany f_clerk) (some (.int rv)) (w_X8_toneBy G a a_text a_clerk a_s a_kept a_isKept a_signed a_slips a_row a_best v_thrown v_trace v_typed v_next v_token v_place v_value v_fault v_clerks v_draftClerks v_draftLine v_signMany v_copies v_rowMany f_clerk) := by
  refine fun sz => Met.ofW (cc := cX8_toneBy) (maxL := 4) (ret := (some .int)) (by decide) rfl ?_
  intro p e s m args below meth c s₁ B hml hv
  obtain ⟨rfl, hsz, hP, hK, hD0, hE⟩ := hv
  have hx := B.exec
  have hb := B.bytes
  have hr := B.returns
  have hts := atoms_spec (ws := wsX8_toneBy) B.pre
  have hown : s.vm.findClass RX8 = some m.cls := findClass_of_methodNamed B.named
  have hlocks := B.notSynchronized
  subst hsz
  have hD := hD0.self (sz := s.heap.size)
  generalize hAe : va_A (w_X8_toneBy G a a_text a_clerk a_s a_kept a_isKept a_signed a_slips a_row a_best v_thrown v_trace v_typed v_next v_token v_place v_value v_fault v_clerks v_draftClerks v_draftLine v_signMany v_copies v_rowMany f_clerk) s.heap.size = A at hD hE ⊢
  have hA : ∀ q : Nat, s.heap.size ≤ q → A q := fun q h => by rw [← hAe]; exact Or.inr h
  have hS : va_S A s.heap s.heap [] := va_S.rf
  have hl := lv_entry ([.ref a, .int x1, .int x2]) (n := 4) (Nat.le_of_ble_eq_true rfl)
  rw [lg_entry_eq]
  generalize (lg_sl ([.ref a, .int x1, .int x2]) ++ List.replicate (4 - (lg_sl ([.ref a, .int x1, .int x2])).length) Slot.unset).toArray = ls at hl ⊢
  have hl : lv_has ls 4 [(0, .ref a), (1, .int x1), (2, .int x2)] := hl
  have hP : va_P G.1 vwCl (w_X8_toneBy G a a_text a_clerk a_s a_kept a_isKept a_signed a_slips a_row a_best v_thrown v_trace v_typed v_next v_token v_place v_value v_fault v_clerks v_draftClerks v_draftLine v_signMany v_copies v_rowMany f_clerk) s.heap := hP
  rw [fX8_toneBy] at h
  refine lv_iload_n hx hb dX8_toneBy_0 rfl (lv_at hl 2 rfl) ?_
  refine lv_aload_n hx hb dX8_toneBy_1 rfl (lv_at hl 0 rfl) ?_
  refine va_get (D := G.1) (ci := 8) (v := .ref a_clerk) (C := RX8) (T := TX8) (N := 23) hx hb hts in_X8_toneBy_X8 hown hK.1 hP 0 rfl rfl 9 (by decide) (hts (.fieldLink RX8 13 "NineHandsModel" "clerk" "[I") (by decide +kernel)) (fun _ h9 => h9) rfl dX8_toneBy_2 ?_
  refine lv_iconst (v := (4 : Int32)) hx hb dX8_toneBy_5 (by decide) ?_
  refine lv_iload_n hx hb dX8_toneBy_6 rfl (lv_at hl 1 rfl) ?_
  refine lv_imul hx hb dX8_toneBy_7 ?_
  obtain ⟨g8, h⟩ := zg h
  refine zald hx hb hK.1 hP 1 0 rfl rfl g8 (j := (((4 : Int32) * x1)).toNatClampNeg) rfl dX8_toneBy_8 ?_
  refine lv_iadd hx hb dX8_toneBy_9 ?_
  refine lv_iconst (v := (4 : Int32)) hx hb dX8_toneBy_10 (by decide) ?_
  refine lv_isub hx hb dX8_toneBy_11 ?_
  refine lv_istore_n (lv' := [(3, .int ((x2 + (f_clerk (((4 : Int32) * x1)).toNatClampNeg)) - (4 : Int32))), (0, .ref a), (1, .int x1), (2, .int x2)]) hx hb dX8_toneBy_12 rfl hl (by decide) rfl (fun ls hl => ?_)
  refine lv_iload_n hx hb dX8_toneBy_13 rfl (lv_at hl 0 rfl) ?_
  refine lv_if_ge (tgt := 21) hx hb dX8_toneBy_14 (by decide) (fun c14 => ?_) (fun c14 => ?_)
  · have h := zt c14 h
    refine lv_iload_n hx hb dX8_toneBy_21 rfl (lv_at hl 0 rfl) ?_
    refine lv_bipush (v := (9 : Int32)) hx hb dX8_toneBy_22 (by decide) ?_
    refine lv_icmp_le (tgt := 32) hx hb dX8_toneBy_24 (by decide) (fun c24 => ?_) (fun c24 => ?_)
    · have h := zt c24 h
      refine lv_iload_n hx hb dX8_toneBy_32 rfl (lv_at hl 0 rfl) ?_
      cases h
      exact W.iret hx hb hr (fun t9 ht9 _ => zend hP hD hS ht9) hS.2.2 dX8_toneBy_33
    · have h := zf c24 h
      refine lv_bipush (v := (9 : Int32)) hx hb dX8_toneBy_27 (by decide) ?_
      refine lv_goto (tgt := 33) hx hb dX8_toneBy_29 (by decide) ?_
      cases h
      exact W.iret hx hb hr (fun t9 ht9 _ => zend hP hD hS ht9) hS.2.2 dX8_toneBy_33
  · have h := zf c14 h
    refine lv_iconst (v := (0 : Int32)) hx hb dX8_toneBy_17 (by decide) ?_
    refine lv_goto (tgt := 33) hx hb dX8_toneBy_18 (by decide) ?_
    cases h
    exact W.iret hx hb hr (fun t9 ht9 _ => zend hP hD hS ht9) hS.2.2 dX8_toneBy_33
abbrev w_X8_madeBy (G : zG) (a : Nat) (a_text : Nat) (a_clerk : Nat) (a_s : Nat) (a_kept : Nat) (a_isKept : Nat) (a_signed : Nat) (a_slips : Nat) (a_row : Nat) (a_best : Nat) (v_thrown : Int32) (v_trace : Int64) (v_typed : Int32) (v_next : Int32) (v_token : Int32) (v_place : Int32) (v_value : Int32) (v_fault : Int32) (v_clerks : Int32) (v_draftClerks : Int32) (v_draftLine : Int32) (v_signMany : Int32) (v_copies : Int32) (v_rowMany : Int32) (f_clerk : (Nat → Int32)) : va_W := [(a, .inr (8, [.int v_thrown, .long v_trace, .ref a_text, .int v_typed, .int v_next, .int v_token, .int v_place, .int v_value, .int v_fault, .ref a_clerk, .int v_clerks, .int v_draftClerks, .int v_draftLine, .ref a_s, .ref a_kept, .ref a_isKept, .ref a_signed, .int v_signMany, .ref a_slips, .int v_copies, .ref a_row, .ref a_best, .int v_rowMany])), (a_clerk, .inl (zCI G, 48, .inl f_clerk))]
theorem in_X8_madeBy_X8 : ∀ w ∈ wsX80, w ∈ wsX8_madeBy := by decide +kernel
set_option maxHeartbeats 4000000 in
set_option maxRecDepth 100000 in
theorem c_X8_madeBy (l : Launch) (G : zG) (a : Nat) (a_text : Nat) (a_clerk : Nat) (a_s : Nat) (a_kept : Nat) (a_isKept : Nat) (a_signed : Nat) (a_slips : Nat) (a_row : Nat) (a_best : Nat) (v_thrown : Int32) (v_trace : Int64) (v_typed : Int32) (v_next : Int32) (v_token : Int32) (v_place : Int32) (v_value : Int32) (v_fault : Int32) (v_clerks : Int32) (v_draftClerks : Int32) (v_draftLine : Int32) (v_signMany : Int32) (v_copies : Int32) (v_rowMany : Int32) (f_clerk : (Nat → Int32)) (x1 : Int32) (x2 : Int32) (rv : Int32) (h : fX8_madeBy f_clerk x1 x2 = some rv) : zC l yX8_madeBy wsX8_madeBy 1 23 G [.ref a, .int x1, .int x2] (w_X8_madeBy G a a_text a_clerk a_s a_kept a_isKept a_signed a_slips a_row a_best v_thrown v_trace v_typed v_next v_token v_place v_value v_fault v_clerks v_draftClerks v_draftLine v_signMany v_copies v_rowMany f_clerk) (some (.int rv)) (w_X8_madeBy G a a_text a_clerk a_s a_kept a_isKept a_signed a_slips a_row a_best v_thrown v_trace v_typed v_next v_token v_place v_value v_fault v_clerks v_draftClerks v_draftLine v_signMany v_copies v_rowMany f_clerk) := by
  refine fun sz => Met.ofW (cc := cX8_madeBy) (maxL := 4) (ret := (some .int)) (by decide) rfl ?_
  intro p e s m args below meth c s₁ B hml hv
  obtain ⟨rfl, hsz, hP, hK, hD0, hE⟩ := hv
  have hx := B.exec
  have hb := B.bytes
  have hr := B.returns
  have hts := atoms_spec (ws := wsX8_madeBy) B.pre
  have hown : s.vm.findClass RX8 = some m.cls := findClass_of_methodNamed B.named
  have hlocks := B.notSynchronized
  subst hsz
  have hD := hD0.self (sz := s.heap.size)
  generalize hAe : va_A (w_X8_madeBy G a a_text a_clerk a_s a_kept a_isKept a_signed a_slips a_row a_best v_thrown v_trace v_typed v_next v_token v_place v_value v_fault v_clerks v_draftClerks v_draftLine v_signMany v_copies v_rowMany f_clerk) s.heap.size = A at hD hE ⊢
  have hA : ∀ q : Nat, s.heap.size ≤ q → A q := fun q h => by rw [← hAe]; exact Or.inr h
  have hS : va_S A s.heap s.heap [] := va_S.rf
  have hl := lv_entry ([.ref a, .int x1, .int x2]) (n := 4) (Nat.le_of_ble_eq_true rfl)
  rw [lg_entry_eq]
  generalize (lg_sl ([.ref a, .int x1, .int x2]) ++ List.replicate (4 - (lg_sl ([.ref a, .int x1, .int x2])).length) Slot.unset).toArray = ls at hl ⊢
  have hl : lv_has ls 4 [(0, .ref a), (1, .int x1), (2, .int x2)] := hl
  have hP : va_P G.1 vwCl (w_X8_madeBy G a a_text a_clerk a_s a_kept a_isKept a_signed a_slips a_row a_best v_thrown v_trace v_typed v_next v_token v_place v_value v_fault v_clerks v_draftClerks v_draftLine v_signMany v_copies v_rowMany f_clerk) s.heap := hP
  rw [fX8_madeBy] at h
  refine lv_iload_n hx hb dX8_madeBy_0 rfl (lv_at hl 2 rfl) ?_
  refine lv_bipush (v := (10 : Int32)) hx hb dX8_madeBy_1 (by decide) ?_
  refine lv_idiv hx hb dX8_madeBy_3 (by decide) ?_
  refine lv_aload_n hx hb dX8_madeBy_4 rfl (lv_at hl 0 rfl) ?_
  refine va_get (D := G.1) (ci := 8) (v := .ref a_clerk) (C := RX8) (T := TX8) (N := 23) hx hb hts in_X8_madeBy_X8 hown hK.1 hP 0 rfl rfl 9 (by decide) (hts (.fieldLink RX8 13 "NineHandsModel" "clerk" "[I") (by decide +kernel)) (fun _ h9 => h9) rfl dX8_madeBy_5 ?_
  refine lv_iconst (v := (4 : Int32)) hx hb dX8_madeBy_8 (by decide) ?_
  refine lv_iload_n hx hb dX8_madeBy_9 rfl (lv_at hl 1 rfl) ?_
  refine lv_imul hx hb dX8_madeBy_10 ?_
  refine lv_iconst (v := (1 : Int32)) hx hb dX8_madeBy_11 (by decide) ?_
  refine lv_iadd hx hb dX8_madeBy_12 ?_
  obtain ⟨g13, h⟩ := zg h
  refine zald hx hb hK.1 hP 1 0 rfl rfl g13 (j := ((((4 : Int32) * x1) + (1 : Int32))).toNatClampNeg) rfl dX8_madeBy_13 ?_
  refine lv_ior hx hb dX8_madeBy_14 ?_
  refine lv_aload_n hx hb dX8_madeBy_15 rfl (lv_at hl 0 rfl) ?_
  refine va_get (D := G.1) (ci := 8) (v := .ref a_clerk) (C := RX8) (T := TX8) (N := 23) hx hb hts in_X8_madeBy_X8 hown hK.1 hP 0 rfl rfl 9 (by decide) (hts (.fieldLink RX8 13 "NineHandsModel" "clerk" "[I") (by decide +kernel)) (fun _ h9 => h9) rfl dX8_madeBy_16 ?_
  refine lv_iconst (v := (4 : Int32)) hx hb dX8_madeBy_19 (by decide) ?_
  refine lv_iload_n hx hb dX8_madeBy_20 rfl (lv_at hl 1 rfl) ?_
  refine lv_imul hx hb dX8_madeBy_21 ?_
  refine lv_iconst (v := (2 : Int32)) hx hb dX8_madeBy_22 (by decide) ?_
  refine lv_iadd hx hb dX8_madeBy_23 ?_
  obtain ⟨g24, h⟩ := zg h
  refine zald hx hb hK.1 hP 1 0 rfl rfl g24 (j := ((((4 : Int32) * x1) + (2 : Int32))).toNatClampNeg) rfl dX8_madeBy_24 ?_
  refine lv_iconst (v := ((-1) : Int32)) hx hb dX8_madeBy_25 (by decide) ?_
  refine lv_ixor hx hb dX8_madeBy_26 ?_
  refine lv_iand hx hb dX8_madeBy_27 ?_
  refine lv_istore_n (lv' := [(3, .int (((x2 / (10 : Int32)) ||| (f_clerk ((((4 : Int32) * x1) + (1 : Int32))).toNatClampNeg)) &&& ((f_clerk ((((4 : Int32) * x1) + (2 : Int32))).toNatClampNeg) ^^^ ((-1) : Int32)))), (0, .ref a), (1, .int x1), (2, .int x2)]) hx hb dX8_madeBy_28 rfl hl (by decide) rfl (fun ls hl => ?_)
  refine lv_aload_n hx hb dX8_madeBy_29 rfl (lv_at hl 1 rfl) ?_
  refine lv_iload_n hx hb dX8_madeBy_30 rfl (lv_at hl 2 rfl) ?_
  refine lv_iload_n hx hb dX8_madeBy_31 rfl (lv_at hl 3 rfl) ?_
  refine lv_bipush (v := (10 : Int32)) hx hb dX8_madeBy_32 (by decide) ?_
  refine lv_irem hx hb dX8_madeBy_34 (by decide) ?_
  obtain ⟨y35, hc35, h⟩ := zb1_e h
  refine zcV (As := [.int x1, .int (x2 - x2 / (10 : Int32) * (10 : Int32))]) (rest := []) (ws' := (w_X8_madeBy G a a_text a_clerk a_s a_kept a_isKept a_signed a_slips a_row a_best v_thrown v_trace v_typed v_next v_token v_place v_value v_fault v_clerks v_draftClerks v_draftLine v_signMany v_copies v_rowMany f_clerk)) (st1 := [.int y35]) ⟨hx, hb, hml, hown, hts⟩ (c_X8_toneBy l G a a_text a_clerk a_s a_kept a_isKept a_signed a_slips a_row a_best v_thrown v_trace v_typed v_next v_token v_place v_value v_fault v_clerks v_draftClerks v_draftLine v_signMany v_copies v_rowMany f_clerk x1 (x2 - x2 / (10 : Int32) * (10 : Int32)) y35 hc35) (cwV 2 hts gX8_madeBy_X8_toneBy rfl rfl rfl (by decide +kernel) ⟨Nat.le_of_ble_eq_true rfl, Nat.le_of_ble_eq_true rfl⟩) hK hE hP hD hS hA [0, 1] rfl rfl 0 8 rfl rfl rfl rfl rfl rfl hl.1 rfl (Nat.le_of_ble_eq_true rfl) dX8_madeBy_35 (Nat.zero_le _) (Nat.zero_le _) rfl (fun H locs hP hD hS => ?_)
  refine lv_bipush (v := (10 : Int32)) hx hb dX8_madeBy_38 (by decide) ?_
  refine lv_iload_n hx hb dX8_madeBy_40 rfl (lv_at hl 0 rfl) ?_
  refine lv_imul hx hb dX8_madeBy_41 ?_
  refine lv_iadd hx hb dX8_madeBy_42 ?_
  cases h
  exact W.iret hx hb hr (fun t9 ht9 _ => zend hP hD hS ht9) hS.2.2 dX8_madeBy_43
abbrev w_X8_makes (G : zG) (a : Nat) (a_text : Nat) (a_clerk : Nat) (a_s : Nat) (a_kept : Nat) (a_isKept : Nat) (a_signed : Nat) (a_slips : Nat) (a_row : Nat) (a_best : Nat) (v_thrown : Int32) (v_trace : Int64) (v_typed : Int32) (v_next : Int32) (v_token : Int32) (v_place : Int32) (v_value : Int32) (v_fault : Int32) (v_clerks : Int32) (v_draftClerks : Int32) (v_draftLine : Int32) (v_signMany : Int32) (v_copies : Int32) (v_rowMany : Int32) (f_clerk : (Nat → Int32)) : va_W := [(a, .inr (8, [.int v_thrown, .long v_trace, .ref a_text, .int v_typed, .int v_next, .int v_token, .int v_place, .int v_value, .int v_fault, .ref a_clerk, .int v_clerks, .int v_draftClerks, .int v_draftLine, .ref a_s, .ref a_kept, .ref a_isKept, .ref a_signed, .int v_signMany, .ref a_slips, .int v_copies, .ref a_row, .ref a_best, .int v_rowMany])), (a_clerk, .inl (zCI G, 48, .inl f_clerk))]
theorem in_X8_makes_X8 : ∀ w ∈ wsX80, w ∈ wsX8_makes := by decide +kernel
set_option maxHeartbeats 4000000 in
set_option maxRecDepth 100000 in
theorem c_X8_makes (l : Launch) (G : zG) (a : Nat) (a_text : Nat) (a_clerk : Nat) (a_s : Nat) (a_kept : Nat) (a_isKept : Nat) (a_signed : Nat) (a_slips : Nat) (a_row : Nat) (a_best : Nat) (v_thrown : Int32) (v_trace : Int64) (v_typed : Int32) (v_next : Int32) (v_token : Int32) (v_place : Int32) (v_value : Int32) (v_fault : Int32) (v_clerks : Int32) (v_draftClerks : Int32) (v_draftLine : Int32) (v_signMany : Int32) (v_copies : Int32) (v_rowMany : Int32) (f_clerk : (Nat → Int32)) (x1 : Int32) (x2 : Int32) (x3 : Int32) (rv : Int32) (ov_thrown : Int32) (h : fX8_makes v_thrown v_clerks f_clerk x1 x2 x3 = some (rv, ov_thrown)) : zC l yX8_makes wsX8_makes 2 46 G [.ref a, .int x1, .int x2, .int x3] (w_X8_makes G a a_text a_clerk a_s a_kept a_isKept a_signed a_slips a_row a_best v_thrown v_trace v_typed v_next v_token v_place v_value v_fault v_clerks v_draftClerks v_draftLine v_signMany v_copies v_rowMany f_clerk) (some (.int rv)) (w_X8_makes G a a_text a_clerk a_s a_kept a_isKept a_signed a_slips a_row a_best ov_thrown v_trace v_typed v_next v_token v_place v_value v_fault v_clerks v_draftClerks v_draftLine v_signMany v_copies v_rowMany f_clerk) := by
  refine fun sz => Met.ofW (cc := cX8_makes) (maxL := 4) (ret := (some .int)) (by decide) rfl ?_
  intro p e s m args below meth c s₁ B hml hv
  obtain ⟨rfl, hsz, hP, hK, hD0, hE⟩ := hv
  have hx := B.exec
  have hb := B.bytes
  have hr := B.returns
  have hts := atoms_spec (ws := wsX8_makes) B.pre
  have hown : s.vm.findClass RX8 = some m.cls := findClass_of_methodNamed B.named
  have hlocks := B.notSynchronized
  subst hsz
  have hD := hD0.self (sz := s.heap.size)
  generalize hAe : va_A (w_X8_makes G a a_text a_clerk a_s a_kept a_isKept a_signed a_slips a_row a_best v_thrown v_trace v_typed v_next v_token v_place v_value v_fault v_clerks v_draftClerks v_draftLine v_signMany v_copies v_rowMany f_clerk) s.heap.size = A at hD hE ⊢
  have hA : ∀ q : Nat, s.heap.size ≤ q → A q := fun q h => by rw [← hAe]; exact Or.inr h
  have hS : va_S A s.heap s.heap [] := va_S.rf
  have hl := lv_entry ([.ref a, .int x1, .int x2, .int x3]) (n := 4) (Nat.le_of_ble_eq_true rfl)
  rw [lg_entry_eq]
  generalize (lg_sl ([.ref a, .int x1, .int x2, .int x3]) ++ List.replicate (4 - (lg_sl ([.ref a, .int x1, .int x2, .int x3])).length) Slot.unset).toArray = ls at hl ⊢
  have hl : lv_has ls 4 [(0, .ref a), (1, .int x1), (2, .int x2), (3, .int x3)] := hl
  have hP : va_P G.1 vwCl (w_X8_makes G a a_text a_clerk a_s a_kept a_isKept a_signed a_slips a_row a_best v_thrown v_trace v_typed v_next v_token v_place v_value v_fault v_clerks v_draftClerks v_draftLine v_signMany v_copies v_rowMany f_clerk) s.heap := hP
  rw [fX8_makes] at h
  refine lv_aload_n hx hb dX8_makes_0 rfl (lv_at hl 0 rfl) ?_
  refine lv_iconst (v := (0 : Int32)) hx hb dX8_makes_1 (by decide) ?_
  refine zput1 (D := G.1) (ci := 8) (C := RX8) (T := TX8) (N := 23) (ty := .int) (ws' := (w_X8_makes G a a_text a_clerk a_s a_kept a_isKept a_signed a_slips a_row a_best (0 : Int32) v_trace v_typed v_next v_token v_place v_value v_fault v_clerks v_draftClerks v_draftLine v_signMany v_copies v_rowMany f_clerk)) hx hb hts in_X8_makes_X8 tyX8 tyX8_ok nmX8 hown hK.1 hP hD hS 0 rfl rfl 0 (by decide) (hts (.fieldLink RX8 42 "NineHandsModel" "thrown" "I") (by decide +kernel)) (fun _ h9 => h9) rfl (by decide +kernel) rfl rfl (Nat.le_of_ble_eq_true rfl) rfl dX8_makes_2 (fun H locs hP hD hS => ?_)
  refine lv_aload_n hx hb dX8_makes_5 rfl (lv_at hl 0 rfl) ?_
  refine lv_iload_n hx hb dX8_makes_6 rfl (lv_at hl 1 rfl) ?_
  obtain ⟨y7, hc7, h⟩ := zb1_e h
  refine zcV (As := [.int x1]) (rest := []) (ws' := (w_X8_makes G a a_text a_clerk a_s a_kept a_isKept a_signed a_slips a_row a_best (0 : Int32) v_trace v_typed v_next v_token v_place v_value v_fault v_clerks v_draftClerks v_draftLine v_signMany v_copies v_rowMany f_clerk)) (st1 := [.int y7]) ⟨hx, hb, hml, hown, hts⟩ (c_X8_isClerk l G a a_text a_clerk a_s a_kept a_isKept a_signed a_slips a_row a_best (0 : Int32) v_trace v_typed v_next v_token v_place v_value v_fault v_clerks v_draftClerks v_draftLine v_signMany v_copies v_rowMany x1 y7 hc7) (cwV 1 hts gX8_makes_X8_isClerk rfl rfl rfl (by decide +kernel) ⟨Nat.le_of_ble_eq_true rfl, Nat.le_of_ble_eq_true rfl⟩) hK hE hP hD hS hA [0] rfl rfl 0 8 rfl rfl rfl rfl rfl rfl hl.1 rfl (Nat.le_of_ble_eq_true rfl) dX8_makes_7 (Nat.zero_le _) (Nat.zero_le _) rfl (fun H locs hP hD hS => ?_)
  refine lv_if_eq (tgt := 47) hx hb dX8_makes_10 (by decide) (fun c10 => ?_) (fun c10 => ?_)
  · have h := zt c10 h
    refine lv_iconst (v := ((-1) : Int32)) hx hb dX8_makes_47 (by decide) ?_
    cases h
    exact W.iret hx hb hr (fun t9 ht9 _ => zend hP hD hS ht9) hS.2.2 dX8_makes_48
  · have h := zf c10 h
    refine lv_iload_n hx hb dX8_makes_13 rfl (lv_at hl 2 rfl) ?_
    refine lv_iconst (v := (0 : Int32)) hx hb dX8_makes_14 (by decide) ?_
    refine lv_bipush (v := (9 : Int32)) hx hb dX8_makes_15 (by decide) ?_
    obtain ⟨y17, hc17, h⟩ := zb1_e h
    refine zcS (As := [.int x2, .int (0 : Int32), .int (9 : Int32)]) (rest := []) (ws' := (w_X8_makes G a a_text a_clerk a_s a_kept a_isKept a_signed a_slips a_row a_best (0 : Int32) v_trace v_typed v_next v_token v_place v_value v_fault v_clerks v_draftClerks v_draftLine v_signMany v_copies v_rowMany f_clerk)) (st1 := [.int y17]) ⟨hx, hb, hml, hown, hts⟩ (c_X8_in l G x2 (0 : Int32) (9 : Int32) y17 hc17) (va_cwS 3 hts gX8_makes_X8_in rfl rfl rfl (by decide +kernel) ⟨Nat.le_of_ble_eq_true rfl, Nat.le_of_ble_eq_true rfl⟩) hK hE hP hD hS hA [] rfl rfl rfl rfl rfl hl.1 rfl (Nat.le_of_ble_eq_true rfl) dX8_makes_17 (Nat.zero_le _) (Nat.zero_le _) rfl (fun H locs hP hD hS => ?_)
    refine lv_if_eq (tgt := 47) hx hb dX8_makes_20 (by decide) (fun c20 => ?_) (fun c20 => ?_)
    · have h := zt c20 h
      refine lv_iconst (v := ((-1) : Int32)) hx hb dX8_makes_47 (by decide) ?_
      cases h
      exact W.iret hx hb hr (fun t9 ht9 _ => zend hP hD hS ht9) hS.2.2 dX8_makes_48
    · have h := zf c20 h
      refine lv_iload_n hx hb dX8_makes_23 rfl (lv_at hl 3 rfl) ?_
      refine lv_iconst (v := (0 : Int32)) hx hb dX8_makes_24 (by decide) ?_
      refine lv_bipush (v := (7 : Int32)) hx hb dX8_makes_25 (by decide) ?_
      obtain ⟨y27, hc27, h⟩ := zb1_e h
      refine zcS (As := [.int x3, .int (0 : Int32), .int (7 : Int32)]) (rest := []) (ws' := (w_X8_makes G a a_text a_clerk a_s a_kept a_isKept a_signed a_slips a_row a_best (0 : Int32) v_trace v_typed v_next v_token v_place v_value v_fault v_clerks v_draftClerks v_draftLine v_signMany v_copies v_rowMany f_clerk)) (st1 := [.int y27]) ⟨hx, hb, hml, hown, hts⟩ (c_X8_in l G x3 (0 : Int32) (7 : Int32) y27 hc27) (va_cwS 3 hts gX8_makes_X8_in rfl rfl rfl (by decide +kernel) ⟨Nat.le_of_ble_eq_true rfl, Nat.le_of_ble_eq_true rfl⟩) hK hE hP hD hS hA [] rfl rfl rfl rfl rfl hl.1 rfl (Nat.le_of_ble_eq_true rfl) dX8_makes_27 (Nat.zero_le _) (Nat.zero_le _) rfl (fun H locs hP hD hS => ?_)
      refine lv_if_eq (tgt := 47) hx hb dX8_makes_30 (by decide) (fun c30 => ?_) (fun c30 => ?_)
      · have h := zt c30 h
        refine lv_iconst (v := ((-1) : Int32)) hx hb dX8_makes_47 (by decide) ?_
        cases h
        exact W.iret hx hb hr (fun t9 ht9 _ => zend hP hD hS ht9) hS.2.2 dX8_makes_48
      · have h := zf c30 h
        refine lv_aload_n hx hb dX8_makes_33 rfl (lv_at hl 0 rfl) ?_
        refine lv_iload_n hx hb dX8_makes_34 rfl (lv_at hl 1 rfl) ?_
        refine lv_iload_n hx hb dX8_makes_35 rfl (lv_at hl 2 rfl) ?_
        refine lv_bipush (v := (10 : Int32)) hx hb dX8_makes_36 (by decide) ?_
        refine lv_iload_n hx hb dX8_makes_38 rfl (lv_at hl 3 rfl) ?_
        refine lv_imul hx hb dX8_makes_39 ?_
        refine lv_iadd hx hb dX8_makes_40 ?_
        obtain ⟨y41, hc41, h⟩ := zb1_e h
        refine zcV (As := [.int x1, .int (x2 + ((10 : Int32) * x3))]) (rest := []) (ws' := (w_X8_makes G a a_text a_clerk a_s a_kept a_isKept a_signed a_slips a_row a_best (0 : Int32) v_trace v_typed v_next v_token v_place v_value v_fault v_clerks v_draftClerks v_draftLine v_signMany v_copies v_rowMany f_clerk)) (st1 := [.int y41]) ⟨hx, hb, hml, hown, hts⟩ (c_X8_madeBy l G a a_text a_clerk a_s a_kept a_isKept a_signed a_slips a_row a_best (0 : Int32) v_trace v_typed v_next v_token v_place v_value v_fault v_clerks v_draftClerks v_draftLine v_signMany v_copies v_rowMany f_clerk x1 (x2 + ((10 : Int32) * x3)) y41 hc41) (cwV 2 hts gX8_makes_X8_madeBy rfl rfl rfl (by decide +kernel) ⟨Nat.le_of_ble_eq_true rfl, Nat.le_of_ble_eq_true rfl⟩) hK hE hP hD hS hA [0, 1] rfl rfl 0 8 rfl rfl rfl rfl rfl rfl hl.1 rfl (Nat.le_of_ble_eq_true rfl) dX8_makes_41 (Nat.zero_le _) (Nat.zero_le _) rfl (fun H locs hP hD hS => ?_)
        refine lv_goto (tgt := 48) hx hb dX8_makes_44 (by decide) ?_
        cases h
        exact W.iret hx hb hr (fun t9 ht9 _ => zend hP hD hS ht9) hS.2.2 dX8_makes_48
abbrev w_X8_last (G : zG) (a : Nat) (a_text : Nat) (a_clerk : Nat) (a_s : Nat) (a_kept : Nat) (a_isKept : Nat) (a_signed : Nat) (a_slips : Nat) (a_row : Nat) (a_best : Nat) (v_thrown : Int32) (v_trace : Int64) (v_typed : Int32) (v_next : Int32) (v_token : Int32) (v_place : Int32) (v_value : Int32) (v_fault : Int32) (v_clerks : Int32) (v_draftClerks : Int32) (v_draftLine : Int32) (v_signMany : Int32) (v_copies : Int32) (v_rowMany : Int32) (f_s : (Nat → Int32)) : va_W := [(a, .inr (8, [.int v_thrown, .long v_trace, .ref a_text, .int v_typed, .int v_next, .int v_token, .int v_place, .int v_value, .int v_fault, .ref a_clerk, .int v_clerks, .int v_draftClerks, .int v_draftLine, .ref a_s, .ref a_kept, .ref a_isKept, .ref a_signed, .int v_signMany, .ref a_slips, .int v_copies, .ref a_row, .ref a_best, .int v_rowMany])), (a_s, .inl (zCI G, 22, .inl f_s))]
theorem in_X8_last_X8 : ∀ w ∈ wsX80, w ∈ wsX8_last := by decide +kernel
set_option maxHeartbeats 4000000 in
set_option maxRecDepth 100000 in
theorem c_X8_last (l : Launch) (G : zG) (a : Nat) (a_text : Nat) (a_clerk : Nat) (a_s : Nat) (a_kept : Nat) (a_isKept : Nat) (a_signed : Nat) (a_slips : Nat) (a_row : Nat) (a_best : Nat) (v_thrown : Int32) (v_trace : Int64) (v_typed : Int32) (v_next : Int32) (v_token : Int32) (v_place : Int32) (v_value : Int32) (v_fault : Int32) (v_clerks : Int32) (v_draftClerks : Int32) (v_draftLine : Int32) (v_signMany : Int32) (v_copies : Int32) (v_rowMany : Int32) (f_s : (Nat → Int32)) (rv : Int32) (h : fX8_last f_s = some rv) : zC l yX8_last wsX8_last 0 0 G [.ref a] (w_X8_last G a a_text a_clerk a_s a_kept a_isKept a_signed a_slips a_row a_best v_thrown v_trace v_typed v_next v_token v_place v_value v_fault v_clerks v_draftClerks v_draftLine v_signMany v_copies v_rowMany f_s) (some (.int rv)) (w_X8_last G a a_text a_clerk a_s a_kept a_isKept a_signed a_slips a_row a_best v_thrown v_trace v_typed v_next v_token v_place v_value v_fault v_clerks v_draftClerks v_draftLine v_signMany v_copies v_rowMany f_s) := by
  refine fun sz => Met.ofW (cc := cX8_last) (maxL := 1) (ret := (some .int)) (by decide) rfl ?_
  intro p e s m args below meth c s₁ B hml hv
  obtain ⟨rfl, hsz, hP, hK, hD0, hE⟩ := hv
  have hx := B.exec
  have hb := B.bytes
  have hr := B.returns
  have hts := atoms_spec (ws := wsX8_last) B.pre
  have hown : s.vm.findClass RX8 = some m.cls := findClass_of_methodNamed B.named
  have hlocks := B.notSynchronized
  subst hsz
  have hD := hD0.self (sz := s.heap.size)
  generalize hAe : va_A (w_X8_last G a a_text a_clerk a_s a_kept a_isKept a_signed a_slips a_row a_best v_thrown v_trace v_typed v_next v_token v_place v_value v_fault v_clerks v_draftClerks v_draftLine v_signMany v_copies v_rowMany f_s) s.heap.size = A at hD hE ⊢
  have hA : ∀ q : Nat, s.heap.size ≤ q → A q := fun q h => by rw [← hAe]; exact Or.inr h
  have hS : va_S A s.heap s.heap [] := va_S.rf
  have hl := lv_entry ([.ref a]) (n := 1) (Nat.le_of_ble_eq_true rfl)
  rw [lg_entry_eq]
  generalize (lg_sl ([.ref a]) ++ List.replicate (1 - (lg_sl ([.ref a])).length) Slot.unset).toArray = ls at hl ⊢
  have hl : lv_has ls 1 [(0, .ref a)] := hl
  have hP : va_P G.1 vwCl (w_X8_last G a a_text a_clerk a_s a_kept a_isKept a_signed a_slips a_row a_best v_thrown v_trace v_typed v_next v_token v_place v_value v_fault v_clerks v_draftClerks v_draftLine v_signMany v_copies v_rowMany f_s) s.heap := hP
  rw [fX8_last] at h
  refine lv_aload_n hx hb dX8_last_0 rfl (lv_at hl 0 rfl) ?_
  refine va_get (D := G.1) (ci := 8) (v := .ref a_s) (C := RX8) (T := TX8) (N := 23) hx hb hts in_X8_last_X8 hown hK.1 hP 0 rfl rfl 13 (by decide) (hts (.fieldLink RX8 16 "NineHandsModel" "s" "[I") (by decide +kernel)) (fun _ h9 => h9) rfl dX8_last_1 ?_
  refine lv_iconst (v := (2 : Int32)) hx hb dX8_last_4 (by decide) ?_
  refine lv_aload_n hx hb dX8_last_5 rfl (lv_at hl 0 rfl) ?_
  refine va_get (D := G.1) (ci := 8) (v := .ref a_s) (C := RX8) (T := TX8) (N := 23) hx hb hts in_X8_last_X8 hown hK.1 hP 0 rfl rfl 13 (by decide) (hts (.fieldLink RX8 16 "NineHandsModel" "s" "[I") (by decide +kernel)) (fun _ h9 => h9) rfl dX8_last_6 ?_
  refine lv_bipush (v := (20 : Int32)) hx hb dX8_last_9 (by decide) ?_
  refine zald hx hb hK.1 hP 1 0 rfl rfl (show ¬ ((20 : Int32) < 0 ∨ 22 ≤ ((20 : Int32)).toNatClampNeg) by decide) (j := 20) (by decide) dX8_last_11 ?_
  refine lv_imul hx hb dX8_last_12 ?_
  refine lv_iconst (v := (2 : Int32)) hx hb dX8_last_13 (by decide) ?_
  refine lv_isub hx hb dX8_last_14 ?_
  obtain ⟨g15, h⟩ := zg h
  refine zald hx hb hK.1 hP 1 0 rfl rfl g15 (j := ((((2 : Int32) * (f_s 20)) - (2 : Int32))).toNatClampNeg) rfl dX8_last_15 ?_
  cases h
  exact W.iret hx hb hr (fun t9 ht9 _ => zend hP hD hS ht9) hS.2.2 dX8_last_16
abbrev w_X8_puts (G : zG) (a : Nat) (a_text : Nat) (a_clerk : Nat) (a_s : Nat) (a_kept : Nat) (a_isKept : Nat) (a_signed : Nat) (a_slips : Nat) (a_row : Nat) (a_best : Nat) (v_thrown : Int32) (v_trace : Int64) (v_typed : Int32) (v_next : Int32) (v_token : Int32) (v_place : Int32) (v_value : Int32) (v_fault : Int32) (v_clerks : Int32) (v_draftClerks : Int32) (v_draftLine : Int32) (v_signMany : Int32) (v_copies : Int32) (v_rowMany : Int32) (f_s : (Nat → Int32)) : va_W := [(a, .inr (8, [.int v_thrown, .long v_trace, .ref a_text, .int v_typed, .int v_next, .int v_token, .int v_place, .int v_value, .int v_fault, .ref a_clerk, .int v_clerks, .int v_draftClerks, .int v_draftLine, .ref a_s, .ref a_kept, .ref a_isKept, .ref a_signed, .int v_signMany, .ref a_slips, .int v_copies, .ref a_row, .ref a_best, .int v_rowMany])), (a_s, .inl (zCI G, 22, .inl f_s))]
theorem in_X8_puts_X8 : ∀ w ∈ wsX80, w ∈ wsX8_puts := by decide +kernel
set_option maxHeartbeats 4000000 in
set_option maxRecDepth 100000 in
theorem c_X8_puts (l : Launch) (G : zG) (a : Nat) (a_text : Nat) (a_clerk : Nat) (a_s : Nat) (a_kept : Nat) (a_isKept : Nat) (a_signed : Nat) (a_slips : Nat) (a_row : Nat) (a_best : Nat) (v_thrown : Int32) (v_trace : Int64) (v_typed : Int32) (v_next : Int32) (v_token : Int32) (v_place : Int32) (v_value : Int32) (v_fault : Int32) (v_clerks : Int32) (v_draftClerks : Int32) (v_draftLine : Int32) (v_signMany : Int32) (v_copies : Int32) (v_rowMany : Int32) (f_s : (Nat → Int32)) (x1 : Int32) (x2 : Int32) (of_s : (Nat → Int32)) (h : fX8_puts f_s x1 x2 = some of_s) : zC l yX8_puts wsX8_puts 0 0 G [.ref a, .int x1, .int x2] (w_X8_puts G a a_text a_clerk a_s a_kept a_isKept a_signed a_slips a_row a_best v_thrown v_trace v_typed v_next v_token v_place v_value v_fault v_clerks v_draftClerks v_draftLine v_signMany v_copies v_rowMany f_s) none (w_X8_puts G a a_text a_clerk a_s a_kept a_isKept a_signed a_slips a_row a_best v_thrown v_trace v_typed v_next v_token v_place v_value v_fault v_clerks v_draftClerks v_draftLine v_signMany v_copies v_rowMany of_s) := by
  refine fun sz => Met.ofW (cc := cX8_puts) (maxL := 3) (ret := none) (by decide) rfl ?_
  intro p e s m args below meth c s₁ B hml hv
  obtain ⟨rfl, hsz, hP, hK, hD0, hE⟩ := hv
  have hx := B.exec
  have hb := B.bytes
  have hr := B.returns
  have hts := atoms_spec (ws := wsX8_puts) B.pre
  have hown : s.vm.findClass RX8 = some m.cls := findClass_of_methodNamed B.named
  have hlocks := B.notSynchronized
  subst hsz
  have hD := hD0.self (sz := s.heap.size)
  generalize hAe : va_A (w_X8_puts G a a_text a_clerk a_s a_kept a_isKept a_signed a_slips a_row a_best v_thrown v_trace v_typed v_next v_token v_place v_value v_fault v_clerks v_draftClerks v_draftLine v_signMany v_copies v_rowMany f_s) s.heap.size = A at hD hE ⊢
  have hA : ∀ q : Nat, s.heap.size ≤ q → A q := fun q h => by rw [← hAe]; exact Or.inr h
  have hS : va_S A s.heap s.heap [] := va_S.rf
  have hl := lv_entry ([.ref a, .int x1, .int x2]) (n := 3) (Nat.le_of_ble_eq_true rfl)
  rw [lg_entry_eq]
  generalize (lg_sl ([.ref a, .int x1, .int x2]) ++ List.replicate (3 - (lg_sl ([.ref a, .int x1, .int x2])).length) Slot.unset).toArray = ls at hl ⊢
  have hl : lv_has ls 3 [(0, .ref a), (1, .int x1), (2, .int x2)] := hl
  have hP : va_P G.1 vwCl (w_X8_puts G a a_text a_clerk a_s a_kept a_isKept a_signed a_slips a_row a_best v_thrown v_trace v_typed v_next v_token v_place v_value v_fault v_clerks v_draftClerks v_draftLine v_signMany v_copies v_rowMany f_s) s.heap := hP
  rw [fX8_puts] at h
  refine lv_aload_n hx hb dX8_puts_0 rfl (lv_at hl 0 rfl) ?_
  refine va_get (D := G.1) (ci := 8) (v := .ref a_s) (C := RX8) (T := TX8) (N := 23) hx hb hts in_X8_puts_X8 hown hK.1 hP 0 rfl rfl 13 (by decide) (hts (.fieldLink RX8 16 "NineHandsModel" "s" "[I") (by decide +kernel)) (fun _ h9 => h9) rfl dX8_puts_1 ?_
  refine lv_iconst (v := (2 : Int32)) hx hb dX8_puts_4 (by decide) ?_
  refine lv_aload_n hx hb dX8_puts_5 rfl (lv_at hl 0 rfl) ?_
  refine va_get (D := G.1) (ci := 8) (v := .ref a_s) (C := RX8) (T := TX8) (N := 23) hx hb hts in_X8_puts_X8 hown hK.1 hP 0 rfl rfl 13 (by decide) (hts (.fieldLink RX8 16 "NineHandsModel" "s" "[I") (by decide +kernel)) (fun _ h9 => h9) rfl dX8_puts_6 ?_
  refine lv_bipush (v := (20 : Int32)) hx hb dX8_puts_9 (by decide) ?_
  refine zald hx hb hK.1 hP 1 0 rfl rfl (show ¬ ((20 : Int32) < 0 ∨ 22 ≤ ((20 : Int32)).toNatClampNeg) by decide) (j := 20) (by decide) dX8_puts_11 ?_
  refine lv_imul hx hb dX8_puts_12 ?_
  refine lv_iload_n hx hb dX8_puts_13 rfl (lv_at hl 1 rfl) ?_
  obtain ⟨g14, h⟩ := zg h
  refine zast hx hb hK.1 hP hD hS 1 0 rfl rfl g14 (j := (((2 : Int32) * (f_s 20))).toNatClampNeg) rfl (ws' := (w_X8_puts G a a_text a_clerk a_s a_kept a_isKept a_signed a_slips a_row a_best v_thrown v_trace v_typed v_next v_token v_place v_value v_fault v_clerks v_draftClerks v_draftLine v_signMany v_copies v_rowMany (upd f_s (((2 : Int32) * (f_s 20))).toNatClampNeg x1))) rfl dX8_puts_14 (fun H locs hP hD hS => ?_)
  refine lv_aload_n hx hb dX8_puts_15 rfl (lv_at hl 0 rfl) ?_
  refine va_get (D := G.1) (ci := 8) (v := .ref a_s) (C := RX8) (T := TX8) (N := 23) hx hb hts in_X8_puts_X8 hown hK.1 hP 0 rfl rfl 13 (by decide) (hts (.fieldLink RX8 16 "NineHandsModel" "s" "[I") (by decide +kernel)) (fun _ h9 => h9) rfl dX8_puts_16 ?_
  refine lv_iconst (v := (2 : Int32)) hx hb dX8_puts_19 (by decide) ?_
  refine lv_aload_n hx hb dX8_puts_20 rfl (lv_at hl 0 rfl) ?_
  refine va_get (D := G.1) (ci := 8) (v := .ref a_s) (C := RX8) (T := TX8) (N := 23) hx hb hts in_X8_puts_X8 hown hK.1 hP 0 rfl rfl 13 (by decide) (hts (.fieldLink RX8 16 "NineHandsModel" "s" "[I") (by decide +kernel)) (fun _ h9 => h9) rfl dX8_puts_21 ?_
  refine lv_bipush (v := (20 : Int32)) hx hb dX8_puts_24 (by decide) ?_
  refine zald hx hb hK.1 hP 1 0 rfl rfl (show ¬ ((20 : Int32) < 0 ∨ 22 ≤ ((20 : Int32)).toNatClampNeg) by decide) (j := 20) (by decide) dX8_puts_26 ?_
  refine lv_imul hx hb dX8_puts_27 ?_
  refine lv_iconst (v := (1 : Int32)) hx hb dX8_puts_28 (by decide) ?_
  refine lv_iadd hx hb dX8_puts_29 ?_
  refine lv_iload_n hx hb dX8_puts_30 rfl (lv_at hl 2 rfl) ?_
  obtain ⟨g31, h⟩ := zg h
  refine zast hx hb hK.1 hP hD hS 1 0 rfl rfl g31 (j := ((((2 : Int32) * ((upd f_s (((2 : Int32) * (f_s 20))).toNatClampNeg x1) 20)) + (1 : Int32))).toNatClampNeg) rfl (ws' := (w_X8_puts G a a_text a_clerk a_s a_kept a_isKept a_signed a_slips a_row a_best v_thrown v_trace v_typed v_next v_token v_place v_value v_fault v_clerks v_draftClerks v_draftLine v_signMany v_copies v_rowMany (upd (upd f_s (((2 : Int32) * (f_s 20))).toNatClampNeg x1) ((((2 : Int32) * ((upd f_s (((2 : Int32) * (f_s 20))).toNatClampNeg x1) 20)) + (1 : Int32))).toNatClampNeg x2))) rfl dX8_puts_31 (fun H locs hP hD hS => ?_)
  refine lv_aload_n hx hb dX8_puts_32 rfl (lv_at hl 0 rfl) ?_
  refine va_get (D := G.1) (ci := 8) (v := .ref a_s) (C := RX8) (T := TX8) (N := 23) hx hb hts in_X8_puts_X8 hown hK.1 hP 0 rfl rfl 13 (by decide) (hts (.fieldLink RX8 16 "NineHandsModel" "s" "[I") (by decide +kernel)) (fun _ h9 => h9) rfl dX8_puts_33 ?_
  refine lv_bipush (v := (20 : Int32)) hx hb dX8_puts_36 (by decide) ?_
  refine lv_dup2_11 hx hb dX8_puts_38 rfl rfl ?_
  refine zald hx hb hK.1 hP 1 0 rfl rfl (show ¬ ((20 : Int32) < 0 ∨ 22 ≤ ((20 : Int32)).toNatClampNeg) by decide) (j := 20) (by decide) dX8_puts_39 ?_
  refine lv_iconst (v := (1 : Int32)) hx hb dX8_puts_40 (by decide) ?_
  refine lv_iadd hx hb dX8_puts_41 ?_
  refine zast hx hb hK.1 hP hD hS 1 0 rfl rfl (show ¬ ((20 : Int32) < 0 ∨ 22 ≤ ((20 : Int32)).toNatClampNeg) by decide) (j := 20) (by decide) (ws' := (w_X8_puts G a a_text a_clerk a_s a_kept a_isKept a_signed a_slips a_row a_best v_thrown v_trace v_typed v_next v_token v_place v_value v_fault v_clerks v_draftClerks v_draftLine v_signMany v_copies v_rowMany (upd (upd (upd f_s (((2 : Int32) * (f_s 20))).toNatClampNeg x1) ((((2 : Int32) * ((upd f_s (((2 : Int32) * (f_s 20))).toNatClampNeg x1) 20)) + (1 : Int32))).toNatClampNeg x2) 20 (((upd (upd f_s (((2 : Int32) * (f_s 20))).toNatClampNeg x1) ((((2 : Int32) * ((upd f_s (((2 : Int32) * (f_s 20))).toNatClampNeg x1) 20)) + (1 : Int32))).toNatClampNeg x2) 20) + (1 : Int32))))) rfl dX8_puts_42 (fun H locs hP hD hS => ?_)
  cases h
  exact W.vret hx hb hr (fun t9 ht9 _ => zend hP hD hS ht9) hS.2.2 dX8_puts_43
abbrev w_X8_write (G : zG) (a : Nat) (a_text : Nat) (a_clerk : Nat) (a_s : Nat) (a_kept : Nat) (a_isKept : Nat) (a_signed : Nat) (a_slips : Nat) (a_row : Nat) (a_best : Nat) (v_thrown : Int32) (v_trace : Int64) (v_typed : Int32) (v_next : Int32) (v_token : Int32) (v_place : Int32) (v_value : Int32) (v_fault : Int32) (v_clerks : Int32) (v_draftClerks : Int32) (v_draftLine : Int32) (v_signMany : Int32) (v_copies : Int32) (v_rowMany : Int32) (f_clerk : (Nat → Int32)) (f_s : (Nat → Int32)) : va_W := [(a, .inr (8, [.int v_thrown, .long v_trace, .ref a_text, .int v_typed, .int v_next, .int v_token, .int v_place, .int v_value, .int v_fault, .ref a_clerk, .int v_clerks, .int v_draftClerks, .int v_draftLine, .ref a_s, .ref a_kept, .ref a_isKept, .ref a_signed, .int v_signMany, .ref a_slips, .int v_copies, .ref a_row, .ref a_best, .int v_rowMany])), (a_clerk, .inl (zCI G, 48, .inl f_clerk)), (a_s, .inl (zCI G, 22, .inl f_s))]
theorem in_X8_write_X8 : ∀ w ∈ wsX80, w ∈ wsX8_write := by decide +kernel
set_option maxHeartbeats 4000000 in
set_option maxRecDepth 100000 in
theorem c_X8_write (l : Launch) (G : zG) (a : Nat) (a_text : Nat) (a_clerk : Nat) (a_s : Nat) (a_kept : Nat) (a_isKept : Nat) (a_signed : Nat) (a_slips : Nat) (a_row : Nat) (a_best : Nat) (v_thrown : Int32) (v_trace : Int64) (v_typed : Int32) (v_next : Int32) (v_token : Int32) (v_place : Int32) (v_value : Int32) (v_fault : Int32) (v_clerks : Int32) (v_draftClerks : Int32) (v_draftLine : Int32) (v_signMany : Int32) (v_copies : Int32) (v_rowMany : Int32) (f_clerk : (Nat → Int32)) (f_s : (Nat → Int32)) (x1 : Int32) (rv : Int32) (ov_thrown : Int32) (of_s : (Nat → Int32)) (h : fX8_write v_thrown v_clerks f_clerk f_s x1 = some (rv, ov_thrown, of_s)) : zC l yX8_write wsX8_write 2 46 G [.ref a, .int x1] (w_X8_write G a a_text a_clerk a_s a_kept a_isKept a_signed a_slips a_row a_best v_thrown v_trace v_typed v_next v_token v_place v_value v_fault v_clerks v_draftClerks v_draftLine v_signMany v_copies v_rowMany f_clerk f_s) (some (.int rv)) (w_X8_write G a a_text a_clerk a_s a_kept a_isKept a_signed a_slips a_row a_best ov_thrown v_trace v_typed v_next v_token v_place v_value v_fault v_clerks v_draftClerks v_draftLine v_signMany v_copies v_rowMany f_clerk of_s) := by
  refine fun sz => Met.ofW (cc := cX8_write) (maxL := 3) (ret := (some .int)) (by decide) rfl ?_
  intro p e s m args below meth c s₁ B hml hv
  obtain ⟨rfl, hsz, hP, hK, hD0, hE⟩ := hv
  have hx := B.exec
  have hb := B.bytes
  have hr := B.returns
  have hts := atoms_spec (ws := wsX8_write) B.pre
  have hown : s.vm.findClass RX8 = some m.cls := findClass_of_methodNamed B.named
  have hlocks := B.notSynchronized
  subst hsz
  have hD := hD0.self (sz := s.heap.size)
  generalize hAe : va_A (w_X8_write G a a_text a_clerk a_s a_kept a_isKept a_signed a_slips a_row a_best v_thrown v_trace v_typed v_next v_token v_place v_value v_fault v_clerks v_draftClerks v_draftLine v_signMany v_copies v_rowMany f_clerk f_s) s.heap.size = A at hD hE ⊢
  have hA : ∀ q : Nat, s.heap.size ≤ q → A q := fun q h => by rw [← hAe]; exact Or.inr h
  have hS : va_S A s.heap s.heap [] := va_S.rf
  have hl := lv_entry ([.ref a, .int x1]) (n := 3) (Nat.le_of_ble_eq_true rfl)
  rw [lg_entry_eq]
  generalize (lg_sl ([.ref a, .int x1]) ++ List.replicate (3 - (lg_sl ([.ref a, .int x1])).length) Slot.unset).toArray = ls at hl ⊢
  have hl : lv_has ls 3 [(0, .ref a), (1, .int x1)] := hl
  have hP : va_P G.1 vwCl (w_X8_write G a a_text a_clerk a_s a_kept a_isKept a_signed a_slips a_row a_best v_thrown v_trace v_typed v_next v_token v_place v_value v_fault v_clerks v_draftClerks v_draftLine v_signMany v_copies v_rowMany f_clerk f_s) s.heap := hP
  rw [fX8_write] at h
  have join_99 : ∀ (s1_99 : Int32) (v_thrown_99 : Int32) (f_s_99 : (Nat → Int32)) (H : Heap) (locs : List Loc) (ls : Array Slot), fX8_write_J99 x1 s1_99 v_thrown_99 f_s_99 = some (rv, ov_thrown, of_s) → va_P G.1 vwCl (w_X8_write G a a_text a_clerk a_s a_kept a_isKept a_signed a_slips a_row a_best v_thrown_99 v_trace v_typed v_next v_token v_place v_value v_fault v_clerks v_draftClerks v_draftLine v_signMany v_copies v_rowMany f_clerk f_s_99) H → va_D A (w_X8_write G a a_text a_clerk a_s a_kept a_isKept a_signed a_slips a_row a_best v_thrown_99 v_trace v_typed v_next v_token v_place v_value v_fault v_clerks v_draftClerks v_draftLine v_signMany v_copies v_rowMany f_clerk f_s_99) → va_S A s.heap H locs → lv_has ls 3 [(0, .ref a), (1, .int x1)] → W p l e (headSpec wsX8_write { frames := 2, cells := 0, slots := 0, locals := 46 }).room s m ([.ref a, .int x1] : List Value).toArray below meth c H locs 0 0 (MQ below (zQ (some (.int rv)) G (w_X8_write G a a_text a_clerk a_s a_kept a_isKept a_signed a_slips a_row a_best ov_thrown v_trace v_typed v_next v_token v_place v_value v_fault v_clerks v_draftClerks v_draftLine v_signMany v_copies v_rowMany f_clerk of_s) A) ([.ref a, .int x1] : List Value).toArray s 0 0 A) (F0 m 99 ls [.int s1_99, .ref a]) := by
    intro s1_99 v_thrown_99 f_s_99 H locs ls h hP hD hS hl
    rw [fX8_write_J99] at h
    refine lv_iload_n hx hb dX8_write_99 rfl (lv_at hl 1 rfl) ?_
    obtain ⟨y100_f_s, hc100, h⟩ := zb1_e h
    refine zcV (As := [.int s1_99, .int x1]) (rest := []) (ws' := (w_X8_write G a a_text a_clerk a_s a_kept a_isKept a_signed a_slips a_row a_best v_thrown_99 v_trace v_typed v_next v_token v_place v_value v_fault v_clerks v_draftClerks v_draftLine v_signMany v_copies v_rowMany f_clerk y100_f_s)) (st1 := []) ⟨hx, hb, hml, hown, hts⟩ (c_X8_puts l G a a_text a_clerk a_s a_kept a_isKept a_signed a_slips a_row a_best v_thrown_99 v_trace v_typed v_next v_token v_place v_value v_fault v_clerks v_draftClerks v_draftLine v_signMany v_copies v_rowMany f_s_99 s1_99 x1 y100_f_s hc100) (cwV 2 hts gX8_write_X8_puts rfl rfl rfl (by decide +kernel) ⟨Nat.le_of_ble_eq_true rfl, Nat.le_of_ble_eq_true rfl⟩) hK hE hP hD hS hA [0, 2] rfl rfl 0 8 rfl rfl rfl rfl rfl rfl hl.1 rfl (Nat.le_of_ble_eq_true rfl) dX8_write_100 (Nat.zero_le _) (Nat.zero_le _) rfl (fun H locs hP hD hS => ?_)
    refine lv_aload_n hx hb dX8_write_103 rfl (lv_at hl 0 rfl) ?_
    obtain ⟨y104, hc104, h⟩ := zb1_e h
    refine zcV (As := []) (rest := []) (ws' := (w_X8_write G a a_text a_clerk a_s a_kept a_isKept a_signed a_slips a_row a_best v_thrown_99 v_trace v_typed v_next v_token v_place v_value v_fault v_clerks v_draftClerks v_draftLine v_signMany v_copies v_rowMany f_clerk y100_f_s)) (st1 := [.int y104]) ⟨hx, hb, hml, hown, hts⟩ (c_X8_last l G a a_text a_clerk a_s a_kept a_isKept a_signed a_slips a_row a_best v_thrown_99 v_trace v_typed v_next v_token v_place v_value v_fault v_clerks v_draftClerks v_draftLine v_signMany v_copies v_rowMany y100_f_s y104 hc104) (cwV 0 hts gX8_write_X8_last rfl rfl rfl (by decide +kernel) ⟨Nat.le_of_ble_eq_true rfl, Nat.le_of_ble_eq_true rfl⟩) hK hE hP hD hS hA [0, 2] rfl rfl 0 8 rfl rfl rfl rfl rfl rfl hl.1 rfl (Nat.le_of_ble_eq_true rfl) dX8_write_104 (Nat.zero_le _) (Nat.zero_le _) rfl (fun H locs hP hD hS => ?_)
    cases h
    exact W.iret hx hb hr (fun t9 ht9 _ => zend hP hD hS ht9) hS.2.2 dX8_write_107
  refine lv_aload_n hx hb dX8_write_0 rfl (lv_at hl 0 rfl) ?_
  refine lv_iconst (v := (0 : Int32)) hx hb dX8_write_1 (by decide) ?_
  refine zput1 (D := G.1) (ci := 8) (C := RX8) (T := TX8) (N := 23) (ty := .int) (ws' := (w_X8_write G a a_text a_clerk a_s a_kept a_isKept a_signed a_slips a_row a_best (0 : Int32) v_trace v_typed v_next v_token v_place v_value v_fault v_clerks v_draftClerks v_draftLine v_signMany v_copies v_rowMany f_clerk f_s)) hx hb hts in_X8_write_X8 tyX8 tyX8_ok nmX8 hown hK.1 hP hD hS 0 rfl rfl 0 (by decide) (hts (.fieldLink RX8 42 "NineHandsModel" "thrown" "I") (by decide +kernel)) (fun _ h9 => h9) rfl (by decide +kernel) rfl rfl (Nat.le_of_ble_eq_true rfl) rfl dX8_write_2 (fun H locs hP hD hS => ?_)
  refine lv_aload_n hx hb dX8_write_5 rfl (lv_at hl 0 rfl) ?_
  refine lv_iload_n hx hb dX8_write_6 rfl (lv_at hl 1 rfl) ?_
  obtain ⟨y7, hc7, h⟩ := zb1_e h
  refine zcV (As := [.int x1]) (rest := []) (ws' := (w_X8_write G a a_text a_clerk a_s a_kept a_isKept a_signed a_slips a_row a_best (0 : Int32) v_trace v_typed v_next v_token v_place v_value v_fault v_clerks v_draftClerks v_draftLine v_signMany v_copies v_rowMany f_clerk f_s)) (st1 := [.int y7]) ⟨hx, hb, hml, hown, hts⟩ (c_X8_isClerk l G a a_text a_clerk a_s a_kept a_isKept a_signed a_slips a_row a_best (0 : Int32) v_trace v_typed v_next v_token v_place v_value v_fault v_clerks v_draftClerks v_draftLine v_signMany v_copies v_rowMany x1 y7 hc7) (cwV 1 hts gX8_write_X8_isClerk rfl rfl rfl (by decide +kernel) ⟨Nat.le_of_ble_eq_true rfl, Nat.le_of_ble_eq_true rfl⟩) hK hE hP hD hS hA [0] rfl rfl 0 8 rfl rfl rfl rfl rfl rfl hl.1 rfl (Nat.le_of_ble_eq_true rfl) dX8_write_7 (Nat.zero_le _) (Nat.zero_le _) rfl (fun H locs hP hD hS => ?_)
  refine lv_if_ne (tgt := 15) hx hb dX8_write_10 (by decide) (fun c10 => ?_) (fun c10 => ?_)
  · have h := zf c10 h
    refine lv_aload_n hx hb dX8_write_15 rfl (lv_at hl 0 rfl) ?_
    refine va_get (D := G.1) (ci := 8) (v := .ref a_s) (C := RX8) (T := TX8) (N := 23) hx hb hts in_X8_write_X8 hown hK.1 hP 0 rfl rfl 13 (by decide) (hts (.fieldLink RX8 16 "NineHandsModel" "s" "[I") (by decide +kernel)) (fun _ h9 => h9) rfl dX8_write_16 ?_
    refine lv_bipush (v := (20 : Int32)) hx hb dX8_write_19 (by decide) ?_
    refine zald hx hb hK.1 hP 2 0 rfl rfl (show ¬ ((20 : Int32) < 0 ∨ 22 ≤ ((20 : Int32)).toNatClampNeg) by decide) (j := 20) (by decide) dX8_write_21 ?_
    refine lv_bipush (v := (10 : Int32)) hx hb dX8_write_22 (by decide) ?_
    refine lv_icmp_ne (tgt := 30) hx hb dX8_write_24 (by decide) (fun c24 => ?_) (fun c24 => ?_)
    · have h := zf c24 h
      refine lv_aload_n hx hb dX8_write_30 rfl (lv_at hl 0 rfl) ?_
      refine va_get (D := G.1) (ci := 8) (v := .ref a_s) (C := RX8) (T := TX8) (N := 23) hx hb hts in_X8_write_X8 hown hK.1 hP 0 rfl rfl 13 (by decide) (hts (.fieldLink RX8 16 "NineHandsModel" "s" "[I") (by decide +kernel)) (fun _ h9 => h9) rfl dX8_write_31 ?_
      refine lv_bipush (v := (21 : Int32)) hx hb dX8_write_34 (by decide) ?_
      refine lv_aload_n hx hb dX8_write_36 rfl (lv_at hl 0 rfl) ?_
      refine va_get (D := G.1) (ci := 8) (v := .ref a_s) (C := RX8) (T := TX8) (N := 23) hx hb hts in_X8_write_X8 hown hK.1 hP 0 rfl rfl 13 (by decide) (hts (.fieldLink RX8 16 "NineHandsModel" "s" "[I") (by decide +kernel)) (fun _ h9 => h9) rfl dX8_write_37 ?_
      refine lv_bipush (v := (21 : Int32)) hx hb dX8_write_40 (by decide) ?_
      refine zald hx hb hK.1 hP 2 0 rfl rfl (show ¬ ((21 : Int32) < 0 ∨ 22 ≤ ((21 : Int32)).toNatClampNeg) by decide) (j := 21) (by decide) dX8_write_42 ?_
      refine lv_ldc hx hb hown (hts (.constant RX8 131 (1103515245)) (by decide +kernel)) dX8_write_43 ?_
      refine lv_imul hx hb dX8_write_45 ?_
      refine lv_sipush (v := (12345 : Int32)) hx hb dX8_write_46 (by decide) ?_
      refine lv_iadd hx hb dX8_write_49 ?_
      refine zast hx hb hK.1 hP hD hS 2 0 rfl rfl (show ¬ ((21 : Int32) < 0 ∨ 22 ≤ ((21 : Int32)).toNatClampNeg) by decide) (j := 21) (by decide) (ws' := (w_X8_write G a a_text a_clerk a_s a_kept a_isKept a_signed a_slips a_row a_best (0 : Int32) v_trace v_typed v_next v_token v_place v_value v_fault v_clerks v_draftClerks v_draftLine v_signMany v_copies v_rowMany f_clerk (upd f_s 21 (((f_s 21) * (1103515245 : Int32)) + (12345 : Int32))))) rfl dX8_write_50 (fun H locs hP hD hS => ?_)
      refine lv_aload_n hx hb dX8_write_51 rfl (lv_at hl 0 rfl) ?_
      refine va_get (D := G.1) (ci := 8) (v := .ref a_s) (C := RX8) (T := TX8) (N := 23) hx hb hts in_X8_write_X8 hown hK.1 hP 0 rfl rfl 13 (by decide) (hts (.fieldLink RX8 16 "NineHandsModel" "s" "[I") (by decide +kernel)) (fun _ h9 => h9) rfl dX8_write_52 ?_
      refine lv_bipush (v := (21 : Int32)) hx hb dX8_write_55 (by decide) ?_
      refine zald hx hb hK.1 hP 2 0 rfl rfl (show ¬ ((21 : Int32) < 0 ∨ 22 ≤ ((21 : Int32)).toNatClampNeg) by decide) (j := 21) (by decide) dX8_write_57 ?_
      refine lv_bipush (v := (16 : Int32)) hx hb dX8_write_58 (by decide) ?_
      refine lv_ishr hx hb dX8_write_60 ?_
      refine lv_ldc hx hb hown (hts (.constant RX8 132 (65535)) (by decide +kernel)) dX8_write_61 ?_
      refine lv_iand hx hb dX8_write_63 ?_
      refine lv_bipush (v := (10 : Int32)) hx hb dX8_write_64 (by decide) ?_
      refine lv_irem hx hb dX8_write_66 (by decide) ?_
      refine lv_istore_n (lv' := [(2, .int (((((upd f_s 21 (((f_s 21) * (1103515245 : Int32)) + (12345 : Int32))) 21) >>> ((16 : Int32) &&& 31)) &&& (65535 : Int32)) - ((((upd f_s 21 (((f_s 21) * (1103515245 : Int32)) + (12345 : Int32))) 21) >>> ((16 : Int32) &&& 31)) &&& (65535 : Int32)) / (10 : Int32) * (10 : Int32))), (0, .ref a), (1, .int x1)]) hx hb dX8_write_67 rfl hl (by decide) rfl (fun ls hl => ?_)
      refine lv_aload_n hx hb dX8_write_68 rfl (lv_at hl 1 rfl) ?_
      refine lv_iload_n hx hb dX8_write_69 rfl (lv_at hl 0 rfl) ?_
      refine lv_aload_n hx hb dX8_write_70 rfl (lv_at hl 1 rfl) ?_
      refine va_get (D := G.1) (ci := 8) (v := .ref a_clerk) (C := RX8) (T := TX8) (N := 23) hx hb hts in_X8_write_X8 hown hK.1 hP 0 rfl rfl 9 (by decide) (hts (.fieldLink RX8 13 "NineHandsModel" "clerk" "[I") (by decide +kernel)) (fun _ h9 => h9) rfl dX8_write_71 ?_
      refine lv_iconst (v := (4 : Int32)) hx hb dX8_write_74 (by decide) ?_
      refine lv_iload_n hx hb dX8_write_75 rfl (lv_at hl 2 rfl) ?_
      refine lv_imul hx hb dX8_write_76 ?_
      refine lv_iconst (v := (3 : Int32)) hx hb dX8_write_77 (by decide) ?_
      refine lv_iadd hx hb dX8_write_78 ?_
      obtain ⟨g79, h⟩ := zg h
      refine zald hx hb hK.1 hP 1 0 rfl rfl g79 (j := ((((4 : Int32) * x1) + (3 : Int32))).toNatClampNeg) rfl dX8_write_79 ?_
      refine lv_icmp_ge (tgt := 95) hx hb dX8_write_80 (by decide) (fun c80 => ?_) (fun c80 => ?_)
      · have h := zt c80 h
        refine lv_aload_n hx hb dX8_write_95 rfl (lv_at hl 1 rfl) ?_
        obtain ⟨y96, hc96, h⟩ := zb1_e h
        refine zcV (As := []) (rest := [.ref a]) (ws' := (w_X8_write G a a_text a_clerk a_s a_kept a_isKept a_signed a_slips a_row a_best (0 : Int32) v_trace v_typed v_next v_token v_place v_value v_fault v_clerks v_draftClerks v_draftLine v_signMany v_copies v_rowMany f_clerk (upd f_s 21 (((f_s 21) * (1103515245 : Int32)) + (12345 : Int32))))) (st1 := [.int y96, .ref a]) ⟨hx, hb, hml, hown, hts⟩ (c_X8_last l G a a_text a_clerk a_s a_kept a_isKept a_signed a_slips a_row a_best (0 : Int32) v_trace v_typed v_next v_token v_place v_value v_fault v_clerks v_draftClerks v_draftLine v_signMany v_copies v_rowMany (upd f_s 21 (((f_s 21) * (1103515245 : Int32)) + (12345 : Int32))) y96 hc96) (cwV 0 hts gX8_write_X8_last rfl rfl rfl (by decide +kernel) ⟨Nat.le_of_ble_eq_true rfl, Nat.le_of_ble_eq_true rfl⟩) hK hE hP hD hS hA [0, 2] rfl rfl 0 8 rfl rfl rfl rfl rfl rfl hl.1 rfl (Nat.le_of_ble_eq_true rfl) dX8_write_96 (Nat.zero_le _) (Nat.zero_le _) rfl (fun H locs hP hD hS => ?_)
        exact join_99 _ _ _ _ _ _ h hP hD hS (lv_sub hl [1, 2] rfl)
      · have h := zf c80 h
        refine lv_aload_n hx hb dX8_write_83 rfl (lv_at hl 1 rfl) ?_
        refine lv_iload_n hx hb dX8_write_84 rfl (lv_at hl 2 rfl) ?_
        refine lv_aload_n hx hb dX8_write_85 rfl (lv_at hl 1 rfl) ?_
        obtain ⟨y86, hc86, h⟩ := zb1_e h
        refine zcV (As := []) (rest := [.int x1, .ref a, .ref a]) (ws' := (w_X8_write G a a_text a_clerk a_s a_kept a_isKept a_signed a_slips a_row a_best (0 : Int32) v_trace v_typed v_next v_token v_place v_value v_fault v_clerks v_draftClerks v_draftLine v_signMany v_copies v_rowMany f_clerk (upd f_s 21 (((f_s 21) * (1103515245 : Int32)) + (12345 : Int32))))) (st1 := [.int y86, .int x1, .ref a, .ref a]) ⟨hx, hb, hml, hown, hts⟩ (c_X8_last l G a a_text a_clerk a_s a_kept a_isKept a_signed a_slips a_row a_best (0 : Int32) v_trace v_typed v_next v_token v_place v_value v_fault v_clerks v_draftClerks v_draftLine v_signMany v_copies v_rowMany (upd f_s 21 (((f_s 21) * (1103515245 : Int32)) + (12345 : Int32))) y86 hc86) (cwV 0 hts gX8_write_X8_last rfl rfl rfl (by decide +kernel) ⟨Nat.le_of_ble_eq_true rfl, Nat.le_of_ble_eq_true rfl⟩) hK hE hP hD hS hA [0, 2] rfl rfl 0 8 rfl rfl rfl rfl rfl rfl hl.1 rfl (Nat.le_of_ble_eq_true rfl) dX8_write_86 (Nat.zero_le _) (Nat.zero_le _) rfl (fun H locs hP hD hS => ?_)
        obtain ⟨y89, hc89, h⟩ := zb1_e h
        refine zcV (As := [.int x1, .int y86]) (rest := [.ref a]) (ws' := (w_X8_write G a a_text a_clerk a_s a_kept a_isKept a_signed a_slips a_row a_best (0 : Int32) v_trace v_typed v_next v_token v_place v_value v_fault v_clerks v_draftClerks v_draftLine v_signMany v_copies v_rowMany f_clerk (upd f_s 21 (((f_s 21) * (1103515245 : Int32)) + (12345 : Int32))))) (st1 := [.int y89, .ref a]) ⟨hx, hb, hml, hown, hts⟩ (c_X8_madeBy l G a a_text a_clerk a_s a_kept a_isKept a_signed a_slips a_row a_best (0 : Int32) v_trace v_typed v_next v_token v_place v_value v_fault v_clerks v_draftClerks v_draftLine v_signMany v_copies v_rowMany f_clerk x1 y86 y89 hc89) (cwV 2 hts gX8_write_X8_madeBy rfl rfl rfl (by decide +kernel) ⟨Nat.le_of_ble_eq_true rfl, Nat.le_of_ble_eq_true rfl⟩) hK hE hP hD hS hA [0, 1] rfl rfl 0 8 rfl rfl rfl rfl rfl rfl hl.1 rfl (Nat.le_of_ble_eq_true rfl) dX8_write_89 (Nat.zero_le _) (Nat.zero_le _) rfl (fun H locs hP hD hS => ?_)
        refine lv_goto (tgt := 99) hx hb dX8_write_92 (by decide) ?_
        exact join_99 _ _ _ _ _ _ h hP hD hS (lv_sub hl [1, 2] rfl)
    · have h := zt c24 h
      refine lv_bipush (v := ((-3) : Int32)) hx hb dX8_write_27 (by decide) ?_
      cases h
      exact W.iret hx hb hr (fun t9 ht9 _ => zend hP hD hS ht9) hS.2.2 dX8_write_29
  · have h := zt c10 h
    refine lv_iconst (v := ((-1) : Int32)) hx hb dX8_write_13 (by decide) ?_
    cases h
    exact W.iret hx hb hr (fun t9 ht9 _ => zend hP hD hS ht9) hS.2.2 dX8_write_14
abbrev w_X8_forge (G : zG) (a : Nat) (a_text : Nat) (a_clerk : Nat) (a_s : Nat) (a_kept : Nat) (a_isKept : Nat) (a_signed : Nat) (a_slips : Nat) (a_row : Nat) (a_best : Nat) (v_thrown : Int32) (v_trace : Int64) (v_typed : Int32) (v_next : Int32) (v_token : Int32) (v_place : Int32) (v_value : Int32) (v_fault : Int32) (v_clerks : Int32) (v_draftClerks : Int32) (v_draftLine : Int32) (v_signMany : Int32) (v_copies : Int32) (v_rowMany : Int32) (f_s : (Nat → Int32)) : va_W := [(a, .inr (8, [.int v_thrown, .long v_trace, .ref a_text, .int v_typed, .int v_next, .int v_token, .int v_place, .int v_value, .int v_fault, .ref a_clerk, .int v_clerks, .int v_draftClerks, .int v_draftLine, .ref a_s, .ref a_kept, .ref a_isKept, .ref a_signed, .int v_signMany, .ref a_slips, .int v_copies, .ref a_row, .ref a_best, .int v_rowMany])), (a_s, .inl (zCI G, 22, .inl f_s))]
theorem in_X8_forge_X8 : ∀ w ∈ wsX80, w ∈ wsX8_forge := by decide +kernel
set_option maxHeartbeats 4000000 in
set_option maxRecDepth 100000 in
theorem c_X8_forge (l : Launch) (G : zG) (a : Nat) (a_text : Nat) (a_clerk : Nat) (a_s : Nat) (a_kept : Nat) (a_isKept : Nat) (a_signed : Nat) (a_slips : Nat) (a_row : Nat) (a_best : Nat) (v_thrown : Int32) (v_trace : Int64) (v_typed : Int32) (v_next : Int32) (v_token : Int32) (v_place : Int32) (v_value : Int32) (v_fault : Int32) (v_clerks : Int32) (v_draftClerks : Int32) (v_draftLine : Int32) (v_signMany : Int32) (v_copies : Int32) (v_rowMany : Int32) (f_s : (Nat → Int32)) (x1 : Int32) (x2 : Int32) (rv : Int32) (ov_thrown : Int32) (of_s : (Nat → Int32)) (h : fX8_forge v_thrown f_s x1 x2 = some (rv, ov_thrown, of_s)) : zC l yX8_forge wsX8_forge 1 22 G [.ref a, .int x1, .int x2] (w_X8_forge G a a_text a_clerk a_s a_kept a_isKept a_signed a_slips a_row a_best v_thrown v_trace v_typed v_next v_token v_place v_value v_fault v_clerks v_draftClerks v_draftLine v_signMany v_copies v_rowMany f_s) (some (.int rv)) (w_X8_forge G a a_text a_clerk a_s a_kept a_isKept a_signed a_slips a_row a_best ov_thrown v_trace v_typed v_next v_token v_place v_value v_fault v_clerks v_draftClerks v_draftLine v_signMany v_copies v_rowMany of_s) := by
  refine fun sz => Met.ofW (cc := cX8_forge) (maxL := 3) (ret := (some .int)) (by decide) rfl ?_
  intro p e s m args below meth c s₁ B hml hv
  obtain ⟨rfl, hsz, hP, hK, hD0, hE⟩ := hv
  have hx := B.exec
  have hb := B.bytes
  have hr := B.returns
  have hts := atoms_spec (ws := wsX8_forge) B.pre
  have hown : s.vm.findClass RX8 = some m.cls := findClass_of_methodNamed B.named
  have hlocks := B.notSynchronized
  subst hsz
  have hD := hD0.self (sz := s.heap.size)
  generalize hAe : va_A (w_X8_forge G a a_text a_clerk a_s a_kept a_isKept a_signed a_slips a_row a_best v_thrown v_trace v_typed v_next v_token v_place v_value v_fault v_clerks v_draftClerks v_draftLine v_signMany v_copies v_rowMany f_s) s.heap.size = A at hD hE ⊢
  have hA : ∀ q : Nat, s.heap.size ≤ q → A q := fun q h => by rw [← hAe]; exact Or.inr h
  have hS : va_S A s.heap s.heap [] := va_S.rf
  have hl := lv_entry ([.ref a, .int x1, .int x2]) (n := 3) (Nat.le_of_ble_eq_true rfl)
  rw [lg_entry_eq]
  generalize (lg_sl ([.ref a, .int x1, .int x2]) ++ List.replicate (3 - (lg_sl ([.ref a, .int x1, .int x2])).length) Slot.unset).toArray = ls at hl ⊢
  have hl : lv_has ls 3 [(0, .ref a), (1, .int x1), (2, .int x2)] := hl
  have hP : va_P G.1 vwCl (w_X8_forge G a a_text a_clerk a_s a_kept a_isKept a_signed a_slips a_row a_best v_thrown v_trace v_typed v_next v_token v_place v_value v_fault v_clerks v_draftClerks v_draftLine v_signMany v_copies v_rowMany f_s) s.heap := hP
  rw [fX8_forge] at h
  refine lv_aload_n hx hb dX8_forge_0 rfl (lv_at hl 0 rfl) ?_
  refine lv_iconst (v := (0 : Int32)) hx hb dX8_forge_1 (by decide) ?_
  refine zput1 (D := G.1) (ci := 8) (C := RX8) (T := TX8) (N := 23) (ty := .int) (ws' := (w_X8_forge G a a_text a_clerk a_s a_kept a_isKept a_signed a_slips a_row a_best (0 : Int32) v_trace v_typed v_next v_token v_place v_value v_fault v_clerks v_draftClerks v_draftLine v_signMany v_copies v_rowMany f_s)) hx hb hts in_X8_forge_X8 tyX8 tyX8_ok nmX8 hown hK.1 hP hD hS 0 rfl rfl 0 (by decide) (hts (.fieldLink RX8 42 "NineHandsModel" "thrown" "I") (by decide +kernel)) (fun _ h9 => h9) rfl (by decide +kernel) rfl rfl (Nat.le_of_ble_eq_true rfl) rfl dX8_forge_2 (fun H locs hP hD hS => ?_)
  refine lv_iload_n hx hb dX8_forge_5 rfl (lv_at hl 1 rfl) ?_
  refine lv_iconst (v := (0 : Int32)) hx hb dX8_forge_6 (by decide) ?_
  refine lv_bipush (v := (9 : Int32)) hx hb dX8_forge_7 (by decide) ?_
  obtain ⟨y9, hc9, h⟩ := zb1_e h
  refine zcS (As := [.int x1, .int (0 : Int32), .int (9 : Int32)]) (rest := []) (ws' := (w_X8_forge G a a_text a_clerk a_s a_kept a_isKept a_signed a_slips a_row a_best (0 : Int32) v_trace v_typed v_next v_token v_place v_value v_fault v_clerks v_draftClerks v_draftLine v_signMany v_copies v_rowMany f_s)) (st1 := [.int y9]) ⟨hx, hb, hml, hown, hts⟩ (c_X8_in l G x1 (0 : Int32) (9 : Int32) y9 hc9) (va_cwS 3 hts gX8_forge_X8_in rfl rfl rfl (by decide +kernel) ⟨Nat.le_of_ble_eq_true rfl, Nat.le_of_ble_eq_true rfl⟩) hK hE hP hD hS hA [] rfl rfl rfl rfl rfl hl.1 rfl (Nat.le_of_ble_eq_true rfl) dX8_forge_9 (Nat.zero_le _) (Nat.zero_le _) rfl (fun H locs hP hD hS => ?_)
  refine lv_if_eq (tgt := 25) hx hb dX8_forge_12 (by decide) (fun c12 => ?_) (fun c12 => ?_)
  · have h := zt c12 h
    refine lv_iconst (v := ((-1) : Int32)) hx hb dX8_forge_25 (by decide) ?_
    cases h
    exact W.iret hx hb hr (fun t9 ht9 _ => zend hP hD hS ht9) hS.2.2 dX8_forge_26
  · have h := zf c12 h
    refine lv_iload_n hx hb dX8_forge_15 rfl (lv_at hl 2 rfl) ?_
    refine lv_iconst (v := (0 : Int32)) hx hb dX8_forge_16 (by decide) ?_
    refine lv_bipush (v := (7 : Int32)) hx hb dX8_forge_17 (by decide) ?_
    obtain ⟨y19, hc19, h⟩ := zb1_e h
    refine zcS (As := [.int x2, .int (0 : Int32), .int (7 : Int32)]) (rest := []) (ws' := (w_X8_forge G a a_text a_clerk a_s a_kept a_isKept a_signed a_slips a_row a_best (0 : Int32) v_trace v_typed v_next v_token v_place v_value v_fault v_clerks v_draftClerks v_draftLine v_signMany v_copies v_rowMany f_s)) (st1 := [.int y19]) ⟨hx, hb, hml, hown, hts⟩ (c_X8_in l G x2 (0 : Int32) (7 : Int32) y19 hc19) (va_cwS 3 hts gX8_forge_X8_in rfl rfl rfl (by decide +kernel) ⟨Nat.le_of_ble_eq_true rfl, Nat.le_of_ble_eq_true rfl⟩) hK hE hP hD hS hA [] rfl rfl rfl rfl rfl hl.1 rfl (Nat.le_of_ble_eq_true rfl) dX8_forge_19 (Nat.zero_le _) (Nat.zero_le _) rfl (fun H locs hP hD hS => ?_)
    refine lv_if_ne (tgt := 27) hx hb dX8_forge_22 (by decide) (fun c22 => ?_) (fun c22 => ?_)
    · have h := zf c22 h
      refine lv_aload_n hx hb dX8_forge_27 rfl (lv_at hl 0 rfl) ?_
      refine va_get (D := G.1) (ci := 8) (v := .ref a_s) (C := RX8) (T := TX8) (N := 23) hx hb hts in_X8_forge_X8 hown hK.1 hP 0 rfl rfl 13 (by decide) (hts (.fieldLink RX8 16 "NineHandsModel" "s" "[I") (by decide +kernel)) (fun _ h9 => h9) rfl dX8_forge_28 ?_
      refine lv_bipush (v := (20 : Int32)) hx hb dX8_forge_31 (by decide) ?_
      refine zald hx hb hK.1 hP 1 0 rfl rfl (show ¬ ((20 : Int32) < 0 ∨ 22 ≤ ((20 : Int32)).toNatClampNeg) by decide) (j := 20) (by decide) dX8_forge_33 ?_
      refine lv_bipush (v := (10 : Int32)) hx hb dX8_forge_34 (by decide) ?_
      refine lv_icmp_ne (tgt := 42) hx hb dX8_forge_36 (by decide) (fun c36 => ?_) (fun c36 => ?_)
      · have h := zf c36 h
        refine lv_aload_n hx hb dX8_forge_42 rfl (lv_at hl 0 rfl) ?_
        refine lv_iload_n hx hb dX8_forge_43 rfl (lv_at hl 1 rfl) ?_
        refine lv_bipush (v := (10 : Int32)) hx hb dX8_forge_44 (by decide) ?_
        refine lv_iload_n hx hb dX8_forge_46 rfl (lv_at hl 2 rfl) ?_
        refine lv_imul hx hb dX8_forge_47 ?_
        refine lv_iadd hx hb dX8_forge_48 ?_
        refine lv_bipush (v := ((-9) : Int32)) hx hb dX8_forge_49 (by decide) ?_
        obtain ⟨y51_f_s, hc51, h⟩ := zb1_e h
        refine zcV (As := [.int (x1 + ((10 : Int32) * x2)), .int ((-9) : Int32)]) (rest := []) (ws' := (w_X8_forge G a a_text a_clerk a_s a_kept a_isKept a_signed a_slips a_row a_best (0 : Int32) v_trace v_typed v_next v_token v_place v_value v_fault v_clerks v_draftClerks v_draftLine v_signMany v_copies v_rowMany y51_f_s)) (st1 := []) ⟨hx, hb, hml, hown, hts⟩ (c_X8_puts l G a a_text a_clerk a_s a_kept a_isKept a_signed a_slips a_row a_best (0 : Int32) v_trace v_typed v_next v_token v_place v_value v_fault v_clerks v_draftClerks v_draftLine v_signMany v_copies v_rowMany f_s (x1 + ((10 : Int32) * x2)) ((-9) : Int32) y51_f_s hc51) (cwV 2 hts gX8_forge_X8_puts rfl rfl rfl (by decide +kernel) ⟨Nat.le_of_ble_eq_true rfl, Nat.le_of_ble_eq_true rfl⟩) hK hE hP hD hS hA [0, 1] rfl rfl 0 8 rfl rfl rfl rfl rfl rfl hl.1 rfl (Nat.le_of_ble_eq_true rfl) dX8_forge_51 (Nat.zero_le _) (Nat.zero_le _) rfl (fun H locs hP hD hS => ?_)
        refine lv_aload_n hx hb dX8_forge_54 rfl (lv_at hl 0 rfl) ?_
        refine va_get (D := G.1) (ci := 8) (v := .ref a_s) (C := RX8) (T := TX8) (N := 23) hx hb hts in_X8_forge_X8 hown hK.1 hP 0 rfl rfl 13 (by decide) (hts (.fieldLink RX8 16 "NineHandsModel" "s" "[I") (by decide +kernel)) (fun _ h9 => h9) rfl dX8_forge_55 ?_
        refine lv_bipush (v := (20 : Int32)) hx hb dX8_forge_58 (by decide) ?_
        refine zald hx hb hK.1 hP 1 0 rfl rfl (show ¬ ((20 : Int32) < 0 ∨ 22 ≤ ((20 : Int32)).toNatClampNeg) by decide) (j := 20) (by decide) dX8_forge_60 ?_
        cases h
        exact W.iret hx hb hr (fun t9 ht9 _ => zend hP hD hS ht9) hS.2.2 dX8_forge_61
      · have h := zt c36 h
        refine lv_bipush (v := ((-3) : Int32)) hx hb dX8_forge_39 (by decide) ?_
        cases h
        exact W.iret hx hb hr (fun t9 ht9 _ => zend hP hD hS ht9) hS.2.2 dX8_forge_41
    · have h := zt c22 h
      refine lv_iconst (v := ((-1) : Int32)) hx hb dX8_forge_25 (by decide) ?_
      cases h
      exact W.iret hx hb hr (fun t9 ht9 _ => zend hP hD hS ht9) hS.2.2 dX8_forge_26
abbrev w_X8_undo (G : zG) (a : Nat) (a_text : Nat) (a_clerk : Nat) (a_s : Nat) (a_kept : Nat) (a_isKept : Nat) (a_signed : Nat) (a_slips : Nat) (a_row : Nat) (a_best : Nat) (v_thrown : Int32) (v_trace : Int64) (v_typed : Int32) (v_next : Int32) (v_token : Int32) (v_place : Int32) (v_value : Int32) (v_fault : Int32) (v_clerks : Int32) (v_draftClerks : Int32) (v_draftLine : Int32) (v_signMany : Int32) (v_copies : Int32) (v_rowMany : Int32) (f_s : (Nat → Int32)) : va_W := [(a, .inr (8, [.int v_thrown, .long v_trace, .ref a_text, .int v_typed, .int v_next, .int v_token, .int v_place, .int v_value, .int v_fault, .ref a_clerk, .int v_clerks, .int v_draftClerks, .int v_draftLine, .ref a_s, .ref a_kept, .ref a_isKept, .ref a_signed, .int v_signMany, .ref a_slips, .int v_copies, .ref a_row, .ref a_best, .int v_rowMany])), (a_s, .inl (zCI G, 22, .inl f_s))]
theorem in_X8_undo_X8 : ∀ w ∈ wsX80, w ∈ wsX8_undo := by decide +kernel
set_option maxHeartbeats 4000000 in
set_option maxRecDepth 100000 in
theorem c_X8_undo (l : Launch) (G : zG) (a : Nat) (a_text : Nat) (a_clerk : Nat) (a_s : Nat) (a_kept : Nat) (a_isKept : Nat) (a_signed : Nat) (a_slips : Nat) (a_row : Nat) (a_best : Nat) (v_thrown : Int32) (v_trace : Int64) (v_typed : Int32) (v_next : Int32) (v_token : Int32) (v_place : Int32) (v_value : Int32) (v_fault : Int32) (v_clerks : Int32) (v_draftClerks : Int32) (v_draftLine : Int32) (v_signMany : Int32) (v_copies : Int32) (v_rowMany : Int32) (f_s : (Nat → Int32)) (rv : Int32) (ov_thrown : Int32) (of_s : (Nat → Int32)) (h : fX8_undo v_thrown f_s = some (rv, ov_thrown, of_s)) : zC l yX8_undo wsX8_undo 0 0 G [.ref a] (w_X8_undo G a a_text a_clerk a_s a_kept a_isKept a_signed a_slips a_row a_best v_thrown v_trace v_typed v_next v_token v_place v_value v_fault v_clerks v_draftClerks v_draftLine v_signMany v_copies v_rowMany f_s) (some (.int rv)) (w_X8_undo G a a_text a_clerk a_s a_kept a_isKept a_signed a_slips a_row a_best ov_thrown v_trace v_typed v_next v_token v_place v_value v_fault v_clerks v_draftClerks v_draftLine v_signMany v_copies v_rowMany of_s) := by
  refine fun sz => Met.ofW (cc := cX8_undo) (maxL := 1) (ret := (some .int)) (by decide) rfl ?_
  intro p e s m args below meth c s₁ B hml hv
  obtain ⟨rfl, hsz, hP, hK, hD0, hE⟩ := hv
  have hx := B.exec
  have hb := B.bytes
  have hr := B.returns
  have hts := atoms_spec (ws := wsX8_undo) B.pre
  have hown : s.vm.findClass RX8 = some m.cls := findClass_of_methodNamed B.named
  have hlocks := B.notSynchronized
  subst hsz
  have hD := hD0.self (sz := s.heap.size)
  generalize hAe : va_A (w_X8_undo G a a_text a_clerk a_s a_kept a_isKept a_signed a_slips a_row a_best v_thrown v_trace v_typed v_next v_token v_place v_value v_fault v_clerks v_draftClerks v_draftLine v_signMany v_copies v_rowMany f_s) s.heap.size = A at hD hE ⊢
  have hA : ∀ q : Nat, s.heap.size ≤ q → A q := fun q h => by rw [← hAe]; exact Or.inr h
  have hS : va_S A s.heap s.heap [] := va_S.rf
  have hl := lv_entry ([.ref a]) (n := 1) (Nat.le_of_ble_eq_true rfl)
  rw [lg_entry_eq]
  generalize (lg_sl ([.ref a]) ++ List.replicate (1 - (lg_sl ([.ref a])).length) Slot.unset).toArray = ls at hl ⊢
  have hl : lv_has ls 1 [(0, .ref a)] := hl
  have hP : va_P G.1 vwCl (w_X8_undo G a a_text a_clerk a_s a_kept a_isKept a_signed a_slips a_row a_best v_thrown v_trace v_typed v_next v_token v_place v_value v_fault v_clerks v_draftClerks v_draftLine v_signMany v_copies v_rowMany f_s) s.heap := hP
  rw [fX8_undo] at h
  refine lv_aload_n hx hb dX8_undo_0 rfl (lv_at hl 0 rfl) ?_
  refine lv_iconst (v := (0 : Int32)) hx hb dX8_undo_1 (by decide) ?_
  refine zput1 (D := G.1) (ci := 8) (C := RX8) (T := TX8) (N := 23) (ty := .int) (ws' := (w_X8_undo G a a_text a_clerk a_s a_kept a_isKept a_signed a_slips a_row a_best (0 : Int32) v_trace v_typed v_next v_token v_place v_value v_fault v_clerks v_draftClerks v_draftLine v_signMany v_copies v_rowMany f_s)) hx hb hts in_X8_undo_X8 tyX8 tyX8_ok nmX8 hown hK.1 hP hD hS 0 rfl rfl 0 (by decide) (hts (.fieldLink RX8 42 "NineHandsModel" "thrown" "I") (by decide +kernel)) (fun _ h9 => h9) rfl (by decide +kernel) rfl rfl (Nat.le_of_ble_eq_true rfl) rfl dX8_undo_2 (fun H locs hP hD hS => ?_)
  refine lv_aload_n hx hb dX8_undo_5 rfl (lv_at hl 0 rfl) ?_
  refine va_get (D := G.1) (ci := 8) (v := .ref a_s) (C := RX8) (T := TX8) (N := 23) hx hb hts in_X8_undo_X8 hown hK.1 hP 0 rfl rfl 13 (by decide) (hts (.fieldLink RX8 16 "NineHandsModel" "s" "[I") (by decide +kernel)) (fun _ h9 => h9) rfl dX8_undo_6 ?_
  refine lv_bipush (v := (20 : Int32)) hx hb dX8_undo_9 (by decide) ?_
  refine zald hx hb hK.1 hP 1 0 rfl rfl (show ¬ ((20 : Int32) < 0 ∨ 22 ≤ ((20 : Int32)).toNatClampNeg) by decide) (j := 20) (by decide) dX8_undo_11 ?_
  refine lv_iconst (v := (1 : Int32)) hx hb dX8_undo_12 (by decide) ?_
  refine lv_icmp_ne (tgt := 19) hx hb dX8_undo_13 (by decide) (fun c13 => ?_) (fun c13 => ?_)
  · have h := zf c13 h
    refine lv_aload_n hx hb dX8_undo_19 rfl (lv_at hl 0 rfl) ?_
    refine va_get (D := G.1) (ci := 8) (v := .ref a_s) (C := RX8) (T := TX8) (N := 23) hx hb hts in_X8_undo_X8 hown hK.1 hP 0 rfl rfl 13 (by decide) (hts (.fieldLink RX8 16 "NineHandsModel" "s" "[I") (by decide +kernel)) (fun _ h9 => h9) rfl dX8_undo_20 ?_
    refine lv_bipush (v := (20 : Int32)) hx hb dX8_undo_23 (by decide) ?_
    refine lv_dup2_11 hx hb dX8_undo_25 rfl rfl ?_
    refine zald hx hb hK.1 hP 1 0 rfl rfl (show ¬ ((20 : Int32) < 0 ∨ 22 ≤ ((20 : Int32)).toNatClampNeg) by decide) (j := 20) (by decide) dX8_undo_26 ?_
    refine lv_iconst (v := (1 : Int32)) hx hb dX8_undo_27 (by decide) ?_
    refine lv_isub hx hb dX8_undo_28 ?_
    refine zast hx hb hK.1 hP hD hS 1 0 rfl rfl (show ¬ ((20 : Int32) < 0 ∨ 22 ≤ ((20 : Int32)).toNatClampNeg) by decide) (j := 20) (by decide) (ws' := (w_X8_undo G a a_text a_clerk a_s a_kept a_isKept a_signed a_slips a_row a_best (0 : Int32) v_trace v_typed v_next v_token v_place v_value v_fault v_clerks v_draftClerks v_draftLine v_signMany v_copies v_rowMany (upd f_s 20 ((f_s 20) - (1 : Int32))))) rfl dX8_undo_29 (fun H locs hP hD hS => ?_)
    refine lv_aload_n hx hb dX8_undo_30 rfl (lv_at hl 0 rfl) ?_
    refine va_get (D := G.1) (ci := 8) (v := .ref a_s) (C := RX8) (T := TX8) (N := 23) hx hb hts in_X8_undo_X8 hown hK.1 hP 0 rfl rfl 13 (by decide) (hts (.fieldLink RX8 16 "NineHandsModel" "s" "[I") (by decide +kernel)) (fun _ h9 => h9) rfl dX8_undo_31 ?_
    refine lv_bipush (v := (20 : Int32)) hx hb dX8_undo_34 (by decide) ?_
    refine zald hx hb hK.1 hP 1 0 rfl rfl (show ¬ ((20 : Int32) < 0 ∨ 22 ≤ ((20 : Int32)).toNatClampNeg) by decide) (j := 20) (by decide) dX8_undo_36 ?_
    cases h
    exact W.iret hx hb hr (fun t9 ht9 _ => zend hP hD hS ht9) hS.2.2 dX8_undo_37
  · have h := zt c13 h
    refine lv_bipush (v := ((-2) : Int32)) hx hb dX8_undo_16 (by decide) ?_
    cases h
    exact W.iret hx hb hr (fun t9 ht9 _ => zend hP hD hS ht9) hS.2.2 dX8_undo_18
abbrev w_X8_lot (G : zG) (a : Nat) (a_text : Nat) (a_clerk : Nat) (a_s : Nat) (a_kept : Nat) (a_isKept : Nat) (a_signed : Nat) (a_slips : Nat) (a_row : Nat) (a_best : Nat) (v_thrown : Int32) (v_trace : Int64) (v_typed : Int32) (v_next : Int32) (v_token : Int32) (v_place : Int32) (v_value : Int32) (v_fault : Int32) (v_clerks : Int32) (v_draftClerks : Int32) (v_draftLine : Int32) (v_signMany : Int32) (v_copies : Int32) (v_rowMany : Int32) (f_s : (Nat → Int32)) : va_W := [(a, .inr (8, [.int v_thrown, .long v_trace, .ref a_text, .int v_typed, .int v_next, .int v_token, .int v_place, .int v_value, .int v_fault, .ref a_clerk, .int v_clerks, .int v_draftClerks, .int v_draftLine, .ref a_s, .ref a_kept, .ref a_isKept, .ref a_signed, .int v_signMany, .ref a_slips, .int v_copies, .ref a_row, .ref a_best, .int v_rowMany])), (a_s, .inl (zCI G, 22, .inl f_s))]
theorem in_X8_lot_X8 : ∀ w ∈ wsX80, w ∈ wsX8_lot := by decide +kernel
set_option maxHeartbeats 4000000 in
set_option maxRecDepth 100000 in
theorem c_X8_lot (l : Launch) (G : zG) (a : Nat) (a_text : Nat) (a_clerk : Nat) (a_s : Nat) (a_kept : Nat) (a_isKept : Nat) (a_signed : Nat) (a_slips : Nat) (a_row : Nat) (a_best : Nat) (v_thrown : Int32) (v_trace : Int64) (v_typed : Int32) (v_next : Int32) (v_token : Int32) (v_place : Int32) (v_value : Int32) (v_fault : Int32) (v_clerks : Int32) (v_draftClerks : Int32) (v_draftLine : Int32) (v_signMany : Int32) (v_copies : Int32) (v_rowMany : Int32) (f_s : (Nat → Int32)) (x1 : Int32) (rv : Int32) (ov_thrown : Int32) (of_s : (Nat → Int32)) (h : fX8_lot v_thrown f_s x1 = some (rv, ov_thrown, of_s)) : zC l yX8_lot wsX8_lot 0 0 G [.ref a, .int x1] (w_X8_lot G a a_text a_clerk a_s a_kept a_isKept a_signed a_slips a_row a_best v_thrown v_trace v_typed v_next v_token v_place v_value v_fault v_clerks v_draftClerks v_draftLine v_signMany v_copies v_rowMany f_s) (some (.int rv)) (w_X8_lot G a a_text a_clerk a_s a_kept a_isKept a_signed a_slips a_row a_best ov_thrown v_trace v_typed v_next v_token v_place v_value v_fault v_clerks v_draftClerks v_draftLine v_signMany v_copies v_rowMany of_s) := by
  refine fun sz => Met.ofW (cc := cX8_lot) (maxL := 3) (ret := (some .int)) (by decide) rfl ?_
  intro p e s m args below meth c s₁ B hml hv
  obtain ⟨rfl, hsz, hP, hK, hD0, hE⟩ := hv
  have hx := B.exec
  have hb := B.bytes
  have hr := B.returns
  have hts := atoms_spec (ws := wsX8_lot) B.pre
  have hown : s.vm.findClass RX8 = some m.cls := findClass_of_methodNamed B.named
  have hlocks := B.notSynchronized
  subst hsz
  have hD := hD0.self (sz := s.heap.size)
  generalize hAe : va_A (w_X8_lot G a a_text a_clerk a_s a_kept a_isKept a_signed a_slips a_row a_best v_thrown v_trace v_typed v_next v_token v_place v_value v_fault v_clerks v_draftClerks v_draftLine v_signMany v_copies v_rowMany f_s) s.heap.size = A at hD hE ⊢
  have hA : ∀ q : Nat, s.heap.size ≤ q → A q := fun q h => by rw [← hAe]; exact Or.inr h
  have hS : va_S A s.heap s.heap [] := va_S.rf
  have hl := lv_entry ([.ref a, .int x1]) (n := 3) (Nat.le_of_ble_eq_true rfl)
  rw [lg_entry_eq]
  generalize (lg_sl ([.ref a, .int x1]) ++ List.replicate (3 - (lg_sl ([.ref a, .int x1])).length) Slot.unset).toArray = ls at hl ⊢
  have hl : lv_has ls 3 [(0, .ref a), (1, .int x1)] := hl
  have hP : va_P G.1 vwCl (w_X8_lot G a a_text a_clerk a_s a_kept a_isKept a_signed a_slips a_row a_best v_thrown v_trace v_typed v_next v_token v_place v_value v_fault v_clerks v_draftClerks v_draftLine v_signMany v_copies v_rowMany f_s) s.heap := hP
  rw [fX8_lot] at h
  refine lv_aload_n hx hb dX8_lot_0 rfl (lv_at hl 0 rfl) ?_
  refine lv_iconst (v := (0 : Int32)) hx hb dX8_lot_1 (by decide) ?_
  refine zput1 (D := G.1) (ci := 8) (C := RX8) (T := TX8) (N := 23) (ty := .int) (ws' := (w_X8_lot G a a_text a_clerk a_s a_kept a_isKept a_signed a_slips a_row a_best (0 : Int32) v_trace v_typed v_next v_token v_place v_value v_fault v_clerks v_draftClerks v_draftLine v_signMany v_copies v_rowMany f_s)) hx hb hts in_X8_lot_X8 tyX8 tyX8_ok nmX8 hown hK.1 hP hD hS 0 rfl rfl 0 (by decide) (hts (.fieldLink RX8 42 "NineHandsModel" "thrown" "I") (by decide +kernel)) (fun _ h9 => h9) rfl (by decide +kernel) rfl rfl (Nat.le_of_ble_eq_true rfl) rfl dX8_lot_2 (fun H locs hP hD hS => ?_)
  refine lv_aload_n hx hb dX8_lot_5 rfl (lv_at hl 0 rfl) ?_
  refine va_get (D := G.1) (ci := 8) (v := .ref a_s) (C := RX8) (T := TX8) (N := 23) hx hb hts in_X8_lot_X8 hown hK.1 hP 0 rfl rfl 13 (by decide) (hts (.fieldLink RX8 16 "NineHandsModel" "s" "[I") (by decide +kernel)) (fun _ h9 => h9) rfl dX8_lot_6 ?_
  refine lv_bipush (v := (21 : Int32)) hx hb dX8_lot_9 (by decide) ?_
  refine zald hx hb hK.1 hP 1 0 rfl rfl (show ¬ ((21 : Int32) < 0 ∨ 22 ≤ ((21 : Int32)).toNatClampNeg) by decide) (j := 21) (by decide) dX8_lot_11 ?_
  refine lv_istore_n (lv' := [(2, .int (f_s 21)), (0, .ref a), (1, .int x1)]) hx hb dX8_lot_12 rfl hl (by decide) rfl (fun ls hl => ?_)
  refine lv_aload_n hx hb dX8_lot_13 rfl (lv_at hl 1 rfl) ?_
  refine va_get (D := G.1) (ci := 8) (v := .ref a_s) (C := RX8) (T := TX8) (N := 23) hx hb hts in_X8_lot_X8 hown hK.1 hP 0 rfl rfl 13 (by decide) (hts (.fieldLink RX8 16 "NineHandsModel" "s" "[I") (by decide +kernel)) (fun _ h9 => h9) rfl dX8_lot_14 ?_
  refine lv_bipush (v := (21 : Int32)) hx hb dX8_lot_17 (by decide) ?_
  refine lv_iload_n hx hb dX8_lot_19 rfl (lv_at hl 2 rfl) ?_
  refine zast hx hb hK.1 hP hD hS 1 0 rfl rfl (show ¬ ((21 : Int32) < 0 ∨ 22 ≤ ((21 : Int32)).toNatClampNeg) by decide) (j := 21) (by decide) (ws' := (w_X8_lot G a a_text a_clerk a_s a_kept a_isKept a_signed a_slips a_row a_best (0 : Int32) v_trace v_typed v_next v_token v_place v_value v_fault v_clerks v_draftClerks v_draftLine v_signMany v_copies v_rowMany (upd f_s 21 x1))) rfl dX8_lot_20 (fun H locs hP hD hS => ?_)
  refine lv_iload_n hx hb dX8_lot_21 rfl (lv_at hl 0 rfl) ?_
  cases h
  exact W.iret hx hb hr (fun t9 ht9 _ => zend hP hD hS ht9) hS.2.2 dX8_lot_22
abbrev w_X8_turned (G : zG) (a : Nat) (a_text : Nat) (a_clerk : Nat) (a_s : Nat) (a_kept : Nat) (a_isKept : Nat) (a_signed : Nat) (a_slips : Nat) (a_row : Nat) (a_best : Nat) (v_thrown : Int32) (v_trace : Int64) (v_typed : Int32) (v_next : Int32) (v_token : Int32) (v_place : Int32) (v_value : Int32) (v_fault : Int32) (v_clerks : Int32) (v_draftClerks : Int32) (v_draftLine : Int32) (v_signMany : Int32) (v_copies : Int32) (v_rowMany : Int32) (f_s : (Nat → Int32)) : va_W := [(a, .inr (8, [.int v_thrown, .long v_trace, .ref a_text, .int v_typed, .int v_next, .int v_token, .int v_place, .int v_value, .int v_fault, .ref a_clerk, .int v_clerks, .int v_draftClerks, .int v_draftLine, .ref a_s, .ref a_kept, .ref a_isKept, .ref a_signed, .int v_signMany, .ref a_slips, .int v_copies, .ref a_row, .ref a_best, .int v_rowMany])), (a_s, .inl (zCI G, 22, .inl f_s))]
theorem in_X8_turned_X8 : ∀ w ∈ wsX80, w ∈ wsX8_turned := by decide +kernel
set_option maxHeartbeats 4000000 in
set_option maxRecDepth 100000 in
theorem c_X8_turned (l : Launch) (G : zG) (fu : Nat) (a : Nat) (a_text : Nat) (a_clerk : Nat) (a_s : Nat) (a_kept : Nat) (a_isKept : Nat) (a_signed : Nat) (a_slips : Nat) (a_row : Nat) (a_best : Nat) (v_thrown : Int32) (v_trace : Int64) (v_typed : Int32) (v_next : Int32) (v_token : Int32) (v_place : Int32) (v_value : Int32) (v_fault : Int32) (v_clerks : Int32) (v_draftClerks : Int32) (v_draftLine : Int32) (v_signMany : Int32) (v_copies : Int32) (v_rowMany : Int32) (f_s : (Nat → Int32)) (rv : Int32) (ov_thrown : Int32) (h : fX8_turned fu v_thrown f_s = some (rv, ov_thrown)) : zC l yX8_turned wsX8_turned 0 0 G [.ref a] (w_X8_turned G a a_text a_clerk a_s a_kept a_isKept a_signed a_slips a_row a_best v_thrown v_trace v_typed v_next v_token v_place v_value v_fault v_clerks v_draftClerks v_draftLine v_signMany v_copies v_rowMany f_s) (some (.int rv)) (w_X8_turned G a a_text a_clerk a_s a_kept a_isKept a_signed a_slips a_row a_best ov_thrown v_trace v_typed v_next v_token v_place v_value v_fault v_clerks v_draftClerks v_draftLine v_signMany v_copies v_rowMany f_s) := by
  refine fun sz => Met.ofW (cc := cX8_turned) (maxL := 3) (ret := (some .int)) (by decide) rfl ?_
  intro p e s m args below meth c s₁ B hml hv
  obtain ⟨rfl, hsz, hP, hK, hD0, hE⟩ := hv
  have hx := B.exec
  have hb := B.bytes
  have hr := B.returns
  have hts := atoms_spec (ws := wsX8_turned) B.pre
  have hown : s.vm.findClass RX8 = some m.cls := findClass_of_methodNamed B.named
  have hlocks := B.notSynchronized
  subst hsz
  have hD := hD0.self (sz := s.heap.size)
  generalize hAe : va_A (w_X8_turned G a a_text a_clerk a_s a_kept a_isKept a_signed a_slips a_row a_best v_thrown v_trace v_typed v_next v_token v_place v_value v_fault v_clerks v_draftClerks v_draftLine v_signMany v_copies v_rowMany f_s) s.heap.size = A at hD hE ⊢
  have hA : ∀ q : Nat, s.heap.size ≤ q → A q := fun q h => by rw [← hAe]; exact Or.inr h
  have hS : va_S A s.heap s.heap [] := va_S.rf
  have hl := lv_entry ([.ref a]) (n := 3) (Nat.le_of_ble_eq_true rfl)
  rw [lg_entry_eq]
  generalize (lg_sl ([.ref a]) ++ List.replicate (3 - (lg_sl ([.ref a])).length) Slot.unset).toArray = ls at hl ⊢
  have hl : lv_has ls 3 [(0, .ref a)] := hl
  have hP : va_P G.1 vwCl (w_X8_turned G a a_text a_clerk a_s a_kept a_isKept a_signed a_slips a_row a_best v_thrown v_trace v_typed v_next v_token v_place v_value v_fault v_clerks v_draftClerks v_draftLine v_signMany v_copies v_rowMany f_s) s.heap := hP
  rw [fX8_turned] at h
  have join_23 : ∀ (s0_23 : Int32) (v_thrown_23 : Int32) (H : Heap) (locs : List Loc) (ls : Array Slot), fX8_turned_J23 fu f_s s0_23 v_thrown_23 = some (rv, ov_thrown) → va_P G.1 vwCl (w_X8_turned G a a_text a_clerk a_s a_kept a_isKept a_signed a_slips a_row a_best v_thrown_23 v_trace v_typed v_next v_token v_place v_value v_fault v_clerks v_draftClerks v_draftLine v_signMany v_copies v_rowMany f_s) H → va_D A (w_X8_turned G a a_text a_clerk a_s a_kept a_isKept a_signed a_slips a_row a_best v_thrown_23 v_trace v_typed v_next v_token v_place v_value v_fault v_clerks v_draftClerks v_draftLine v_signMany v_copies v_rowMany f_s) → va_S A s.heap H locs → lv_has ls 3 [(0, .ref a)] → W p l e (headSpec wsX8_turned { frames := 0, cells := 0, slots := 0, locals := 0 }).room s m ([.ref a] : List Value).toArray below meth c H locs 0 0 (MQ below (zQ (some (.int rv)) G (w_X8_turned G a a_text a_clerk a_s a_kept a_isKept a_signed a_slips a_row a_best ov_thrown v_trace v_typed v_next v_token v_place v_value v_fault v_clerks v_draftClerks v_draftLine v_signMany v_copies v_rowMany f_s) A) ([.ref a] : List Value).toArray s 0 0 A) (F0 m 23 ls [.int s0_23]) := by
    intro s0_23 v_thrown_23 H locs ls h hP hD hS hl
    rw [fX8_turned_J23] at h
    refine lv_istore_n (lv' := [(1, .int s0_23), (0, .ref a)]) hx hb dX8_turned_23 rfl hl (by decide) rfl (fun ls hl => ?_)
    refine lv_iconst (v := (1 : Int32)) hx hb dX8_turned_24 (by decide) ?_
    refine lv_istore_n (lv' := [(2, .int (1 : Int32)), (1, .int s0_23), (0, .ref a)]) hx hb dX8_turned_25 rfl hl (by decide) rfl (fun ls hl => ?_)
    have loop_26 : ∀ (n : Nat) (K : Option (Int32 × Int32)) (l2_26 : Int32) (H : Heap) (locs : List Loc) (ls : Array Slot), fX8_turned_L26 fu s0_23 v_thrown_23 f_s K n l2_26 = some (rv, ov_thrown) → (∀ (H : Heap) (locs : List Loc) (ls : Array Slot), K  = some (rv, ov_thrown) → va_P G.1 vwCl (w_X8_turned G a a_text a_clerk a_s a_kept a_isKept a_signed a_slips a_row a_best v_thrown_23 v_trace v_typed v_next v_token v_place v_value v_fault v_clerks v_draftClerks v_draftLine v_signMany v_copies v_rowMany f_s) H → va_D A (w_X8_turned G a a_text a_clerk a_s a_kept a_isKept a_signed a_slips a_row a_best v_thrown_23 v_trace v_typed v_next v_token v_place v_value v_fault v_clerks v_draftClerks v_draftLine v_signMany v_copies v_rowMany f_s) → va_S A s.heap H locs → lv_has ls 3 [] → W p l e (headSpec wsX8_turned { frames := 0, cells := 0, slots := 0, locals := 0 }).room s m ([.ref a] : List Value).toArray below meth c H locs 0 0 (MQ below (zQ (some (.int rv)) G (w_X8_turned G a a_text a_clerk a_s a_kept a_isKept a_signed a_slips a_row a_best ov_thrown v_trace v_typed v_next v_token v_place v_value v_fault v_clerks v_draftClerks v_draftLine v_signMany v_copies v_rowMany f_s) A) ([.ref a] : List Value).toArray s 0 0 A) (F0 m 69 ls [])) → va_P G.1 vwCl (w_X8_turned G a a_text a_clerk a_s a_kept a_isKept a_signed a_slips a_row a_best v_thrown_23 v_trace v_typed v_next v_token v_place v_value v_fault v_clerks v_draftClerks v_draftLine v_signMany v_copies v_rowMany f_s) H → va_D A (w_X8_turned G a a_text a_clerk a_s a_kept a_isKept a_signed a_slips a_row a_best v_thrown_23 v_trace v_typed v_next v_token v_place v_value v_fault v_clerks v_draftClerks v_draftLine v_signMany v_copies v_rowMany f_s) → va_S A s.heap H locs → lv_has ls 3 [(0, .ref a), (1, .int s0_23), (2, .int l2_26)] → W p l e (headSpec wsX8_turned { frames := 0, cells := 0, slots := 0, locals := 0 }).room s m ([.ref a] : List Value).toArray below meth c H locs 0 0 (MQ below (zQ (some (.int rv)) G (w_X8_turned G a a_text a_clerk a_s a_kept a_isKept a_signed a_slips a_row a_best ov_thrown v_trace v_typed v_next v_token v_place v_value v_fault v_clerks v_draftClerks v_draftLine v_signMany v_copies v_rowMany f_s) A) ([.ref a] : List Value).toArray s 0 0 A) (F0 m 26 ls []) := by
      intro n
      induction n with
      | zero => intro K l2_26 H locs ls h; rw [fX8_turned_L26] at h; cases h
      | succ n ih =>
        intro K l2_26 H locs ls h hk hP hD hS hl
        rw [fX8_turned_L26] at h
        refine lv_iload_n hx hb dX8_turned_26 rfl (lv_at hl 2 rfl) ?_
        refine lv_aload_n hx hb dX8_turned_27 rfl (lv_at hl 0 rfl) ?_
        refine va_get (D := G.1) (ci := 8) (v := .ref a_s) (C := RX8) (T := TX8) (N := 23) hx hb hts in_X8_turned_X8 hown hK.1 hP 0 rfl rfl 13 (by decide) (hts (.fieldLink RX8 16 "NineHandsModel" "s" "[I") (by decide +kernel)) (fun _ h9 => h9) rfl dX8_turned_28 ?_
        refine lv_bipush (v := (20 : Int32)) hx hb dX8_turned_31 (by decide) ?_
        refine zald hx hb hK.1 hP 1 0 rfl rfl (show ¬ ((20 : Int32) < 0 ∨ 22 ≤ ((20 : Int32)).toNatClampNeg) by decide) (j := 20) (by decide) dX8_turned_33 ?_
        refine lv_icmp_ge (tgt := 69) hx hb dX8_turned_34 (by decide) (fun c34 => ?_) (fun c34 => ?_)
        · have h := zt c34 h
          exact hk  _ _ _ h hP hD hS (lv_sub hl [] rfl)
        · have h := zf c34 h
          refine lv_aload_n hx hb dX8_turned_37 rfl (lv_at hl 0 rfl) ?_
          refine va_get (D := G.1) (ci := 8) (v := .ref a_s) (C := RX8) (T := TX8) (N := 23) hx hb hts in_X8_turned_X8 hown hK.1 hP 0 rfl rfl 13 (by decide) (hts (.fieldLink RX8 16 "NineHandsModel" "s" "[I") (by decide +kernel)) (fun _ h9 => h9) rfl dX8_turned_38 ?_
          refine lv_iconst (v := (2 : Int32)) hx hb dX8_turned_41 (by decide) ?_
          refine lv_iload_n hx hb dX8_turned_42 rfl (lv_at hl 2 rfl) ?_
          refine lv_imul hx hb dX8_turned_43 ?_
          obtain ⟨g44, h⟩ := zg h
          refine zald hx hb hK.1 hP 1 0 rfl rfl g44 (j := (((2 : Int32) * l2_26)).toNatClampNeg) rfl dX8_turned_44 ?_
          refine lv_bipush (v := (10 : Int32)) hx hb dX8_turned_45 (by decide) ?_
          refine lv_irem hx hb dX8_turned_47 (by decide) ?_
          refine lv_iconst (v := (4 : Int32)) hx hb dX8_turned_48 (by decide) ?_
          refine lv_icmp_le (tgt := 56) hx hb dX8_turned_49 (by decide) (fun c49 => ?_) (fun c49 => ?_)
          · have h := zt c49 h
            refine lv_iconst (v := (0 : Int32)) hx hb dX8_turned_56 (by decide) ?_
            refine lv_iload_n hx hb dX8_turned_57 rfl (lv_at hl 1 rfl) ?_
            refine lv_icmp_eq (tgt := 63) hx hb dX8_turned_58 (by decide) (fun c58 => ?_) (fun c58 => ?_)
            · have h := zt c58 h
              refine lv_iinc (v := (l2_26 + (1 : Int32))) (lv' := [(2, .int (l2_26 + (1 : Int32))), (0, .ref a), (1, .int s0_23)]) hx hb dX8_turned_63 hl (k := 2) rfl rfl (by decide) rfl (fun ls hl => ?_)
              refine lv_goto (tgt := 26) hx hb dX8_turned_66 (by decide) ?_
              exact ih K _ _ _ _ h hk hP hD hS (lv_sub hl [1, 2, 0] rfl)
            · have h := zf c58 h
              refine lv_iload_n hx hb dX8_turned_61 rfl (lv_at hl 2 rfl) ?_
              cases h
              exact W.iret hx hb hr (fun t9 ht9 _ => zend hP hD hS ht9) hS.2.2 dX8_turned_62
          · have h := zf c49 h
            refine lv_iconst (v := (1 : Int32)) hx hb dX8_turned_52 (by decide) ?_
            refine lv_goto (tgt := 57) hx hb dX8_turned_53 (by decide) ?_
            refine lv_iload_n hx hb dX8_turned_57 rfl (lv_at hl 1 rfl) ?_
            refine lv_icmp_eq (tgt := 63) hx hb dX8_turned_58 (by decide) (fun c58 => ?_) (fun c58 => ?_)
            · have h := zt c58 h
              refine lv_iinc (v := (l2_26 + (1 : Int32))) (lv' := [(2, .int (l2_26 + (1 : Int32))), (0, .ref a), (1, .int s0_23)]) hx hb dX8_turned_63 hl (k := 2) rfl rfl (by decide) rfl (fun ls hl => ?_)
              refine lv_goto (tgt := 26) hx hb dX8_turned_66 (by decide) ?_
              exact ih K _ _ _ _ h hk hP hD hS (lv_sub hl [1, 2, 0] rfl)
            · have h := zf c58 h
              refine lv_iload_n hx hb dX8_turned_61 rfl (lv_at hl 2 rfl) ?_
              cases h
              exact W.iret hx hb hr (fun t9 ht9 _ => zend hP hD hS ht9) hS.2.2 dX8_turned_62
    refine loop_26 fu _ _ _ _ _ h (fun  H locs ls h hP hD hS hl => ?_) hP hD hS (lv_sub hl [2, 1, 0] rfl)
    refine lv_bipush (v := ((-9) : Int32)) hx hb dX8_turned_69 (by decide) ?_
    cases h
    exact W.iret hx hb hr (fun t9 ht9 _ => zend hP hD hS ht9) hS.2.2 dX8_turned_71
  refine lv_aload_n hx hb dX8_turned_0 rfl (lv_at hl 0 rfl) ?_
  refine lv_iconst (v := (0 : Int32)) hx hb dX8_turned_1 (by decide) ?_
  refine zput1 (D := G.1) (ci := 8) (C := RX8) (T := TX8) (N := 23) (ty := .int) (ws' := (w_X8_turned G a a_text a_clerk a_s a_kept a_isKept a_signed a_slips a_row a_best (0 : Int32) v_trace v_typed v_next v_token v_place v_value v_fault v_clerks v_draftClerks v_draftLine v_signMany v_copies v_rowMany f_s)) hx hb hts in_X8_turned_X8 tyX8 tyX8_ok nmX8 hown hK.1 hP hD hS 0 rfl rfl 0 (by decide) (hts (.fieldLink RX8 42 "NineHandsModel" "thrown" "I") (by decide +kernel)) (fun _ h9 => h9) rfl (by decide +kernel) rfl rfl (Nat.le_of_ble_eq_true rfl) rfl dX8_turned_2 (fun H locs hP hD hS => ?_)
  refine lv_aload_n hx hb dX8_turned_5 rfl (lv_at hl 0 rfl) ?_
  refine va_get (D := G.1) (ci := 8) (v := .ref a_s) (C := RX8) (T := TX8) (N := 23) hx hb hts in_X8_turned_X8 hown hK.1 hP 0 rfl rfl 13 (by decide) (hts (.fieldLink RX8 16 "NineHandsModel" "s" "[I") (by decide +kernel)) (fun _ h9 => h9) rfl dX8_turned_6 ?_
  refine lv_iconst (v := (0 : Int32)) hx hb dX8_turned_9 (by decide) ?_
  refine zald hx hb hK.1 hP 1 0 rfl rfl (show ¬ ((0 : Int32) < 0 ∨ 22 ≤ ((0 : Int32)).toNatClampNeg) by decide) (j := 0) (by decide) dX8_turned_10 ?_
  refine lv_bipush (v := (10 : Int32)) hx hb dX8_turned_11 (by decide) ?_
  refine lv_irem hx hb dX8_turned_13 (by decide) ?_
  refine lv_iconst (v := (4 : Int32)) hx hb dX8_turned_14 (by decide) ?_
  refine lv_icmp_le (tgt := 22) hx hb dX8_turned_15 (by decide) (fun c15 => ?_) (fun c15 => ?_)
  · have h := zt c15 h
    refine lv_iconst (v := (0 : Int32)) hx hb dX8_turned_22 (by decide) ?_
    exact join_23 _ _ _ _ _ h hP hD hS (lv_sub hl [0] rfl)
  · have h := zf c15 h
    refine lv_iconst (v := (1 : Int32)) hx hb dX8_turned_18 (by decide) ?_
    refine lv_goto (tgt := 23) hx hb dX8_turned_19 (by decide) ?_
    exact join_23 _ _ _ _ _ h hP hD hS (lv_sub hl [0] rfl)
