abbrev w_X7_leant (G : zG) : va_W := []
set_option maxHeartbeats 4000000 in
set_option maxRecDepth 100000 in
theorem c_X7_leant (l : Launch) (G : zG) (x1 : Int32) (x2 : Int32) (rv : Int32) (h : fX7_leant x1 x2 = some rv) : zC l yX7_leant wsX7_leant 1 24 G [.int x1, .int x2] (w_X7_leant G ) (some (.int rv)) (w_X7_leant G ) := by
  refine fun sz => Met.ofW (cc := cX7_leant) (maxL := 2) (ret := (some .int)) (by decide) rfl ?_
  intro p e s m args below meth c s₁ B hml hv
  obtain ⟨rfl, hsz, hP, hK, hD0, hE⟩ := hv
  have hx := B.exec
  have hb := B.bytes
  have hr := B.returns
  have hts := atoms_spec (ws := wsX7_leant) B.pre
  have hown : s.vm.findClass RX7 = some m.cls := findClass_of_methodNamed B.named
  have hlocks := B.notSynchronized
  subst hsz
  have hD := hD0.self (sz := s.heap.size)
  generalize hAe : va_A (w_X7_leant G ) s.heap.size = A at hD hE ⊢
  have hA : ∀ q : Nat, s.heap.size ≤ q → A q := fun q h => by rw [← hAe]; exact Or.inr h
  have hS : va_S A s.heap s.heap [] := va_S.rf
  have hl := lv_entry ([.int x1, .int x2]) (n := 2) (Nat.le_of_ble_eq_true rfl)
  rw [lg_entry_eq]
  generalize (lg_sl ([.int x1, .int x2]) ++ List.replicate (2 - (lg_sl ([.int x1, .int x2])).length) Slot.unset).toArray = ls at hl ⊢
  have hl : lv_has ls 2 [(0, .int x1), (1, .int x2)] := hl
  have hP : va_P G.1 vwCl (w_X7_leant G ) s.heap := hP
  rw [fX7_leant] at h
  refine lv_iconst (v := (0 : Int32)) hx hb dX7_leant_0 (by decide) ?_
  refine lv_bipush (v := (9 : Int32)) hx hb dX7_leant_1 (by decide) ?_
  refine lv_iload_n hx hb dX7_leant_3 rfl (lv_at hl 0 rfl) ?_
  refine lv_iload_n hx hb dX7_leant_4 rfl (lv_at hl 1 rfl) ?_
  refine lv_iadd hx hb dX7_leant_5 ?_
  refine lv_iconst (v := (4 : Int32)) hx hb dX7_leant_6 (by decide) ?_
  refine lv_isub hx hb dX7_leant_7 ?_
  refine va_mmin hx hb (hml.trans hl.1.symm) hown (hts (.methodLink RX7 265 Lib.Math.min.name) (by decide +kernel)) (hts (.static Lib.Math.min.name) (by decide +kernel)) (hts (.initialized "java/lang/Math") (by decide +kernel)) (hts (.code Lib.Math.min.name Lib.Math.min.code 2 (some .int)) (by decide +kernel)) (Nat.le_of_ble_eq_true rfl) (Nat.le_of_ble_eq_true rfl) (Nat.zero_le _) (Nat.zero_le _) dX7_leant_8 ?_
  refine va_mmax hx hb (hml.trans hl.1.symm) hown (hts (.methodLink RX7 270 Lib.Math.max.name) (by decide +kernel)) (hts (.static Lib.Math.max.name) (by decide +kernel)) (hts (.initialized "java/lang/Math") (by decide +kernel)) (hts (.code Lib.Math.max.name Lib.Math.max.code 2 (some .int)) (by decide +kernel)) (Nat.le_of_ble_eq_true rfl) (Nat.le_of_ble_eq_true rfl) (Nat.zero_le _) (Nat.zero_le _) dX7_leant_11 ?_
  cases h
  exact W.iret hx hb hr (fun t9 ht9 _ => zend hP hD hS ht9) hS.2.2 dX7_leant_14
abbrev w_X0_toneBehind (G : zG) (a : Nat) (v_lean : Int32) (v_sets : Int32) (v_drops : Int32) (v_keeps : Int32) : va_W := [(a, .inr (0, [.int v_lean, .int v_sets, .int v_drops, .int v_keeps]))]
theorem in_X0_toneBehind_X0 : ∀ w ∈ wsX00, w ∈ wsX0_toneBehind := by decide +kernel
set_option maxHeartbeats 4000000 in
set_option maxRecDepth 100000 in
theorem c_X0_toneBehind (l : Launch) (G : zG) (a : Nat) (v_lean : Int32) (v_sets : Int32) (v_drops : Int32) (v_keeps : Int32) (x1 : Int32) (rv : Int32) (h : fX0_toneBehind v_lean x1 = some rv) : zC l yX0_toneBehind wsX0_toneBehind 2 45 G [.ref a, .int x1] (w_X0_toneBehind G a v_lean v_sets v_drops v_keeps) (some (.int rv)) (w_X0_toneBehind G a v_lean v_sets v_drops v_keeps) := by
  refine fun sz => Met.ofW (cc := cX0_toneBehind) (maxL := 2) (ret := (some .int)) (by decide) rfl ?_
  intro p e s m args below meth c s₁ B hml hv
  obtain ⟨rfl, hsz, hP, hK, hD0, hE⟩ := hv
  have hx := B.exec
  have hb := B.bytes
  have hr := B.returns
  have hts := atoms_spec (ws := wsX0_toneBehind) B.pre
  have hown : s.vm.findClass RX0 = some m.cls := findClass_of_methodNamed B.named
  have hlocks := B.notSynchronized
  subst hsz
  have hD := hD0.self (sz := s.heap.size)
  generalize hAe : va_A (w_X0_toneBehind G a v_lean v_sets v_drops v_keeps) s.heap.size = A at hD hE ⊢
  have hA : ∀ q : Nat, s.heap.size ≤ q → A q := fun q h => by rw [← hAe]; exact Or.inr h
  have hS : va_S A s.heap s.heap [] := va_S.rf
  have hl := lv_entry ([.ref a, .int x1]) (n := 2) (Nat.le_of_ble_eq_true rfl)
  rw [lg_entry_eq]
  generalize (lg_sl ([.ref a, .int x1]) ++ List.replicate (2 - (lg_sl ([.ref a, .int x1])).length) Slot.unset).toArray = ls at hl ⊢
  have hl : lv_has ls 2 [(0, .ref a), (1, .int x1)] := hl
  have hP : va_P G.1 vwCl (w_X0_toneBehind G a v_lean v_sets v_drops v_keeps) s.heap := hP
  rw [fX0_toneBehind] at h
  refine lv_iload_n hx hb dX0_toneBehind_0 rfl (lv_at hl 1 rfl) ?_
  refine lv_aload_n hx hb dX0_toneBehind_1 rfl (lv_at hl 0 rfl) ?_
  refine va_get (D := G.1) (ci := 0) (v := .int v_lean) (C := RX0) (T := TX0) (N := 4) hx hb hts in_X0_toneBehind_X0 hown hK.1 hP 0 rfl rfl 0 (by decide) (hts (.fieldLink RX0 9 "NineHands$Clerk" "lean" "I") (by decide +kernel)) (fun _ h9 => h9) rfl dX0_toneBehind_2 ?_
  obtain ⟨y5, hc5, h⟩ := zb1_e h
  refine zcSN (As := [.int x1, .int v_lean]) (rest := []) (ws' := (w_X0_toneBehind G a v_lean v_sets v_drops v_keeps)) (st1 := [.int y5]) ⟨hx, hb, hml, hown, hts⟩ (c_X7_leant l G x1 v_lean y5 hc5) ⟨va_cnB 2 hts gX0_toneBehind_X7_leant_n15 rfl rfl rfl (hK.2.1.2 ("NineHands$Clerk", 15, yX7_leant, "NineHands") (by decide +kernel)) (hts (.initialized RX7) (by decide +kernel)) (by decide +kernel) ⟨Nat.le_of_ble_eq_true rfl, Nat.le_of_ble_eq_true rfl⟩, (hts (.static yX7_leant) (by decide +kernel)), trivial⟩ hK hE hP hD hS hA [] rfl rfl rfl rfl rfl hl.1 rfl (Nat.le_of_ble_eq_true rfl) dX0_toneBehind_5 (Nat.zero_le _) (Nat.zero_le _) rfl (fun H locs hP hD hS => ?_)
  cases h
  exact W.iret hx hb hr (fun t9 ht9 _ => zend hP hD hS ht9) hS.2.2 dX0_toneBehind_8
abbrev w_X0_marksBehind (G : zG) (a : Nat) (v_lean : Int32) (v_sets : Int32) (v_drops : Int32) (v_keeps : Int32) : va_W := [(a, .inr (0, [.int v_lean, .int v_sets, .int v_drops, .int v_keeps]))]
theorem in_X0_marksBehind_X0 : ∀ w ∈ wsX00, w ∈ wsX0_marksBehind := by decide +kernel
set_option maxHeartbeats 4000000 in
set_option maxRecDepth 100000 in
theorem c_X0_marksBehind (l : Launch) (G : zG) (a : Nat) (v_lean : Int32) (v_sets : Int32) (v_drops : Int32) (v_keeps : Int32) (x1 : Int32) (rv : Int32) (h : fX0_marksBehind v_sets v_drops x1 = some rv) : zC l yX0_marksBehind wsX0_marksBehind 0 0 G [.ref a, .int x1] (w_X0_marksBehind G a v_lean v_sets v_drops v_keeps) (some (.int rv)) (w_X0_marksBehind G a v_lean v_sets v_drops v_keeps) := by
  refine fun sz => Met.ofW (cc := cX0_marksBehind) (maxL := 2) (ret := (some .int)) (by decide) rfl ?_
  intro p e s m args below meth c s₁ B hml hv
  obtain ⟨rfl, hsz, hP, hK, hD0, hE⟩ := hv
  have hx := B.exec
  have hb := B.bytes
  have hr := B.returns
  have hts := atoms_spec (ws := wsX0_marksBehind) B.pre
  have hown : s.vm.findClass RX0 = some m.cls := findClass_of_methodNamed B.named
  have hlocks := B.notSynchronized
  subst hsz
  have hD := hD0.self (sz := s.heap.size)
  generalize hAe : va_A (w_X0_marksBehind G a v_lean v_sets v_drops v_keeps) s.heap.size = A at hD hE ⊢
  have hA : ∀ q : Nat, s.heap.size ≤ q → A q := fun q h => by rw [← hAe]; exact Or.inr h
  have hS : va_S A s.heap s.heap [] := va_S.rf
  have hl := lv_entry ([.ref a, .int x1]) (n := 2) (Nat.le_of_ble_eq_true rfl)
  rw [lg_entry_eq]
  generalize (lg_sl ([.ref a, .int x1]) ++ List.replicate (2 - (lg_sl ([.ref a, .int x1])).length) Slot.unset).toArray = ls at hl ⊢
  have hl : lv_has ls 2 [(0, .ref a), (1, .int x1)] := hl
  have hP : va_P G.1 vwCl (w_X0_marksBehind G a v_lean v_sets v_drops v_keeps) s.heap := hP
  rw [fX0_marksBehind] at h
  refine lv_iload_n hx hb dX0_marksBehind_0 rfl (lv_at hl 1 rfl) ?_
  refine lv_aload_n hx hb dX0_marksBehind_1 rfl (lv_at hl 0 rfl) ?_
  refine va_get (D := G.1) (ci := 0) (v := .int v_sets) (C := RX0) (T := TX0) (N := 4) hx hb hts in_X0_marksBehind_X0 hown hK.1 hP 0 rfl rfl 1 (by decide) (hts (.fieldLink RX0 19 "NineHands$Clerk" "sets" "I") (by decide +kernel)) (fun _ h9 => h9) rfl dX0_marksBehind_2 ?_
  refine lv_ior hx hb dX0_marksBehind_5 ?_
  refine lv_aload_n hx hb dX0_marksBehind_6 rfl (lv_at hl 0 rfl) ?_
  refine va_get (D := G.1) (ci := 0) (v := .int v_drops) (C := RX0) (T := TX0) (N := 4) hx hb hts in_X0_marksBehind_X0 hown hK.1 hP 0 rfl rfl 2 (by decide) (hts (.fieldLink RX0 22 "NineHands$Clerk" "drops" "I") (by decide +kernel)) (fun _ h9 => h9) rfl dX0_marksBehind_7 ?_
  refine lv_iconst (v := ((-1) : Int32)) hx hb dX0_marksBehind_10 (by decide) ?_
  refine lv_ixor hx hb dX0_marksBehind_11 ?_
  refine lv_iand hx hb dX0_marksBehind_12 ?_
  cases h
  exact W.iret hx hb hr (fun t9 ht9 _ => zend hP hD hS ht9) hS.2.2 dX0_marksBehind_13
abbrev w_X0_waysTo (G : zG) (a : Nat) (v_lean : Int32) (v_sets : Int32) (v_drops : Int32) (v_keeps : Int32) : va_W := [(a, .inr (0, [.int v_lean, .int v_sets, .int v_drops, .int v_keeps]))]
theorem in_X0_waysTo_X0 : ∀ w ∈ wsX00, w ∈ wsX0_waysTo := by decide +kernel
set_option maxHeartbeats 4000000 in
set_option maxRecDepth 100000 in
theorem c_X0_waysTo (l : Launch) (G : zG) (a : Nat) (v_lean : Int32) (v_sets : Int32) (v_drops : Int32) (v_keeps : Int32) (x1 : Int32) (x2 : Int32) (x3 : Int32) (x4 : Int32) (rv : Int32) (h : fX0_waysTo v_lean v_sets v_drops v_keeps x1 x2 x3 x4 = some rv) : zC l yX0_waysTo wsX0_waysTo 3 66 G [.ref a, .int x1, .int x2, .int x3, .int x4] (w_X0_waysTo G a v_lean v_sets v_drops v_keeps) (some (.int rv)) (w_X0_waysTo G a v_lean v_sets v_drops v_keeps) := by
  refine fun sz => Met.ofW (cc := cX0_waysTo) (maxL := 6) (ret := (some .int)) (by decide) rfl ?_
  intro p e s m args below meth c s₁ B hml hv
  obtain ⟨rfl, hsz, hP, hK, hD0, hE⟩ := hv
  have hx := B.exec
  have hb := B.bytes
  have hr := B.returns
  have hts := atoms_spec (ws := wsX0_waysTo) B.pre
  have hown : s.vm.findClass RX0 = some m.cls := findClass_of_methodNamed B.named
  have hlocks := B.notSynchronized
  subst hsz
  have hD := hD0.self (sz := s.heap.size)
  generalize hAe : va_A (w_X0_waysTo G a v_lean v_sets v_drops v_keeps) s.heap.size = A at hD hE ⊢
  have hA : ∀ q : Nat, s.heap.size ≤ q → A q := fun q h => by rw [← hAe]; exact Or.inr h
  have hS : va_S A s.heap s.heap [] := va_S.rf
  have hl := lv_entry ([.ref a, .int x1, .int x2, .int x3, .int x4]) (n := 6) (Nat.le_of_ble_eq_true rfl)
  rw [lg_entry_eq]
  generalize (lg_sl ([.ref a, .int x1, .int x2, .int x3, .int x4]) ++ List.replicate (6 - (lg_sl ([.ref a, .int x1, .int x2, .int x3, .int x4])).length) Slot.unset).toArray = ls at hl ⊢
  have hl : lv_has ls 6 [(0, .ref a), (1, .int x1), (2, .int x2), (3, .int x3), (4, .int x4)] := hl
  have hP : va_P G.1 vwCl (w_X0_waysTo G a v_lean v_sets v_drops v_keeps) s.heap := hP
  rw [fX0_waysTo] at h
  have join_31 : ∀ (l5_31 : Int32) (H : Heap) (locs : List Loc) (ls : Array Slot), fX0_waysTo_J31 x1 x2 x3 x4 v_keeps l5_31 = some rv → va_P G.1 vwCl (w_X0_waysTo G a v_lean v_sets v_drops v_keeps) H → va_D A (w_X0_waysTo G a v_lean v_sets v_drops v_keeps) → va_S A s.heap H locs → lv_has ls 6 [(0, .ref a), (1, .int x1), (2, .int x2), (3, .int x3), (4, .int x4), (5, .int l5_31)] → W p l e (headSpec wsX0_waysTo { frames := 3, cells := 0, slots := 0, locals := 66 }).room s m ([.ref a, .int x1, .int x2, .int x3, .int x4] : List Value).toArray below meth c H locs 0 0 (MQ below (zQ (some (.int rv)) G (w_X0_waysTo G a v_lean v_sets v_drops v_keeps) A) ([.ref a, .int x1, .int x2, .int x3, .int x4] : List Value).toArray s 0 0 A) (F0 m 31 ls []) := by
    intro l5_31 H locs ls h hP hD hS hl
    rw [fX0_waysTo_J31] at h
    refine lv_iload_n hx hb dX0_waysTo_31 rfl (lv_at hl 1 rfl) ?_
    refine lv_iload_n hx hb dX0_waysTo_32 rfl (lv_at hl 3 rfl) ?_
    refine lv_icmp_ne (tgt := 54) hx hb dX0_waysTo_33 (by decide) (fun c33 => ?_) (fun c33 => ?_)
    · have h := zf c33 h
      refine lv_iload hx hb dX0_waysTo_54 (lv_at hl 5 rfl) ?_
      cases h
      exact W.iret hx hb hr (fun t9 ht9 _ => zend hP hD hS ht9) hS.2.2 dX0_waysTo_56
    · have h := zt c33 h
      refine lv_iload_n hx hb dX0_waysTo_36 rfl (lv_at hl 2 rfl) ?_
      refine lv_iload hx hb dX0_waysTo_37 (lv_at hl 4 rfl) ?_
      refine lv_icmp_ne (tgt := 54) hx hb dX0_waysTo_39 (by decide) (fun c39 => ?_) (fun c39 => ?_)
      · have h := zf c39 h
        refine lv_iload hx hb dX0_waysTo_54 (lv_at hl 5 rfl) ?_
        cases h
        exact W.iret hx hb hr (fun t9 ht9 _ => zend hP hD hS ht9) hS.2.2 dX0_waysTo_56
      · have h := zt c39 h
        refine lv_iload hx hb dX0_waysTo_42 (lv_at hl 5 rfl) ?_
        refine lv_bipush (v := (10 : Int32)) hx hb dX0_waysTo_44 (by decide) ?_
        refine lv_aload_n hx hb dX0_waysTo_46 rfl (lv_at hl 0 rfl) ?_
        refine va_get (D := G.1) (ci := 0) (v := .int v_keeps) (C := RX0) (T := TX0) (N := 4) hx hb hts in_X0_waysTo_X0 hown hK.1 hP 0 rfl rfl 3 (by decide) (hts (.fieldLink RX0 32 "NineHands$Clerk" "keeps" "I") (by decide +kernel)) (fun _ h9 => h9) rfl dX0_waysTo_47 ?_
        refine lv_isub hx hb dX0_waysTo_50 ?_
        refine lv_iadd hx hb dX0_waysTo_51 ?_
        refine lv_istore (lv' := [(5, .int (l5_31 + ((10 : Int32) - v_keeps))), (0, .ref a), (1, .int x1), (2, .int x2), (3, .int x3), (4, .int x4)]) hx hb dX0_waysTo_52 hl (by decide) rfl (fun ls hl => ?_)
        refine lv_iload hx hb dX0_waysTo_54 (lv_at hl 0 rfl) ?_
        cases h
        exact W.iret hx hb hr (fun t9 ht9 _ => zend hP hD hS ht9) hS.2.2 dX0_waysTo_56
  refine lv_iconst (v := (0 : Int32)) hx hb dX0_waysTo_0 (by decide) ?_
  refine lv_istore (lv' := [(5, .int (0 : Int32)), (0, .ref a), (1, .int x1), (2, .int x2), (3, .int x3), (4, .int x4)]) hx hb dX0_waysTo_1 hl (by decide) rfl (fun ls hl => ?_)
  refine lv_aload_n hx hb dX0_waysTo_3 rfl (lv_at hl 1 rfl) ?_
  refine lv_iload_n hx hb dX0_waysTo_4 rfl (lv_at hl 2 rfl) ?_
  obtain ⟨y5, hc5, h⟩ := zb1_e h
  refine zcV (As := [.int x1]) (rest := []) (ws' := (w_X0_waysTo G a v_lean v_sets v_drops v_keeps)) (st1 := [.int y5]) ⟨hx, hb, hml, hown, hts⟩ (c_X0_toneBehind l G a v_lean v_sets v_drops v_keeps x1 y5 hc5) (cwV 1 hts gX0_waysTo_X0_toneBehind rfl rfl rfl (by decide +kernel) ⟨Nat.le_of_ble_eq_true rfl, Nat.le_of_ble_eq_true rfl⟩) hK hE hP hD hS hA [0] rfl rfl 0 0 rfl rfl rfl rfl rfl rfl hl.1 rfl (Nat.le_of_ble_eq_true rfl) dX0_waysTo_5 (Nat.zero_le _) (Nat.zero_le _) rfl (fun H locs hP hD hS => ?_)
  refine lv_iload_n hx hb dX0_waysTo_8 rfl (lv_at hl 4 rfl) ?_
  refine lv_icmp_ne (tgt := 31) hx hb dX0_waysTo_9 (by decide) (fun c9 => ?_) (fun c9 => ?_)
  · have h := zf c9 h
    exact join_31 _ _ _ _ h hP hD hS (lv_sub hl [1, 2, 3, 4, 5, 0] rfl)
  · have h := zt c9 h
    refine lv_aload_n hx hb dX0_waysTo_12 rfl (lv_at hl 1 rfl) ?_
    refine lv_iload_n hx hb dX0_waysTo_13 rfl (lv_at hl 3 rfl) ?_
    obtain ⟨y14, hc14, h⟩ := zb1_e h
    refine zcV (As := [.int x2]) (rest := []) (ws' := (w_X0_waysTo G a v_lean v_sets v_drops v_keeps)) (st1 := [.int y14]) ⟨hx, hb, hml, hown, hts⟩ (c_X0_marksBehind l G a v_lean v_sets v_drops v_keeps x2 y14 hc14) (cwV 1 hts gX0_waysTo_X0_marksBehind rfl rfl rfl (by decide +kernel) ⟨Nat.le_of_ble_eq_true rfl, Nat.le_of_ble_eq_true rfl⟩) hK hE hP hD hS hA [0] rfl rfl 0 0 rfl rfl rfl rfl rfl rfl hl.1 rfl (Nat.le_of_ble_eq_true rfl) dX0_waysTo_14 (Nat.zero_le _) (Nat.zero_le _) rfl (fun H locs hP hD hS => ?_)
    refine lv_iload hx hb dX0_waysTo_17 (lv_at hl 5 rfl) ?_
    refine lv_icmp_ne (tgt := 31) hx hb dX0_waysTo_19 (by decide) (fun c19 => ?_) (fun c19 => ?_)
    · have h := zf c19 h
      exact join_31 _ _ _ _ h hP hD hS (lv_sub hl [1, 2, 3, 4, 5, 0] rfl)
    · have h := zt c19 h
      refine lv_iload hx hb dX0_waysTo_22 (lv_at hl 0 rfl) ?_
      refine lv_aload_n hx hb dX0_waysTo_24 rfl (lv_at hl 1 rfl) ?_
      refine va_get (D := G.1) (ci := 0) (v := .int v_keeps) (C := RX0) (T := TX0) (N := 4) hx hb hts in_X0_waysTo_X0 hown hK.1 hP 0 rfl rfl 3 (by decide) (hts (.fieldLink RX0 32 "NineHands$Clerk" "keeps" "I") (by decide +kernel)) (fun _ h9 => h9) rfl dX0_waysTo_25 ?_
      refine lv_iadd hx hb dX0_waysTo_28 ?_
      refine lv_istore (lv' := [(5, .int ((0 : Int32) + v_keeps)), (0, .ref a), (1, .int x1), (2, .int x2), (3, .int x3), (4, .int x4)]) hx hb dX0_waysTo_29 hl (by decide) rfl (fun ls hl => ?_)
      exact join_31 _ _ _ _ h hP hD hS (lv_sub hl [1, 2, 3, 4, 5, 0] rfl)
abbrev w_X1_isFull (G : zG) (a : Nat) (a_slips : Nat) (v_count : Int32) : va_W := [(a, .inr (1, [.ref a_slips, .int v_count]))]
theorem in_X1_isFull_X1 : ∀ w ∈ wsX10, w ∈ wsX1_isFull := by decide +kernel
set_option maxHeartbeats 4000000 in
set_option maxRecDepth 100000 in
theorem c_X1_isFull (l : Launch) (G : zG) (a : Nat) (a_slips : Nat) (v_count : Int32) (rv : Int32) (h : fX1_isFull v_count = some rv) : zC l yX1_isFull wsX1_isFull 0 0 G [.ref a] (w_X1_isFull G a a_slips v_count) (some (.int rv)) (w_X1_isFull G a a_slips v_count) := by
  refine fun sz => Met.ofW (cc := cX1_isFull) (maxL := 1) (ret := (some .boolean)) (by decide) rfl ?_
  intro p e s m args below meth c s₁ B hml hv
  obtain ⟨rfl, hsz, hP, hK, hD0, hE⟩ := hv
  have hx := B.exec
  have hb := B.bytes
  have hr := B.returns
  have hts := atoms_spec (ws := wsX1_isFull) B.pre
  have hown : s.vm.findClass RX1 = some m.cls := findClass_of_methodNamed B.named
  have hlocks := B.notSynchronized
  subst hsz
  have hD := hD0.self (sz := s.heap.size)
  generalize hAe : va_A (w_X1_isFull G a a_slips v_count) s.heap.size = A at hD hE ⊢
  have hA : ∀ q : Nat, s.heap.size ≤ q → A q := fun q h => by rw [← hAe]; exact Or.inr h
  have hS : va_S A s.heap s.heap [] := va_S.rf
  have hl := lv_entry ([.ref a]) (n := 1) (Nat.le_of_ble_eq_true rfl)
  rw [lg_entry_eq]
  generalize (lg_sl ([.ref a]) ++ List.replicate (1 - (lg_sl ([.ref a])).length) Slot.unset).toArray = ls at hl ⊢
  have hl : lv_has ls 1 [(0, .ref a)] := hl
  have hP : va_P G.1 vwCl (w_X1_isFull G a a_slips v_count) s.heap := hP
  rw [fX1_isFull] at h
  refine lv_aload_n hx hb dX1_isFull_0 rfl (lv_at hl 0 rfl) ?_
  refine va_get (D := G.1) (ci := 1) (v := .int v_count) (C := RX1) (T := TX1) (N := 2) hx hb hts in_X1_isFull_X1 hown hK.1 hP 0 rfl rfl 1 (by decide) (hts (.fieldLink RX1 15 "NineHands$Copies" "count" "I") (by decide +kernel)) (fun _ h9 => h9) rfl dX1_isFull_1 ?_
  refine lv_bipush (v := (8 : Int32)) hx hb dX1_isFull_4 (by decide) ?_
  refine lv_icmp_lt (tgt := 13) hx hb dX1_isFull_6 (by decide) (fun c6 => ?_) (fun c6 => ?_)
  · have h := zt c6 h
    refine lv_iconst (v := (0 : Int32)) hx hb dX1_isFull_13 (by decide) ?_
    cases h
    exact W.zret (ty := .boolean) hx hb hr rfl (fun t9 ht9 _ => zend hP hD hS ht9) hS.2.2 dX1_isFull_14
  · have h := zf c6 h
    refine lv_iconst (v := (1 : Int32)) hx hb dX1_isFull_9 (by decide) ?_
    refine lv_goto (tgt := 14) hx hb dX1_isFull_10 (by decide) ?_
    cases h
    exact W.zret (ty := .boolean) hx hb hr rfl (fun t9 ht9 _ => zend hP hD hS ht9) hS.2.2 dX1_isFull_14
abbrev w_X1_add (G : zG) (a : Nat) (a_slips : Nat) (v_count : Int32) (f_slips : (Nat → Int32)) : va_W := [(a, .inr (1, [.ref a_slips, .int v_count])), (a_slips, .inl (zCI G, 8, .inl f_slips))]
theorem in_X1_add_X1 : ∀ w ∈ wsX10, w ∈ wsX1_add := by decide +kernel
set_option maxHeartbeats 4000000 in
set_option maxRecDepth 100000 in
theorem c_X1_add (l : Launch) (G : zG) (a : Nat) (a_slips : Nat) (v_count : Int32) (f_slips : (Nat → Int32)) (x1 : Int32) (ov_count : Int32) (of_slips : (Nat → Int32)) (h : fX1_add v_count f_slips x1 = some (ov_count, of_slips)) : zC l yX1_add wsX1_add 1 20 G [.ref a, .int x1] (w_X1_add G a a_slips v_count f_slips) none (w_X1_add G a a_slips ov_count of_slips) := by
  refine fun sz => Met.ofW (cc := cX1_add) (maxL := 2) (ret := none) (by decide) rfl ?_
  intro p e s m args below meth c s₁ B hml hv
  obtain ⟨rfl, hsz, hP, hK, hD0, hE⟩ := hv
  have hx := B.exec
  have hb := B.bytes
  have hr := B.returns
  have hts := atoms_spec (ws := wsX1_add) B.pre
  have hown : s.vm.findClass RX1 = some m.cls := findClass_of_methodNamed B.named
  have hlocks := B.notSynchronized
  subst hsz
  have hD := hD0.self (sz := s.heap.size)
  generalize hAe : va_A (w_X1_add G a a_slips v_count f_slips) s.heap.size = A at hD hE ⊢
  have hA : ∀ q : Nat, s.heap.size ≤ q → A q := fun q h => by rw [← hAe]; exact Or.inr h
  have hS : va_S A s.heap s.heap [] := va_S.rf
  have hl := lv_entry ([.ref a, .int x1]) (n := 2) (Nat.le_of_ble_eq_true rfl)
  rw [lg_entry_eq]
  generalize (lg_sl ([.ref a, .int x1]) ++ List.replicate (2 - (lg_sl ([.ref a, .int x1])).length) Slot.unset).toArray = ls at hl ⊢
  have hl : lv_has ls 2 [(0, .ref a), (1, .int x1)] := hl
  have hP : va_P G.1 vwCl (w_X1_add G a a_slips v_count f_slips) s.heap := hP
  rw [fX1_add] at h
  refine lv_aload_n hx hb dX1_add_0 rfl (lv_at hl 0 rfl) ?_
  obtain ⟨y1, hc1, h⟩ := zb1_e h
  refine zcV (As := []) (rest := []) (ws' := (w_X1_add G a a_slips v_count f_slips)) (st1 := [.int y1]) ⟨hx, hb, hml, hown, hts⟩ (c_X1_isFull l G a a_slips v_count y1 hc1) (cwV 0 hts gX1_add_X1_isFull rfl rfl rfl (by decide +kernel) ⟨Nat.le_of_ble_eq_true rfl, Nat.le_of_ble_eq_true rfl⟩) hK hE hP hD hS hA [0] rfl rfl 0 1 rfl rfl rfl rfl rfl rfl hl.1 rfl (Nat.le_of_ble_eq_true rfl) dX1_add_1 (Nat.zero_le _) (Nat.zero_le _) rfl (fun H locs hP hD hS => ?_)
  refine lv_if_eq (tgt := 8) hx hb dX1_add_4 (by decide) (fun c4 => ?_) (fun c4 => ?_)
  · have h := zt c4 h
    refine lv_aload_n hx hb dX1_add_8 rfl (lv_at hl 0 rfl) ?_
    refine va_get (D := G.1) (ci := 1) (v := .ref a_slips) (C := RX1) (T := TX1) (N := 2) hx hb hts in_X1_add_X1 hown hK.1 hP 0 rfl rfl 0 (by decide) (hts (.fieldLink RX1 9 "NineHands$Copies" "slips" "[I") (by decide +kernel)) (fun _ h9 => h9) rfl dX1_add_9 ?_
    refine lv_aload_n hx hb dX1_add_12 rfl (lv_at hl 0 rfl) ?_
    refine va_get (D := G.1) (ci := 1) (v := .int v_count) (C := RX1) (T := TX1) (N := 2) hx hb hts in_X1_add_X1 hown hK.1 hP 0 rfl rfl 1 (by decide) (hts (.fieldLink RX1 15 "NineHands$Copies" "count" "I") (by decide +kernel)) (fun _ h9 => h9) rfl dX1_add_13 ?_
    refine lv_iload_n hx hb dX1_add_16 rfl (lv_at hl 1 rfl) ?_
    obtain ⟨g17, h⟩ := zg h
    refine zast hx hb hK.1 hP hD hS 1 0 rfl rfl g17 (j := (v_count).toNatClampNeg) rfl (ws' := (w_X1_add G a a_slips v_count (upd f_slips (v_count).toNatClampNeg x1))) rfl dX1_add_17 (fun H locs hP hD hS => ?_)
    refine lv_aload_n hx hb dX1_add_18 rfl (lv_at hl 0 rfl) ?_
    refine lv_dup hx hb dX1_add_19 rfl ?_
    refine va_get (D := G.1) (ci := 1) (v := .int v_count) (C := RX1) (T := TX1) (N := 2) hx hb hts in_X1_add_X1 hown hK.1 hP 0 rfl rfl 1 (by decide) (hts (.fieldLink RX1 15 "NineHands$Copies" "count" "I") (by decide +kernel)) (fun _ h9 => h9) rfl dX1_add_20 ?_
    refine lv_iconst (v := (1 : Int32)) hx hb dX1_add_23 (by decide) ?_
    refine lv_iadd hx hb dX1_add_24 ?_
    refine zput1 (D := G.1) (ci := 1) (C := RX1) (T := TX1) (N := 2) (ty := .int) (ws' := (w_X1_add G a a_slips (v_count + (1 : Int32)) (upd f_slips (v_count).toNatClampNeg x1))) hx hb hts in_X1_add_X1 tyX1 tyX1_ok nmX1 hown hK.1 hP hD hS 0 rfl rfl 1 (by decide) (hts (.fieldLink RX1 15 "NineHands$Copies" "count" "I") (by decide +kernel)) (fun _ h9 => h9) rfl (by decide +kernel) rfl rfl (Nat.le_of_ble_eq_true rfl) rfl dX1_add_25 (fun H locs hP hD hS => ?_)
    cases h
    exact W.vret hx hb hr (fun t9 ht9 _ => zend hP hD hS ht9) hS.2.2 dX1_add_28
  · have h := zf c4 h
    cases h
    exact W.vret hx hb hr (fun t9 ht9 _ => zend hP hD hS ht9) hS.2.2 dX1_add_7
abbrev w_X1_canComeOf (G : zG) (a : Nat) (a_slips : Nat) (v_count : Int32) (f_slips : (Nat → Int32)) : va_W := [(a, .inr (1, [.ref a_slips, .int v_count])), (a_slips, .inl (zCI G, 8, .inl f_slips))]
theorem in_X1_canComeOf_X1 : ∀ w ∈ wsX10, w ∈ wsX1_canComeOf := by decide +kernel
set_option maxHeartbeats 4000000 in
set_option maxRecDepth 100000 in
theorem c_X1_canComeOf (l : Launch) (G : zG) (a : Nat) (a_slips : Nat) (v_count : Int32) (f_slips : (Nat → Int32)) (x1 : Int32) (x2 : Int32) (rv : Int32) (h : fX1_canComeOf f_slips x1 x2 = some rv) : zC l yX1_canComeOf wsX1_canComeOf 0 0 G [.ref a, .int x1, .int x2] (w_X1_canComeOf G a a_slips v_count f_slips) (some (.int rv)) (w_X1_canComeOf G a a_slips v_count f_slips) := by
  refine fun sz => Met.ofW (cc := cX1_canComeOf) (maxL := 3) (ret := (some .boolean)) (by decide) rfl ?_
  intro p e s m args below meth c s₁ B hml hv
  obtain ⟨rfl, hsz, hP, hK, hD0, hE⟩ := hv
  have hx := B.exec
  have hb := B.bytes
  have hr := B.returns
  have hts := atoms_spec (ws := wsX1_canComeOf) B.pre
  have hown : s.vm.findClass RX1 = some m.cls := findClass_of_methodNamed B.named
  have hlocks := B.notSynchronized
  subst hsz
  have hD := hD0.self (sz := s.heap.size)
  generalize hAe : va_A (w_X1_canComeOf G a a_slips v_count f_slips) s.heap.size = A at hD hE ⊢
  have hA : ∀ q : Nat, s.heap.size ≤ q → A q := fun q h => by rw [← hAe]; exact Or.inr h
  have hS : va_S A s.heap s.heap [] := va_S.rf
  have hl := lv_entry ([.ref a, .int x1, .int x2]) (n := 3) (Nat.le_of_ble_eq_true rfl)
  rw [lg_entry_eq]
  generalize (lg_sl ([.ref a, .int x1, .int x2]) ++ List.replicate (3 - (lg_sl ([.ref a, .int x1, .int x2])).length) Slot.unset).toArray = ls at hl ⊢
  have hl : lv_has ls 3 [(0, .ref a), (1, .int x1), (2, .int x2)] := hl
  have hP : va_P G.1 vwCl (w_X1_canComeOf G a a_slips v_count f_slips) s.heap := hP
  rw [fX1_canComeOf] at h
  refine lv_iload_n hx hb dX1_canComeOf_0 rfl (lv_at hl 2 rfl) ?_
  refine lv_iload_n hx hb dX1_canComeOf_1 rfl (lv_at hl 1 rfl) ?_
  refine lv_icmp_eq (tgt := 23) hx hb dX1_canComeOf_2 (by decide) (fun c2 => ?_) (fun c2 => ?_)
  · have h := zt c2 h
    refine lv_iconst (v := (0 : Int32)) hx hb dX1_canComeOf_23 (by decide) ?_
    cases h
    exact W.zret (ty := .boolean) hx hb hr rfl (fun t9 ht9 _ => zend hP hD hS ht9) hS.2.2 dX1_canComeOf_24
  · have h := zf c2 h
    refine lv_aload_n hx hb dX1_canComeOf_5 rfl (lv_at hl 0 rfl) ?_
    refine va_get (D := G.1) (ci := 1) (v := .ref a_slips) (C := RX1) (T := TX1) (N := 2) hx hb hts in_X1_canComeOf_X1 hown hK.1 hP 0 rfl rfl 0 (by decide) (hts (.fieldLink RX1 9 "NineHands$Copies" "slips" "[I") (by decide +kernel)) (fun _ h9 => h9) rfl dX1_canComeOf_6 ?_
    refine lv_iload_n hx hb dX1_canComeOf_9 rfl (lv_at hl 2 rfl) ?_
    obtain ⟨g10, h⟩ := zg h
    refine zald hx hb hK.1 hP 1 0 rfl rfl g10 (j := (x2).toNatClampNeg) rfl dX1_canComeOf_10 ?_
    refine lv_aload_n hx hb dX1_canComeOf_11 rfl (lv_at hl 0 rfl) ?_
    refine va_get (D := G.1) (ci := 1) (v := .ref a_slips) (C := RX1) (T := TX1) (N := 2) hx hb hts in_X1_canComeOf_X1 hown hK.1 hP 0 rfl rfl 0 (by decide) (hts (.fieldLink RX1 9 "NineHands$Copies" "slips" "[I") (by decide +kernel)) (fun _ h9 => h9) rfl dX1_canComeOf_12 ?_
    refine lv_iload_n hx hb dX1_canComeOf_15 rfl (lv_at hl 1 rfl) ?_
    obtain ⟨g16, h⟩ := zg h
    refine zald hx hb hK.1 hP 1 0 rfl rfl g16 (j := (x1).toNatClampNeg) rfl dX1_canComeOf_16 ?_
    refine lv_iconst (v := ((-1) : Int32)) hx hb dX1_canComeOf_17 (by decide) ?_
    refine lv_ixor hx hb dX1_canComeOf_18 ?_
    refine lv_iand hx hb dX1_canComeOf_19 ?_
    refine lv_if_eq (tgt := 25) hx hb dX1_canComeOf_20 (by decide) (fun c20 => ?_) (fun c20 => ?_)
    · have h := zt c20 h
      refine lv_aload_n hx hb dX1_canComeOf_25 rfl (lv_at hl 0 rfl) ?_
      refine va_get (D := G.1) (ci := 1) (v := .ref a_slips) (C := RX1) (T := TX1) (N := 2) hx hb hts in_X1_canComeOf_X1 hown hK.1 hP 0 rfl rfl 0 (by decide) (hts (.fieldLink RX1 9 "NineHands$Copies" "slips" "[I") (by decide +kernel)) (fun _ h9 => h9) rfl dX1_canComeOf_26 ?_
      refine lv_iload_n hx hb dX1_canComeOf_29 rfl (lv_at hl 2 rfl) ?_
      refine zald hx hb hK.1 hP 1 0 rfl rfl g10 (j := (x2).toNatClampNeg) rfl dX1_canComeOf_30 ?_
      refine lv_aload_n hx hb dX1_canComeOf_31 rfl (lv_at hl 0 rfl) ?_
      refine va_get (D := G.1) (ci := 1) (v := .ref a_slips) (C := RX1) (T := TX1) (N := 2) hx hb hts in_X1_canComeOf_X1 hown hK.1 hP 0 rfl rfl 0 (by decide) (hts (.fieldLink RX1 9 "NineHands$Copies" "slips" "[I") (by decide +kernel)) (fun _ h9 => h9) rfl dX1_canComeOf_32 ?_
      refine lv_iload_n hx hb dX1_canComeOf_35 rfl (lv_at hl 1 rfl) ?_
      refine zald hx hb hK.1 hP 1 0 rfl rfl g16 (j := (x1).toNatClampNeg) rfl dX1_canComeOf_36 ?_
      refine lv_icmp_ne (tgt := 45) hx hb dX1_canComeOf_37 (by decide) (fun c37 => ?_) (fun c37 => ?_)
      · have h := zf c37 h
        refine lv_iconst (v := (1 : Int32)) hx hb dX1_canComeOf_45 (by decide) ?_
        refine lv_goto (tgt := 50) hx hb dX1_canComeOf_46 (by decide) ?_
        cases h
        exact W.zret (ty := .boolean) hx hb hr rfl (fun t9 ht9 _ => zend hP hD hS ht9) hS.2.2 dX1_canComeOf_50
      · have h := zt c37 h
        refine lv_iload_n hx hb dX1_canComeOf_40 rfl (lv_at hl 2 rfl) ?_
        refine lv_iload_n hx hb dX1_canComeOf_41 rfl (lv_at hl 1 rfl) ?_
        refine lv_icmp_ge (tgt := 49) hx hb dX1_canComeOf_42 (by decide) (fun c42 => ?_) (fun c42 => ?_)
        · have h := zt c42 h
          refine lv_iconst (v := (0 : Int32)) hx hb dX1_canComeOf_49 (by decide) ?_
          cases h
          exact W.zret (ty := .boolean) hx hb hr rfl (fun t9 ht9 _ => zend hP hD hS ht9) hS.2.2 dX1_canComeOf_50
        · have h := zf c42 h
          refine lv_iconst (v := (1 : Int32)) hx hb dX1_canComeOf_45 (by decide) ?_
          refine lv_goto (tgt := 50) hx hb dX1_canComeOf_46 (by decide) ?_
          cases h
          exact W.zret (ty := .boolean) hx hb hr rfl (fun t9 ht9 _ => zend hP hD hS ht9) hS.2.2 dX1_canComeOf_50
    · have h := zf c20 h
      refine lv_iconst (v := (0 : Int32)) hx hb dX1_canComeOf_23 (by decide) ?_
      cases h
      exact W.zret (ty := .boolean) hx hb hr rfl (fun t9 ht9 _ => zend hP hD hS ht9) hS.2.2 dX1_canComeOf_24
abbrev w_J6_bitCount_0f7a4 (G : zG) : va_W := []
set_option maxHeartbeats 4000000 in
set_option maxRecDepth 100000 in
theorem c_J6_bitCount_0f7a4 (l : Launch) (G : zG) (x1 : Int32) (rv : Int32) (h : fJ6_bitCount_0f7a4 x1 = some rv) : zC l yJ6_bitCount_0f7a4 wsJ6_bitCount_0f7a4 0 0 G [.int x1] (w_J6_bitCount_0f7a4 G ) (some (.int rv)) (w_J6_bitCount_0f7a4 G ) := by
  refine fun sz => Met.ofW (cc := cJ6_bitCount_0f7a4) (maxL := 1) (ret := (some .int)) (by decide) rfl ?_
  intro p e s m args below meth c s₁ B hml hv
  obtain ⟨rfl, hsz, hP, hK, hD0, hE⟩ := hv
  have hx := B.exec
  have hb := B.bytes
  have hr := B.returns
  have hts := atoms_spec (ws := wsJ6_bitCount_0f7a4) B.pre
  have hown : s.vm.findClass RJ6 = some m.cls := findClass_of_methodNamed B.named
  have hlocks := B.notSynchronized
  subst hsz
  have hD := hD0.self (sz := s.heap.size)
  generalize hAe : va_A (w_J6_bitCount_0f7a4 G ) s.heap.size = A at hD hE ⊢
  have hA : ∀ q : Nat, s.heap.size ≤ q → A q := fun q h => by rw [← hAe]; exact Or.inr h
  have hS : va_S A s.heap s.heap [] := va_S.rf
  have hl := lv_entry ([.int x1]) (n := 1) (Nat.le_of_ble_eq_true rfl)
  rw [lg_entry_eq]
  generalize (lg_sl ([.int x1]) ++ List.replicate (1 - (lg_sl ([.int x1])).length) Slot.unset).toArray = ls at hl ⊢
  have hl : lv_has ls 1 [(0, .int x1)] := hl
  have hP : va_P G.1 vwCl (w_J6_bitCount_0f7a4 G ) s.heap := hP
  rw [fJ6_bitCount_0f7a4] at h
  refine lv_iload_n hx hb dJ6_bitCount_0f7a4_0 rfl (lv_at hl 0 rfl) ?_
  refine lv_iload_n hx hb dJ6_bitCount_0f7a4_1 rfl (lv_at hl 0 rfl) ?_
  refine lv_iconst (v := (1 : Int32)) hx hb dJ6_bitCount_0f7a4_2 (by decide) ?_
  refine lv_iushr (v := (((x1).toUInt32 >>> (((1 : Int32)).toUInt32 &&& Int32.toUInt32 31)).toInt32)) hx hb dJ6_bitCount_0f7a4_3 rfl ?_
  refine lv_ldcw hx hb hown (hts (.constant RJ6 265 (1431655765)) (by decide +kernel)) dJ6_bitCount_0f7a4_4 ?_
  refine lv_iand hx hb dJ6_bitCount_0f7a4_7 ?_
  refine lv_isub hx hb dJ6_bitCount_0f7a4_8 ?_
  refine lv_istore_n (lv' := [(0, .int (x1 - ((((x1).toUInt32 >>> (((1 : Int32)).toUInt32 &&& Int32.toUInt32 31)).toInt32) &&& (1431655765 : Int32))))]) hx hb dJ6_bitCount_0f7a4_9 rfl hl (by decide) rfl (fun ls hl => ?_)
  refine lv_iload_n hx hb dJ6_bitCount_0f7a4_10 rfl (lv_at hl 0 rfl) ?_
  refine lv_ldcw hx hb hown (hts (.constant RJ6 266 (858993459)) (by decide +kernel)) dJ6_bitCount_0f7a4_11 ?_
  refine lv_iand hx hb dJ6_bitCount_0f7a4_14 ?_
  refine lv_iload_n hx hb dJ6_bitCount_0f7a4_15 rfl (lv_at hl 0 rfl) ?_
  refine lv_iconst (v := (2 : Int32)) hx hb dJ6_bitCount_0f7a4_16 (by decide) ?_
  refine lv_iushr (v := ((((x1 - ((((x1).toUInt32 >>> (((1 : Int32)).toUInt32 &&& Int32.toUInt32 31)).toInt32) &&& (1431655765 : Int32)))).toUInt32 >>> (((2 : Int32)).toUInt32 &&& Int32.toUInt32 31)).toInt32)) hx hb dJ6_bitCount_0f7a4_17 rfl ?_
  refine lv_ldcw hx hb hown (hts (.constant RJ6 266 (858993459)) (by decide +kernel)) dJ6_bitCount_0f7a4_18 ?_
  refine lv_iand hx hb dJ6_bitCount_0f7a4_21 ?_
  refine lv_iadd hx hb dJ6_bitCount_0f7a4_22 ?_
  refine lv_istore_n (lv' := [(0, .int (((x1 - ((((x1).toUInt32 >>> (((1 : Int32)).toUInt32 &&& Int32.toUInt32 31)).toInt32) &&& (1431655765 : Int32))) &&& (858993459 : Int32)) + (((((x1 - ((((x1).toUInt32 >>> (((1 : Int32)).toUInt32 &&& Int32.toUInt32 31)).toInt32) &&& (1431655765 : Int32)))).toUInt32 >>> (((2 : Int32)).toUInt32 &&& Int32.toUInt32 31)).toInt32) &&& (858993459 : Int32))))]) hx hb dJ6_bitCount_0f7a4_23 rfl hl (by decide) rfl (fun ls hl => ?_)
  refine lv_iload_n hx hb dJ6_bitCount_0f7a4_24 rfl (lv_at hl 0 rfl) ?_
  refine lv_iload_n hx hb dJ6_bitCount_0f7a4_25 rfl (lv_at hl 0 rfl) ?_
  refine lv_iconst (v := (4 : Int32)) hx hb dJ6_bitCount_0f7a4_26 (by decide) ?_
  refine lv_iushr (v := ((((((x1 - ((((x1).toUInt32 >>> (((1 : Int32)).toUInt32 &&& Int32.toUInt32 31)).toInt32) &&& (1431655765 : Int32))) &&& (858993459 : Int32)) + (((((x1 - ((((x1).toUInt32 >>> (((1 : Int32)).toUInt32 &&& Int32.toUInt32 31)).toInt32) &&& (1431655765 : Int32)))).toUInt32 >>> (((2 : Int32)).toUInt32 &&& Int32.toUInt32 31)).toInt32) &&& (858993459 : Int32)))).toUInt32 >>> (((4 : Int32)).toUInt32 &&& Int32.toUInt32 31)).toInt32)) hx hb dJ6_bitCount_0f7a4_27 rfl ?_
  refine lv_iadd hx hb dJ6_bitCount_0f7a4_28 ?_
  refine lv_ldcw hx hb hown (hts (.constant RJ6 267 (252645135)) (by decide +kernel)) dJ6_bitCount_0f7a4_29 ?_
  refine lv_iand hx hb dJ6_bitCount_0f7a4_32 ?_
  refine lv_istore_n (lv' := [(0, .int (((((x1 - ((((x1).toUInt32 >>> (((1 : Int32)).toUInt32 &&& Int32.toUInt32 31)).toInt32) &&& (1431655765 : Int32))) &&& (858993459 : Int32)) + (((((x1 - ((((x1).toUInt32 >>> (((1 : Int32)).toUInt32 &&& Int32.toUInt32 31)).toInt32) &&& (1431655765 : Int32)))).toUInt32 >>> (((2 : Int32)).toUInt32 &&& Int32.toUInt32 31)).toInt32) &&& (858993459 : Int32))) + ((((((x1 - ((((x1).toUInt32 >>> (((1 : Int32)).toUInt32 &&& Int32.toUInt32 31)).toInt32) &&& (1431655765 : Int32))) &&& (858993459 : Int32)) + (((((x1 - ((((x1).toUInt32 >>> (((1 : Int32)).toUInt32 &&& Int32.toUInt32 31)).toInt32) &&& (1431655765 : Int32)))).toUInt32 >>> (((2 : Int32)).toUInt32 &&& Int32.toUInt32 31)).toInt32) &&& (858993459 : Int32)))).toUInt32 >>> (((4 : Int32)).toUInt32 &&& Int32.toUInt32 31)).toInt32)) &&& (252645135 : Int32)))]) hx hb dJ6_bitCount_0f7a4_33 rfl hl (by decide) rfl (fun ls hl => ?_)
  refine lv_iload_n hx hb dJ6_bitCount_0f7a4_34 rfl (lv_at hl 0 rfl) ?_
  refine lv_iload_n hx hb dJ6_bitCount_0f7a4_35 rfl (lv_at hl 0 rfl) ?_
  refine lv_bipush (v := (8 : Int32)) hx hb dJ6_bitCount_0f7a4_36 (by decide) ?_
  refine lv_iushr (v := ((((((((x1 - ((((x1).toUInt32 >>> (((1 : Int32)).toUInt32 &&& Int32.toUInt32 31)).toInt32) &&& (1431655765 : Int32))) &&& (858993459 : Int32)) + (((((x1 - ((((x1).toUInt32 >>> (((1 : Int32)).toUInt32 &&& Int32.toUInt32 31)).toInt32) &&& (1431655765 : Int32)))).toUInt32 >>> (((2 : Int32)).toUInt32 &&& Int32.toUInt32 31)).toInt32) &&& (858993459 : Int32))) + ((((((x1 - ((((x1).toUInt32 >>> (((1 : Int32)).toUInt32 &&& Int32.toUInt32 31)).toInt32) &&& (1431655765 : Int32))) &&& (858993459 : Int32)) + (((((x1 - ((((x1).toUInt32 >>> (((1 : Int32)).toUInt32 &&& Int32.toUInt32 31)).toInt32) &&& (1431655765 : Int32)))).toUInt32 >>> (((2 : Int32)).toUInt32 &&& Int32.toUInt32 31)).toInt32) &&& (858993459 : Int32)))).toUInt32 >>> (((4 : Int32)).toUInt32 &&& Int32.toUInt32 31)).toInt32)) &&& (252645135 : Int32))).toUInt32 >>> (((8 : Int32)).toUInt32 &&& Int32.toUInt32 31)).toInt32)) hx hb dJ6_bitCount_0f7a4_38 rfl ?_
  refine lv_iadd hx hb dJ6_bitCount_0f7a4_39 ?_
  refine lv_istore_n (lv' := [(0, .int ((((((x1 - ((((x1).toUInt32 >>> (((1 : Int32)).toUInt32 &&& Int32.toUInt32 31)).toInt32) &&& (1431655765 : Int32))) &&& (858993459 : Int32)) + (((((x1 - ((((x1).toUInt32 >>> (((1 : Int32)).toUInt32 &&& Int32.toUInt32 31)).toInt32) &&& (1431655765 : Int32)))).toUInt32 >>> (((2 : Int32)).toUInt32 &&& Int32.toUInt32 31)).toInt32) &&& (858993459 : Int32))) + ((((((x1 - ((((x1).toUInt32 >>> (((1 : Int32)).toUInt32 &&& Int32.toUInt32 31)).toInt32) &&& (1431655765 : Int32))) &&& (858993459 : Int32)) + (((((x1 - ((((x1).toUInt32 >>> (((1 : Int32)).toUInt32 &&& Int32.toUInt32 31)).toInt32) &&& (1431655765 : Int32)))).toUInt32 >>> (((2 : Int32)).toUInt32 &&& Int32.toUInt32 31)).toInt32) &&& (858993459 : Int32)))).toUInt32 >>> (((4 : Int32)).toUInt32 &&& Int32.toUInt32 31)).toInt32)) &&& (252645135 : Int32)) + ((((((((x1 - ((((x1).toUInt32 >>> (((1 : Int32)).toUInt32 &&& Int32.toUInt32 31)).toInt32) &&& (1431655765 : Int32))) &&& (858993459 : Int32)) + (((((x1 - ((((x1).toUInt32 >>> (((1 : Int32)).toUInt32 &&& Int32.toUInt32 31)).toInt32) &&& (1431655765 : Int32)))).toUInt32 >>> (((2 : Int32)).toUInt32 &&& Int32.toUInt32 31)).toInt32) &&& (858993459 : Int32))) + ((((((x1 - ((((x1).toUInt32 >>> (((1 : Int32)).toUInt32 &&& Int32.toUInt32 31)).toInt32) &&& (1431655765 : Int32))) &&& (858993459 : Int32)) + (((((x1 - ((((x1).toUInt32 >>> (((1 : Int32)).toUInt32 &&& Int32.toUInt32 31)).toInt32) &&& (1431655765 : Int32)))).toUInt32 >>> (((2 : Int32)).toUInt32 &&& Int32.toUInt32 31)).toInt32) &&& (858993459 : Int32)))).toUInt32 >>> (((4 : Int32)).toUInt32 &&& Int32.toUInt32 31)).toInt32)) &&& (252645135 : Int32))).toUInt32 >>> (((8 : Int32)).toUInt32 &&& Int32.toUInt32 31)).toInt32)))]) hx hb dJ6_bitCount_0f7a4_40 rfl hl (by decide) rfl (fun ls hl => ?_)
  refine lv_iload_n hx hb dJ6_bitCount_0f7a4_41 rfl (lv_at hl 0 rfl) ?_
  refine lv_iload_n hx hb dJ6_bitCount_0f7a4_42 rfl (lv_at hl 0 rfl) ?_
  refine lv_bipush (v := (16 : Int32)) hx hb dJ6_bitCount_0f7a4_43 (by decide) ?_
  refine lv_iushr (v := (((((((((x1 - ((((x1).toUInt32 >>> (((1 : Int32)).toUInt32 &&& Int32.toUInt32 31)).toInt32) &&& (1431655765 : Int32))) &&& (858993459 : Int32)) + (((((x1 - ((((x1).toUInt32 >>> (((1 : Int32)).toUInt32 &&& Int32.toUInt32 31)).toInt32) &&& (1431655765 : Int32)))).toUInt32 >>> (((2 : Int32)).toUInt32 &&& Int32.toUInt32 31)).toInt32) &&& (858993459 : Int32))) + ((((((x1 - ((((x1).toUInt32 >>> (((1 : Int32)).toUInt32 &&& Int32.toUInt32 31)).toInt32) &&& (1431655765 : Int32))) &&& (858993459 : Int32)) + (((((x1 - ((((x1).toUInt32 >>> (((1 : Int32)).toUInt32 &&& Int32.toUInt32 31)).toInt32) &&& (1431655765 : Int32)))).toUInt32 >>> (((2 : Int32)).toUInt32 &&& Int32.toUInt32 31)).toInt32) &&& (858993459 : Int32)))).toUInt32 >>> (((4 : Int32)).toUInt32 &&& Int32.toUInt32 31)).toInt32)) &&& (252645135 : Int32)) + ((((((((x1 - ((((x1).toUInt32 >>> (((1 : Int32)).toUInt32 &&& Int32.toUInt32 31)).toInt32) &&& (1431655765 : Int32))) &&& (858993459 : Int32)) + (((((x1 - ((((x1).toUInt32 >>> (((1 : Int32)).toUInt32 &&& Int32.toUInt32 31)).toInt32) &&& (1431655765 : Int32)))).toUInt32 >>> (((2 : Int32)).toUInt32 &&& Int32.toUInt32 31)).toInt32) &&& (858993459 : Int32))) + ((((((x1 - ((((x1).toUInt32 >>> (((1 : Int32)).toUInt32 &&& Int32.toUInt32 31)).toInt32) &&& (1431655765 : Int32))) &&& (858993459 : Int32)) + (((((x1 - ((((x1).toUInt32 >>> (((1 : Int32)).toUInt32 &&& Int32.toUInt32 31)).toInt32) &&& (1431655765 : Int32)))).toUInt32 >>> (((2 : Int32)).toUInt32 &&& Int32.toUInt32 31)).toInt32) &&& (858993459 : Int32)))).toUInt32 >>> (((4 : Int32)).toUInt32 &&& Int32.toUInt32 31)).toInt32)) &&& (252645135 : Int32))).toUInt32 >>> (((8 : Int32)).toUInt32 &&& Int32.toUInt32 31)).toInt32))).toUInt32 >>> (((16 : Int32)).toUInt32 &&& Int32.toUInt32 31)).toInt32)) hx hb dJ6_bitCount_0f7a4_45 rfl ?_
  refine lv_iadd hx hb dJ6_bitCount_0f7a4_46 ?_
  refine lv_istore_n (lv' := [(0, .int (((((((x1 - ((((x1).toUInt32 >>> (((1 : Int32)).toUInt32 &&& Int32.toUInt32 31)).toInt32) &&& (1431655765 : Int32))) &&& (858993459 : Int32)) + (((((x1 - ((((x1).toUInt32 >>> (((1 : Int32)).toUInt32 &&& Int32.toUInt32 31)).toInt32) &&& (1431655765 : Int32)))).toUInt32 >>> (((2 : Int32)).toUInt32 &&& Int32.toUInt32 31)).toInt32) &&& (858993459 : Int32))) + ((((((x1 - ((((x1).toUInt32 >>> (((1 : Int32)).toUInt32 &&& Int32.toUInt32 31)).toInt32) &&& (1431655765 : Int32))) &&& (858993459 : Int32)) + (((((x1 - ((((x1).toUInt32 >>> (((1 : Int32)).toUInt32 &&& Int32.toUInt32 31)).toInt32) &&& (1431655765 : Int32)))).toUInt32 >>> (((2 : Int32)).toUInt32 &&& Int32.toUInt32 31)).toInt32) &&& (858993459 : Int32)))).toUInt32 >>> (((4 : Int32)).toUInt32 &&& Int32.toUInt32 31)).toInt32)) &&& (252645135 : Int32)) + ((((((((x1 - ((((x1).toUInt32 >>> (((1 : Int32)).toUInt32 &&& Int32.toUInt32 31)).toInt32) &&& (1431655765 : Int32))) &&& (858993459 : Int32)) + (((((x1 - ((((x1).toUInt32 >>> (((1 : Int32)).toUInt32 &&& Int32.toUInt32 31)).toInt32) &&& (1431655765 : Int32)))).toUInt32 >>> (((2 : Int32)).toUInt32 &&& Int32.toUInt32 31)).toInt32) &&& (858993459 : Int32))) + ((((((x1 - ((((x1).toUInt32 >>> (((1 : Int32)).toUInt32 &&& Int32.toUInt32 31)).toInt32) &&& (1431655765 : Int32))) &&& (858993459 : Int32)) + (((((x1 - ((((x1).toUInt32 >>> (((1 : Int32)).toUInt32 &&& Int32.toUInt32 31)).toInt32) &&& (1431655765 : Int32)))).toUInt32 >>> (((2 : Int32)).toUInt32 &&& Int32.toUInt32 31)).toInt32) &&& (858993459 : Int32)))).toUInt32 >>> (((4 : Int32)).toUInt32 &&& Int32.toUInt32 31)).toInt32)) &&& (252645135 : Int32))).toUInt32 >>> (((8 : Int32)).toUInt32 &&& Int32.toUInt32 31)).toInt32)) + (((((((((x1 - ((((x1).toUInt32 >>> (((1 : Int32)).toUInt32 &&& Int32.toUInt32 31)).toInt32) &&& (1431655765 : Int32))) &&& (858993459 : Int32)) + (((((x1 - ((((x1).toUInt32 >>> (((1 : Int32)).toUInt32 &&& Int32.toUInt32 31)).toInt32) &&& (1431655765 : Int32)))).toUInt32 >>> (((2 : Int32)).toUInt32 &&& Int32.toUInt32 31)).toInt32) &&& (858993459 : Int32))) + ((((((x1 - ((((x1).toUInt32 >>> (((1 : Int32)).toUInt32 &&& Int32.toUInt32 31)).toInt32) &&& (1431655765 : Int32))) &&& (858993459 : Int32)) + (((((x1 - ((((x1).toUInt32 >>> (((1 : Int32)).toUInt32 &&& Int32.toUInt32 31)).toInt32) &&& (1431655765 : Int32)))).toUInt32 >>> (((2 : Int32)).toUInt32 &&& Int32.toUInt32 31)).toInt32) &&& (858993459 : Int32)))).toUInt32 >>> (((4 : Int32)).toUInt32 &&& Int32.toUInt32 31)).toInt32)) &&& (252645135 : Int32)) + ((((((((x1 - ((((x1).toUInt32 >>> (((1 : Int32)).toUInt32 &&& Int32.toUInt32 31)).toInt32) &&& (1431655765 : Int32))) &&& (858993459 : Int32)) + (((((x1 - ((((x1).toUInt32 >>> (((1 : Int32)).toUInt32 &&& Int32.toUInt32 31)).toInt32) &&& (1431655765 : Int32)))).toUInt32 >>> (((2 : Int32)).toUInt32 &&& Int32.toUInt32 31)).toInt32) &&& (858993459 : Int32))) + ((((((x1 - ((((x1).toUInt32 >>> (((1 : Int32)).toUInt32 &&& Int32.toUInt32 31)).toInt32) &&& (1431655765 : Int32))) &&& (858993459 : Int32)) + (((((x1 - ((((x1).toUInt32 >>> (((1 : Int32)).toUInt32 &&& Int32.toUInt32 31)).toInt32) &&& (1431655765 : Int32)))).toUInt32 >>> (((2 : Int32)).toUInt32 &&& Int32.toUInt32 31)).toInt32) &&& (858993459 : Int32)))).toUInt32 >>> (((4 : Int32)).toUInt32 &&& Int32.toUInt32 31)).toInt32)) &&& (252645135 : Int32))).toUInt32 >>> (((8 : Int32)).toUInt32 &&& Int32.toUInt32 31)).toInt32))).toUInt32 >>> (((16 : Int32)).toUInt32 &&& Int32.toUInt32 31)).toInt32)))]) hx hb dJ6_bitCount_0f7a4_47 rfl hl (by decide) rfl (fun ls hl => ?_)
  refine lv_iload_n hx hb dJ6_bitCount_0f7a4_48 rfl (lv_at hl 0 rfl) ?_
  refine lv_bipush (v := (63 : Int32)) hx hb dJ6_bitCount_0f7a4_49 (by decide) ?_
  refine lv_iand hx hb dJ6_bitCount_0f7a4_51 ?_
  cases h
  exact W.iret hx hb hr (fun t9 ht9 _ => zend hP hD hS ht9) hS.2.2 dJ6_bitCount_0f7a4_52
abbrev w_X1_originOf (G : zG) (a : Nat) (a_slips : Nat) (v_count : Int32) (f_slips : (Nat → Int32)) : va_W := [(a, .inr (1, [.ref a_slips, .int v_count])), (a_slips, .inl (zCI G, 8, .inl f_slips))]
theorem in_X1_originOf_X1 : ∀ w ∈ wsX10, w ∈ wsX1_originOf := by decide +kernel
set_option maxHeartbeats 4000000 in
set_option maxRecDepth 100000 in
theorem c_X1_originOf (l : Launch) (G : zG) (fu : Nat) (a : Nat) (a_slips : Nat) (v_count : Int32) (f_slips : (Nat → Int32)) (x1 : Int32) (rv : Int32) (h : fX1_originOf fu v_count f_slips x1 = some rv) : zC l yX1_originOf wsX1_originOf 1 22 G [.ref a, .int x1] (w_X1_originOf G a a_slips v_count f_slips) (some (.int rv)) (w_X1_originOf G a a_slips v_count f_slips) := by
  refine fun sz => Met.ofW (cc := cX1_originOf) (maxL := 5) (ret := (some .int)) (by decide) rfl ?_
  intro p e s m args below meth c s₁ B hml hv
  obtain ⟨rfl, hsz, hP, hK, hD0, hE⟩ := hv
  have hx := B.exec
  have hb := B.bytes
  have hr := B.returns
  have hts := atoms_spec (ws := wsX1_originOf) B.pre
  have hown : s.vm.findClass RX1 = some m.cls := findClass_of_methodNamed B.named
  have hlocks := B.notSynchronized
  subst hsz
  have hD := hD0.self (sz := s.heap.size)
  generalize hAe : va_A (w_X1_originOf G a a_slips v_count f_slips) s.heap.size = A at hD hE ⊢
  have hA : ∀ q : Nat, s.heap.size ≤ q → A q := fun q h => by rw [← hAe]; exact Or.inr h
  have hS : va_S A s.heap s.heap [] := va_S.rf
  have hl := lv_entry ([.ref a, .int x1]) (n := 5) (Nat.le_of_ble_eq_true rfl)
  rw [lg_entry_eq]
  generalize (lg_sl ([.ref a, .int x1]) ++ List.replicate (5 - (lg_sl ([.ref a, .int x1])).length) Slot.unset).toArray = ls at hl ⊢
  have hl : lv_has ls 5 [(0, .ref a), (1, .int x1)] := hl
  have hP : va_P G.1 vwCl (w_X1_originOf G a a_slips v_count f_slips) s.heap := hP
  rw [fX1_originOf] at h
  refine lv_bipush (v := ((-9) : Int32)) hx hb dX1_originOf_0 (by decide) ?_
  refine lv_istore_n (lv' := [(2, .int ((-9) : Int32)), (0, .ref a), (1, .int x1)]) hx hb dX1_originOf_2 rfl hl (by decide) rfl (fun ls hl => ?_)
  refine lv_iconst (v := ((-1) : Int32)) hx hb dX1_originOf_3 (by decide) ?_
  refine lv_istore_n (lv' := [(3, .int ((-1) : Int32)), (2, .int ((-9) : Int32)), (0, .ref a), (1, .int x1)]) hx hb dX1_originOf_4 rfl hl (by decide) rfl (fun ls hl => ?_)
  refine lv_iconst (v := (0 : Int32)) hx hb dX1_originOf_5 (by decide) ?_
  refine lv_istore (lv' := [(4, .int (0 : Int32)), (3, .int ((-1) : Int32)), (2, .int ((-9) : Int32)), (0, .ref a), (1, .int x1)]) hx hb dX1_originOf_6 hl (by decide) rfl (fun ls hl => ?_)
  have loop_8 : ∀ (n : Nat) (K : Int32 → Option Int32) (l2_8 : Int32) (l3_8 : Int32) (l4_8 : Int32) (H : Heap) (locs : List Loc) (ls : Array Slot), fX1_originOf_L8 fu x1 v_count f_slips K n l2_8 l3_8 l4_8 = some rv → (∀ (l2_8e : Int32) (H : Heap) (locs : List Loc) (ls : Array Slot), K l2_8e = some rv → va_P G.1 vwCl (w_X1_originOf G a a_slips v_count f_slips) H → va_D A (w_X1_originOf G a a_slips v_count f_slips) → va_S A s.heap H locs → lv_has ls 5 [(2, .int l2_8e)] → W p l e (headSpec wsX1_originOf { frames := 1, cells := 0, slots := 0, locals := 22 }).room s m ([.ref a, .int x1] : List Value).toArray below meth c H locs 0 0 (MQ below (zQ (some (.int rv)) G (w_X1_originOf G a a_slips v_count f_slips) A) ([.ref a, .int x1] : List Value).toArray s 0 0 A) (F0 m 61 ls [])) → va_P G.1 vwCl (w_X1_originOf G a a_slips v_count f_slips) H → va_D A (w_X1_originOf G a a_slips v_count f_slips) → va_S A s.heap H locs → lv_has ls 5 [(0, .ref a), (1, .int x1), (2, .int l2_8), (3, .int l3_8), (4, .int l4_8)] → W p l e (headSpec wsX1_originOf { frames := 1, cells := 0, slots := 0, locals := 22 }).room s m ([.ref a, .int x1] : List Value).toArray below meth c H locs 0 0 (MQ below (zQ (some (.int rv)) G (w_X1_originOf G a a_slips v_count f_slips) A) ([.ref a, .int x1] : List Value).toArray s 0 0 A) (F0 m 8 ls []) := by
    intro n
    induction n with
    | zero => intro K l2_8 l3_8 l4_8 H locs ls h; rw [fX1_originOf_L8] at h; cases h
    | succ n ih =>
      intro K l2_8 l3_8 l4_8 H locs ls h hk hP hD hS hl
      rw [fX1_originOf_L8] at h
      refine lv_iload hx hb dX1_originOf_8 (lv_at hl 4 rfl) ?_
      refine lv_aload_n hx hb dX1_originOf_10 rfl (lv_at hl 0 rfl) ?_
      refine va_get (D := G.1) (ci := 1) (v := .int v_count) (C := RX1) (T := TX1) (N := 2) hx hb hts in_X1_originOf_X1 hown hK.1 hP 0 rfl rfl 1 (by decide) (hts (.fieldLink RX1 15 "NineHands$Copies" "count" "I") (by decide +kernel)) (fun _ h9 => h9) rfl dX1_originOf_11 ?_
      refine lv_icmp_ge (tgt := 61) hx hb dX1_originOf_14 (by decide) (fun c14 => ?_) (fun c14 => ?_)
      · have h := zt c14 h
        exact hk _ _ _ _ h hP hD hS (lv_sub hl [2] rfl)
      · have h := zf c14 h
        refine lv_aload_n hx hb dX1_originOf_17 rfl (lv_at hl 0 rfl) ?_
        refine lv_iload_n hx hb dX1_originOf_18 rfl (lv_at hl 1 rfl) ?_
        refine lv_iload hx hb dX1_originOf_19 (lv_at hl 4 rfl) ?_
        obtain ⟨y21, hc21, h⟩ := zb1_e h
        refine zcV (As := [.int x1, .int l4_8]) (rest := []) (ws' := (w_X1_originOf G a a_slips v_count f_slips)) (st1 := [.int y21]) ⟨hx, hb, hml, hown, hts⟩ (c_X1_canComeOf l G a a_slips v_count f_slips x1 l4_8 y21 hc21) (cwV 2 hts gX1_originOf_X1_canComeOf rfl rfl rfl (by decide +kernel) ⟨Nat.le_of_ble_eq_true rfl, Nat.le_of_ble_eq_true rfl⟩) hK hE hP hD hS hA [0, 1] rfl rfl 0 1 rfl rfl rfl rfl rfl rfl hl.1 rfl (Nat.le_of_ble_eq_true rfl) dX1_originOf_21 (Nat.zero_le _) (Nat.zero_le _) rfl (fun H locs hP hD hS => ?_)
        refine lv_if_eq (tgt := 55) hx hb dX1_originOf_24 (by decide) (fun c24 => ?_) (fun c24 => ?_)
        · have h := zt c24 h
          refine lv_iinc (v := (l4_8 + (1 : Int32))) (lv' := [(4, .int (l4_8 + (1 : Int32))), (0, .ref a), (1, .int x1), (2, .int l2_8), (3, .int l3_8)]) hx hb dX1_originOf_55 hl (k := 4) rfl rfl (by decide) rfl (fun ls hl => ?_)
          refine lv_goto (tgt := 8) hx hb dX1_originOf_58 (by decide) ?_
          exact ih K _ _ _ _ _ _ h hk hP hD hS (lv_sub hl [1, 2, 3, 4, 0] rfl)
        · have h := zf c24 h
          refine lv_aload_n hx hb dX1_originOf_27 rfl (lv_at hl 0 rfl) ?_
          refine va_get (D := G.1) (ci := 1) (v := .ref a_slips) (C := RX1) (T := TX1) (N := 2) hx hb hts in_X1_originOf_X1 hown hK.1 hP 0 rfl rfl 0 (by decide) (hts (.fieldLink RX1 9 "NineHands$Copies" "slips" "[I") (by decide +kernel)) (fun _ h9 => h9) rfl dX1_originOf_28 ?_
          refine lv_iload hx hb dX1_originOf_31 (lv_at hl 4 rfl) ?_
          obtain ⟨g33, h⟩ := zg h
          refine zald hx hb hK.1 hP 1 0 rfl rfl g33 (j := (l4_8).toNatClampNeg) rfl dX1_originOf_33 ?_
          obtain ⟨y34, hc34, h⟩ := zb1_e h
          refine zcS (As := [.int (f_slips (l4_8).toNatClampNeg)]) (rest := []) (ws' := (w_X1_originOf G a a_slips v_count f_slips)) (st1 := [.int y34]) ⟨hx, hb, hml, hown, hts⟩ (c_J6_bitCount_0f7a4 l G (f_slips (l4_8).toNatClampNeg) y34 hc34) (va_cwS 1 hts gX1_originOf_J6_bitCount_0f7a4 rfl rfl rfl (by decide +kernel) ⟨Nat.le_of_ble_eq_true rfl, Nat.le_of_ble_eq_true rfl⟩) hK hE hP hD hS hA [] rfl rfl rfl rfl rfl hl.1 rfl (Nat.le_of_ble_eq_true rfl) dX1_originOf_34 (Nat.zero_le _) (Nat.zero_le _) rfl (fun H locs hP hD hS => ?_)
          refine lv_iload_n hx hb dX1_originOf_37 rfl (lv_at hl 3 rfl) ?_
          refine lv_icmp_le (tgt := 55) hx hb dX1_originOf_38 (by decide) (fun c38 => ?_) (fun c38 => ?_)
          · have h := zt c38 h
            refine lv_iinc (v := (l4_8 + (1 : Int32))) (lv' := [(4, .int (l4_8 + (1 : Int32))), (0, .ref a), (1, .int x1), (2, .int l2_8), (3, .int l3_8)]) hx hb dX1_originOf_55 hl (k := 4) rfl rfl (by decide) rfl (fun ls hl => ?_)
            refine lv_goto (tgt := 8) hx hb dX1_originOf_58 (by decide) ?_
            exact ih K _ _ _ _ _ _ h hk hP hD hS (lv_sub hl [1, 2, 3, 4, 0] rfl)
          · have h := zf c38 h
            refine lv_aload_n hx hb dX1_originOf_41 rfl (lv_at hl 0 rfl) ?_
            refine va_get (D := G.1) (ci := 1) (v := .ref a_slips) (C := RX1) (T := TX1) (N := 2) hx hb hts in_X1_originOf_X1 hown hK.1 hP 0 rfl rfl 0 (by decide) (hts (.fieldLink RX1 9 "NineHands$Copies" "slips" "[I") (by decide +kernel)) (fun _ h9 => h9) rfl dX1_originOf_42 ?_
            refine lv_iload hx hb dX1_originOf_45 (lv_at hl 4 rfl) ?_
            refine zald hx hb hK.1 hP 1 0 rfl rfl g33 (j := (l4_8).toNatClampNeg) rfl dX1_originOf_47 ?_
            obtain ⟨y48, hc48, h⟩ := zb1_e h
            refine zcS (As := [.int (f_slips (l4_8).toNatClampNeg)]) (rest := []) (ws' := (w_X1_originOf G a a_slips v_count f_slips)) (st1 := [.int y48]) ⟨hx, hb, hml, hown, hts⟩ (c_J6_bitCount_0f7a4 l G (f_slips (l4_8).toNatClampNeg) y48 hc48) (va_cwS 1 hts gX1_originOf_J6_bitCount_0f7a4 rfl rfl rfl (by decide +kernel) ⟨Nat.le_of_ble_eq_true rfl, Nat.le_of_ble_eq_true rfl⟩) hK hE hP hD hS hA [] rfl rfl rfl rfl rfl hl.1 rfl (Nat.le_of_ble_eq_true rfl) dX1_originOf_48 (Nat.zero_le _) (Nat.zero_le _) rfl (fun H locs hP hD hS => ?_)
            refine lv_istore_n (lv' := [(3, .int y48), (0, .ref a), (1, .int x1), (2, .int l2_8), (4, .int l4_8)]) hx hb dX1_originOf_51 rfl hl (by decide) rfl (fun ls hl => ?_)
            refine lv_iload hx hb dX1_originOf_52 (lv_at hl 4 rfl) ?_
            refine lv_istore_n (lv' := [(2, .int l4_8), (3, .int y48), (0, .ref a), (1, .int x1), (4, .int l4_8)]) hx hb dX1_originOf_54 rfl hl (by decide) rfl (fun ls hl => ?_)
            refine lv_iinc (v := (l4_8 + (1 : Int32))) (lv' := [(4, .int (l4_8 + (1 : Int32))), (2, .int l4_8), (3, .int y48), (0, .ref a), (1, .int x1)]) hx hb dX1_originOf_55 hl (k := 4) rfl rfl (by decide) rfl (fun ls hl => ?_)
            refine lv_goto (tgt := 8) hx hb dX1_originOf_58 (by decide) ?_
            exact ih K _ _ _ _ _ _ h hk hP hD hS (lv_sub hl [3, 4, 1, 2, 0] rfl)
  refine loop_8 fu _ _ _ _ _ _ _ h (fun l2_8e H locs ls h hP hD hS hl => ?_) hP hD hS (lv_sub hl [3, 4, 2, 1, 0] rfl)
  refine lv_iload_n hx hb dX1_originOf_61 rfl (lv_at hl 0 rfl) ?_
  cases h
  exact W.iret hx hb hr (fun t9 ht9 _ => zend hP hD hS ht9) hS.2.2 dX1_originOf_62
abbrev w_X1_depthOf (G : zG) (a : Nat) (a_slips : Nat) (v_count : Int32) (f_slips : (Nat → Int32)) : va_W := [(a, .inr (1, [.ref a_slips, .int v_count])), (a_slips, .inl (zCI G, 8, .inl f_slips))]
set_option maxHeartbeats 4000000 in
set_option maxRecDepth 100000 in
theorem c_X1_depthOf (l : Launch) (G : zG) (fu : Nat) (a : Nat) (a_slips : Nat) (v_count : Int32) (f_slips : (Nat → Int32)) (x1 : Int32) (rv : Int32) (h : fX1_depthOf fu v_count f_slips x1 = some rv) : zC l yX1_depthOf wsX1_depthOf 2 46 G [.ref a, .int x1] (w_X1_depthOf G a a_slips v_count f_slips) (some (.int rv)) (w_X1_depthOf G a a_slips v_count f_slips) := by
  refine fun sz => Met.ofW (cc := cX1_depthOf) (maxL := 4) (ret := (some .int)) (by decide) rfl ?_
  intro p e s m args below meth c s₁ B hml hv
  obtain ⟨rfl, hsz, hP, hK, hD0, hE⟩ := hv
  have hx := B.exec
  have hb := B.bytes
  have hr := B.returns
  have hts := atoms_spec (ws := wsX1_depthOf) B.pre
  have hown : s.vm.findClass RX1 = some m.cls := findClass_of_methodNamed B.named
  have hlocks := B.notSynchronized
  subst hsz
  have hD := hD0.self (sz := s.heap.size)
  generalize hAe : va_A (w_X1_depthOf G a a_slips v_count f_slips) s.heap.size = A at hD hE ⊢
  have hA : ∀ q : Nat, s.heap.size ≤ q → A q := fun q h => by rw [← hAe]; exact Or.inr h
  have hS : va_S A s.heap s.heap [] := va_S.rf
  have hl := lv_entry ([.ref a, .int x1]) (n := 4) (Nat.le_of_ble_eq_true rfl)
  rw [lg_entry_eq]
  generalize (lg_sl ([.ref a, .int x1]) ++ List.replicate (4 - (lg_sl ([.ref a, .int x1])).length) Slot.unset).toArray = ls at hl ⊢
  have hl : lv_has ls 4 [(0, .ref a), (1, .int x1)] := hl
  have hP : va_P G.1 vwCl (w_X1_depthOf G a a_slips v_count f_slips) s.heap := hP
  rw [fX1_depthOf] at h
  refine lv_iconst (v := (0 : Int32)) hx hb dX1_depthOf_0 (by decide) ?_
  refine lv_istore_n (lv' := [(2, .int (0 : Int32)), (0, .ref a), (1, .int x1)]) hx hb dX1_depthOf_1 rfl hl (by decide) rfl (fun ls hl => ?_)
  refine lv_aload_n hx hb dX1_depthOf_2 rfl (lv_at hl 1 rfl) ?_
  refine lv_iload_n hx hb dX1_depthOf_3 rfl (lv_at hl 2 rfl) ?_
  obtain ⟨y4, hc4, h⟩ := zb1_e h
  refine zcV (As := [.int x1]) (rest := []) (ws' := (w_X1_depthOf G a a_slips v_count f_slips)) (st1 := [.int y4]) ⟨hx, hb, hml, hown, hts⟩ (c_X1_originOf l G fu a a_slips v_count f_slips x1 y4 hc4) (cwV 1 hts gX1_depthOf_X1_originOf rfl rfl rfl (by decide +kernel) ⟨Nat.le_of_ble_eq_true rfl, Nat.le_of_ble_eq_true rfl⟩) hK hE hP hD hS hA [0, 1] rfl rfl 0 1 rfl rfl rfl rfl rfl rfl hl.1 rfl (Nat.le_of_ble_eq_true rfl) dX1_depthOf_4 (Nat.zero_le _) (Nat.zero_le _) rfl (fun H locs hP hD hS => ?_)
  refine lv_istore_n (lv' := [(3, .int y4), (2, .int (0 : Int32)), (0, .ref a), (1, .int x1)]) hx hb dX1_depthOf_7 rfl hl (by decide) rfl (fun ls hl => ?_)
  have loop_8 : ∀ (n : Nat) (K : Int32 → Option Int32) (l2_8 : Int32) (l3_8 : Int32) (H : Heap) (locs : List Loc) (ls : Array Slot), fX1_depthOf_L8 fu v_count f_slips K n l2_8 l3_8 = some rv → (∀ (l2_8e : Int32) (H : Heap) (locs : List Loc) (ls : Array Slot), K l2_8e = some rv → va_P G.1 vwCl (w_X1_depthOf G a a_slips v_count f_slips) H → va_D A (w_X1_depthOf G a a_slips v_count f_slips) → va_S A s.heap H locs → lv_has ls 4 [(2, .int l2_8e)] → W p l e (headSpec wsX1_depthOf { frames := 2, cells := 0, slots := 0, locals := 46 }).room s m ([.ref a, .int x1] : List Value).toArray below meth c H locs 0 0 (MQ below (zQ (some (.int rv)) G (w_X1_depthOf G a a_slips v_count f_slips) A) ([.ref a, .int x1] : List Value).toArray s 0 0 A) (F0 m 32 ls [])) → va_P G.1 vwCl (w_X1_depthOf G a a_slips v_count f_slips) H → va_D A (w_X1_depthOf G a a_slips v_count f_slips) → va_S A s.heap H locs → lv_has ls 4 [(0, .ref a), (2, .int l2_8), (3, .int l3_8)] → W p l e (headSpec wsX1_depthOf { frames := 2, cells := 0, slots := 0, locals := 46 }).room s m ([.ref a, .int x1] : List Value).toArray below meth c H locs 0 0 (MQ below (zQ (some (.int rv)) G (w_X1_depthOf G a a_slips v_count f_slips) A) ([.ref a, .int x1] : List Value).toArray s 0 0 A) (F0 m 8 ls []) := by
    intro n
    induction n with
    | zero => intro K l2_8 l3_8 H locs ls h; rw [fX1_depthOf_L8] at h; cases h
    | succ n ih =>
      intro K l2_8 l3_8 H locs ls h hk hP hD hS hl
      rw [fX1_depthOf_L8] at h
      refine lv_iload_n hx hb dX1_depthOf_8 rfl (lv_at hl 2 rfl) ?_
      refine lv_bipush (v := ((-9) : Int32)) hx hb dX1_depthOf_9 (by decide) ?_
      refine lv_icmp_eq (tgt := 32) hx hb dX1_depthOf_11 (by decide) (fun c11 => ?_) (fun c11 => ?_)
      · have h := zt c11 h
        exact hk _ _ _ _ h hP hD hS (lv_sub hl [1] rfl)
      · have h := zf c11 h
        refine lv_iload_n hx hb dX1_depthOf_14 rfl (lv_at hl 1 rfl) ?_
        refine lv_bipush (v := (8 : Int32)) hx hb dX1_depthOf_15 (by decide) ?_
        refine lv_icmp_ge (tgt := 32) hx hb dX1_depthOf_17 (by decide) (fun c17 => ?_) (fun c17 => ?_)
        · have h := zt c17 h
          exact hk _ _ _ _ h hP hD hS (lv_sub hl [1] rfl)
        · have h := zf c17 h
          refine lv_iinc (v := (l2_8 + (1 : Int32))) (lv' := [(2, .int (l2_8 + (1 : Int32))), (0, .ref a), (3, .int l3_8)]) hx hb dX1_depthOf_20 hl (k := 1) rfl rfl (by decide) rfl (fun ls hl => ?_)
          refine lv_aload_n hx hb dX1_depthOf_23 rfl (lv_at hl 1 rfl) ?_
          refine lv_iload_n hx hb dX1_depthOf_24 rfl (lv_at hl 2 rfl) ?_
          obtain ⟨y25, hc25, h⟩ := zb1_e h
          refine zcV (As := [.int l3_8]) (rest := []) (ws' := (w_X1_depthOf G a a_slips v_count f_slips)) (st1 := [.int y25]) ⟨hx, hb, hml, hown, hts⟩ (c_X1_originOf l G fu a a_slips v_count f_slips l3_8 y25 hc25) (cwV 1 hts gX1_depthOf_X1_originOf rfl rfl rfl (by decide +kernel) ⟨Nat.le_of_ble_eq_true rfl, Nat.le_of_ble_eq_true rfl⟩) hK hE hP hD hS hA [0, 1] rfl rfl 0 1 rfl rfl rfl rfl rfl rfl hl.1 rfl (Nat.le_of_ble_eq_true rfl) dX1_depthOf_25 (Nat.zero_le _) (Nat.zero_le _) rfl (fun H locs hP hD hS => ?_)
          refine lv_istore_n (lv' := [(3, .int y25), (2, .int (l2_8 + (1 : Int32))), (0, .ref a)]) hx hb dX1_depthOf_28 rfl hl (by decide) rfl (fun ls hl => ?_)
          refine lv_goto (tgt := 8) hx hb dX1_depthOf_29 (by decide) ?_
          exact ih K _ _ _ _ _ h hk hP hD hS (lv_sub hl [2, 1, 0] rfl)
  refine loop_8 fu _ _ _ _ _ _ h (fun l2_8e H locs ls h hP hD hS hl => ?_) hP hD hS (lv_sub hl [2, 1, 0] rfl)
  refine lv_iload_n hx hb dX1_depthOf_32 rfl (lv_at hl 0 rfl) ?_
  cases h
  exact W.iret hx hb hr (fun t9 ht9 _ => zend hP hD hS ht9) hS.2.2 dX1_depthOf_33
abbrev w_J0_coder_7d493 (G : zG) : va_W := []
set_option maxHeartbeats 4000000 in
set_option maxRecDepth 100000 in
theorem c_J0_coder_7d493 (l : Launch) (G : zG) (si : Nat) (hsi : si < 2) (rv : Int32) (h : fJ0_coder_7d493 si = some rv) : zC l yJ0_coder_7d493 wsJ0_coder_7d493 0 0 G [.ref (G.2.2.1 si)] (w_J0_coder_7d493 G ) (some (.int rv)) (w_J0_coder_7d493 G ) := by
  refine fun sz => Met.ofW (cc := cJ0_coder_7d493) (maxL := 1) (ret := (some .byte)) (by decide) rfl ?_
  intro p e s m args below meth c s₁ B hml hv
  obtain ⟨rfl, hsz, hP, hK, hD0, hE⟩ := hv
  have hx := B.exec
  have hb := B.bytes
  have hr := B.returns
  have hts := atoms_spec (ws := wsJ0_coder_7d493) B.pre
  have hown : s.vm.findClass RJ0 = some m.cls := findClass_of_methodNamed B.named
  have hlocks := B.notSynchronized
  subst hsz
  have hD := hD0.self (sz := s.heap.size)
  generalize hAe : va_A (w_J0_coder_7d493 G ) s.heap.size = A at hD hE ⊢
  have hA : ∀ q : Nat, s.heap.size ≤ q → A q := fun q h => by rw [← hAe]; exact Or.inr h
  have hS : va_S A s.heap s.heap [] := va_S.rf
  have hl := lv_entry ([.ref (G.2.2.1 si)]) (n := 1) (Nat.le_of_ble_eq_true rfl)
  rw [lg_entry_eq]
  generalize (lg_sl ([.ref (G.2.2.1 si)]) ++ List.replicate (1 - (lg_sl ([.ref (G.2.2.1 si)])).length) Slot.unset).toArray = ls at hl ⊢
  have hl : lv_has ls 1 [(0, .ref (G.2.2.1 si))] := hl
  have hP : va_P G.1 vwCl (w_J0_coder_7d493 G ) s.heap := hP
  rw [fJ0_coder_7d493] at h
  refine va_gets hx hb hE.2.1 hS hown (hts (.fieldLink RJ0 38 "java/lang/String" "COMPACT_STRINGS" "Z") (by decide +kernel)) (fun _ h9 => h9) dJ0_coder_7d493_0 ?_
  refine lv_if_eq (tgt := 13) hx hb dJ0_coder_7d493_3 (by decide) (fun c3 => absurd c3 (by decide)) (fun _ => ?_)
  refine lv_aload_n hx hb dJ0_coder_7d493_6 rfl (lv_at hl 0 rfl) ?_
  refine vk_getf hx hb (hE.1.1 si hsi).2.1 hS hown (hts (.fieldLink RJ0 15 "java/lang/String" "coder" "B") (by decide +kernel)) (fun _ h9 => h9) dJ0_coder_7d493_7 ?_
  refine lv_goto (tgt := 14) hx hb dJ0_coder_7d493_10 (by decide) ?_
  cases h
  exact W.zret (ty := .byte) hx hb hr rfl (fun t9 ht9 _ => zend hP hD hS ht9) hS.2.2 dJ0_coder_7d493_14
abbrev w_J0_length_8abf5 (G : zG) : va_W := []
set_option maxHeartbeats 4000000 in
set_option maxRecDepth 100000 in
theorem c_J0_length_8abf5 (l : Launch) (G : zG) (si : Nat) (hsi : si < 2) (rv : Int32) (h : fJ0_length_8abf5 si = some rv) : zC l yJ0_length_8abf5 wsJ0_length_8abf5 1 20 G [.ref (G.2.2.1 si)] (w_J0_length_8abf5 G ) (some (.int rv)) (w_J0_length_8abf5 G ) := by
  refine fun sz => Met.ofW (cc := cJ0_length_8abf5) (maxL := 1) (ret := (some .int)) (by decide) rfl ?_
  intro p e s m args below meth c s₁ B hml hv
  obtain ⟨rfl, hsz, hP, hK, hD0, hE⟩ := hv
  have hx := B.exec
  have hb := B.bytes
  have hr := B.returns
  have hts := atoms_spec (ws := wsJ0_length_8abf5) B.pre
  have hown : s.vm.findClass RJ0 = some m.cls := findClass_of_methodNamed B.named
  have hlocks := B.notSynchronized
  subst hsz
  have hD := hD0.self (sz := s.heap.size)
  generalize hAe : va_A (w_J0_length_8abf5 G ) s.heap.size = A at hD hE ⊢
  have hA : ∀ q : Nat, s.heap.size ≤ q → A q := fun q h => by rw [← hAe]; exact Or.inr h
  have hS : va_S A s.heap s.heap [] := va_S.rf
  have hl := lv_entry ([.ref (G.2.2.1 si)]) (n := 1) (Nat.le_of_ble_eq_true rfl)
  rw [lg_entry_eq]
  generalize (lg_sl ([.ref (G.2.2.1 si)]) ++ List.replicate (1 - (lg_sl ([.ref (G.2.2.1 si)])).length) Slot.unset).toArray = ls at hl ⊢
  have hl : lv_has ls 1 [(0, .ref (G.2.2.1 si))] := hl
  have hP : va_P G.1 vwCl (w_J0_length_8abf5 G ) s.heap := hP
  rw [fJ0_length_8abf5] at h
  refine lv_aload_n hx hb dJ0_length_8abf5_0 rfl (lv_at hl 0 rfl) ?_
  refine vk_getf hx hb (hE.1.1 si hsi).2.2.1 hS hown (hts (.fieldLink RJ0 9 "java/lang/String" "value" "[B") (by decide +kernel)) (fun _ h9 => h9) dJ0_length_8abf5_1 ?_
  refine va_tlen hx hb (hE.1.1 si hsi).2.2.2 hS rfl dJ0_length_8abf5_4 ?_
  refine lv_aload_n hx hb dJ0_length_8abf5_5 rfl (lv_at hl 0 rfl) ?_
  obtain ⟨y6, hc6, h⟩ := zb1_e h
  refine zcVs (As := []) (rest := [.int (Int32.ofNat (zLen.getD si 0))])  (st1 := [.int y6, .int (Int32.ofNat (zLen.getD si 0))]) ⟨hx, hb, hml, hown, hts⟩ (c_J0_coder_7d493 l G si hsi y6 hc6) (cwV 0 hts gJ0_length_8abf5_J0_coder_7d493 rfl rfl rfl (by decide +kernel) ⟨Nat.le_of_ble_eq_true rfl, Nat.le_of_ble_eq_true rfl⟩) hK hE hP hD hS hA (vk_recv hE.1 hsi hS) rfl hl.1 rfl (Nat.le_of_ble_eq_true rfl) dJ0_length_8abf5_6 (Nat.zero_le _) (Nat.zero_le _) rfl (fun H locs hP hD hS => ?_)
  refine lv_ishr hx hb dJ0_length_8abf5_9 ?_
  cases h
  exact W.iret hx hb hr (fun t9 ht9 _ => zend hP hD hS ht9) hS.2.2 dJ0_length_8abf5_10
abbrev w_J0_isLatin1_aae02 (G : zG) : va_W := []
set_option maxHeartbeats 4000000 in
set_option maxRecDepth 100000 in
theorem c_J0_isLatin1_aae02 (l : Launch) (G : zG) (si : Nat) (hsi : si < 2) (rv : Int32) (h : fJ0_isLatin1_aae02 si = some rv) : zC l yJ0_isLatin1_aae02 wsJ0_isLatin1_aae02 0 0 G [.ref (G.2.2.1 si)] (w_J0_isLatin1_aae02 G ) (some (.int rv)) (w_J0_isLatin1_aae02 G ) := by
  refine fun sz => Met.ofW (cc := cJ0_isLatin1_aae02) (maxL := 1) (ret := (some .boolean)) (by decide) rfl ?_
  intro p e s m args below meth c s₁ B hml hv
  obtain ⟨rfl, hsz, hP, hK, hD0, hE⟩ := hv
  have hx := B.exec
  have hb := B.bytes
  have hr := B.returns
  have hts := atoms_spec (ws := wsJ0_isLatin1_aae02) B.pre
  have hown : s.vm.findClass RJ0 = some m.cls := findClass_of_methodNamed B.named
  have hlocks := B.notSynchronized
  subst hsz
  have hD := hD0.self (sz := s.heap.size)
  generalize hAe : va_A (w_J0_isLatin1_aae02 G ) s.heap.size = A at hD hE ⊢
  have hA : ∀ q : Nat, s.heap.size ≤ q → A q := fun q h => by rw [← hAe]; exact Or.inr h
  have hS : va_S A s.heap s.heap [] := va_S.rf
  have hl := lv_entry ([.ref (G.2.2.1 si)]) (n := 1) (Nat.le_of_ble_eq_true rfl)
  rw [lg_entry_eq]
  generalize (lg_sl ([.ref (G.2.2.1 si)]) ++ List.replicate (1 - (lg_sl ([.ref (G.2.2.1 si)])).length) Slot.unset).toArray = ls at hl ⊢
  have hl : lv_has ls 1 [(0, .ref (G.2.2.1 si))] := hl
  have hP : va_P G.1 vwCl (w_J0_isLatin1_aae02 G ) s.heap := hP
  rw [fJ0_isLatin1_aae02] at h
  refine va_gets hx hb hE.2.1 hS hown (hts (.fieldLink RJ0 38 "java/lang/String" "COMPACT_STRINGS" "Z") (by decide +kernel)) (fun _ h9 => h9) dJ0_isLatin1_aae02_0 ?_
  refine lv_if_eq (tgt := 17) hx hb dJ0_isLatin1_aae02_3 (by decide) (fun c3 => absurd c3 (by decide)) (fun _ => ?_)
  refine lv_aload_n hx hb dJ0_isLatin1_aae02_6 rfl (lv_at hl 0 rfl) ?_
  refine vk_getf hx hb (hE.1.1 si hsi).2.1 hS hown (hts (.fieldLink RJ0 15 "java/lang/String" "coder" "B") (by decide +kernel)) (fun _ h9 => h9) dJ0_isLatin1_aae02_7 ?_
  refine lv_if_ne (tgt := 17) hx hb dJ0_isLatin1_aae02_10 (by decide) (fun c10 => absurd c10 (by decide)) (fun _ => ?_)
  refine lv_iconst (v := (1 : Int32)) hx hb dJ0_isLatin1_aae02_13 (by decide) ?_
  refine lv_goto (tgt := 18) hx hb dJ0_isLatin1_aae02_14 (by decide) ?_
  cases h
  exact W.zret (ty := .boolean) hx hb hr rfl (fun t9 ht9 _ => zend hP hD hS ht9) hS.2.2 dJ0_isLatin1_aae02_18
abbrev w_J3_checkIndex_8e157 (G : zG) : va_W := []
set_option maxHeartbeats 4000000 in
set_option maxRecDepth 100000 in
theorem c_J3_checkIndex_8e157 (l : Launch) (G : zG) (fv : Value) (hfv : fv = .null ∨ ∃ t, fv = .ref t) (x1 : Int32) (x2 : Int32) (rv : Int32) (h : fJ3_checkIndex_8e157 x1 x2 = some rv) : zC l yJ3_checkIndex_8e157 wsJ3_checkIndex_8e157 0 0 G [.int x1, .int x2, fv] (w_J3_checkIndex_8e157 G ) (some (.int rv)) (w_J3_checkIndex_8e157 G ) := by
  rcases hfv with rfl | ⟨t9, rfl⟩
  · refine fun sz => Met.ofW (cc := cJ3_checkIndex_8e157) (maxL := 3) (ret := (some .int)) (by decide) rfl ?_
    intro p e s m args below meth c s₁ B hml hv
    obtain ⟨rfl, hsz, hP, hK, hD0, hE⟩ := hv
    have hx := B.exec
    have hb := B.bytes
    have hr := B.returns
    have hts := atoms_spec (ws := wsJ3_checkIndex_8e157) B.pre
    have hown : s.vm.findClass RJ3 = some m.cls := findClass_of_methodNamed B.named
    have hlocks := B.notSynchronized
    subst hsz
    have hD := hD0.self (sz := s.heap.size)
    generalize hAe : va_A (w_J3_checkIndex_8e157 G ) s.heap.size = A at hD hE ⊢
    have hA : ∀ q : Nat, s.heap.size ≤ q → A q := fun q h => by rw [← hAe]; exact Or.inr h
    have hS : va_S A s.heap s.heap [] := va_S.rf
    have hl := lv_entry ([.int x1, .int x2, .null]) (n := 3) (Nat.le_of_ble_eq_true rfl)
    rw [lg_entry_eq]
    generalize (lg_sl ([.int x1, .int x2, .null]) ++ List.replicate (3 - (lg_sl ([.int x1, .int x2, .null])).length) Slot.unset).toArray = ls at hl ⊢
    have hl : lv_has ls 3 [(0, .int x1), (1, .int x2), (2, .null)] := hl
    have hP : va_P G.1 vwCl (w_J3_checkIndex_8e157 G ) s.heap := hP
    rw [fJ3_checkIndex_8e157] at h
    refine lv_iload_n hx hb dJ3_checkIndex_8e157_0 rfl (lv_at hl 0 rfl) ?_
    refine lv_if_lt (tgt := 9) hx hb dJ3_checkIndex_8e157_1 (by decide) (fun c1 => ?_) (fun c1 => ?_)
    · have h := zt c1 h
      cases h
    · have h := zf c1 h
      refine lv_iload_n hx hb dJ3_checkIndex_8e157_4 rfl (lv_at hl 0 rfl) ?_
      refine lv_iload_n hx hb dJ3_checkIndex_8e157_5 rfl (lv_at hl 1 rfl) ?_
      refine lv_icmp_lt (tgt := 16) hx hb dJ3_checkIndex_8e157_6 (by decide) (fun c6 => ?_) (fun c6 => ?_)
      · have h := zt c6 h
        refine lv_iload_n hx hb dJ3_checkIndex_8e157_16 rfl (lv_at hl 0 rfl) ?_
        cases h
        exact W.iret hx hb hr (fun t9 ht9 _ => zend hP hD hS ht9) hS.2.2 dJ3_checkIndex_8e157_17
      · have h := zf c6 h
        cases h
  · refine fun sz => Met.ofW (cc := cJ3_checkIndex_8e157) (maxL := 3) (ret := (some .int)) (by decide) rfl ?_
    intro p e s m args below meth c s₁ B hml hv
    obtain ⟨rfl, hsz, hP, hK, hD0, hE⟩ := hv
    have hx := B.exec
    have hb := B.bytes
    have hr := B.returns
    have hts := atoms_spec (ws := wsJ3_checkIndex_8e157) B.pre
    have hown : s.vm.findClass RJ3 = some m.cls := findClass_of_methodNamed B.named
    have hlocks := B.notSynchronized
    subst hsz
    have hD := hD0.self (sz := s.heap.size)
    generalize hAe : va_A (w_J3_checkIndex_8e157 G ) s.heap.size = A at hD hE ⊢
    have hA : ∀ q : Nat, s.heap.size ≤ q → A q := fun q h => by rw [← hAe]; exact Or.inr h
    have hS : va_S A s.heap s.heap [] := va_S.rf
    have hl := lv_entry ([.int x1, .int x2, (.ref t9)]) (n := 3) (Nat.le_of_ble_eq_true rfl)
    rw [lg_entry_eq]
    generalize (lg_sl ([.int x1, .int x2, (.ref t9)]) ++ List.replicate (3 - (lg_sl ([.int x1, .int x2, (.ref t9)])).length) Slot.unset).toArray = ls at hl ⊢
    have hl : lv_has ls 3 [(0, .int x1), (1, .int x2), (2, (.ref t9))] := hl
    have hP : va_P G.1 vwCl (w_J3_checkIndex_8e157 G ) s.heap := hP
    rw [fJ3_checkIndex_8e157] at h
    refine lv_iload_n hx hb dJ3_checkIndex_8e157_0 rfl (lv_at hl 0 rfl) ?_
    refine lv_if_lt (tgt := 9) hx hb dJ3_checkIndex_8e157_1 (by decide) (fun c1 => ?_) (fun c1 => ?_)
    · have h := zt c1 h
      cases h
    · have h := zf c1 h
      refine lv_iload_n hx hb dJ3_checkIndex_8e157_4 rfl (lv_at hl 0 rfl) ?_
      refine lv_iload_n hx hb dJ3_checkIndex_8e157_5 rfl (lv_at hl 1 rfl) ?_
      refine lv_icmp_lt (tgt := 16) hx hb dJ3_checkIndex_8e157_6 (by decide) (fun c6 => ?_) (fun c6 => ?_)
      · have h := zt c6 h
        refine lv_iload_n hx hb dJ3_checkIndex_8e157_16 rfl (lv_at hl 0 rfl) ?_
        cases h
        exact W.iret hx hb hr (fun t9 ht9 _ => zend hP hD hS ht9) hS.2.2 dJ3_checkIndex_8e157_17
      · have h := zf c6 h
        cases h
abbrev w_J0_checkIndex_df160 (G : zG) : va_W := []
set_option maxHeartbeats 4000000 in
set_option maxRecDepth 100000 in
theorem c_J0_checkIndex_df160 (l : Launch) (G : zG) (x1 : Int32) (x2 : Int32) (h : fJ0_checkIndex_df160 x1 x2 = some ()) : zC l yJ0_checkIndex_df160 wsJ0_checkIndex_df160 1 22 G [.int x1, .int x2] (w_J0_checkIndex_df160 G ) none (w_J0_checkIndex_df160 G ) := by
  refine fun sz => Met.ofW (cc := cJ0_checkIndex_df160) (maxL := 2) (ret := none) (by decide) rfl ?_
  intro p e s m args below meth c s₁ B hml hv
  obtain ⟨rfl, hsz, hP, hK, hD0, hE⟩ := hv
  have hx := B.exec
  have hb := B.bytes
  have hr := B.returns
  have hts := atoms_spec (ws := wsJ0_checkIndex_df160) B.pre
  have hown : s.vm.findClass RJ0 = some m.cls := findClass_of_methodNamed B.named
  have hlocks := B.notSynchronized
  subst hsz
  have hD := hD0.self (sz := s.heap.size)
  generalize hAe : va_A (w_J0_checkIndex_df160 G ) s.heap.size = A at hD hE ⊢
  have hA : ∀ q : Nat, s.heap.size ≤ q → A q := fun q h => by rw [← hAe]; exact Or.inr h
  have hS : va_S A s.heap s.heap [] := va_S.rf
  have hl := lv_entry ([.int x1, .int x2]) (n := 2) (Nat.le_of_ble_eq_true rfl)
  rw [lg_entry_eq]
  generalize (lg_sl ([.int x1, .int x2]) ++ List.replicate (2 - (lg_sl ([.int x1, .int x2])).length) Slot.unset).toArray = ls at hl ⊢
  have hl : lv_has ls 2 [(0, .int x1), (1, .int x2)] := hl
  have hP : va_P G.1 vwCl (w_J0_checkIndex_df160 G ) s.heap := hP
  rw [fJ0_checkIndex_df160] at h
  rcases hE.2.2 with hZ | ⟨t9, hZ⟩
  · refine lv_iload_n hx hb dJ0_checkIndex_df160_0 rfl (lv_at hl 0 rfl) ?_
    refine lv_iload_n hx hb dJ0_checkIndex_df160_1 rfl (lv_at hl 1 rfl) ?_
    refine va_gets hx hb hZ hS hown (hts (.fieldLink RJ0 1053 "jdk/internal/util/Preconditions" "SIOOBE_FORMATTER" "Ljava/util/function/BiFunction;") (by decide +kernel)) (fun _ h9 => h9) dJ0_checkIndex_df160_2 ?_
    obtain ⟨y5, hc5, h⟩ := zb1_e h
    refine zcS (As := [.int x1, .int x2, .null]) (rest := []) (ws' := (w_J0_checkIndex_df160 G )) (st1 := [.int y5]) ⟨hx, hb, hml, hown, hts⟩ (c_J3_checkIndex_8e157 l G .null (Or.inl rfl) x1 x2 y5 hc5) (va_cwS 3 hts gJ0_checkIndex_df160_J3_checkIndex_8e157 rfl rfl rfl (by decide +kernel) ⟨Nat.le_of_ble_eq_true rfl, Nat.le_of_ble_eq_true rfl⟩) hK hE hP hD hS hA [] rfl rfl rfl rfl rfl hl.1 rfl (Nat.le_of_ble_eq_true rfl) dJ0_checkIndex_df160_5 (Nat.zero_le _) (Nat.zero_le _) rfl (fun H locs hP hD hS => ?_)
    refine lv_pop hx hb dJ0_checkIndex_df160_8 rfl ?_
    cases h
    exact W.vret hx hb hr (fun t9 ht9 _ => zend hP hD hS ht9) hS.2.2 dJ0_checkIndex_df160_9
  · refine lv_iload_n hx hb dJ0_checkIndex_df160_0 rfl (lv_at hl 0 rfl) ?_
    refine lv_iload_n hx hb dJ0_checkIndex_df160_1 rfl (lv_at hl 1 rfl) ?_
    refine va_gets hx hb hZ hS hown (hts (.fieldLink RJ0 1053 "jdk/internal/util/Preconditions" "SIOOBE_FORMATTER" "Ljava/util/function/BiFunction;") (by decide +kernel)) (fun _ h9 => h9) dJ0_checkIndex_df160_2 ?_
    obtain ⟨y5, hc5, h⟩ := zb1_e h
    refine zcS (As := [.int x1, .int x2, (.ref t9)]) (rest := []) (ws' := (w_J0_checkIndex_df160 G )) (st1 := [.int y5]) ⟨hx, hb, hml, hown, hts⟩ (c_J3_checkIndex_8e157 l G (.ref t9) (Or.inr ⟨_, rfl⟩) x1 x2 y5 hc5) (va_cwS 3 hts gJ0_checkIndex_df160_J3_checkIndex_8e157 rfl rfl rfl (by decide +kernel) ⟨Nat.le_of_ble_eq_true rfl, Nat.le_of_ble_eq_true rfl⟩) hK hE hP hD hS hA [] rfl rfl rfl rfl rfl hl.1 rfl (Nat.le_of_ble_eq_true rfl) dJ0_checkIndex_df160_5 (Nat.zero_le _) (Nat.zero_le _) rfl (fun H locs hP hD hS => ?_)
    refine lv_pop hx hb dJ0_checkIndex_df160_8 rfl ?_
    cases h
    exact W.vret hx hb hr (fun t9 ht9 _ => zend hP hD hS ht9) hS.2.2 dJ0_checkIndex_df160_9
abbrev w_J1_charAt_3b067 (G : zG) : va_W := []
set_option maxHeartbeats 4000000 in
set_option maxRecDepth 100000 in
theorem c_J1_charAt_3b067 (l : Launch) (G : zG) (si : Nat) (hsi : si < 2) (x2 : Int32) (rv : Int32) (h : fJ1_charAt_3b067 si x2 = some rv) : zC l yJ1_charAt_3b067 wsJ1_charAt_3b067 2 43 G [.ref (G.2.2.2 si), .int x2] (w_J1_charAt_3b067 G ) (some (.int rv)) (w_J1_charAt_3b067 G ) := by
  refine fun sz => Met.ofW (cc := cJ1_charAt_3b067) (maxL := 2) (ret := (some .char)) (by decide) rfl ?_
  intro p e s m args below meth c s₁ B hml hv
  obtain ⟨rfl, hsz, hP, hK, hD0, hE⟩ := hv
  have hx := B.exec
  have hb := B.bytes
  have hr := B.returns
  have hts := atoms_spec (ws := wsJ1_charAt_3b067) B.pre
  have hown : s.vm.findClass RJ1 = some m.cls := findClass_of_methodNamed B.named
  have hlocks := B.notSynchronized
  subst hsz
  have hD := hD0.self (sz := s.heap.size)
  generalize hAe : va_A (w_J1_charAt_3b067 G ) s.heap.size = A at hD hE ⊢
  have hA : ∀ q : Nat, s.heap.size ≤ q → A q := fun q h => by rw [← hAe]; exact Or.inr h
  have hS : va_S A s.heap s.heap [] := va_S.rf
  have hl := lv_entry ([.ref (G.2.2.2 si), .int x2]) (n := 2) (Nat.le_of_ble_eq_true rfl)
  rw [lg_entry_eq]
  generalize (lg_sl ([.ref (G.2.2.2 si), .int x2]) ++ List.replicate (2 - (lg_sl ([.ref (G.2.2.2 si), .int x2])).length) Slot.unset).toArray = ls at hl ⊢
  have hl : lv_has ls 2 [(0, .ref (G.2.2.2 si)), (1, .int x2)] := hl
  have hP : va_P G.1 vwCl (w_J1_charAt_3b067 G ) s.heap := hP
  rw [fJ1_charAt_3b067] at h
  refine lv_iload_n hx hb dJ1_charAt_3b067_0 rfl (lv_at hl 1 rfl) ?_
  refine lv_aload_n hx hb dJ1_charAt_3b067_1 rfl (lv_at hl 0 rfl) ?_
  refine va_tlen hx hb (hE.1.1 si hsi).2.2.2 hS rfl dJ1_charAt_3b067_2 ?_
  obtain ⟨u3, hc3, h⟩ := zb1_e h
  refine zcS (As := [.int x2, .int (Int32.ofNat (zLen.getD si 0))]) (rest := []) (ws' := (w_J1_charAt_3b067 G )) (st1 := []) ⟨hx, hb, hml, hown, hts⟩ (c_J0_checkIndex_df160 l G x2 (Int32.ofNat (zLen.getD si 0)) hc3) (va_cwS 2 hts gJ1_charAt_3b067_J0_checkIndex_df160 rfl rfl rfl (by decide +kernel) ⟨Nat.le_of_ble_eq_true rfl, Nat.le_of_ble_eq_true rfl⟩) hK hE hP hD hS hA [] rfl rfl rfl rfl rfl hl.1 rfl (Nat.le_of_ble_eq_true rfl) dJ1_charAt_3b067_3 (Nat.zero_le _) (Nat.zero_le _) rfl (fun H locs hP hD hS => ?_)
  refine lv_aload_n hx hb dJ1_charAt_3b067_6 rfl (lv_at hl 0 rfl) ?_
  refine lv_iload_n hx hb dJ1_charAt_3b067_7 rfl (lv_at hl 1 rfl) ?_
  obtain ⟨g8, h⟩ := zg h
  refine va_tb hx hb (hE.1.1 si hsi).2.2.2 hS g8 rfl dJ1_charAt_3b067_8 ?_
  refine lv_sipush (v := (255 : Int32)) hx hb dJ1_charAt_3b067_9 (by decide) ?_
  refine lv_iand hx hb dJ1_charAt_3b067_12 ?_
  refine lv_i2c (v := ((((((zByt.getD si []).getD (x2).toNatClampNeg 0) &&& (255 : Int32))).toUInt32 % 65536).toInt32)) hx hb dJ1_charAt_3b067_13 rfl ?_
  cases h
  exact W.zret (ty := .char) hx hb hr (pk_nc _) (fun t9 ht9 _ => zend hP hD hS ht9) hS.2.2 dJ1_charAt_3b067_14
abbrev w_J0_charAt_5068e (G : zG) : va_W := []
set_option maxHeartbeats 4000000 in
set_option maxRecDepth 100000 in
theorem c_J0_charAt_5068e (l : Launch) (G : zG) (si : Nat) (hsi : si < 2) (x1 : Int32) (rv : Int32) (h : fJ0_charAt_5068e si x1 = some rv) : zC l yJ0_charAt_5068e wsJ0_charAt_5068e 3 64 G [.ref (G.2.2.1 si), .int x1] (w_J0_charAt_5068e G ) (some (.int rv)) (w_J0_charAt_5068e G ) := by
  refine fun sz => Met.ofW (cc := cJ0_charAt_5068e) (maxL := 2) (ret := (some .char)) (by decide) rfl ?_
  intro p e s m args below meth c s₁ B hml hv
  obtain ⟨rfl, hsz, hP, hK, hD0, hE⟩ := hv
  have hx := B.exec
  have hb := B.bytes
  have hr := B.returns
  have hts := atoms_spec (ws := wsJ0_charAt_5068e) B.pre
  have hown : s.vm.findClass RJ0 = some m.cls := findClass_of_methodNamed B.named
  have hlocks := B.notSynchronized
  subst hsz
  have hD := hD0.self (sz := s.heap.size)
  generalize hAe : va_A (w_J0_charAt_5068e G ) s.heap.size = A at hD hE ⊢
  have hA : ∀ q : Nat, s.heap.size ≤ q → A q := fun q h => by rw [← hAe]; exact Or.inr h
  have hS : va_S A s.heap s.heap [] := va_S.rf
  have hl := lv_entry ([.ref (G.2.2.1 si), .int x1]) (n := 2) (Nat.le_of_ble_eq_true rfl)
  rw [lg_entry_eq]
  generalize (lg_sl ([.ref (G.2.2.1 si), .int x1]) ++ List.replicate (2 - (lg_sl ([.ref (G.2.2.1 si), .int x1])).length) Slot.unset).toArray = ls at hl ⊢
  have hl : lv_has ls 2 [(0, .ref (G.2.2.1 si)), (1, .int x1)] := hl
  have hP : va_P G.1 vwCl (w_J0_charAt_5068e G ) s.heap := hP
  rw [fJ0_charAt_5068e] at h
  refine lv_aload_n hx hb dJ0_charAt_5068e_0 rfl (lv_at hl 0 rfl) ?_
  obtain ⟨y1, hc1, h⟩ := zb1_e h
  refine zcVs (As := []) (rest := [])  (st1 := [.int y1]) ⟨hx, hb, hml, hown, hts⟩ (c_J0_isLatin1_aae02 l G si hsi y1 hc1) (cwV 0 hts gJ0_charAt_5068e_J0_isLatin1_aae02 rfl rfl rfl (by decide +kernel) ⟨Nat.le_of_ble_eq_true rfl, Nat.le_of_ble_eq_true rfl⟩) hK hE hP hD hS hA (vk_recv hE.1 hsi hS) rfl hl.1 rfl (Nat.le_of_ble_eq_true rfl) dJ0_charAt_5068e_1 (Nat.zero_le _) (Nat.zero_le _) rfl (fun H locs hP hD hS => ?_)
  refine lv_if_eq (tgt := 16) hx hb dJ0_charAt_5068e_4 (by decide) (fun c4 => ?_) (fun c4 => ?_)
  · have h := zt c4 h
    cases h
  · have h := zf c4 h
    refine lv_aload_n hx hb dJ0_charAt_5068e_7 rfl (lv_at hl 0 rfl) ?_
    refine vk_getf hx hb (hE.1.1 si hsi).2.2.1 hS hown (hts (.fieldLink RJ0 9 "java/lang/String" "value" "[B") (by decide +kernel)) (fun _ h9 => h9) dJ0_charAt_5068e_8 ?_
    refine lv_iload_n hx hb dJ0_charAt_5068e_11 rfl (lv_at hl 1 rfl) ?_
    obtain ⟨y12, hc12, h⟩ := zb1_e h
    refine zcS (As := [.ref (G.2.2.2 si), .int x1]) (rest := []) (ws' := (w_J0_charAt_5068e G )) (st1 := [.int y12]) ⟨hx, hb, hml, hown, hts⟩ (c_J1_charAt_3b067 l G si hsi x1 y12 hc12) (va_cwS 2 hts gJ0_charAt_5068e_J1_charAt_3b067 rfl rfl rfl (by decide +kernel) ⟨Nat.le_of_ble_eq_true rfl, Nat.le_of_ble_eq_true rfl⟩) hK hE hP hD hS hA [] rfl rfl rfl rfl rfl hl.1 rfl (Nat.le_of_ble_eq_true rfl) dJ0_charAt_5068e_12 (Nat.zero_le _) (Nat.zero_le _) rfl (fun H locs hP hD hS => ?_)
    obtain ⟨g15, h⟩ := zg h
    cases h
    exact W.zret (ty := .char) hx hb hr (zchar g15) (fun t9 ht9 _ => zend hP hD hS ht9) hS.2.2 dJ0_charAt_5068e_15
abbrev w_X7_isTone (G : zG) : va_W := []
set_option maxHeartbeats 4000000 in
set_option maxRecDepth 100000 in
theorem c_X7_isTone (l : Launch) (G : zG) (x1 : Int32) (rv : Int32) (h : fX7_isTone x1 = some rv) : zC l yX7_isTone wsX7_isTone 0 0 G [.int x1] (w_X7_isTone G ) (some (.int rv)) (w_X7_isTone G ) := by
  refine fun sz => Met.ofW (cc := cX7_isTone) (maxL := 1) (ret := (some .boolean)) (by decide) rfl ?_
  intro p e s m args below meth c s₁ B hml hv
  obtain ⟨rfl, hsz, hP, hK, hD0, hE⟩ := hv
  have hx := B.exec
  have hb := B.bytes
  have hr := B.returns
  have hts := atoms_spec (ws := wsX7_isTone) B.pre
  have hown : s.vm.findClass RX7 = some m.cls := findClass_of_methodNamed B.named
  have hlocks := B.notSynchronized
  subst hsz
  have hD := hD0.self (sz := s.heap.size)
  generalize hAe : va_A (w_X7_isTone G ) s.heap.size = A at hD hE ⊢
  have hA : ∀ q : Nat, s.heap.size ≤ q → A q := fun q h => by rw [← hAe]; exact Or.inr h
  have hS : va_S A s.heap s.heap [] := va_S.rf
  have hl := lv_entry ([.int x1]) (n := 1) (Nat.le_of_ble_eq_true rfl)
  rw [lg_entry_eq]
  generalize (lg_sl ([.int x1]) ++ List.replicate (1 - (lg_sl ([.int x1])).length) Slot.unset).toArray = ls at hl ⊢
  have hl : lv_has ls 1 [(0, .int x1)] := hl
  have hP : va_P G.1 vwCl (w_X7_isTone G ) s.heap := hP
  rw [fX7_isTone] at h
  refine lv_iload_n hx hb dX7_isTone_0 rfl (lv_at hl 0 rfl) ?_
  refine lv_if_lt (tgt := 14) hx hb dX7_isTone_1 (by decide) (fun c1 => ?_) (fun c1 => ?_)
  · have h := zt c1 h
    refine lv_iconst (v := (0 : Int32)) hx hb dX7_isTone_14 (by decide) ?_
    cases h
    exact W.zret (ty := .boolean) hx hb hr rfl (fun t9 ht9 _ => zend hP hD hS ht9) hS.2.2 dX7_isTone_15
  · have h := zf c1 h
    refine lv_iload_n hx hb dX7_isTone_4 rfl (lv_at hl 0 rfl) ?_
    refine lv_bipush (v := (9 : Int32)) hx hb dX7_isTone_5 (by decide) ?_
    refine lv_icmp_gt (tgt := 14) hx hb dX7_isTone_7 (by decide) (fun c7 => ?_) (fun c7 => ?_)
    · have h := zt c7 h
      refine lv_iconst (v := (0 : Int32)) hx hb dX7_isTone_14 (by decide) ?_
      cases h
      exact W.zret (ty := .boolean) hx hb hr rfl (fun t9 ht9 _ => zend hP hD hS ht9) hS.2.2 dX7_isTone_15
    · have h := zf c7 h
      refine lv_iconst (v := (1 : Int32)) hx hb dX7_isTone_10 (by decide) ?_
      refine lv_goto (tgt := 15) hx hb dX7_isTone_11 (by decide) ?_
      cases h
      exact W.zret (ty := .boolean) hx hb hr rfl (fun t9 ht9 _ => zend hP hD hS ht9) hS.2.2 dX7_isTone_15
abbrev w_X7_isLine (G : zG) : va_W := []
set_option maxHeartbeats 4000000 in
set_option maxRecDepth 100000 in
theorem c_X7_isLine (l : Launch) (G : zG) (x1 : Int32) (x2 : Int32) (rv : Int32) (h : fX7_isLine x1 x2 = some rv) : zC l yX7_isLine wsX7_isLine 1 20 G [.int x1, .int x2] (w_X7_isLine G ) (some (.int rv)) (w_X7_isLine G ) := by
  refine fun sz => Met.ofW (cc := cX7_isLine) (maxL := 2) (ret := (some .boolean)) (by decide) rfl ?_
  intro p e s m args below meth c s₁ B hml hv
  obtain ⟨rfl, hsz, hP, hK, hD0, hE⟩ := hv
  have hx := B.exec
  have hb := B.bytes
  have hr := B.returns
  have hts := atoms_spec (ws := wsX7_isLine) B.pre
  have hown : s.vm.findClass RX7 = some m.cls := findClass_of_methodNamed B.named
  have hlocks := B.notSynchronized
  subst hsz
  have hD := hD0.self (sz := s.heap.size)
  generalize hAe : va_A (w_X7_isLine G ) s.heap.size = A at hD hE ⊢
  have hA : ∀ q : Nat, s.heap.size ≤ q → A q := fun q h => by rw [← hAe]; exact Or.inr h
  have hS : va_S A s.heap s.heap [] := va_S.rf
  have hl := lv_entry ([.int x1, .int x2]) (n := 2) (Nat.le_of_ble_eq_true rfl)
  rw [lg_entry_eq]
  generalize (lg_sl ([.int x1, .int x2]) ++ List.replicate (2 - (lg_sl ([.int x1, .int x2])).length) Slot.unset).toArray = ls at hl ⊢
  have hl : lv_has ls 2 [(0, .int x1), (1, .int x2)] := hl
  have hP : va_P G.1 vwCl (w_X7_isLine G ) s.heap := hP
  rw [fX7_isLine] at h
  refine lv_iload_n hx hb dX7_isLine_0 rfl (lv_at hl 0 rfl) ?_
  obtain ⟨y1, hc1, h⟩ := zb1_e h
  refine zcS (As := [.int x1]) (rest := []) (ws' := (w_X7_isLine G )) (st1 := [.int y1]) ⟨hx, hb, hml, hown, hts⟩ (c_X7_isTone l G x1 y1 hc1) (va_cwS 1 hts gX7_isLine_X7_isTone rfl rfl rfl (by decide +kernel) ⟨Nat.le_of_ble_eq_true rfl, Nat.le_of_ble_eq_true rfl⟩) hK hE hP hD hS hA [] rfl rfl rfl rfl rfl hl.1 rfl (Nat.le_of_ble_eq_true rfl) dX7_isLine_1 (Nat.zero_le _) (Nat.zero_le _) rfl (fun H locs hP hD hS => ?_)
  refine lv_if_eq (tgt := 21) hx hb dX7_isLine_4 (by decide) (fun c4 => ?_) (fun c4 => ?_)
  · have h := zt c4 h
    refine lv_iconst (v := (0 : Int32)) hx hb dX7_isLine_21 (by decide) ?_
    cases h
    exact W.zret (ty := .boolean) hx hb hr rfl (fun t9 ht9 _ => zend hP hD hS ht9) hS.2.2 dX7_isLine_22
  · have h := zf c4 h
    refine lv_iload_n hx hb dX7_isLine_7 rfl (lv_at hl 1 rfl) ?_
    refine lv_if_lt (tgt := 21) hx hb dX7_isLine_8 (by decide) (fun c8 => ?_) (fun c8 => ?_)
    · have h := zt c8 h
      refine lv_iconst (v := (0 : Int32)) hx hb dX7_isLine_21 (by decide) ?_
      cases h
      exact W.zret (ty := .boolean) hx hb hr rfl (fun t9 ht9 _ => zend hP hD hS ht9) hS.2.2 dX7_isLine_22
    · have h := zf c8 h
      refine lv_iload_n hx hb dX7_isLine_11 rfl (lv_at hl 1 rfl) ?_
      refine lv_bipush (v := (7 : Int32)) hx hb dX7_isLine_12 (by decide) ?_
      refine lv_icmp_gt (tgt := 21) hx hb dX7_isLine_14 (by decide) (fun c14 => ?_) (fun c14 => ?_)
      · have h := zt c14 h
        refine lv_iconst (v := (0 : Int32)) hx hb dX7_isLine_21 (by decide) ?_
        cases h
        exact W.zret (ty := .boolean) hx hb hr rfl (fun t9 ht9 _ => zend hP hD hS ht9) hS.2.2 dX7_isLine_22
      · have h := zf c14 h
        refine lv_iconst (v := (1 : Int32)) hx hb dX7_isLine_17 (by decide) ?_
        refine lv_goto (tgt := 22) hx hb dX7_isLine_18 (by decide) ?_
        cases h
        exact W.zret (ty := .boolean) hx hb hr rfl (fun t9 ht9 _ => zend hP hD hS ht9) hS.2.2 dX7_isLine_22
abbrev w_X7_told (G : zG) : va_W := []
set_option maxHeartbeats 4000000 in
set_option maxRecDepth 100000 in
theorem c_X7_told (l : Launch) (G : zG) (x1 : Int32) (x2 : Int32) (rv : Int32) (h : fX7_told x1 x2 = some rv) : zC l yX7_told wsX7_told 0 0 G [.int x1, .int x2] (w_X7_told G ) (some (.int rv)) (w_X7_told G ) := by
  refine fun sz => Met.ofW (cc := cX7_told) (maxL := 2) (ret := (some .int)) (by decide) rfl ?_
  intro p e s m args below meth c s₁ B hml hv
  obtain ⟨rfl, hsz, hP, hK, hD0, hE⟩ := hv
  have hx := B.exec
  have hb := B.bytes
  have hr := B.returns
  have hts := atoms_spec (ws := wsX7_told) B.pre
  have hown : s.vm.findClass RX7 = some m.cls := findClass_of_methodNamed B.named
  have hlocks := B.notSynchronized
  subst hsz
  have hD := hD0.self (sz := s.heap.size)
  generalize hAe : va_A (w_X7_told G ) s.heap.size = A at hD hE ⊢
  have hA : ∀ q : Nat, s.heap.size ≤ q → A q := fun q h => by rw [← hAe]; exact Or.inr h
  have hS : va_S A s.heap s.heap [] := va_S.rf
  have hl := lv_entry ([.int x1, .int x2]) (n := 2) (Nat.le_of_ble_eq_true rfl)
  rw [lg_entry_eq]
  generalize (lg_sl ([.int x1, .int x2]) ++ List.replicate (2 - (lg_sl ([.int x1, .int x2])).length) Slot.unset).toArray = ls at hl ⊢
  have hl : lv_has ls 2 [(0, .int x1), (1, .int x2)] := hl
  have hP : va_P G.1 vwCl (w_X7_told G ) s.heap := hP
  rw [fX7_told] at h
  refine lv_iload_n hx hb dX7_told_0 rfl (lv_at hl 0 rfl) ?_
  refine lv_bipush (v := (10 : Int32)) hx hb dX7_told_1 (by decide) ?_
  refine lv_iload_n hx hb dX7_told_3 rfl (lv_at hl 1 rfl) ?_
  refine lv_imul hx hb dX7_told_4 ?_
  refine lv_iadd hx hb dX7_told_5 ?_
  cases h
  exact W.iret hx hb hr (fun t9 ht9 _ => zend hP hD hS ht9) hS.2.2 dX7_told_6
abbrev w_X7_isWarm (G : zG) : va_W := []
set_option maxHeartbeats 4000000 in
set_option maxRecDepth 100000 in
theorem c_X7_isWarm (l : Launch) (G : zG) (x1 : Int32) (rv : Int32) (h : fX7_isWarm x1 = some rv) : zC l yX7_isWarm wsX7_isWarm 0 0 G [.int x1] (w_X7_isWarm G ) (some (.int rv)) (w_X7_isWarm G ) := by
  refine fun sz => Met.ofW (cc := cX7_isWarm) (maxL := 1) (ret := (some .boolean)) (by decide) rfl ?_
  intro p e s m args below meth c s₁ B hml hv
  obtain ⟨rfl, hsz, hP, hK, hD0, hE⟩ := hv
  have hx := B.exec
  have hb := B.bytes
  have hr := B.returns
  have hts := atoms_spec (ws := wsX7_isWarm) B.pre
  have hown : s.vm.findClass RX7 = some m.cls := findClass_of_methodNamed B.named
  have hlocks := B.notSynchronized
  subst hsz
  have hD := hD0.self (sz := s.heap.size)
  generalize hAe : va_A (w_X7_isWarm G ) s.heap.size = A at hD hE ⊢
  have hA : ∀ q : Nat, s.heap.size ≤ q → A q := fun q h => by rw [← hAe]; exact Or.inr h
  have hS : va_S A s.heap s.heap [] := va_S.rf
  have hl := lv_entry ([.int x1]) (n := 1) (Nat.le_of_ble_eq_true rfl)
  rw [lg_entry_eq]
  generalize (lg_sl ([.int x1]) ++ List.replicate (1 - (lg_sl ([.int x1])).length) Slot.unset).toArray = ls at hl ⊢
  have hl : lv_has ls 1 [(0, .int x1)] := hl
  have hP : va_P G.1 vwCl (w_X7_isWarm G ) s.heap := hP
  rw [fX7_isWarm] at h
  refine lv_iload_n hx hb dX7_isWarm_0 rfl (lv_at hl 0 rfl) ?_
  refine lv_iconst (v := (5 : Int32)) hx hb dX7_isWarm_1 (by decide) ?_
  refine lv_icmp_lt (tgt := 9) hx hb dX7_isWarm_2 (by decide) (fun c2 => ?_) (fun c2 => ?_)
  · have h := zt c2 h
    refine lv_iconst (v := (0 : Int32)) hx hb dX7_isWarm_9 (by decide) ?_
    cases h
    exact W.zret (ty := .boolean) hx hb hr rfl (fun t9 ht9 _ => zend hP hD hS ht9) hS.2.2 dX7_isWarm_10
  · have h := zf c2 h
    refine lv_iconst (v := (1 : Int32)) hx hb dX7_isWarm_5 (by decide) ?_
    refine lv_goto (tgt := 10) hx hb dX7_isWarm_6 (by decide) ?_
    cases h
    exact W.zret (ty := .boolean) hx hb hr rfl (fun t9 ht9 _ => zend hP hD hS ht9) hS.2.2 dX7_isWarm_10
abbrev w_X7_sharedDivisor (G : zG) : va_W := []
set_option maxHeartbeats 4000000 in
set_option maxRecDepth 100000 in
theorem c_X7_sharedDivisor (l : Launch) (G : zG) (fu : Nat) (x1 : Int32) (x2 : Int32) (rv : Int32) (h : fX7_sharedDivisor fu x1 x2 = some rv) : zC l yX7_sharedDivisor wsX7_sharedDivisor 0 0 G [.int x1, .int x2] (w_X7_sharedDivisor G ) (some (.int rv)) (w_X7_sharedDivisor G ) := by
  refine fun sz => Met.ofW (cc := cX7_sharedDivisor) (maxL := 4) (ret := (some .int)) (by decide) rfl ?_
  intro p e s m args below meth c s₁ B hml hv
  obtain ⟨rfl, hsz, hP, hK, hD0, hE⟩ := hv
  have hx := B.exec
  have hb := B.bytes
  have hr := B.returns
  have hts := atoms_spec (ws := wsX7_sharedDivisor) B.pre
  have hown : s.vm.findClass RX7 = some m.cls := findClass_of_methodNamed B.named
  have hlocks := B.notSynchronized
  subst hsz
  have hD := hD0.self (sz := s.heap.size)
  generalize hAe : va_A (w_X7_sharedDivisor G ) s.heap.size = A at hD hE ⊢
  have hA : ∀ q : Nat, s.heap.size ≤ q → A q := fun q h => by rw [← hAe]; exact Or.inr h
  have hS : va_S A s.heap s.heap [] := va_S.rf
  have hl := lv_entry ([.int x1, .int x2]) (n := 4) (Nat.le_of_ble_eq_true rfl)
  rw [lg_entry_eq]
  generalize (lg_sl ([.int x1, .int x2]) ++ List.replicate (4 - (lg_sl ([.int x1, .int x2])).length) Slot.unset).toArray = ls at hl ⊢
  have hl : lv_has ls 4 [(0, .int x1), (1, .int x2)] := hl
  have hP : va_P G.1 vwCl (w_X7_sharedDivisor G ) s.heap := hP
  rw [fX7_sharedDivisor] at h
  refine lv_iconst (v := (1 : Int32)) hx hb dX7_sharedDivisor_0 (by decide) ?_
  refine lv_istore_n (lv' := [(2, .int (1 : Int32)), (0, .int x1), (1, .int x2)]) hx hb dX7_sharedDivisor_1 rfl hl (by decide) rfl (fun ls hl => ?_)
  refine lv_iconst (v := (2 : Int32)) hx hb dX7_sharedDivisor_2 (by decide) ?_
  refine lv_istore_n (lv' := [(3, .int (2 : Int32)), (2, .int (1 : Int32)), (0, .int x1), (1, .int x2)]) hx hb dX7_sharedDivisor_3 rfl hl (by decide) rfl (fun ls hl => ?_)
  have loop_4 : ∀ (n : Nat) (K : Int32 → Option Int32) (l2_4 : Int32) (l3_4 : Int32) (H : Heap) (locs : List Loc) (ls : Array Slot), fX7_sharedDivisor_L4 fu x1 x2 K n l2_4 l3_4 = some rv → (∀ (l2_4e : Int32) (H : Heap) (locs : List Loc) (ls : Array Slot), K l2_4e = some rv → va_P G.1 vwCl (w_X7_sharedDivisor G ) H → va_D A (w_X7_sharedDivisor G ) → va_S A s.heap H locs → lv_has ls 4 [(2, .int l2_4e)] → W p l e (headSpec wsX7_sharedDivisor { frames := 0, cells := 0, slots := 0, locals := 0 }).room s m ([.int x1, .int x2] : List Value).toArray below meth c H locs 0 0 (MQ below (zQ (some (.int rv)) G (w_X7_sharedDivisor G ) A) ([.int x1, .int x2] : List Value).toArray s 0 0 A) (F0 m 29 ls [])) → va_P G.1 vwCl (w_X7_sharedDivisor G ) H → va_D A (w_X7_sharedDivisor G ) → va_S A s.heap H locs → lv_has ls 4 [(0, .int x1), (1, .int x2), (2, .int l2_4), (3, .int l3_4)] → W p l e (headSpec wsX7_sharedDivisor { frames := 0, cells := 0, slots := 0, locals := 0 }).room s m ([.int x1, .int x2] : List Value).toArray below meth c H locs 0 0 (MQ below (zQ (some (.int rv)) G (w_X7_sharedDivisor G ) A) ([.int x1, .int x2] : List Value).toArray s 0 0 A) (F0 m 4 ls []) := by
    intro n
    induction n with
    | zero => intro K l2_4 l3_4 H locs ls h; rw [fX7_sharedDivisor_L4] at h; cases h
    | succ n ih =>
      intro K l2_4 l3_4 H locs ls h hk hP hD hS hl
      rw [fX7_sharedDivisor_L4] at h
      refine lv_iload_n hx hb dX7_sharedDivisor_4 rfl (lv_at hl 3 rfl) ?_
      refine lv_iload_n hx hb dX7_sharedDivisor_5 rfl (lv_at hl 0 rfl) ?_
      refine lv_icmp_gt (tgt := 29) hx hb dX7_sharedDivisor_6 (by decide) (fun c6 => ?_) (fun c6 => ?_)
      · have h := zt c6 h
        exact hk _ _ _ _ h hP hD hS (lv_sub hl [2] rfl)
      · have h := zf c6 h
        refine lv_iload_n hx hb dX7_sharedDivisor_9 rfl (lv_at hl 0 rfl) ?_
        refine lv_iload_n hx hb dX7_sharedDivisor_10 rfl (lv_at hl 3 rfl) ?_
        obtain ⟨g11, h⟩ := zg h
        refine lv_irem hx hb dX7_sharedDivisor_11 g11 ?_
        refine lv_if_ne (tgt := 23) hx hb dX7_sharedDivisor_12 (by decide) (fun c12 => ?_) (fun c12 => ?_)
        · have h := zf c12 h
          refine lv_iinc (v := (l3_4 + (1 : Int32))) (lv' := [(3, .int (l3_4 + (1 : Int32))), (0, .int x1), (1, .int x2), (2, .int l2_4)]) hx hb dX7_sharedDivisor_23 hl (k := 3) rfl rfl (by decide) rfl (fun ls hl => ?_)
          refine lv_goto (tgt := 4) hx hb dX7_sharedDivisor_26 (by decide) ?_
          exact ih K _ _ _ _ _ h hk hP hD hS (lv_sub hl [1, 2, 3, 0] rfl)
        · have h := zt c12 h
          refine lv_iload_n hx hb dX7_sharedDivisor_15 rfl (lv_at hl 1 rfl) ?_
          refine lv_iload_n hx hb dX7_sharedDivisor_16 rfl (lv_at hl 3 rfl) ?_
          refine lv_irem hx hb dX7_sharedDivisor_17 g11 ?_
          refine lv_if_ne (tgt := 23) hx hb dX7_sharedDivisor_18 (by decide) (fun c18 => ?_) (fun c18 => ?_)
          · have h := zf c18 h
            refine lv_iinc (v := (l3_4 + (1 : Int32))) (lv' := [(3, .int (l3_4 + (1 : Int32))), (0, .int x1), (1, .int x2), (2, .int l2_4)]) hx hb dX7_sharedDivisor_23 hl (k := 3) rfl rfl (by decide) rfl (fun ls hl => ?_)
            refine lv_goto (tgt := 4) hx hb dX7_sharedDivisor_26 (by decide) ?_
            exact ih K _ _ _ _ _ h hk hP hD hS (lv_sub hl [1, 2, 3, 0] rfl)
          · have h := zt c18 h
            refine lv_iload_n hx hb dX7_sharedDivisor_21 rfl (lv_at hl 3 rfl) ?_
            refine lv_istore_n (lv' := [(2, .int l3_4), (0, .int x1), (1, .int x2), (3, .int l3_4)]) hx hb dX7_sharedDivisor_22 rfl hl (by decide) rfl (fun ls hl => ?_)
            refine lv_iinc (v := (l3_4 + (1 : Int32))) (lv' := [(3, .int (l3_4 + (1 : Int32))), (2, .int l3_4), (0, .int x1), (1, .int x2)]) hx hb dX7_sharedDivisor_23 hl (k := 3) rfl rfl (by decide) rfl (fun ls hl => ?_)
            refine lv_goto (tgt := 4) hx hb dX7_sharedDivisor_26 (by decide) ?_
            exact ih K _ _ _ _ _ h hk hP hD hS (lv_sub hl [2, 3, 1, 0] rfl)
  refine loop_4 fu _ _ _ _ _ _ h (fun l2_4e H locs ls h hP hD hS hl => ?_) hP hD hS (lv_sub hl [2, 3, 1, 0] rfl)
  refine lv_iload_n hx hb dX7_sharedDivisor_29 rfl (lv_at hl 0 rfl) ?_
  cases h
  exact W.iret hx hb hr (fun t9 ht9 _ => zend hP hD hS ht9) hS.2.2 dX7_sharedDivisor_30
