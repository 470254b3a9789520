abbrev w_X4_lineUp (G : zG) (a : Nat) (a_row : Nat) (a_best : Nat) (v_size : Int32) (v_least : Int32) (f_row : (Nat → Int32)) : va_W := [(a, .inr (4, [.ref a_row, .ref a_best, .int v_size, .int v_least])), (a_row, .inl (zCI G, 6, .inl f_row))]
theorem in_X4_lineUp_X4 : ∀ w ∈ wsX40, w ∈ wsX4_lineUp := by decide +kernel
set_option maxHeartbeats 4000000 in
set_option maxRecDepth 100000 in
theorem c_X4_lineUp (l : Launch) (G : zG) (fu : Nat) (a : Nat) (a_row : Nat) (a_best : Nat) (v_size : Int32) (v_least : Int32) (f_row : (Nat → Int32)) (x1 : Int32) (ov_size : Int32) (of_row : (Nat → Int32)) (h : fX4_lineUp fu v_size f_row x1 = some (ov_size, of_row)) : zC l yX4_lineUp wsX4_lineUp 0 0 G [.ref a, .int x1] (w_X4_lineUp G a a_row a_best v_size v_least f_row) none (w_X4_lineUp G a a_row a_best ov_size v_least of_row) := by
  refine fun sz => Met.ofW (cc := cX4_lineUp) (maxL := 3) (ret := none) (by decide) rfl ?_
  intro p e s m args below meth c s₁ B hml hv
  obtain ⟨rfl, hsz, hP, hK, hD0, hE⟩ := hv
  have hx := B.exec
  have hb := B.bytes
  have hr := B.returns
  have hts := atoms_spec (ws := wsX4_lineUp) B.pre
  have hown : s.vm.findClass RX4 = some m.cls := findClass_of_methodNamed B.named
  have hlocks := B.notSynchronized
  subst hsz
  have hD := hD0.self (sz := s.heap.size)
  generalize hAe : va_A (w_X4_lineUp G a a_row a_best v_size v_least f_row) s.heap.size = A at hD hE ⊢
  have hA : ∀ q : Nat, s.heap.size ≤ q → A q := fun q h => by rw [← hAe]; exact Or.inr h
  have hS : va_S A s.heap s.heap [] := va_S.rf
  have hl := lv_entry ([.ref a, .int x1]) (n := 3) (Nat.le_of_ble_eq_true rfl)
  rw [lg_entry_eq]
  generalize (lg_sl ([.ref a, .int x1]) ++ List.replicate (3 - (lg_sl ([.ref a, .int x1])).length) Slot.unset).toArray = ls at hl ⊢
  have hl : lv_has ls 3 [(0, .ref a), (1, .int x1)] := hl
  have hP : va_P G.1 vwCl (w_X4_lineUp G a a_row a_best v_size v_least f_row) s.heap := hP
  rw [fX4_lineUp] at h
  refine lv_aload_n hx hb dX4_lineUp_0 rfl (lv_at hl 0 rfl) ?_
  refine lv_iconst (v := (0 : Int32)) hx hb dX4_lineUp_1 (by decide) ?_
  refine zput1 (D := G.1) (ci := 4) (C := RX4) (T := TX4) (N := 4) (ty := .int) (ws' := (w_X4_lineUp G a a_row a_best (0 : Int32) v_least f_row)) hx hb hts in_X4_lineUp_X4 tyX4 tyX4_ok nmX4 hown hK.1 hP hD hS 0 rfl rfl 2 (by decide) (hts (.fieldLink RX4 18 "NineHands$Orders" "size" "I") (by decide +kernel)) (fun _ h9 => h9) rfl (by decide +kernel) rfl rfl (Nat.le_of_ble_eq_true rfl) rfl dX4_lineUp_2 (fun H locs hP hD hS => ?_)
  refine lv_iconst (v := (0 : Int32)) hx hb dX4_lineUp_5 (by decide) ?_
  refine lv_istore_n (lv' := [(2, .int (0 : Int32)), (0, .ref a), (1, .int x1)]) hx hb dX4_lineUp_6 rfl hl (by decide) rfl (fun ls hl => ?_)
  have loop_7 : ∀ (n : Nat) (K : Int32 → (Nat → Int32) → Option (Int32 × (Nat → Int32))) (l2_7 : Int32) (v_size_7 : Int32) (f_row_7 : (Nat → Int32)) (H : Heap) (locs : List Loc) (ls : Array Slot), fX4_lineUp_L7 fu x1 K n l2_7 v_size_7 f_row_7 = some (ov_size, of_row) → (∀ (v_size_7e : Int32) (f_row_7e : (Nat → Int32)) (H : Heap) (locs : List Loc) (ls : Array Slot), K v_size_7e f_row_7e = some (ov_size, of_row) → va_P G.1 vwCl (w_X4_lineUp G a a_row a_best v_size_7e v_least f_row_7e) H → va_D A (w_X4_lineUp G a a_row a_best v_size_7e v_least f_row_7e) → va_S A s.heap H locs → lv_has ls 3 [] → W p l e (headSpec wsX4_lineUp { frames := 0, cells := 0, slots := 0, locals := 0 }).room s m ([.ref a, .int x1] : List Value).toArray below meth c H locs 0 0 (MQ below (zQ none G (w_X4_lineUp G a a_row a_best ov_size v_least of_row) A) ([.ref a, .int x1] : List Value).toArray s 0 0 A) (F0 m 47 ls [])) → va_P G.1 vwCl (w_X4_lineUp G a a_row a_best v_size_7 v_least f_row_7) H → va_D A (w_X4_lineUp G a a_row a_best v_size_7 v_least f_row_7) → va_S A s.heap H locs → lv_has ls 3 [(0, .ref a), (1, .int x1), (2, .int l2_7)] → W p l e (headSpec wsX4_lineUp { frames := 0, cells := 0, slots := 0, locals := 0 }).room s m ([.ref a, .int x1] : List Value).toArray below meth c H locs 0 0 (MQ below (zQ none G (w_X4_lineUp G a a_row a_best ov_size v_least of_row) A) ([.ref a, .int x1] : List Value).toArray s 0 0 A) (F0 m 7 ls []) := by
    intro n
    induction n with
    | zero => intro K l2_7 v_size_7 f_row_7 H locs ls h; rw [fX4_lineUp_L7] at h; cases h
    | succ n ih =>
      intro K l2_7 v_size_7 f_row_7 H locs ls h hk hP hD hS hl
      rw [fX4_lineUp_L7] at h
      refine lv_iload_n hx hb dX4_lineUp_7 rfl (lv_at hl 2 rfl) ?_
      refine lv_bipush (v := (6 : Int32)) hx hb dX4_lineUp_8 (by decide) ?_
      refine lv_icmp_ge (tgt := 47) hx hb dX4_lineUp_10 (by decide) (fun c10 => ?_) (fun c10 => ?_)
      · have h := zt c10 h
        exact hk _ _ _ _ _ h hP hD hS (lv_sub hl [] rfl)
      · have h := zf c10 h
        refine lv_iload_n hx hb dX4_lineUp_13 rfl (lv_at hl 1 rfl) ?_
        refine lv_iload_n hx hb dX4_lineUp_14 rfl (lv_at hl 2 rfl) ?_
        refine lv_ishr hx hb dX4_lineUp_15 ?_
        refine lv_iconst (v := (1 : Int32)) hx hb dX4_lineUp_16 (by decide) ?_
        refine lv_iand hx hb dX4_lineUp_17 ?_
        refine lv_if_eq (tgt := 41) hx hb dX4_lineUp_18 (by decide) (fun c18 => ?_) (fun c18 => ?_)
        · have h := zt c18 h
          refine lv_iinc (v := (l2_7 + (1 : Int32))) (lv' := [(2, .int (l2_7 + (1 : Int32))), (0, .ref a), (1, .int x1)]) hx hb dX4_lineUp_41 hl (k := 2) rfl rfl (by decide) rfl (fun ls hl => ?_)
          refine lv_goto (tgt := 7) hx hb dX4_lineUp_44 (by decide) ?_
          exact ih K _ _ _ _ _ _ h hk hP hD hS (lv_sub hl [1, 2, 0] rfl)
        · have h := zf c18 h
          refine lv_aload_n hx hb dX4_lineUp_21 rfl (lv_at hl 0 rfl) ?_
          refine va_get (D := G.1) (ci := 4) (v := .ref a_row) (C := RX4) (T := TX4) (N := 4) hx hb hts in_X4_lineUp_X4 hown hK.1 hP 0 rfl rfl 0 (by decide) (hts (.fieldLink RX4 9 "NineHands$Orders" "row" "[I") (by decide +kernel)) (fun _ h9 => h9) rfl dX4_lineUp_22 ?_
          refine lv_aload_n hx hb dX4_lineUp_25 rfl (lv_at hl 0 rfl) ?_
          refine va_get (D := G.1) (ci := 4) (v := .int v_size_7) (C := RX4) (T := TX4) (N := 4) hx hb hts in_X4_lineUp_X4 hown hK.1 hP 0 rfl rfl 2 (by decide) (hts (.fieldLink RX4 18 "NineHands$Orders" "size" "I") (by decide +kernel)) (fun _ h9 => h9) rfl dX4_lineUp_26 ?_
          refine lv_iload_n hx hb dX4_lineUp_29 rfl (lv_at hl 2 rfl) ?_
          obtain ⟨g30, h⟩ := zg h
          refine zast hx hb hK.1 hP hD hS 1 0 rfl rfl g30 (j := (v_size_7).toNatClampNeg) rfl (ws' := (w_X4_lineUp G a a_row a_best v_size_7 v_least (upd f_row_7 (v_size_7).toNatClampNeg l2_7))) rfl dX4_lineUp_30 (fun H locs hP hD hS => ?_)
          refine lv_aload_n hx hb dX4_lineUp_31 rfl (lv_at hl 0 rfl) ?_
          refine lv_dup hx hb dX4_lineUp_32 rfl ?_
          refine va_get (D := G.1) (ci := 4) (v := .int v_size_7) (C := RX4) (T := TX4) (N := 4) hx hb hts in_X4_lineUp_X4 hown hK.1 hP 0 rfl rfl 2 (by decide) (hts (.fieldLink RX4 18 "NineHands$Orders" "size" "I") (by decide +kernel)) (fun _ h9 => h9) rfl dX4_lineUp_33 ?_
          refine lv_iconst (v := (1 : Int32)) hx hb dX4_lineUp_36 (by decide) ?_
          refine lv_iadd hx hb dX4_lineUp_37 ?_
          refine zput1 (D := G.1) (ci := 4) (C := RX4) (T := TX4) (N := 4) (ty := .int) (ws' := (w_X4_lineUp G a a_row a_best (v_size_7 + (1 : Int32)) v_least (upd f_row_7 (v_size_7).toNatClampNeg l2_7))) hx hb hts in_X4_lineUp_X4 tyX4 tyX4_ok nmX4 hown hK.1 hP hD hS 0 rfl rfl 2 (by decide) (hts (.fieldLink RX4 18 "NineHands$Orders" "size" "I") (by decide +kernel)) (fun _ h9 => h9) rfl (by decide +kernel) rfl rfl (Nat.le_of_ble_eq_true rfl) rfl dX4_lineUp_38 (fun H locs hP hD hS => ?_)
          refine lv_iinc (v := (l2_7 + (1 : Int32))) (lv' := [(2, .int (l2_7 + (1 : Int32))), (0, .ref a), (1, .int x1)]) hx hb dX4_lineUp_41 hl (k := 2) rfl rfl (by decide) rfl (fun ls hl => ?_)
          refine lv_goto (tgt := 7) hx hb dX4_lineUp_44 (by decide) ?_
          exact ih K _ _ _ _ _ _ h hk hP hD hS (lv_sub hl [1, 2, 0] rfl)
  refine loop_7 fu _ _ _ _ _ _ _ h (fun v_size_7e f_row_7e H locs ls h hP hD hS hl => ?_) hP hD hS (lv_sub hl [1, 2, 0] rfl)
  cases h
  exact W.vret hx hb hr (fun t9 ht9 _ => zend hP hD hS ht9) hS.2.2 dX4_lineUp_47
abbrev w_X4_stray (G : zG) (a : Nat) (a_row : Nat) (a_best : Nat) (a_p0 : Nat) (a_p0_clerks : Nat) (ca_p0_clk : Nat → Nat) (v_size : Int32) (v_least : Int32) (f_row : (Nat → Int32)) (v_p0_count : Int32) (v_p0_letterTold : Int32) (v_p0_firstTone : Int32) (v_p0_firstMarks : Int32) (k_p0_lean : (Nat → Int32)) (k_p0_sets : (Nat → Int32)) (k_p0_drops : (Nat → Int32)) (k_p0_keeps : (Nat → Int32)) : va_W := [(a, .inr (4, [.ref a_row, .ref a_best, .int v_size, .int v_least])), (a_row, .inl (zCI G, 6, .inl f_row)), (a_p0, .inr (3, [.ref a_p0_clerks, .int v_p0_count, .int v_p0_letterTold, .int v_p0_firstTone, .int v_p0_firstMarks])), (a_p0_clerks, .inl (zCC G, 6, .inr (.inr (.inr (.inr (fun k => some (ca_p0_clk k)))))))] ++ zclks ca_p0_clk k_p0_lean k_p0_sets k_p0_drops k_p0_keeps
theorem in_X4_stray_X4 : ∀ w ∈ wsX40, w ∈ wsX4_stray := by decide +kernel
set_option maxHeartbeats 4000000 in
set_option maxRecDepth 100000 in
theorem c_X4_stray (l : Launch) (G : zG) (fu : Nat) (a : Nat) (a_row : Nat) (a_best : Nat) (a_p0 : Nat) (a_p0_clerks : Nat) (ca_p0_clk : Nat → Nat) (v_size : Int32) (v_least : Int32) (f_row : (Nat → Int32)) (v_p0_count : Int32) (v_p0_letterTold : Int32) (v_p0_firstTone : Int32) (v_p0_firstMarks : Int32) (k_p0_lean : (Nat → Int32)) (k_p0_sets : (Nat → Int32)) (k_p0_drops : (Nat → Int32)) (k_p0_keeps : (Nat → Int32)) (x2 : Int32) (x3 : Int32) (x4 : Int32) (rv : Int32) (h : fX4_stray fu v_size f_row v_p0_count k_p0_lean x2 x3 x4 = some rv) : zC l yX4_stray wsX4_stray 3 66 G [.ref a, .ref a_p0, .int x2, .int x3, .int x4] (w_X4_stray G a a_row a_best a_p0 a_p0_clerks ca_p0_clk v_size v_least f_row v_p0_count v_p0_letterTold v_p0_firstTone v_p0_firstMarks k_p0_lean k_p0_sets k_p0_drops k_p0_keeps) (some (.int rv)) (w_X4_stray G a a_row a_best a_p0 a_p0_clerks ca_p0_clk v_size v_least f_row v_p0_count v_p0_letterTold v_p0_firstTone v_p0_firstMarks k_p0_lean k_p0_sets k_p0_drops k_p0_keeps) := by
  refine fun sz => Met.ofW (cc := cX4_stray) (maxL := 9) (ret := (some .int)) (by decide) rfl ?_
  intro p e s m args below meth c s₁ B hml hv
  obtain ⟨rfl, hsz, hP, hK, hD0, hE⟩ := hv
  have hx := B.exec
  have hb := B.bytes
  have hr := B.returns
  have hts := atoms_spec (ws := wsX4_stray) B.pre
  have hown : s.vm.findClass RX4 = some m.cls := findClass_of_methodNamed B.named
  have hlocks := B.notSynchronized
  subst hsz
  have hD := hD0.self (sz := s.heap.size)
  generalize hAe : va_A (w_X4_stray G a a_row a_best a_p0 a_p0_clerks ca_p0_clk v_size v_least f_row v_p0_count v_p0_letterTold v_p0_firstTone v_p0_firstMarks k_p0_lean k_p0_sets k_p0_drops k_p0_keeps) s.heap.size = A at hD hE ⊢
  have hA : ∀ q : Nat, s.heap.size ≤ q → A q := fun q h => by rw [← hAe]; exact Or.inr h
  have hS : va_S A s.heap s.heap [] := va_S.rf
  have hl := lv_entry ([.ref a, .ref a_p0, .int x2, .int x3, .int x4]) (n := 9) (Nat.le_of_ble_eq_true rfl)
  rw [lg_entry_eq]
  generalize (lg_sl ([.ref a, .ref a_p0, .int x2, .int x3, .int x4]) ++ List.replicate (9 - (lg_sl ([.ref a, .ref a_p0, .int x2, .int x3, .int x4])).length) Slot.unset).toArray = ls at hl ⊢
  have hl : lv_has ls 9 [(0, .ref a), (1, .ref a_p0), (2, .int x2), (3, .int x3), (4, .int x4)] := hl
  have hP : va_P G.1 vwCl (w_X4_stray G a a_row a_best a_p0 a_p0_clerks ca_p0_clk v_size v_least f_row v_p0_count v_p0_letterTold v_p0_firstTone v_p0_firstMarks k_p0_lean k_p0_sets k_p0_drops k_p0_keeps) s.heap := hP
  rw [fX4_stray] at h
  refine lv_iload_n hx hb dX4_stray_0 rfl (lv_at hl 2 rfl) ?_
  refine lv_istore (lv' := [(5, .int x2), (0, .ref a), (1, .ref a_p0), (2, .int x2), (3, .int x3), (4, .int x4)]) hx hb dX4_stray_1 hl (by decide) rfl (fun ls hl => ?_)
  refine lv_iconst (v := (0 : Int32)) hx hb dX4_stray_3 (by decide) ?_
  refine lv_istore (lv' := [(6, .int (0 : Int32)), (5, .int x2), (0, .ref a), (1, .ref a_p0), (2, .int x2), (3, .int x3), (4, .int x4)]) hx hb dX4_stray_4 hl (by decide) rfl (fun ls hl => ?_)
  refine lv_iconst (v := (0 : Int32)) hx hb dX4_stray_6 (by decide) ?_
  refine lv_istore (lv' := [(7, .int (0 : Int32)), (6, .int (0 : Int32)), (5, .int x2), (0, .ref a), (1, .ref a_p0), (2, .int x2), (3, .int x3), (4, .int x4)]) hx hb dX4_stray_7 hl (by decide) rfl (fun ls hl => ?_)
  have loop_9 : ∀ (n : Nat) (K : Int32 → Int32 → Option Int32) (l5_9 : Int32) (l6_9 : Int32) (l7_9 : Int32) (H : Heap) (locs : List Loc) (ls : Array Slot), fX4_stray_L9 fu x3 x4 v_size f_row v_p0_count k_p0_lean K n l5_9 l6_9 l7_9 = some rv → (∀ (l5_9e : Int32) (l6_9e : Int32) (H : Heap) (locs : List Loc) (ls : Array Slot), K l5_9e l6_9e = some rv → va_P G.1 vwCl (w_X4_stray G a a_row a_best a_p0 a_p0_clerks ca_p0_clk v_size v_least f_row v_p0_count v_p0_letterTold v_p0_firstTone v_p0_firstMarks k_p0_lean k_p0_sets k_p0_drops k_p0_keeps) H → va_D A (w_X4_stray G a a_row a_best a_p0 a_p0_clerks ca_p0_clk v_size v_least f_row v_p0_count v_p0_letterTold v_p0_firstTone v_p0_firstMarks k_p0_lean k_p0_sets k_p0_drops k_p0_keeps) → va_S A s.heap H locs → lv_has ls 9 [(3, .int x3), (4, .int x4), (5, .int l5_9e), (6, .int l6_9e)] → W p l e (headSpec wsX4_stray { frames := 3, cells := 0, slots := 0, locals := 66 }).room s m ([.ref a, .ref a_p0, .int x2, .int x3, .int x4] : List Value).toArray below meth c H locs 0 0 (MQ below (zQ (some (.int rv)) G (w_X4_stray G a a_row a_best a_p0 a_p0_clerks ca_p0_clk v_size v_least f_row v_p0_count v_p0_letterTold v_p0_firstTone v_p0_firstMarks k_p0_lean k_p0_sets k_p0_drops k_p0_keeps) A) ([.ref a, .ref a_p0, .int x2, .int x3, .int x4] : List Value).toArray s 0 0 A) (F0 m 65 ls [])) → va_P G.1 vwCl (w_X4_stray G a a_row a_best a_p0 a_p0_clerks ca_p0_clk v_size v_least f_row v_p0_count v_p0_letterTold v_p0_firstTone v_p0_firstMarks k_p0_lean k_p0_sets k_p0_drops k_p0_keeps) H → va_D A (w_X4_stray G a a_row a_best a_p0 a_p0_clerks ca_p0_clk v_size v_least f_row v_p0_count v_p0_letterTold v_p0_firstTone v_p0_firstMarks k_p0_lean k_p0_sets k_p0_drops k_p0_keeps) → va_S A s.heap H locs → lv_has ls 9 [(0, .ref a), (1, .ref a_p0), (3, .int x3), (4, .int x4), (5, .int l5_9), (6, .int l6_9), (7, .int l7_9)] → W p l e (headSpec wsX4_stray { frames := 3, cells := 0, slots := 0, locals := 66 }).room s m ([.ref a, .ref a_p0, .int x2, .int x3, .int x4] : List Value).toArray below meth c H locs 0 0 (MQ below (zQ (some (.int rv)) G (w_X4_stray G a a_row a_best a_p0 a_p0_clerks ca_p0_clk v_size v_least f_row v_p0_count v_p0_letterTold v_p0_firstTone v_p0_firstMarks k_p0_lean k_p0_sets k_p0_drops k_p0_keeps) A) ([.ref a, .ref a_p0, .int x2, .int x3, .int x4] : List Value).toArray s 0 0 A) (F0 m 9 ls []) := by
    intro n
    induction n with
    | zero => intro K l5_9 l6_9 l7_9 H locs ls h; rw [fX4_stray_L9] at h; cases h
    | succ n ih =>
      intro K l5_9 l6_9 l7_9 H locs ls h hk hP hD hS hl
      rw [fX4_stray_L9] at h
      have join_45 : ∀ (l5_45 : Int32) (l6_45 : Int32) (l7_45 : Int32) (H : Heap) (locs : List Loc) (ls : Array Slot), fX4_stray_J45 fu x3 x4 K (fun (l5_9b : Int32) (l6_9b : Int32) (l7_9b : Int32) => fX4_stray_L9 fu x3 x4 v_size f_row v_p0_count k_p0_lean K n l5_9b l6_9b l7_9b) l5_45 l6_45 l7_45 = some rv → va_P G.1 vwCl (w_X4_stray G a a_row a_best a_p0 a_p0_clerks ca_p0_clk v_size v_least f_row v_p0_count v_p0_letterTold v_p0_firstTone v_p0_firstMarks k_p0_lean k_p0_sets k_p0_drops k_p0_keeps) H → va_D A (w_X4_stray G a a_row a_best a_p0 a_p0_clerks ca_p0_clk v_size v_least f_row v_p0_count v_p0_letterTold v_p0_firstTone v_p0_firstMarks k_p0_lean k_p0_sets k_p0_drops k_p0_keeps) → va_S A s.heap H locs → lv_has ls 9 [(0, .ref a), (1, .ref a_p0), (3, .int x3), (4, .int x4), (5, .int l5_45), (6, .int l6_45), (7, .int l7_45)] → W p l e (headSpec wsX4_stray { frames := 3, cells := 0, slots := 0, locals := 66 }).room s m ([.ref a, .ref a_p0, .int x2, .int x3, .int x4] : List Value).toArray below meth c H locs 0 0 (MQ below (zQ (some (.int rv)) G (w_X4_stray G a a_row a_best a_p0 a_p0_clerks ca_p0_clk v_size v_least f_row v_p0_count v_p0_letterTold v_p0_firstTone v_p0_firstMarks k_p0_lean k_p0_sets k_p0_drops k_p0_keeps) A) ([.ref a, .ref a_p0, .int x2, .int x3, .int x4] : List Value).toArray s 0 0 A) (F0 m 45 ls []) := by
        intro l5_45 l6_45 l7_45 H locs ls h hP hD hS hl
        rw [fX4_stray_J45] at h
        refine lv_iload hx hb dX4_stray_45 (lv_at hl 5 rfl) ?_
        refine lv_iload hx hb dX4_stray_47 (lv_at hl 4 rfl) ?_
        refine lv_iload_n hx hb dX4_stray_49 rfl (lv_at hl 2 rfl) ?_
        refine lv_isub hx hb dX4_stray_50 ?_
        refine va_mabs hx hb (hml.trans hl.1.symm) hown (hts (.methodLink RX4 58 Lib.Math.abs.name) (by decide +kernel)) (hts (.static Lib.Math.abs.name) (by decide +kernel)) (hts (.initialized "java/lang/Math") (by decide +kernel)) (hts (.code Lib.Math.abs.name Lib.Math.abs.code 1 (some .int)) (by decide +kernel)) (Nat.le_of_ble_eq_true rfl) (Nat.le_of_ble_eq_true rfl) (Nat.zero_le _) (Nat.zero_le _) dX4_stray_51 ?_
        refine va_mmax hx hb (hml.trans hl.1.symm) hown (hts (.methodLink RX4 63 Lib.Math.max.name) (by decide +kernel)) (hts (.static Lib.Math.max.name) (by decide +kernel)) (hts (.initialized "java/lang/Math") (by decide +kernel)) (hts (.code Lib.Math.max.name Lib.Math.max.code 2 (some .int)) (by decide +kernel)) (Nat.le_of_ble_eq_true rfl) (Nat.le_of_ble_eq_true rfl) (Nat.zero_le _) (Nat.zero_le _) dX4_stray_54 ?_
        refine lv_istore (lv' := [(6, .int (if l6_45 < (if 0 ≤ (l5_45 - x3) then (l5_45 - x3) else 0 - (l5_45 - x3)) then (if 0 ≤ (l5_45 - x3) then (l5_45 - x3) else 0 - (l5_45 - x3)) else l6_45)), (0, .ref a), (1, .ref a_p0), (3, .int x3), (4, .int x4), (5, .int l5_45), (7, .int l7_45)]) hx hb dX4_stray_57 hl (by decide) rfl (fun ls hl => ?_)
        refine lv_iinc (v := (l7_45 + (1 : Int32))) (lv' := [(7, .int (l7_45 + (1 : Int32))), (6, .int (if l6_45 < (if 0 ≤ (l5_45 - x3) then (l5_45 - x3) else 0 - (l5_45 - x3)) then (if 0 ≤ (l5_45 - x3) then (l5_45 - x3) else 0 - (l5_45 - x3)) else l6_45)), (0, .ref a), (1, .ref a_p0), (3, .int x3), (4, .int x4), (5, .int l5_45)]) hx hb dX4_stray_59 hl (k := 6) rfl rfl (by decide) rfl (fun ls hl => ?_)
        refine lv_goto (tgt := 9) hx hb dX4_stray_62 (by decide) ?_
        exact ih K _ _ _ _ _ _ h hk hP hD hS (lv_sub hl [2, 3, 4, 5, 6, 1, 0] rfl)
      refine lv_iload hx hb dX4_stray_9 (lv_at hl 6 rfl) ?_
      refine lv_aload_n hx hb dX4_stray_11 rfl (lv_at hl 0 rfl) ?_
      refine va_get (D := G.1) (ci := 4) (v := .int v_size) (C := RX4) (T := TX4) (N := 4) hx hb hts in_X4_stray_X4 hown hK.1 hP 0 rfl rfl 2 (by decide) (hts (.fieldLink RX4 18 "NineHands$Orders" "size" "I") (by decide +kernel)) (fun _ h9 => h9) rfl dX4_stray_12 ?_
      refine lv_icmp_ge (tgt := 65) hx hb dX4_stray_15 (by decide) (fun c15 => ?_) (fun c15 => ?_)
      · have h := zt c15 h
        exact hk _ _ _ _ _ h hP hD hS (lv_sub hl [2, 3, 4, 5] rfl)
      · have h := zf c15 h
        refine lv_aload_n hx hb dX4_stray_18 rfl (lv_at hl 1 rfl) ?_
        refine lv_aload_n hx hb dX4_stray_19 rfl (lv_at hl 0 rfl) ?_
        refine va_get (D := G.1) (ci := 4) (v := .ref a_row) (C := RX4) (T := TX4) (N := 4) hx hb hts in_X4_stray_X4 hown hK.1 hP 0 rfl rfl 0 (by decide) (hts (.fieldLink RX4 9 "NineHands$Orders" "row" "[I") (by decide +kernel)) (fun _ h9 => h9) rfl dX4_stray_20 ?_
        refine lv_iload hx hb dX4_stray_23 (lv_at hl 6 rfl) ?_
        obtain ⟨g25, h⟩ := zg h
        refine zald hx hb hK.1 hP 1 0 rfl rfl g25 (j := (l7_9).toNatClampNeg) rfl dX4_stray_25 ?_
        by_cases c26a : (f_row (l7_9).toNatClampNeg) < 0
        · have h := zt c26a h
          refine zcV (As := [.int (f_row (l7_9).toNatClampNeg)]) (rest := []) (ws' := (w_X4_stray G a a_row a_best a_p0 a_p0_clerks ca_p0_clk v_size v_least f_row v_p0_count v_p0_letterTold v_p0_firstTone v_p0_firstMarks k_p0_lean k_p0_sets k_p0_drops k_p0_keeps)) (st1 := [.null]) ⟨hx, hb, hml, hown, hts⟩ (c_X3_find l G a_p0 a_p0_clerks ca_p0_clk v_p0_count v_p0_letterTold v_p0_firstTone v_p0_firstMarks (f_row (l7_9).toNatClampNeg) none (by rw [fX3_find, if_pos c26a])) (cwV 1 hts gX4_stray_X3_find rfl rfl rfl (by decide +kernel) ⟨Nat.le_of_ble_eq_true rfl, Nat.le_of_ble_eq_true rfl⟩) hK hE hP hD hS hA [2, 3] rfl rfl 0 3 rfl rfl rfl rfl rfl rfl hl.1 rfl (Nat.le_of_ble_eq_true rfl) dX4_stray_26 (Nat.zero_le _) (Nat.zero_le _) rfl (fun H locs hP hD hS => ?_)
          refine lv_astoreN (lv' := [(8, .null), (0, .ref a), (1, .ref a_p0), (3, .int x3), (4, .int x4), (5, .int l5_9), (6, .int l6_9), (7, .int l7_9)]) hx hb dX4_stray_29 hl (by decide) rfl (fun ls hl => ?_)
          refine lv_aloadN hx hb dX4_stray_31 (lv_at hl 0 rfl) ?_
          refine lv_ifnullN (tgt := 45) hx hb dX4_stray_33 (by decide) ?_
          exact join_45 _ _ _ _ _ _ h hP hD hS (lv_sub hl [1, 2, 3, 4, 5, 6, 7] rfl)
        have h := zf c26a h
        by_cases c26b : v_p0_count ≤ (f_row (l7_9).toNatClampNeg)
        · have h := zt c26b h
          refine zcV (As := [.int (f_row (l7_9).toNatClampNeg)]) (rest := []) (ws' := (w_X4_stray G a a_row a_best a_p0 a_p0_clerks ca_p0_clk v_size v_least f_row v_p0_count v_p0_letterTold v_p0_firstTone v_p0_firstMarks k_p0_lean k_p0_sets k_p0_drops k_p0_keeps)) (st1 := [.null]) ⟨hx, hb, hml, hown, hts⟩ (c_X3_find l G a_p0 a_p0_clerks ca_p0_clk v_p0_count v_p0_letterTold v_p0_firstTone v_p0_firstMarks (f_row (l7_9).toNatClampNeg) none (by rw [fX3_find, if_neg c26a, if_pos c26b])) (cwV 1 hts gX4_stray_X3_find rfl rfl rfl (by decide +kernel) ⟨Nat.le_of_ble_eq_true rfl, Nat.le_of_ble_eq_true rfl⟩) hK hE hP hD hS hA [2, 3] rfl rfl 0 3 rfl rfl rfl rfl rfl rfl hl.1 rfl (Nat.le_of_ble_eq_true rfl) dX4_stray_26 (Nat.zero_le _) (Nat.zero_le _) rfl (fun H locs hP hD hS => ?_)
          refine lv_astoreN (lv' := [(8, .null), (0, .ref a), (1, .ref a_p0), (3, .int x3), (4, .int x4), (5, .int l5_9), (6, .int l6_9), (7, .int l7_9)]) hx hb dX4_stray_29 hl (by decide) rfl (fun ls hl => ?_)
          refine lv_aloadN hx hb dX4_stray_31 (lv_at hl 0 rfl) ?_
          refine lv_ifnullN (tgt := 45) hx hb dX4_stray_33 (by decide) ?_
          exact join_45 _ _ _ _ _ _ h hP hD hS (lv_sub hl [1, 2, 3, 4, 5, 6, 7] rfl)
        have h := zf c26b h
        obtain ⟨g26, h⟩ := zg h
        refine zcV (As := [.int (f_row (l7_9).toNatClampNeg)]) (rest := []) (ws' := (w_X4_stray G a a_row a_best a_p0 a_p0_clerks ca_p0_clk v_size v_least f_row v_p0_count v_p0_letterTold v_p0_firstTone v_p0_firstMarks k_p0_lean k_p0_sets k_p0_drops k_p0_keeps)) (st1 := [.ref (ca_p0_clk ((f_row (l7_9).toNatClampNeg)).toNatClampNeg)]) ⟨hx, hb, hml, hown, hts⟩ (c_X3_find l G a_p0 a_p0_clerks ca_p0_clk v_p0_count v_p0_letterTold v_p0_firstTone v_p0_firstMarks (f_row (l7_9).toNatClampNeg) (some (ca_p0_clk ((f_row (l7_9).toNatClampNeg)).toNatClampNeg)) (by rw [fX3_find, if_neg c26a, if_neg c26b, if_pos g26])) (cwV 1 hts gX4_stray_X3_find rfl rfl rfl (by decide +kernel) ⟨Nat.le_of_ble_eq_true rfl, Nat.le_of_ble_eq_true rfl⟩) hK hE hP hD hS hA [2, 3] rfl rfl 0 3 rfl rfl rfl rfl rfl rfl hl.1 rfl (Nat.le_of_ble_eq_true rfl) dX4_stray_26 (Nat.zero_le _) (Nat.zero_le _) rfl (fun H locs hP hD hS => ?_)
        refine lv_astore (lv' := [(8, .ref (ca_p0_clk ((f_row (l7_9).toNatClampNeg)).toNatClampNeg)), (0, .ref a), (1, .ref a_p0), (3, .int x3), (4, .int x4), (5, .int l5_9), (6, .int l6_9), (7, .int l7_9)]) hx hb dX4_stray_29 hl (by decide) rfl (fun ls hl => ?_)
        refine lv_aload hx hb dX4_stray_31 (lv_at hl 0 rfl) ?_
        refine lv_ifnull hx hb dX4_stray_33 ?_
        refine lv_aload hx hb dX4_stray_36 (lv_at hl 0 rfl) ?_
        refine lv_iload hx hb dX4_stray_38 (lv_at hl 5 rfl) ?_
        obtain ⟨y40, hc40, h⟩ := zb1_e h
        refine zcV (As := [.int l5_9]) (rest := []) (ws' := (w_X4_stray G a a_row a_best a_p0 a_p0_clerks ca_p0_clk v_size v_least f_row v_p0_count v_p0_letterTold v_p0_firstTone v_p0_firstMarks k_p0_lean k_p0_sets k_p0_drops k_p0_keeps)) (st1 := [.int y40]) ⟨hx, hb, hml, hown, hts⟩ (c_X0_toneBehind l G (ca_p0_clk ((f_row (l7_9).toNatClampNeg)).toNatClampNeg) (k_p0_lean ((f_row (l7_9).toNatClampNeg)).toNatClampNeg) (k_p0_sets ((f_row (l7_9).toNatClampNeg)).toNatClampNeg) (k_p0_drops ((f_row (l7_9).toNatClampNeg)).toNatClampNeg) (k_p0_keeps ((f_row (l7_9).toNatClampNeg)).toNatClampNeg) l5_9 y40 hc40) (cwV 1 hts gX4_stray_X0_toneBehind rfl rfl rfl (by decide +kernel) ⟨Nat.le_of_ble_eq_true rfl, Nat.le_of_ble_eq_true rfl⟩) hK hE hP hD hS hA [4 + ((f_row (l7_9).toNatClampNeg)).toNatClampNeg] rfl (zclks_map (by rfl) (zin_lt g26)) 0 0 rfl rfl rfl rfl (zclks_put (by rfl) (zin_lt g26)) rfl hl.1 rfl (Nat.le_of_ble_eq_true rfl) dX4_stray_40 (Nat.zero_le _) (Nat.zero_le _) rfl (fun H locs hP hD hS => ?_)
        refine lv_istore (lv' := [(5, .int y40), (8, .ref (ca_p0_clk ((f_row (l7_9).toNatClampNeg)).toNatClampNeg)), (0, .ref a), (1, .ref a_p0), (3, .int x3), (4, .int x4), (6, .int l6_9), (7, .int l7_9)]) hx hb dX4_stray_43 hl (by decide) rfl (fun ls hl => ?_)
        exact join_45 _ _ _ _ _ _ h hP hD hS (lv_sub hl [2, 3, 4, 5, 0, 6, 7] rfl)
  refine loop_9 fu _ _ _ _ _ _ _ h (fun l5_9e l6_9e H locs ls h hP hD hS hl => ?_) hP hD hS (lv_sub hl [3, 4, 6, 7, 2, 1, 0] rfl)
  refine lv_iload hx hb dX4_stray_65 (lv_at hl 1 rfl) ?_
  refine lv_if_eq (tgt := 75) hx hb dX4_stray_67 (by decide) (fun c67 => ?_) (fun c67 => ?_)
  · have h := zt c67 h
    refine lv_iload hx hb dX4_stray_75 (lv_at hl 2 rfl) ?_
    refine lv_iload_n hx hb dX4_stray_77 rfl (lv_at hl 0 rfl) ?_
    refine lv_isub hx hb dX4_stray_78 ?_
    refine va_mabs hx hb (hml.trans hl.1.symm) hown (hts (.methodLink RX4 58 Lib.Math.abs.name) (by decide +kernel)) (hts (.static Lib.Math.abs.name) (by decide +kernel)) (hts (.initialized "java/lang/Math") (by decide +kernel)) (hts (.code Lib.Math.abs.name Lib.Math.abs.code 1 (some .int)) (by decide +kernel)) (Nat.le_of_ble_eq_true rfl) (Nat.le_of_ble_eq_true rfl) (Nat.zero_le _) (Nat.zero_le _) dX4_stray_79 ?_
    cases h
    exact W.iret hx hb hr (fun t9 ht9 _ => zend hP hD hS ht9) hS.2.2 dX4_stray_82
  · have h := zf c67 h
    refine lv_iload hx hb dX4_stray_70 (lv_at hl 3 rfl) ?_
    refine lv_goto (tgt := 82) hx hb dX4_stray_72 (by decide) ?_
    cases h
    exact W.iret hx hb hr (fun t9 ht9 _ => zend hP hD hS ht9) hS.2.2 dX4_stray_82
abbrev w_X4_keepRow (G : zG) (a : Nat) (a_row : Nat) (a_best : Nat) (v_size : Int32) (v_least : Int32) (f_row : (Nat → Int32)) (f_best : (Nat → Int32)) : va_W := [(a, .inr (4, [.ref a_row, .ref a_best, .int v_size, .int v_least])), (a_row, .inl (zCI G, 6, .inl f_row)), (a_best, .inl (zCI G, 6, .inl f_best))]
theorem in_X4_keepRow_X4 : ∀ w ∈ wsX40, w ∈ wsX4_keepRow := by decide +kernel
set_option maxHeartbeats 4000000 in
set_option maxRecDepth 100000 in
theorem c_X4_keepRow (l : Launch) (G : zG) (a : Nat) (a_row : Nat) (a_best : Nat) (v_size : Int32) (v_least : Int32) (f_row : (Nat → Int32)) (f_best : (Nat → Int32)) (of_best : (Nat → Int32)) (h : fX4_keepRow v_size f_row f_best = some of_best) : zC l yX4_keepRow wsX4_keepRow 1 40 G [.ref a] (w_X4_keepRow G a a_row a_best v_size v_least f_row f_best) none (w_X4_keepRow G a a_row a_best v_size v_least f_row of_best) := by
  refine fun sz => Met.ofW (cc := cX4_keepRow) (maxL := 1) (ret := none) (by decide) rfl ?_
  intro p e s m args below meth c s₁ B hml hv
  obtain ⟨rfl, hsz, hP, hK, hD0, hE⟩ := hv
  have hx := B.exec
  have hb := B.bytes
  have hr := B.returns
  have hts := atoms_spec (ws := wsX4_keepRow) B.pre
  have hown : s.vm.findClass RX4 = some m.cls := findClass_of_methodNamed B.named
  have hlocks := B.notSynchronized
  subst hsz
  have hD := hD0.self (sz := s.heap.size)
  generalize hAe : va_A (w_X4_keepRow G a a_row a_best v_size v_least f_row f_best) s.heap.size = A at hD hE ⊢
  have hA : ∀ q : Nat, s.heap.size ≤ q → A q := fun q h => by rw [← hAe]; exact Or.inr h
  have hS : va_S A s.heap s.heap [] := va_S.rf
  have hl := lv_entry ([.ref a]) (n := 1) (Nat.le_of_ble_eq_true rfl)
  rw [lg_entry_eq]
  generalize (lg_sl ([.ref a]) ++ List.replicate (1 - (lg_sl ([.ref a])).length) Slot.unset).toArray = ls at hl ⊢
  have hl : lv_has ls 1 [(0, .ref a)] := hl
  have hP : va_P G.1 vwCl (w_X4_keepRow G a a_row a_best v_size v_least f_row f_best) s.heap := hP
  rw [fX4_keepRow] at h
  refine lv_aload_n hx hb dX4_keepRow_0 rfl (lv_at hl 0 rfl) ?_
  refine va_get (D := G.1) (ci := 4) (v := .ref a_row) (C := RX4) (T := TX4) (N := 4) hx hb hts in_X4_keepRow_X4 hown hK.1 hP 0 rfl rfl 0 (by decide) (hts (.fieldLink RX4 9 "NineHands$Orders" "row" "[I") (by decide +kernel)) (fun _ h9 => h9) rfl dX4_keepRow_1 ?_
  refine lv_iconst (v := (0 : Int32)) hx hb dX4_keepRow_4 (by decide) ?_
  refine lv_aload_n hx hb dX4_keepRow_5 rfl (lv_at hl 0 rfl) ?_
  refine va_get (D := G.1) (ci := 4) (v := .ref a_best) (C := RX4) (T := TX4) (N := 4) hx hb hts in_X4_keepRow_X4 hown hK.1 hP 0 rfl rfl 1 (by decide) (hts (.fieldLink RX4 15 "NineHands$Orders" "best" "[I") (by decide +kernel)) (fun _ h9 => h9) rfl dX4_keepRow_6 ?_
  refine lv_iconst (v := (0 : Int32)) hx hb dX4_keepRow_9 (by decide) ?_
  refine lv_aload_n hx hb dX4_keepRow_10 rfl (lv_at hl 0 rfl) ?_
  refine va_get (D := G.1) (ci := 4) (v := .int v_size) (C := RX4) (T := TX4) (N := 4) hx hb hts in_X4_keepRow_X4 hown hK.1 hP 0 rfl rfl 2 (by decide) (hts (.fieldLink RX4 18 "NineHands$Orders" "size" "I") (by decide +kernel)) (fun _ h9 => h9) rfl dX4_keepRow_11 ?_
  obtain ⟨g14, h⟩ := zg h
  refine zcpy hx hb (hml.trans hl.1.symm) hown (hts (.methodLink RX4 40 arraycopyName) (by decide +kernel)) (hts (.native arraycopyName) (by decide +kernel)) (hts (.static arraycopyName) (by decide +kernel)) (hts (.initialized "java/lang/System") (by decide +kernel)) hK.1 hP hD hS 1 2 0 rfl rfl rfl (fun q => g14 (Or.inl q)) (k := (v_size).toNatClampNeg) rfl (Nat.le_of_lt_succ (zin_lt g14)) (ws' := (w_X4_keepRow G a a_row a_best v_size v_least f_row (va_cpy f_row f_best 0 0 (v_size).toNatClampNeg))) rfl (Nat.le_of_ble_eq_true rfl) (Nat.le_of_ble_eq_true rfl) dX4_keepRow_14 (fun H locs hP hD hS => ?_)
  cases h
  exact W.vret hx hb hr (fun t9 ht9 _ => zend hP hD hS ht9) hS.2.2 dX4_keepRow_17
abbrev w_X4_swap (G : zG) (a : Nat) (a_row : Nat) (a_best : Nat) (v_size : Int32) (v_least : Int32) (f_row : (Nat → Int32)) : va_W := [(a, .inr (4, [.ref a_row, .ref a_best, .int v_size, .int v_least])), (a_row, .inl (zCI G, 6, .inl f_row))]
theorem in_X4_swap_X4 : ∀ w ∈ wsX40, w ∈ wsX4_swap := by decide +kernel
set_option maxHeartbeats 4000000 in
set_option maxRecDepth 100000 in
theorem c_X4_swap (l : Launch) (G : zG) (a : Nat) (a_row : Nat) (a_best : Nat) (v_size : Int32) (v_least : Int32) (f_row : (Nat → Int32)) (x1 : Int32) (x2 : Int32) (of_row : (Nat → Int32)) (h : fX4_swap f_row x1 x2 = some of_row) : zC l yX4_swap wsX4_swap 0 0 G [.ref a, .int x1, .int x2] (w_X4_swap G a a_row a_best v_size v_least f_row) none (w_X4_swap G a a_row a_best v_size v_least of_row) := by
  refine fun sz => Met.ofW (cc := cX4_swap) (maxL := 4) (ret := none) (by decide) rfl ?_
  intro p e s m args below meth c s₁ B hml hv
  obtain ⟨rfl, hsz, hP, hK, hD0, hE⟩ := hv
  have hx := B.exec
  have hb := B.bytes
  have hr := B.returns
  have hts := atoms_spec (ws := wsX4_swap) B.pre
  have hown : s.vm.findClass RX4 = some m.cls := findClass_of_methodNamed B.named
  have hlocks := B.notSynchronized
  subst hsz
  have hD := hD0.self (sz := s.heap.size)
  generalize hAe : va_A (w_X4_swap G a a_row a_best v_size v_least f_row) s.heap.size = A at hD hE ⊢
  have hA : ∀ q : Nat, s.heap.size ≤ q → A q := fun q h => by rw [← hAe]; exact Or.inr h
  have hS : va_S A s.heap s.heap [] := va_S.rf
  have hl := lv_entry ([.ref a, .int x1, .int x2]) (n := 4) (Nat.le_of_ble_eq_true rfl)
  rw [lg_entry_eq]
  generalize (lg_sl ([.ref a, .int x1, .int x2]) ++ List.replicate (4 - (lg_sl ([.ref a, .int x1, .int x2])).length) Slot.unset).toArray = ls at hl ⊢
  have hl : lv_has ls 4 [(0, .ref a), (1, .int x1), (2, .int x2)] := hl
  have hP : va_P G.1 vwCl (w_X4_swap G a a_row a_best v_size v_least f_row) s.heap := hP
  rw [fX4_swap] at h
  refine lv_aload_n hx hb dX4_swap_0 rfl (lv_at hl 0 rfl) ?_
  refine va_get (D := G.1) (ci := 4) (v := .ref a_row) (C := RX4) (T := TX4) (N := 4) hx hb hts in_X4_swap_X4 hown hK.1 hP 0 rfl rfl 0 (by decide) (hts (.fieldLink RX4 9 "NineHands$Orders" "row" "[I") (by decide +kernel)) (fun _ h9 => h9) rfl dX4_swap_1 ?_
  refine lv_iload_n hx hb dX4_swap_4 rfl (lv_at hl 1 rfl) ?_
  obtain ⟨g5, h⟩ := zg h
  refine zald hx hb hK.1 hP 1 0 rfl rfl g5 (j := (x1).toNatClampNeg) rfl dX4_swap_5 ?_
  refine lv_istore_n (lv' := [(3, .int (f_row (x1).toNatClampNeg)), (0, .ref a), (1, .int x1), (2, .int x2)]) hx hb dX4_swap_6 rfl hl (by decide) rfl (fun ls hl => ?_)
  refine lv_aload_n hx hb dX4_swap_7 rfl (lv_at hl 1 rfl) ?_
  refine va_get (D := G.1) (ci := 4) (v := .ref a_row) (C := RX4) (T := TX4) (N := 4) hx hb hts in_X4_swap_X4 hown hK.1 hP 0 rfl rfl 0 (by decide) (hts (.fieldLink RX4 9 "NineHands$Orders" "row" "[I") (by decide +kernel)) (fun _ h9 => h9) rfl dX4_swap_8 ?_
  refine lv_iload_n hx hb dX4_swap_11 rfl (lv_at hl 2 rfl) ?_
  refine lv_aload_n hx hb dX4_swap_12 rfl (lv_at hl 1 rfl) ?_
  refine va_get (D := G.1) (ci := 4) (v := .ref a_row) (C := RX4) (T := TX4) (N := 4) hx hb hts in_X4_swap_X4 hown hK.1 hP 0 rfl rfl 0 (by decide) (hts (.fieldLink RX4 9 "NineHands$Orders" "row" "[I") (by decide +kernel)) (fun _ h9 => h9) rfl dX4_swap_13 ?_
  refine lv_iload_n hx hb dX4_swap_16 rfl (lv_at hl 3 rfl) ?_
  obtain ⟨g17, h⟩ := zg h
  refine zald hx hb hK.1 hP 1 0 rfl rfl g17 (j := (x2).toNatClampNeg) rfl dX4_swap_17 ?_
  refine zast hx hb hK.1 hP hD hS 1 0 rfl rfl g5 (j := (x1).toNatClampNeg) rfl (ws' := (w_X4_swap G a a_row a_best v_size v_least (upd f_row (x1).toNatClampNeg (f_row (x2).toNatClampNeg)))) rfl dX4_swap_18 (fun H locs hP hD hS => ?_)
  refine lv_aload_n hx hb dX4_swap_19 rfl (lv_at hl 1 rfl) ?_
  refine va_get (D := G.1) (ci := 4) (v := .ref a_row) (C := RX4) (T := TX4) (N := 4) hx hb hts in_X4_swap_X4 hown hK.1 hP 0 rfl rfl 0 (by decide) (hts (.fieldLink RX4 9 "NineHands$Orders" "row" "[I") (by decide +kernel)) (fun _ h9 => h9) rfl dX4_swap_20 ?_
  refine lv_iload_n hx hb dX4_swap_23 rfl (lv_at hl 3 rfl) ?_
  refine lv_iload_n hx hb dX4_swap_24 rfl (lv_at hl 0 rfl) ?_
  refine zast hx hb hK.1 hP hD hS 1 0 rfl rfl g17 (j := (x2).toNatClampNeg) rfl (ws' := (w_X4_swap G a a_row a_best v_size v_least (upd (upd f_row (x1).toNatClampNeg (f_row (x2).toNatClampNeg)) (x2).toNatClampNeg (f_row (x1).toNatClampNeg)))) rfl dX4_swap_25 (fun H locs hP hD hS => ?_)
  cases h
  exact W.vret hx hb hr (fun t9 ht9 _ => zend hP hD hS ht9) hS.2.2 dX4_swap_26
abbrev w_X4_step (G : zG) (a : Nat) (a_row : Nat) (a_best : Nat) (v_size : Int32) (v_least : Int32) (f_row : (Nat → Int32)) : va_W := [(a, .inr (4, [.ref a_row, .ref a_best, .int v_size, .int v_least])), (a_row, .inl (zCI G, 6, .inl f_row))]
theorem in_X4_step_X4 : ∀ w ∈ wsX40, w ∈ wsX4_step := by decide +kernel
set_option maxHeartbeats 4000000 in
set_option maxRecDepth 100000 in
theorem c_X4_step (l : Launch) (G : zG) (fu : Nat) (a : Nat) (a_row : Nat) (a_best : Nat) (v_size : Int32) (v_least : Int32) (f_row : (Nat → Int32)) (rv : Int32) (of_row : (Nat → Int32)) (h : fX4_step fu v_size f_row = some (rv, of_row)) : zC l yX4_step wsX4_step 1 23 G [.ref a] (w_X4_step G a a_row a_best v_size v_least f_row) (some (.int rv)) (w_X4_step G a a_row a_best v_size v_least of_row) := by
  refine fun sz => Met.ofW (cc := cX4_step) (maxL := 5) (ret := (some .boolean)) (by decide) rfl ?_
  intro p e s m args below meth c s₁ B hml hv
  obtain ⟨rfl, hsz, hP, hK, hD0, hE⟩ := hv
  have hx := B.exec
  have hb := B.bytes
  have hr := B.returns
  have hts := atoms_spec (ws := wsX4_step) B.pre
  have hown : s.vm.findClass RX4 = some m.cls := findClass_of_methodNamed B.named
  have hlocks := B.notSynchronized
  subst hsz
  have hD := hD0.self (sz := s.heap.size)
  generalize hAe : va_A (w_X4_step G a a_row a_best v_size v_least f_row) s.heap.size = A at hD hE ⊢
  have hA : ∀ q : Nat, s.heap.size ≤ q → A q := fun q h => by rw [← hAe]; exact Or.inr h
  have hS : va_S A s.heap s.heap [] := va_S.rf
  have hl := lv_entry ([.ref a]) (n := 5) (Nat.le_of_ble_eq_true rfl)
  rw [lg_entry_eq]
  generalize (lg_sl ([.ref a]) ++ List.replicate (5 - (lg_sl ([.ref a])).length) Slot.unset).toArray = ls at hl ⊢
  have hl : lv_has ls 5 [(0, .ref a)] := hl
  have hP : va_P G.1 vwCl (w_X4_step G a a_row a_best v_size v_least f_row) s.heap := hP
  rw [fX4_step] at h
  have join_73 : ∀ (l1_73 : Int32) (l2_73 : Int32) (f_row_73 : (Nat → Int32)) (H : Heap) (locs : List Loc) (ls : Array Slot), fX4_step_J73 fu v_size l1_73 l2_73 f_row_73 = some (rv, of_row) → va_P G.1 vwCl (w_X4_step G a a_row a_best v_size v_least f_row_73) H → va_D A (w_X4_step G a a_row a_best v_size v_least f_row_73) → va_S A s.heap H locs → lv_has ls 5 [(0, .ref a), (1, .int l1_73), (2, .int l2_73)] → W p l e (headSpec wsX4_step { frames := 1, cells := 0, slots := 0, locals := 23 }).room s m ([.ref a] : List Value).toArray below meth c H locs 0 0 (MQ below (zQ (some (.int rv)) G (w_X4_step G a a_row a_best v_size v_least of_row) A) ([.ref a] : List Value).toArray s 0 0 A) (F0 m 73 ls []) := by
    intro l1_73 l2_73 f_row_73 H locs ls h hP hD hS hl
    rw [fX4_step_J73] at h
    refine lv_aload_n hx hb dX4_step_73 rfl (lv_at hl 0 rfl) ?_
    refine lv_iload_n hx hb dX4_step_74 rfl (lv_at hl 1 rfl) ?_
    refine lv_iload_n hx hb dX4_step_75 rfl (lv_at hl 2 rfl) ?_
    obtain ⟨y76_f_row, hc76, h⟩ := zb1_e h
    refine zcV (As := [.int l1_73, .int l2_73]) (rest := []) (ws' := (w_X4_step G a a_row a_best v_size v_least y76_f_row)) (st1 := []) ⟨hx, hb, hml, hown, hts⟩ (c_X4_swap l G a a_row a_best v_size v_least f_row_73 l1_73 l2_73 y76_f_row hc76) (cwV 2 hts gX4_step_X4_swap rfl rfl rfl (by decide +kernel) ⟨Nat.le_of_ble_eq_true rfl, Nat.le_of_ble_eq_true rfl⟩) hK hE hP hD hS hA [0, 1] rfl rfl 0 4 rfl rfl rfl rfl rfl rfl hl.1 rfl (Nat.le_of_ble_eq_true rfl) dX4_step_76 (Nat.zero_le _) (Nat.zero_le _) rfl (fun H locs hP hD hS => ?_)
    refine lv_iload_n hx hb dX4_step_79 rfl (lv_at hl 1 rfl) ?_
    refine lv_iconst (v := (1 : Int32)) hx hb dX4_step_80 (by decide) ?_
    refine lv_iadd hx hb dX4_step_81 ?_
    refine lv_istore_n (lv' := [(3, .int (l1_73 + (1 : Int32))), (0, .ref a), (1, .int l1_73), (2, .int l2_73)]) hx hb dX4_step_82 rfl hl (by decide) rfl (fun ls hl => ?_)
    refine lv_aload_n hx hb dX4_step_83 rfl (lv_at hl 1 rfl) ?_
    refine va_get (D := G.1) (ci := 4) (v := .int v_size) (C := RX4) (T := TX4) (N := 4) hx hb hts in_X4_step_X4 hown hK.1 hP 0 rfl rfl 2 (by decide) (hts (.fieldLink RX4 18 "NineHands$Orders" "size" "I") (by decide +kernel)) (fun _ h9 => h9) rfl dX4_step_84 ?_
    refine lv_iconst (v := (1 : Int32)) hx hb dX4_step_87 (by decide) ?_
    refine lv_isub hx hb dX4_step_88 ?_
    refine lv_istore (lv' := [(4, .int (v_size - (1 : Int32))), (3, .int (l1_73 + (1 : Int32))), (0, .ref a), (1, .int l1_73), (2, .int l2_73)]) hx hb dX4_step_89 hl (by decide) rfl (fun ls hl => ?_)
    have loop_91 : ∀ (n : Nat) (K : (Nat → Int32) → Option (Int32 × (Nat → Int32))) (l3_91 : Int32) (l4_91 : Int32) (f_row_91 : (Nat → Int32)) (H : Heap) (locs : List Loc) (ls : Array Slot), fX4_step_L91 fu K n l3_91 l4_91 f_row_91 = some (rv, of_row) → (∀ (f_row_91e : (Nat → Int32)) (H : Heap) (locs : List Loc) (ls : Array Slot), K f_row_91e = some (rv, of_row) → va_P G.1 vwCl (w_X4_step G a a_row a_best v_size v_least f_row_91e) H → va_D A (w_X4_step G a a_row a_best v_size v_least f_row_91e) → va_S A s.heap H locs → lv_has ls 5 [] → W p l e (headSpec wsX4_step { frames := 1, cells := 0, slots := 0, locals := 23 }).room s m ([.ref a] : List Value).toArray below meth c H locs 0 0 (MQ below (zQ (some (.int rv)) G (w_X4_step G a a_row a_best v_size v_least of_row) A) ([.ref a] : List Value).toArray s 0 0 A) (F0 m 113 ls [])) → va_P G.1 vwCl (w_X4_step G a a_row a_best v_size v_least f_row_91) H → va_D A (w_X4_step G a a_row a_best v_size v_least f_row_91) → va_S A s.heap H locs → lv_has ls 5 [(0, .ref a), (3, .int l3_91), (4, .int l4_91)] → W p l e (headSpec wsX4_step { frames := 1, cells := 0, slots := 0, locals := 23 }).room s m ([.ref a] : List Value).toArray below meth c H locs 0 0 (MQ below (zQ (some (.int rv)) G (w_X4_step G a a_row a_best v_size v_least of_row) A) ([.ref a] : List Value).toArray s 0 0 A) (F0 m 91 ls []) := by
      intro n
      induction n with
      | zero => intro K l3_91 l4_91 f_row_91 H locs ls h; rw [fX4_step_L91] at h; cases h
      | succ n ih =>
        intro K l3_91 l4_91 f_row_91 H locs ls h hk hP hD hS hl
        rw [fX4_step_L91] at h
        refine lv_iload_n hx hb dX4_step_91 rfl (lv_at hl 1 rfl) ?_
        refine lv_iload hx hb dX4_step_92 (lv_at hl 2 rfl) ?_
        refine lv_icmp_ge (tgt := 113) hx hb dX4_step_94 (by decide) (fun c94 => ?_) (fun c94 => ?_)
        · have h := zt c94 h
          exact hk _ _ _ _ h hP hD hS (lv_sub hl [] rfl)
        · have h := zf c94 h
          refine lv_aload_n hx hb dX4_step_97 rfl (lv_at hl 0 rfl) ?_
          refine lv_iload_n hx hb dX4_step_98 rfl (lv_at hl 1 rfl) ?_
          refine lv_iload hx hb dX4_step_99 (lv_at hl 2 rfl) ?_
          obtain ⟨y101_f_row, hc101, h⟩ := zb1_e h
          refine zcV (As := [.int l3_91, .int l4_91]) (rest := []) (ws' := (w_X4_step G a a_row a_best v_size v_least y101_f_row)) (st1 := []) ⟨hx, hb, hml, hown, hts⟩ (c_X4_swap l G a a_row a_best v_size v_least f_row_91 l3_91 l4_91 y101_f_row hc101) (cwV 2 hts gX4_step_X4_swap rfl rfl rfl (by decide +kernel) ⟨Nat.le_of_ble_eq_true rfl, Nat.le_of_ble_eq_true rfl⟩) hK hE hP hD hS hA [0, 1] rfl rfl 0 4 rfl rfl rfl rfl rfl rfl hl.1 rfl (Nat.le_of_ble_eq_true rfl) dX4_step_101 (Nat.zero_le _) (Nat.zero_le _) rfl (fun H locs hP hD hS => ?_)
          refine lv_iinc (v := (l3_91 + (1 : Int32))) (lv' := [(3, .int (l3_91 + (1 : Int32))), (0, .ref a), (4, .int l4_91)]) hx hb dX4_step_104 hl (k := 1) rfl rfl (by decide) rfl (fun ls hl => ?_)
          refine lv_iinc (v := (l4_91 + ((-1) : Int32))) (lv' := [(4, .int (l4_91 + ((-1) : Int32))), (3, .int (l3_91 + (1 : Int32))), (0, .ref a)]) hx hb dX4_step_107 hl (k := 2) rfl rfl (by decide) rfl (fun ls hl => ?_)
          refine lv_goto (tgt := 91) hx hb dX4_step_110 (by decide) ?_
          exact ih K _ _ _ _ _ _ h hk hP hD hS (lv_sub hl [2, 1, 0] rfl)
    refine loop_91 fu _ _ _ _ _ _ _ h (fun f_row_91e H locs ls h hP hD hS hl => ?_) hP hD hS (lv_sub hl [2, 1, 0] rfl)
    refine lv_iconst (v := (1 : Int32)) hx hb dX4_step_113 (by decide) ?_
    cases h
    exact W.zret (ty := .boolean) hx hb hr rfl (fun t9 ht9 _ => zend hP hD hS ht9) hS.2.2 dX4_step_114
  have join_34 : ∀ (l1_34 : Int32) (f_row_34 : (Nat → Int32)) (H : Heap) (locs : List Loc) (ls : Array Slot), fX4_step_J34 fu v_size l1_34 f_row_34 = some (rv, of_row) → va_P G.1 vwCl (w_X4_step G a a_row a_best v_size v_least f_row_34) H → va_D A (w_X4_step G a a_row a_best v_size v_least f_row_34) → va_S A s.heap H locs → lv_has ls 5 [(0, .ref a), (1, .int l1_34)] → W p l e (headSpec wsX4_step { frames := 1, cells := 0, slots := 0, locals := 23 }).room s m ([.ref a] : List Value).toArray below meth c H locs 0 0 (MQ below (zQ (some (.int rv)) G (w_X4_step G a a_row a_best v_size v_least of_row) A) ([.ref a] : List Value).toArray s 0 0 A) (F0 m 34 ls []) := by
    intro l1_34 f_row_34 H locs ls h hP hD hS hl
    rw [fX4_step_J34] at h
    refine lv_iload_n hx hb dX4_step_34 rfl (lv_at hl 1 rfl) ?_
    refine lv_if_ge (tgt := 40) hx hb dX4_step_35 (by decide) (fun c35 => ?_) (fun c35 => ?_)
    · have h := zt c35 h
      refine lv_aload_n hx hb dX4_step_40 rfl (lv_at hl 0 rfl) ?_
      refine va_get (D := G.1) (ci := 4) (v := .int v_size) (C := RX4) (T := TX4) (N := 4) hx hb hts in_X4_step_X4 hown hK.1 hP 0 rfl rfl 2 (by decide) (hts (.fieldLink RX4 18 "NineHands$Orders" "size" "I") (by decide +kernel)) (fun _ h9 => h9) rfl dX4_step_41 ?_
      refine lv_iconst (v := (1 : Int32)) hx hb dX4_step_44 (by decide) ?_
      refine lv_isub hx hb dX4_step_45 ?_
      refine lv_istore_n (lv' := [(2, .int (v_size - (1 : Int32))), (0, .ref a), (1, .int l1_34)]) hx hb dX4_step_46 rfl hl (by decide) rfl (fun ls hl => ?_)
      have loop_47 : ∀ (n : Nat) (K : Int32 → Option (Int32 × (Nat → Int32))) (l2_47 : Int32) (H : Heap) (locs : List Loc) (ls : Array Slot), fX4_step_L47 fu l1_34 f_row_34 K n l2_47 = some (rv, of_row) → (∀ (l2_47e : Int32) (H : Heap) (locs : List Loc) (ls : Array Slot), K l2_47e = some (rv, of_row) → va_P G.1 vwCl (w_X4_step G a a_row a_best v_size v_least f_row_34) H → va_D A (w_X4_step G a a_row a_best v_size v_least f_row_34) → va_S A s.heap H locs → lv_has ls 5 [(0, .ref a), (1, .int l1_34), (2, .int l2_47e)] → W p l e (headSpec wsX4_step { frames := 1, cells := 0, slots := 0, locals := 23 }).room s m ([.ref a] : List Value).toArray below meth c H locs 0 0 (MQ below (zQ (some (.int rv)) G (w_X4_step G a a_row a_best v_size v_least of_row) A) ([.ref a] : List Value).toArray s 0 0 A) (F0 m 73 ls [])) → va_P G.1 vwCl (w_X4_step G a a_row a_best v_size v_least f_row_34) H → va_D A (w_X4_step G a a_row a_best v_size v_least f_row_34) → va_S A s.heap H locs → lv_has ls 5 [(0, .ref a), (1, .int l1_34), (2, .int l2_47)] → W p l e (headSpec wsX4_step { frames := 1, cells := 0, slots := 0, locals := 23 }).room s m ([.ref a] : List Value).toArray below meth c H locs 0 0 (MQ below (zQ (some (.int rv)) G (w_X4_step G a a_row a_best v_size v_least of_row) A) ([.ref a] : List Value).toArray s 0 0 A) (F0 m 47 ls []) := by
        intro n
        induction n with
        | zero => intro K l2_47 H locs ls h; rw [fX4_step_L47] at h; cases h
        | succ n ih =>
          intro K l2_47 H locs ls h hk hP hD hS hl
          rw [fX4_step_L47] at h
          refine lv_iload_n hx hb dX4_step_47 rfl (lv_at hl 2 rfl) ?_
          refine lv_iload_n hx hb dX4_step_48 rfl (lv_at hl 1 rfl) ?_
          refine lv_icmp_le (tgt := 73) hx hb dX4_step_49 (by decide) (fun c49 => ?_) (fun c49 => ?_)
          · have h := zt c49 h
            exact hk _ _ _ _ h hP hD hS (lv_sub hl [0, 1, 2] rfl)
          · have h := zf c49 h
            refine lv_aload_n hx hb dX4_step_52 rfl (lv_at hl 0 rfl) ?_
            refine va_get (D := G.1) (ci := 4) (v := .ref a_row) (C := RX4) (T := TX4) (N := 4) hx hb hts in_X4_step_X4 hown hK.1 hP 0 rfl rfl 0 (by decide) (hts (.fieldLink RX4 9 "NineHands$Orders" "row" "[I") (by decide +kernel)) (fun _ h9 => h9) rfl dX4_step_53 ?_
            refine lv_iload_n hx hb dX4_step_56 rfl (lv_at hl 2 rfl) ?_
            obtain ⟨g57, h⟩ := zg h
            refine zald hx hb hK.1 hP 1 0 rfl rfl g57 (j := (l2_47).toNatClampNeg) rfl dX4_step_57 ?_
            refine lv_aload_n hx hb dX4_step_58 rfl (lv_at hl 0 rfl) ?_
            refine va_get (D := G.1) (ci := 4) (v := .ref a_row) (C := RX4) (T := TX4) (N := 4) hx hb hts in_X4_step_X4 hown hK.1 hP 0 rfl rfl 0 (by decide) (hts (.fieldLink RX4 9 "NineHands$Orders" "row" "[I") (by decide +kernel)) (fun _ h9 => h9) rfl dX4_step_59 ?_
            refine lv_iload_n hx hb dX4_step_62 rfl (lv_at hl 1 rfl) ?_
            obtain ⟨g63, h⟩ := zg h
            refine zald hx hb hK.1 hP 1 0 rfl rfl g63 (j := (l1_34).toNatClampNeg) rfl dX4_step_63 ?_
            refine lv_icmp_ge (tgt := 73) hx hb dX4_step_64 (by decide) (fun c64 => ?_) (fun c64 => ?_)
            · have h := zt c64 h
              exact hk _ _ _ _ h hP hD hS (lv_sub hl [0, 1, 2] rfl)
            · have h := zf c64 h
              refine lv_iinc (v := (l2_47 + ((-1) : Int32))) (lv' := [(2, .int (l2_47 + ((-1) : Int32))), (0, .ref a), (1, .int l1_34)]) hx hb dX4_step_67 hl (k := 2) rfl rfl (by decide) rfl (fun ls hl => ?_)
              refine lv_goto (tgt := 47) hx hb dX4_step_70 (by decide) ?_
              exact ih K _ _ _ _ h hk hP hD hS (lv_sub hl [1, 2, 0] rfl)
      refine loop_47 fu _ _ _ _ _ h (fun l2_47e H locs ls h hP hD hS hl => ?_) hP hD hS (lv_sub hl [1, 2, 0] rfl)
      exact join_73 _ _ _ _ _ _ h hP hD hS (lv_sub hl [0, 1, 2] rfl)
    · have h := zf c35 h
      refine lv_iconst (v := (0 : Int32)) hx hb dX4_step_38 (by decide) ?_
      cases h
      exact W.zret (ty := .boolean) hx hb hr rfl (fun t9 ht9 _ => zend hP hD hS ht9) hS.2.2 dX4_step_39
  refine lv_aload_n hx hb dX4_step_0 rfl (lv_at hl 0 rfl) ?_
  refine va_get (D := G.1) (ci := 4) (v := .int v_size) (C := RX4) (T := TX4) (N := 4) hx hb hts in_X4_step_X4 hown hK.1 hP 0 rfl rfl 2 (by decide) (hts (.fieldLink RX4 18 "NineHands$Orders" "size" "I") (by decide +kernel)) (fun _ h9 => h9) rfl dX4_step_1 ?_
  refine lv_iconst (v := (2 : Int32)) hx hb dX4_step_4 (by decide) ?_
  refine lv_isub hx hb dX4_step_5 ?_
  refine lv_istore_n (lv' := [(1, .int (v_size - (2 : Int32))), (0, .ref a)]) hx hb dX4_step_6 rfl hl (by decide) rfl (fun ls hl => ?_)
  have loop_7 : ∀ (n : Nat) (K : Int32 → Option (Int32 × (Nat → Int32))) (l1_7 : Int32) (H : Heap) (locs : List Loc) (ls : Array Slot), fX4_step_L7 fu f_row K n l1_7 = some (rv, of_row) → (∀ (l1_7e : Int32) (H : Heap) (locs : List Loc) (ls : Array Slot), K l1_7e = some (rv, of_row) → va_P G.1 vwCl (w_X4_step G a a_row a_best v_size v_least f_row) H → va_D A (w_X4_step G a a_row a_best v_size v_least f_row) → va_S A s.heap H locs → lv_has ls 5 [(0, .ref a), (1, .int l1_7e)] → W p l e (headSpec wsX4_step { frames := 1, cells := 0, slots := 0, locals := 23 }).room s m ([.ref a] : List Value).toArray below meth c H locs 0 0 (MQ below (zQ (some (.int rv)) G (w_X4_step G a a_row a_best v_size v_least of_row) A) ([.ref a] : List Value).toArray s 0 0 A) (F0 m 34 ls [])) → va_P G.1 vwCl (w_X4_step G a a_row a_best v_size v_least f_row) H → va_D A (w_X4_step G a a_row a_best v_size v_least f_row) → va_S A s.heap H locs → lv_has ls 5 [(0, .ref a), (1, .int l1_7)] → W p l e (headSpec wsX4_step { frames := 1, cells := 0, slots := 0, locals := 23 }).room s m ([.ref a] : List Value).toArray below meth c H locs 0 0 (MQ below (zQ (some (.int rv)) G (w_X4_step G a a_row a_best v_size v_least of_row) A) ([.ref a] : List Value).toArray s 0 0 A) (F0 m 7 ls []) := by
    intro n
    induction n with
    | zero => intro K l1_7 H locs ls h; rw [fX4_step_L7] at h; cases h
    | succ n ih =>
      intro K l1_7 H locs ls h hk hP hD hS hl
      rw [fX4_step_L7] at h
      refine lv_iload_n hx hb dX4_step_7 rfl (lv_at hl 1 rfl) ?_
      refine lv_if_lt (tgt := 34) hx hb dX4_step_8 (by decide) (fun c8 => ?_) (fun c8 => ?_)
      · have h := zt c8 h
        exact hk _ _ _ _ h hP hD hS (lv_sub hl [0, 1] rfl)
      · have h := zf c8 h
        refine lv_aload_n hx hb dX4_step_11 rfl (lv_at hl 0 rfl) ?_
        refine va_get (D := G.1) (ci := 4) (v := .ref a_row) (C := RX4) (T := TX4) (N := 4) hx hb hts in_X4_step_X4 hown hK.1 hP 0 rfl rfl 0 (by decide) (hts (.fieldLink RX4 9 "NineHands$Orders" "row" "[I") (by decide +kernel)) (fun _ h9 => h9) rfl dX4_step_12 ?_
        refine lv_iload_n hx hb dX4_step_15 rfl (lv_at hl 1 rfl) ?_
        obtain ⟨g16, h⟩ := zg h
        refine zald hx hb hK.1 hP 1 0 rfl rfl g16 (j := (l1_7).toNatClampNeg) rfl dX4_step_16 ?_
        refine lv_aload_n hx hb dX4_step_17 rfl (lv_at hl 0 rfl) ?_
        refine va_get (D := G.1) (ci := 4) (v := .ref a_row) (C := RX4) (T := TX4) (N := 4) hx hb hts in_X4_step_X4 hown hK.1 hP 0 rfl rfl 0 (by decide) (hts (.fieldLink RX4 9 "NineHands$Orders" "row" "[I") (by decide +kernel)) (fun _ h9 => h9) rfl dX4_step_18 ?_
        refine lv_iload_n hx hb dX4_step_21 rfl (lv_at hl 1 rfl) ?_
        refine lv_iconst (v := (1 : Int32)) hx hb dX4_step_22 (by decide) ?_
        refine lv_iadd hx hb dX4_step_23 ?_
        obtain ⟨g24, h⟩ := zg h
        refine zald hx hb hK.1 hP 1 0 rfl rfl g24 (j := ((l1_7 + (1 : Int32))).toNatClampNeg) rfl dX4_step_24 ?_
        refine lv_icmp_le (tgt := 34) hx hb dX4_step_25 (by decide) (fun c25 => ?_) (fun c25 => ?_)
        · have h := zt c25 h
          exact hk _ _ _ _ h hP hD hS (lv_sub hl [0, 1] rfl)
        · have h := zf c25 h
          refine lv_iinc (v := (l1_7 + ((-1) : Int32))) (lv' := [(1, .int (l1_7 + ((-1) : Int32))), (0, .ref a)]) hx hb dX4_step_28 hl (k := 1) rfl rfl (by decide) rfl (fun ls hl => ?_)
          refine lv_goto (tgt := 7) hx hb dX4_step_31 (by decide) ?_
          exact ih K _ _ _ _ h hk hP hD hS (lv_sub hl [1, 0] rfl)
  refine loop_7 fu _ _ _ _ _ h (fun l1_7e H locs ls h hP hD hS hl => ?_) hP hD hS (lv_sub hl [1, 0] rfl)
  exact join_34 _ _ _ _ _ h hP hD hS (lv_sub hl [0, 1] rfl)
abbrev w_X4_seek (G : zG) (a : Nat) (a_row : Nat) (a_best : Nat) (a_p0 : Nat) (a_p0_clerks : Nat) (ca_p0_clk : Nat → Nat) (v_size : Int32) (v_least : Int32) (f_row : (Nat → Int32)) (f_best : (Nat → Int32)) (v_p0_count : Int32) (v_p0_letterTold : Int32) (v_p0_firstTone : Int32) (v_p0_firstMarks : Int32) (k_p0_lean : (Nat → Int32)) (k_p0_sets : (Nat → Int32)) (k_p0_drops : (Nat → Int32)) (k_p0_keeps : (Nat → Int32)) : va_W := [(a, .inr (4, [.ref a_row, .ref a_best, .int v_size, .int v_least])), (a_row, .inl (zCI G, 6, .inl f_row)), (a_best, .inl (zCI G, 6, .inl f_best)), (a_p0, .inr (3, [.ref a_p0_clerks, .int v_p0_count, .int v_p0_letterTold, .int v_p0_firstTone, .int v_p0_firstMarks])), (a_p0_clerks, .inl (zCC G, 6, .inr (.inr (.inr (.inr (fun k => some (ca_p0_clk k)))))))] ++ zclks ca_p0_clk k_p0_lean k_p0_sets k_p0_drops k_p0_keeps
theorem in_X4_seek_X4 : ∀ w ∈ wsX40, w ∈ wsX4_seek := by decide +kernel
set_option maxHeartbeats 4000000 in
set_option maxRecDepth 100000 in
theorem c_X4_seek (l : Launch) (G : zG) (fu : Nat) (a : Nat) (a_row : Nat) (a_best : Nat) (a_p0 : Nat) (a_p0_clerks : Nat) (ca_p0_clk : Nat → Nat) (v_size : Int32) (v_least : Int32) (f_row : (Nat → Int32)) (f_best : (Nat → Int32)) (v_p0_count : Int32) (v_p0_letterTold : Int32) (v_p0_firstTone : Int32) (v_p0_firstMarks : Int32) (k_p0_lean : (Nat → Int32)) (k_p0_sets : (Nat → Int32)) (k_p0_drops : (Nat → Int32)) (k_p0_keeps : (Nat → Int32)) (x2 : Int32) (x3 : Int32) (x4 : Int32) (x5 : Int32) (ov_size : Int32) (ov_least : Int32) (of_row : (Nat → Int32)) (of_best : (Nat → Int32)) (h : fX4_seek fu v_size v_least f_row f_best v_p0_count k_p0_lean x2 x3 x4 x5 = some (ov_size, ov_least, of_row, of_best)) : zC l yX4_seek wsX4_seek 4 94 G [.ref a, .ref a_p0, .int x2, .int x3, .int x4, .int x5] (w_X4_seek G a a_row a_best a_p0 a_p0_clerks ca_p0_clk v_size v_least f_row f_best v_p0_count v_p0_letterTold v_p0_firstTone v_p0_firstMarks k_p0_lean k_p0_sets k_p0_drops k_p0_keeps) none (w_X4_seek G a a_row a_best a_p0 a_p0_clerks ca_p0_clk ov_size ov_least of_row of_best v_p0_count v_p0_letterTold v_p0_firstTone v_p0_firstMarks k_p0_lean k_p0_sets k_p0_drops k_p0_keeps) := by
  refine fun sz => Met.ofW (cc := cX4_seek) (maxL := 8) (ret := none) (by decide) rfl ?_
  intro p e s m args below meth c s₁ B hml hv
  obtain ⟨rfl, hsz, hP, hK, hD0, hE⟩ := hv
  have hx := B.exec
  have hb := B.bytes
  have hr := B.returns
  have hts := atoms_spec (ws := wsX4_seek) B.pre
  have hown : s.vm.findClass RX4 = some m.cls := findClass_of_methodNamed B.named
  have hlocks := B.notSynchronized
  subst hsz
  have hD := hD0.self (sz := s.heap.size)
  generalize hAe : va_A (w_X4_seek G a a_row a_best a_p0 a_p0_clerks ca_p0_clk v_size v_least f_row f_best v_p0_count v_p0_letterTold v_p0_firstTone v_p0_firstMarks k_p0_lean k_p0_sets k_p0_drops k_p0_keeps) s.heap.size = A at hD hE ⊢
  have hA : ∀ q : Nat, s.heap.size ≤ q → A q := fun q h => by rw [← hAe]; exact Or.inr h
  have hS : va_S A s.heap s.heap [] := va_S.rf
  have hl := lv_entry ([.ref a, .ref a_p0, .int x2, .int x3, .int x4, .int x5]) (n := 8) (Nat.le_of_ble_eq_true rfl)
  rw [lg_entry_eq]
  generalize (lg_sl ([.ref a, .ref a_p0, .int x2, .int x3, .int x4, .int x5]) ++ List.replicate (8 - (lg_sl ([.ref a, .ref a_p0, .int x2, .int x3, .int x4, .int x5])).length) Slot.unset).toArray = ls at hl ⊢
  have hl : lv_has ls 8 [(0, .ref a), (1, .ref a_p0), (2, .int x2), (3, .int x3), (4, .int x4), (5, .int x5)] := hl
  have hP : va_P G.1 vwCl (w_X4_seek G a a_row a_best a_p0 a_p0_clerks ca_p0_clk v_size v_least f_row f_best v_p0_count v_p0_letterTold v_p0_firstTone v_p0_firstMarks k_p0_lean k_p0_sets k_p0_drops k_p0_keeps) s.heap := hP
  rw [fX4_seek] at h
  refine lv_aload_n hx hb dX4_seek_0 rfl (lv_at hl 0 rfl) ?_
  refine lv_iload_n hx hb dX4_seek_1 rfl (lv_at hl 2 rfl) ?_
  obtain ⟨y2_v_size, y2_f_row, hc2, h⟩ := zb2_e h
  refine zcV (As := [.int x2]) (rest := []) (ws' := (w_X4_seek G a a_row a_best a_p0 a_p0_clerks ca_p0_clk y2_v_size v_least y2_f_row f_best v_p0_count v_p0_letterTold v_p0_firstTone v_p0_firstMarks k_p0_lean k_p0_sets k_p0_drops k_p0_keeps)) (st1 := []) ⟨hx, hb, hml, hown, hts⟩ (c_X4_lineUp l G fu a a_row a_best v_size v_least f_row x2 y2_v_size y2_f_row hc2) (cwV 1 hts gX4_seek_X4_lineUp rfl rfl rfl (by decide +kernel) ⟨Nat.le_of_ble_eq_true rfl, Nat.le_of_ble_eq_true rfl⟩) hK hE hP hD hS hA [0, 1] rfl rfl 0 4 rfl rfl rfl rfl rfl rfl hl.1 rfl (Nat.le_of_ble_eq_true rfl) dX4_seek_2 (Nat.zero_le _) (Nat.zero_le _) rfl (fun H locs hP hD hS => ?_)
  refine lv_aload_n hx hb dX4_seek_5 rfl (lv_at hl 0 rfl) ?_
  refine lv_aload_n hx hb dX4_seek_6 rfl (lv_at hl 0 rfl) ?_
  refine lv_aload_n hx hb dX4_seek_7 rfl (lv_at hl 1 rfl) ?_
  refine lv_iload_n hx hb dX4_seek_8 rfl (lv_at hl 3 rfl) ?_
  refine lv_iload hx hb dX4_seek_9 (lv_at hl 4 rfl) ?_
  refine lv_iload hx hb dX4_seek_11 (lv_at hl 5 rfl) ?_
  obtain ⟨y13, hc13, h⟩ := zb1_e h
  refine zcV (As := [.ref a_p0, .int x3, .int x4, .int x5]) (rest := [.ref a]) (ws' := (w_X4_seek G a a_row a_best a_p0 a_p0_clerks ca_p0_clk y2_v_size v_least y2_f_row f_best v_p0_count v_p0_letterTold v_p0_firstTone v_p0_firstMarks k_p0_lean k_p0_sets k_p0_drops k_p0_keeps)) (st1 := [.int y13, .ref a]) ⟨hx, hb, hml, hown, hts⟩ (c_X4_stray l G fu a a_row a_best a_p0 a_p0_clerks ca_p0_clk y2_v_size v_least y2_f_row v_p0_count v_p0_letterTold v_p0_firstTone v_p0_firstMarks k_p0_lean k_p0_sets k_p0_drops k_p0_keeps x3 x4 x5 y13 hc13) (cwV 4 hts gX4_seek_X4_stray rfl rfl rfl (by decide +kernel) ⟨Nat.le_of_ble_eq_true rfl, Nat.le_of_ble_eq_true rfl⟩) hK hE hP hD hS hA [0, 1, 3, 4, 5, 6, 7, 8, 9, 10] rfl rfl 0 4 rfl rfl rfl rfl rfl rfl hl.1 rfl (Nat.le_of_ble_eq_true rfl) dX4_seek_13 (Nat.zero_le _) (Nat.zero_le _) rfl (fun H locs hP hD hS => ?_)
  refine zput1 (D := G.1) (ci := 4) (C := RX4) (T := TX4) (N := 4) (ty := .int) (ws' := (w_X4_seek G a a_row a_best a_p0 a_p0_clerks ca_p0_clk y2_v_size y13 y2_f_row f_best v_p0_count v_p0_letterTold v_p0_firstTone v_p0_firstMarks k_p0_lean k_p0_sets k_p0_drops k_p0_keeps)) hx hb hts in_X4_seek_X4 tyX4 tyX4_ok nmX4 hown hK.1 hP hD hS 0 rfl rfl 3 (by decide) (hts (.fieldLink RX4 22 "NineHands$Orders" "least" "I") (by decide +kernel)) (fun _ h9 => h9) rfl (by decide +kernel) rfl rfl (Nat.le_of_ble_eq_true rfl) rfl dX4_seek_16 (fun H locs hP hD hS => ?_)
  refine lv_aload_n hx hb dX4_seek_19 rfl (lv_at hl 0 rfl) ?_
  obtain ⟨y20_f_best, hc20, h⟩ := zb1_e h
  refine zcV (As := []) (rest := []) (ws' := (w_X4_seek G a a_row a_best a_p0 a_p0_clerks ca_p0_clk y2_v_size y13 y2_f_row y20_f_best v_p0_count v_p0_letterTold v_p0_firstTone v_p0_firstMarks k_p0_lean k_p0_sets k_p0_drops k_p0_keeps)) (st1 := []) ⟨hx, hb, hml, hown, hts⟩ (c_X4_keepRow l G a a_row a_best y2_v_size y13 y2_f_row f_best y20_f_best hc20) (cwV 0 hts gX4_seek_X4_keepRow rfl rfl rfl (by decide +kernel) ⟨Nat.le_of_ble_eq_true rfl, Nat.le_of_ble_eq_true rfl⟩) hK hE hP hD hS hA [0, 1, 2] rfl rfl 0 4 rfl rfl rfl rfl rfl rfl hl.1 rfl (Nat.le_of_ble_eq_true rfl) dX4_seek_20 (Nat.zero_le _) (Nat.zero_le _) rfl (fun H locs hP hD hS => ?_)
  refine lv_iconst (v := (1 : Int32)) hx hb dX4_seek_23 (by decide) ?_
  refine lv_istore (lv' := [(6, .int (1 : Int32)), (0, .ref a), (1, .ref a_p0), (2, .int x2), (3, .int x3), (4, .int x4), (5, .int x5)]) hx hb dX4_seek_24 hl (by decide) rfl (fun ls hl => ?_)
  have loop_26 : ∀ (n : Nat) (K : Int32 → (Nat → Int32) → (Nat → Int32) → Option (Int32 × Int32 × (Nat → Int32) × (Nat → Int32))) (l6_26 : Int32) (v_least_26 : Int32) (f_row_26 : (Nat → Int32)) (f_best_26 : (Nat → Int32)) (H : Heap) (locs : List Loc) (ls : Array Slot), fX4_seek_L26 fu x3 x4 x5 y2_v_size v_p0_count k_p0_lean K n l6_26 v_least_26 f_row_26 f_best_26 = some (ov_size, ov_least, of_row, of_best) → (∀ (v_least_26e : Int32) (f_row_26e : (Nat → Int32)) (f_best_26e : (Nat → Int32)) (H : Heap) (locs : List Loc) (ls : Array Slot), K v_least_26e f_row_26e f_best_26e = some (ov_size, ov_least, of_row, of_best) → va_P G.1 vwCl (w_X4_seek G a a_row a_best a_p0 a_p0_clerks ca_p0_clk y2_v_size v_least_26e f_row_26e f_best_26e v_p0_count v_p0_letterTold v_p0_firstTone v_p0_firstMarks k_p0_lean k_p0_sets k_p0_drops k_p0_keeps) H → va_D A (w_X4_seek G a a_row a_best a_p0 a_p0_clerks ca_p0_clk y2_v_size v_least_26e f_row_26e f_best_26e v_p0_count v_p0_letterTold v_p0_firstTone v_p0_firstMarks k_p0_lean k_p0_sets k_p0_drops k_p0_keeps) → va_S A s.heap H locs → lv_has ls 8 [] → W p l e (headSpec wsX4_seek { frames := 4, cells := 0, slots := 0, locals := 94 }).room s m ([.ref a, .ref a_p0, .int x2, .int x3, .int x4, .int x5] : List Value).toArray below meth c H locs 0 0 (MQ below (zQ none G (w_X4_seek G a a_row a_best a_p0 a_p0_clerks ca_p0_clk ov_size ov_least of_row of_best v_p0_count v_p0_letterTold v_p0_firstTone v_p0_firstMarks k_p0_lean k_p0_sets k_p0_drops k_p0_keeps) A) ([.ref a, .ref a_p0, .int x2, .int x3, .int x4, .int x5] : List Value).toArray s 0 0 A) (F0 m 85 ls [])) → va_P G.1 vwCl (w_X4_seek G a a_row a_best a_p0 a_p0_clerks ca_p0_clk y2_v_size v_least_26 f_row_26 f_best_26 v_p0_count v_p0_letterTold v_p0_firstTone v_p0_firstMarks k_p0_lean k_p0_sets k_p0_drops k_p0_keeps) H → va_D A (w_X4_seek G a a_row a_best a_p0 a_p0_clerks ca_p0_clk y2_v_size v_least_26 f_row_26 f_best_26 v_p0_count v_p0_letterTold v_p0_firstTone v_p0_firstMarks k_p0_lean k_p0_sets k_p0_drops k_p0_keeps) → va_S A s.heap H locs → lv_has ls 8 [(0, .ref a), (1, .ref a_p0), (3, .int x3), (4, .int x4), (5, .int x5), (6, .int l6_26)] → W p l e (headSpec wsX4_seek { frames := 4, cells := 0, slots := 0, locals := 94 }).room s m ([.ref a, .ref a_p0, .int x2, .int x3, .int x4, .int x5] : List Value).toArray below meth c H locs 0 0 (MQ below (zQ none G (w_X4_seek G a a_row a_best a_p0 a_p0_clerks ca_p0_clk ov_size ov_least of_row of_best v_p0_count v_p0_letterTold v_p0_firstTone v_p0_firstMarks k_p0_lean k_p0_sets k_p0_drops k_p0_keeps) A) ([.ref a, .ref a_p0, .int x2, .int x3, .int x4, .int x5] : List Value).toArray s 0 0 A) (F0 m 26 ls []) := by
    intro n
    induction n with
    | zero => intro K l6_26 v_least_26 f_row_26 f_best_26 H locs ls h; rw [fX4_seek_L26] at h; cases h
    | succ n ih =>
      intro K l6_26 v_least_26 f_row_26 f_best_26 H locs ls h hk hP hD hS hl
      rw [fX4_seek_L26] at h
      refine lv_iload hx hb dX4_seek_26 (lv_at hl 5 rfl) ?_
      refine lv_sipush (v := (720 : Int32)) hx hb dX4_seek_28 (by decide) ?_
      refine lv_icmp_ge (tgt := 85) hx hb dX4_seek_31 (by decide) (fun c31 => ?_) (fun c31 => ?_)
      · have h := zt c31 h
        exact hk _ _ _ _ _ _ h hP hD hS (lv_sub hl [] rfl)
      · have h := zf c31 h
        refine lv_aload_n hx hb dX4_seek_34 rfl (lv_at hl 0 rfl) ?_
        refine va_get (D := G.1) (ci := 4) (v := .int v_least_26) (C := RX4) (T := TX4) (N := 4) hx hb hts in_X4_seek_X4 hown hK.1 hP 0 rfl rfl 3 (by decide) (hts (.fieldLink RX4 22 "NineHands$Orders" "least" "I") (by decide +kernel)) (fun _ h9 => h9) rfl dX4_seek_35 ?_
        refine lv_if_le (tgt := 85) hx hb dX4_seek_38 (by decide) (fun c38 => ?_) (fun c38 => ?_)
        · have h := zt c38 h
          exact hk _ _ _ _ _ _ h hP hD hS (lv_sub hl [] rfl)
        · have h := zf c38 h
          refine lv_aload_n hx hb dX4_seek_41 rfl (lv_at hl 0 rfl) ?_
          obtain ⟨y42, y42_f_row, hc42, h⟩ := zb2_e h
          refine zcV (As := []) (rest := []) (ws' := (w_X4_seek G a a_row a_best a_p0 a_p0_clerks ca_p0_clk y2_v_size v_least_26 y42_f_row f_best_26 v_p0_count v_p0_letterTold v_p0_firstTone v_p0_firstMarks k_p0_lean k_p0_sets k_p0_drops k_p0_keeps)) (st1 := [.int y42]) ⟨hx, hb, hml, hown, hts⟩ (c_X4_step l G fu a a_row a_best y2_v_size v_least_26 f_row_26 y42 y42_f_row hc42) (cwV 0 hts gX4_seek_X4_step rfl rfl rfl (by decide +kernel) ⟨Nat.le_of_ble_eq_true rfl, Nat.le_of_ble_eq_true rfl⟩) hK hE hP hD hS hA [0, 1] rfl rfl 0 4 rfl rfl rfl rfl rfl rfl hl.1 rfl (Nat.le_of_ble_eq_true rfl) dX4_seek_42 (Nat.zero_le _) (Nat.zero_le _) rfl (fun H locs hP hD hS => ?_)
          refine lv_if_eq (tgt := 85) hx hb dX4_seek_45 (by decide) (fun c45 => ?_) (fun c45 => ?_)
          · have h := zt c45 h
            exact hk _ _ _ _ _ _ h hP hD hS (lv_sub hl [] rfl)
          · have h := zf c45 h
            refine lv_aload_n hx hb dX4_seek_48 rfl (lv_at hl 0 rfl) ?_
            refine lv_aload_n hx hb dX4_seek_49 rfl (lv_at hl 1 rfl) ?_
            refine lv_iload_n hx hb dX4_seek_50 rfl (lv_at hl 2 rfl) ?_
            refine lv_iload hx hb dX4_seek_51 (lv_at hl 3 rfl) ?_
            refine lv_iload hx hb dX4_seek_53 (lv_at hl 4 rfl) ?_
            obtain ⟨y55, hc55, h⟩ := zb1_e h
            refine zcV (As := [.ref a_p0, .int x3, .int x4, .int x5]) (rest := []) (ws' := (w_X4_seek G a a_row a_best a_p0 a_p0_clerks ca_p0_clk y2_v_size v_least_26 y42_f_row f_best_26 v_p0_count v_p0_letterTold v_p0_firstTone v_p0_firstMarks k_p0_lean k_p0_sets k_p0_drops k_p0_keeps)) (st1 := [.int y55]) ⟨hx, hb, hml, hown, hts⟩ (c_X4_stray l G fu a a_row a_best a_p0 a_p0_clerks ca_p0_clk y2_v_size v_least_26 y42_f_row v_p0_count v_p0_letterTold v_p0_firstTone v_p0_firstMarks k_p0_lean k_p0_sets k_p0_drops k_p0_keeps x3 x4 x5 y55 hc55) (cwV 4 hts gX4_seek_X4_stray rfl rfl rfl (by decide +kernel) ⟨Nat.le_of_ble_eq_true rfl, Nat.le_of_ble_eq_true rfl⟩) hK hE hP hD hS hA [0, 1, 3, 4, 5, 6, 7, 8, 9, 10] rfl rfl 0 4 rfl rfl rfl rfl rfl rfl hl.1 rfl (Nat.le_of_ble_eq_true rfl) dX4_seek_55 (Nat.zero_le _) (Nat.zero_le _) rfl (fun H locs hP hD hS => ?_)
            refine lv_istore (lv' := [(7, .int y55), (0, .ref a), (1, .ref a_p0), (3, .int x3), (4, .int x4), (5, .int x5), (6, .int l6_26)]) hx hb dX4_seek_58 hl (by decide) rfl (fun ls hl => ?_)
            refine lv_iload hx hb dX4_seek_60 (lv_at hl 0 rfl) ?_
            refine lv_aload_n hx hb dX4_seek_62 rfl (lv_at hl 1 rfl) ?_
            refine va_get (D := G.1) (ci := 4) (v := .int v_least_26) (C := RX4) (T := TX4) (N := 4) hx hb hts in_X4_seek_X4 hown hK.1 hP 0 rfl rfl 3 (by decide) (hts (.fieldLink RX4 22 "NineHands$Orders" "least" "I") (by decide +kernel)) (fun _ h9 => h9) rfl dX4_seek_63 ?_
            refine lv_icmp_ge (tgt := 79) hx hb dX4_seek_66 (by decide) (fun c66 => ?_) (fun c66 => ?_)
            · have h := zt c66 h
              refine lv_iinc (v := (l6_26 + (1 : Int32))) (lv' := [(6, .int (l6_26 + (1 : Int32))), (7, .int y55), (0, .ref a), (1, .ref a_p0), (3, .int x3), (4, .int x4), (5, .int x5)]) hx hb dX4_seek_79 hl (k := 6) rfl rfl (by decide) rfl (fun ls hl => ?_)
              refine lv_goto (tgt := 26) hx hb dX4_seek_82 (by decide) ?_
              exact ih K _ _ _ _ _ _ _ h hk hP hD hS (lv_sub hl [2, 3, 4, 5, 6, 0] rfl)
            · have h := zf c66 h
              refine lv_aload_n hx hb dX4_seek_69 rfl (lv_at hl 1 rfl) ?_
              refine lv_iload hx hb dX4_seek_70 (lv_at hl 0 rfl) ?_
              refine zput1 (D := G.1) (ci := 4) (C := RX4) (T := TX4) (N := 4) (ty := .int) (ws' := (w_X4_seek G a a_row a_best a_p0 a_p0_clerks ca_p0_clk y2_v_size y55 y42_f_row f_best_26 v_p0_count v_p0_letterTold v_p0_firstTone v_p0_firstMarks k_p0_lean k_p0_sets k_p0_drops k_p0_keeps)) hx hb hts in_X4_seek_X4 tyX4 tyX4_ok nmX4 hown hK.1 hP hD hS 0 rfl rfl 3 (by decide) (hts (.fieldLink RX4 22 "NineHands$Orders" "least" "I") (by decide +kernel)) (fun _ h9 => h9) rfl (by decide +kernel) rfl rfl (Nat.le_of_ble_eq_true rfl) rfl dX4_seek_72 (fun H locs hP hD hS => ?_)
              refine lv_aload_n hx hb dX4_seek_75 rfl (lv_at hl 1 rfl) ?_
              obtain ⟨y76_f_best, hc76, h⟩ := zb1_e h
              refine zcV (As := []) (rest := []) (ws' := (w_X4_seek G a a_row a_best a_p0 a_p0_clerks ca_p0_clk y2_v_size y55 y42_f_row y76_f_best v_p0_count v_p0_letterTold v_p0_firstTone v_p0_firstMarks k_p0_lean k_p0_sets k_p0_drops k_p0_keeps)) (st1 := []) ⟨hx, hb, hml, hown, hts⟩ (c_X4_keepRow l G a a_row a_best y2_v_size y55 y42_f_row f_best_26 y76_f_best hc76) (cwV 0 hts gX4_seek_X4_keepRow rfl rfl rfl (by decide +kernel) ⟨Nat.le_of_ble_eq_true rfl, Nat.le_of_ble_eq_true rfl⟩) hK hE hP hD hS hA [0, 1, 2] rfl rfl 0 4 rfl rfl rfl rfl rfl rfl hl.1 rfl (Nat.le_of_ble_eq_true rfl) dX4_seek_76 (Nat.zero_le _) (Nat.zero_le _) rfl (fun H locs hP hD hS => ?_)
              refine lv_iinc (v := (l6_26 + (1 : Int32))) (lv' := [(6, .int (l6_26 + (1 : Int32))), (7, .int y55), (0, .ref a), (1, .ref a_p0), (3, .int x3), (4, .int x4), (5, .int x5)]) hx hb dX4_seek_79 hl (k := 6) rfl rfl (by decide) rfl (fun ls hl => ?_)
              refine lv_goto (tgt := 26) hx hb dX4_seek_82 (by decide) ?_
              exact ih K _ _ _ _ _ _ _ h hk hP hD hS (lv_sub hl [2, 3, 4, 5, 6, 0] rfl)
  refine loop_26 fu _ _ _ _ _ _ _ _ h (fun v_least_26e f_row_26e f_best_26e H locs ls h hP hD hS hl => ?_) hP hD hS (lv_sub hl [1, 2, 4, 5, 6, 0] rfl)
  cases h
  exact W.vret hx hb hr (fun t9 ht9 _ => zend hP hD hS ht9) hS.2.2 dX4_seek_85
abbrev w_X4_answer (G : zG) (a : Nat) (a_row : Nat) (a_best : Nat) (v_size : Int32) (v_least : Int32) (f_best : (Nat → Int32)) : va_W := [(a, .inr (4, [.ref a_row, .ref a_best, .int v_size, .int v_least])), (a_best, .inl (zCI G, 6, .inl f_best))]
theorem in_X4_answer_X4 : ∀ w ∈ wsX40, w ∈ wsX4_answer := by decide +kernel
set_option maxHeartbeats 4000000 in
set_option maxRecDepth 100000 in
theorem c_X4_answer (l : Launch) (G : zG) (a : Nat) (a_row : Nat) (a_best : Nat) (v_size : Int32) (v_least : Int32) (f_best : (Nat → Int32)) (x1 : Int32) (rv : Int32) (h : fX4_answer v_size v_least f_best x1 = some rv) : zC l yX4_answer wsX4_answer 0 0 G [.ref a, .int x1] (w_X4_answer G a a_row a_best v_size v_least f_best) (some (.int rv)) (w_X4_answer G a a_row a_best v_size v_least f_best) := by
  refine fun sz => Met.ofW (cc := cX4_answer) (maxL := 2) (ret := (some .int)) (by decide) rfl ?_
  intro p e s m args below meth c s₁ B hml hv
  obtain ⟨rfl, hsz, hP, hK, hD0, hE⟩ := hv
  have hx := B.exec
  have hb := B.bytes
  have hr := B.returns
  have hts := atoms_spec (ws := wsX4_answer) B.pre
  have hown : s.vm.findClass RX4 = some m.cls := findClass_of_methodNamed B.named
  have hlocks := B.notSynchronized
  subst hsz
  have hD := hD0.self (sz := s.heap.size)
  generalize hAe : va_A (w_X4_answer G a a_row a_best v_size v_least f_best) s.heap.size = A at hD hE ⊢
  have hA : ∀ q : Nat, s.heap.size ≤ q → A q := fun q h => by rw [← hAe]; exact Or.inr h
  have hS : va_S A s.heap s.heap [] := va_S.rf
  have hl := lv_entry ([.ref a, .int x1]) (n := 2) (Nat.le_of_ble_eq_true rfl)
  rw [lg_entry_eq]
  generalize (lg_sl ([.ref a, .int x1]) ++ List.replicate (2 - (lg_sl ([.ref a, .int x1])).length) Slot.unset).toArray = ls at hl ⊢
  have hl : lv_has ls 2 [(0, .ref a), (1, .int x1)] := hl
  have hP : va_P G.1 vwCl (w_X4_answer G a a_row a_best v_size v_least f_best) s.heap := hP
  rw [fX4_answer] at h
  refine lv_iload_n hx hb dX4_answer_0 rfl (lv_at hl 1 rfl) ?_
  refine lv_if_ge (tgt := 9) hx hb dX4_answer_1 (by decide) (fun c1 => ?_) (fun c1 => ?_)
  · have h := zt c1 h
    refine lv_iload_n hx hb dX4_answer_9 rfl (lv_at hl 1 rfl) ?_
    refine lv_aload_n hx hb dX4_answer_10 rfl (lv_at hl 0 rfl) ?_
    refine va_get (D := G.1) (ci := 4) (v := .int v_size) (C := RX4) (T := TX4) (N := 4) hx hb hts in_X4_answer_X4 hown hK.1 hP 0 rfl rfl 2 (by decide) (hts (.fieldLink RX4 18 "NineHands$Orders" "size" "I") (by decide +kernel)) (fun _ h9 => h9) rfl dX4_answer_11 ?_
    refine lv_icmp_ge (tgt := 26) hx hb dX4_answer_14 (by decide) (fun c14 => ?_) (fun c14 => ?_)
    · have h := zt c14 h
      refine lv_bipush (v := ((-5) : Int32)) hx hb dX4_answer_26 (by decide) ?_
      cases h
      exact W.iret hx hb hr (fun t9 ht9 _ => zend hP hD hS ht9) hS.2.2 dX4_answer_28
    · have h := zf c14 h
      refine lv_aload_n hx hb dX4_answer_17 rfl (lv_at hl 0 rfl) ?_
      refine va_get (D := G.1) (ci := 4) (v := .ref a_best) (C := RX4) (T := TX4) (N := 4) hx hb hts in_X4_answer_X4 hown hK.1 hP 0 rfl rfl 1 (by decide) (hts (.fieldLink RX4 15 "NineHands$Orders" "best" "[I") (by decide +kernel)) (fun _ h9 => h9) rfl dX4_answer_18 ?_
      refine lv_iload_n hx hb dX4_answer_21 rfl (lv_at hl 1 rfl) ?_
      obtain ⟨g22, h⟩ := zg h
      refine zald hx hb hK.1 hP 1 0 rfl rfl g22 (j := (x1).toNatClampNeg) rfl dX4_answer_22 ?_
      refine lv_goto (tgt := 28) hx hb dX4_answer_23 (by decide) ?_
      cases h
      exact W.iret hx hb hr (fun t9 ht9 _ => zend hP hD hS ht9) hS.2.2 dX4_answer_28
  · have h := zf c1 h
    refine lv_aload_n hx hb dX4_answer_4 rfl (lv_at hl 0 rfl) ?_
    refine va_get (D := G.1) (ci := 4) (v := .int v_least) (C := RX4) (T := TX4) (N := 4) hx hb hts in_X4_answer_X4 hown hK.1 hP 0 rfl rfl 3 (by decide) (hts (.fieldLink RX4 22 "NineHands$Orders" "least" "I") (by decide +kernel)) (fun _ h9 => h9) rfl dX4_answer_5 ?_
    cases h
    exact W.iret hx hb hr (fun t9 ht9 _ => zend hP hD hS ht9) hS.2.2 dX4_answer_8
abbrev w_X6_append (G : zG) (a : Nat) (a_bytes : Nat) (v_length : Int32) (v_next : Int32) (v_start : Int32) (v_number : Int32) (f_bytes : (Nat → Int32)) : va_W := [(a, .inr (6, [.ref a_bytes, .int v_length, .int v_next, .int v_start, .int v_number])), (a_bytes, .inl (zCB G, 200, .inl f_bytes))]
theorem in_X6_append_X6 : ∀ w ∈ wsX60, w ∈ wsX6_append := by decide +kernel
set_option maxHeartbeats 4000000 in
set_option maxRecDepth 100000 in
theorem c_X6_append (l : Launch) (G : zG) (fu : Nat) (a : Nat) (a_bytes : Nat) (v_length : Int32) (v_next : Int32) (v_start : Int32) (v_number : Int32) (f_bytes : (Nat → Int32)) (x1 : Int64) (x2 : Int32) (ov_length : Int32) (of_bytes : (Nat → Int32)) (h : fX6_append fu v_length f_bytes x1 x2 = some (ov_length, of_bytes)) : zC l yX6_append wsX6_append 0 0 G [.ref a, .long x1, .int x2] (w_X6_append G a a_bytes v_length v_next v_start v_number f_bytes) none (w_X6_append G a a_bytes ov_length v_next v_start v_number of_bytes) := by
  refine fun sz => Met.ofW (cc := cX6_append) (maxL := 5) (ret := none) (by decide) rfl ?_
  intro p e s m args below meth c s₁ B hml hv
  obtain ⟨rfl, hsz, hP, hK, hD0, hE⟩ := hv
  have hx := B.exec
  have hb := B.bytes
  have hr := B.returns
  have hts := atoms_spec (ws := wsX6_append) B.pre
  have hown : s.vm.findClass RX6 = some m.cls := findClass_of_methodNamed B.named
  have hlocks := B.notSynchronized
  subst hsz
  have hD := hD0.self (sz := s.heap.size)
  generalize hAe : va_A (w_X6_append G a a_bytes v_length v_next v_start v_number f_bytes) s.heap.size = A at hD hE ⊢
  have hA : ∀ q : Nat, s.heap.size ≤ q → A q := fun q h => by rw [← hAe]; exact Or.inr h
  have hS : va_S A s.heap s.heap [] := va_S.rf
  have hl := lv_entry ([.ref a, .long x1, .int x2]) (n := 5) (Nat.le_of_ble_eq_true rfl)
  rw [lg_entry_eq]
  generalize (lg_sl ([.ref a, .long x1, .int x2]) ++ List.replicate (5 - (lg_sl ([.ref a, .long x1, .int x2])).length) Slot.unset).toArray = ls at hl ⊢
  have hl : lv_has ls 5 [(0, .ref a), (1, .long x1), (3, .int x2)] := hl
  have hP : va_P G.1 vwCl (w_X6_append G a a_bytes v_length v_next v_start v_number f_bytes) s.heap := hP
  rw [fX6_append] at h
  refine lv_iload_n hx hb dX6_append_0 rfl (lv_at hl 2 rfl) ?_
  refine lv_iconst (v := (1 : Int32)) hx hb dX6_append_1 (by decide) ?_
  refine lv_isub hx hb dX6_append_2 ?_
  refine lv_istore (lv' := [(4, .int (x2 - (1 : Int32))), (0, .ref a), (1, .long x1), (3, .int x2)]) hx hb dX6_append_3 hl (by decide) rfl (fun ls hl => ?_)
  have loop_5 : ∀ (n : Nat) (K : Int32 → (Nat → Int32) → Option (Int32 × (Nat → Int32))) (l4_5 : Int32) (v_length_5 : Int32) (f_bytes_5 : (Nat → Int32)) (H : Heap) (locs : List Loc) (ls : Array Slot), fX6_append_L5 fu x1 K n l4_5 v_length_5 f_bytes_5 = some (ov_length, of_bytes) → (∀ (v_length_5e : Int32) (f_bytes_5e : (Nat → Int32)) (H : Heap) (locs : List Loc) (ls : Array Slot), K v_length_5e f_bytes_5e = some (ov_length, of_bytes) → va_P G.1 vwCl (w_X6_append G a a_bytes v_length_5e v_next v_start v_number f_bytes_5e) H → va_D A (w_X6_append G a a_bytes v_length_5e v_next v_start v_number f_bytes_5e) → va_S A s.heap H locs → lv_has ls 5 [] → W p l e (headSpec wsX6_append { frames := 0, cells := 0, slots := 0, locals := 0 }).room s m ([.ref a, .long x1, .int x2] : List Value).toArray below meth c H locs 0 0 (MQ below (zQ none G (w_X6_append G a a_bytes ov_length v_next v_start v_number of_bytes) A) ([.ref a, .long x1, .int x2] : List Value).toArray s 0 0 A) (F0 m 54 ls [])) → va_P G.1 vwCl (w_X6_append G a a_bytes v_length_5 v_next v_start v_number f_bytes_5) H → va_D A (w_X6_append G a a_bytes v_length_5 v_next v_start v_number f_bytes_5) → va_S A s.heap H locs → lv_has ls 5 [(0, .ref a), (1, .long x1), (4, .int l4_5)] → W p l e (headSpec wsX6_append { frames := 0, cells := 0, slots := 0, locals := 0 }).room s m ([.ref a, .long x1, .int x2] : List Value).toArray below meth c H locs 0 0 (MQ below (zQ none G (w_X6_append G a a_bytes ov_length v_next v_start v_number of_bytes) A) ([.ref a, .long x1, .int x2] : List Value).toArray s 0 0 A) (F0 m 5 ls []) := by
    intro n
    induction n with
    | zero => intro K l4_5 v_length_5 f_bytes_5 H locs ls h; rw [fX6_append_L5] at h; cases h
    | succ n ih =>
      intro K l4_5 v_length_5 f_bytes_5 H locs ls h hk hP hD hS hl
      rw [fX6_append_L5] at h
      refine lv_iload hx hb dX6_append_5 (lv_at hl 2 rfl) ?_
      refine lv_if_lt (tgt := 54) hx hb dX6_append_7 (by decide) (fun c7 => ?_) (fun c7 => ?_)
      · have h := zt c7 h
        exact hk _ _ _ _ _ h hP hD hS (lv_sub hl [] rfl)
      · have h := zf c7 h
        refine lv_aload_n hx hb dX6_append_10 rfl (lv_at hl 0 rfl) ?_
        refine va_get (D := G.1) (ci := 6) (v := .int v_length_5) (C := RX6) (T := TX6) (N := 5) hx hb hts in_X6_append_X6 hown hK.1 hP 0 rfl rfl 1 (by decide) (hts (.fieldLink RX6 15 "NineHands$Text" "length" "I") (by decide +kernel)) (fun _ h9 => h9) rfl dX6_append_11 ?_
        refine lv_sipush (v := (200 : Int32)) hx hb dX6_append_14 (by decide) ?_
        refine lv_icmp_ge (tgt := 54) hx hb dX6_append_17 (by decide) (fun c17 => ?_) (fun c17 => ?_)
        · have h := zt c17 h
          exact hk _ _ _ _ _ h hP hD hS (lv_sub hl [] rfl)
        · have h := zf c17 h
          refine lv_aload_n hx hb dX6_append_20 rfl (lv_at hl 0 rfl) ?_
          refine va_get (D := G.1) (ci := 6) (v := .ref a_bytes) (C := RX6) (T := TX6) (N := 5) hx hb hts in_X6_append_X6 hown hK.1 hP 0 rfl rfl 0 (by decide) (hts (.fieldLink RX6 9 "NineHands$Text" "bytes" "[B") (by decide +kernel)) (fun _ h9 => h9) rfl dX6_append_21 ?_
          refine lv_aload_n hx hb dX6_append_24 rfl (lv_at hl 0 rfl) ?_
          refine va_get (D := G.1) (ci := 6) (v := .int v_length_5) (C := RX6) (T := TX6) (N := 5) hx hb hts in_X6_append_X6 hown hK.1 hP 0 rfl rfl 1 (by decide) (hts (.fieldLink RX6 15 "NineHands$Text" "length" "I") (by decide +kernel)) (fun _ h9 => h9) rfl dX6_append_25 ?_
          refine lv_lload_n hx hb dX6_append_28 rfl (lv_at hl 1 rfl) ?_
          refine lv_bipush (v := (8 : Int32)) hx hb dX6_append_29 (by decide) ?_
          refine lv_iload hx hb dX6_append_31 (lv_at hl 2 rfl) ?_
          refine lv_imul hx hb dX6_append_33 ?_
          refine lv_lushr (v := (((x1).toUInt64 >>> ((((8 : Int32) * l4_5)).toInt64.toUInt64 &&& Int64.toUInt64 63)).toInt64)) hx hb dX6_append_34 rfl ?_
          refine lv_l2i (v := (((((x1).toUInt64 >>> ((((8 : Int32) * l4_5)).toInt64.toUInt64 &&& Int64.toUInt64 63)).toInt64)).toInt32)) hx hb dX6_append_35 rfl ?_
          refine lv_i2b (v := (((((((x1).toUInt64 >>> ((((8 : Int32) * l4_5)).toInt64.toUInt64 &&& Int64.toUInt64 63)).toInt64)).toInt32)).toInt8.toInt32)) hx hb dX6_append_36 rfl ?_
          obtain ⟨g37, h⟩ := zg h
          refine zbst hx hb hK.1 hP hD hS 1 1 rfl rfl g37 (j := (v_length_5).toNatClampNeg) rfl (y := (((((((x1).toUInt64 >>> ((((8 : Int32) * l4_5)).toInt64.toUInt64 &&& Int64.toUInt64 63)).toInt64)).toInt32)).toInt8.toInt32)) (pk_vb _) (ws' := (w_X6_append G a a_bytes v_length_5 v_next v_start v_number (upd f_bytes_5 (v_length_5).toNatClampNeg (((((((x1).toUInt64 >>> ((((8 : Int32) * l4_5)).toInt64.toUInt64 &&& Int64.toUInt64 63)).toInt64)).toInt32)).toInt8.toInt32)))) rfl dX6_append_37 (fun H locs hP hD hS => ?_)
          refine lv_aload_n hx hb dX6_append_38 rfl (lv_at hl 0 rfl) ?_
          refine lv_dup hx hb dX6_append_39 rfl ?_
          refine va_get (D := G.1) (ci := 6) (v := .int v_length_5) (C := RX6) (T := TX6) (N := 5) hx hb hts in_X6_append_X6 hown hK.1 hP 0 rfl rfl 1 (by decide) (hts (.fieldLink RX6 15 "NineHands$Text" "length" "I") (by decide +kernel)) (fun _ h9 => h9) rfl dX6_append_40 ?_
          refine lv_iconst (v := (1 : Int32)) hx hb dX6_append_43 (by decide) ?_
          refine lv_iadd hx hb dX6_append_44 ?_
          refine zput1 (D := G.1) (ci := 6) (C := RX6) (T := TX6) (N := 5) (ty := .int) (ws' := (w_X6_append G a a_bytes (v_length_5 + (1 : Int32)) v_next v_start v_number (upd f_bytes_5 (v_length_5).toNatClampNeg (((((((x1).toUInt64 >>> ((((8 : Int32) * l4_5)).toInt64.toUInt64 &&& Int64.toUInt64 63)).toInt64)).toInt32)).toInt8.toInt32)))) hx hb hts in_X6_append_X6 tyX6 tyX6_ok nmX6 hown hK.1 hP hD hS 0 rfl rfl 1 (by decide) (hts (.fieldLink RX6 15 "NineHands$Text" "length" "I") (by decide +kernel)) (fun _ h9 => h9) rfl (by decide +kernel) rfl rfl (Nat.le_of_ble_eq_true rfl) rfl dX6_append_45 (fun H locs hP hD hS => ?_)
          refine lv_iinc (v := (l4_5 + ((-1) : Int32))) (lv' := [(4, .int (l4_5 + ((-1) : Int32))), (0, .ref a), (1, .long x1)]) hx hb dX6_append_48 hl (k := 2) rfl rfl (by decide) rfl (fun ls hl => ?_)
          refine lv_goto (tgt := 5) hx hb dX6_append_51 (by decide) ?_
          exact ih K _ _ _ _ _ _ h hk hP hD hS (lv_sub hl [1, 2, 0] rfl)
  refine loop_5 fu _ _ _ _ _ _ _ h (fun v_length_5e f_bytes_5e H locs ls h hP hD hS hl => ?_) hP hD hS (lv_sub hl [1, 2, 0] rfl)
  cases h
  exact W.vret hx hb hr (fun t9 ht9 _ => zend hP hD hS ht9) hS.2.2 dX6_append_54
abbrev w_X6_sortOf (G : zG) : va_W := []
set_option maxHeartbeats 4000000 in
set_option maxRecDepth 100000 in
theorem c_X6_sortOf (l : Launch) (G : zG) (x1 : Int32) (rv : Int32) (h : fX6_sortOf x1 = some rv) : zC l yX6_sortOf wsX6_sortOf 0 0 G [.int x1] (w_X6_sortOf G ) (some (.int rv)) (w_X6_sortOf G ) := by
  refine fun sz => Met.ofW (cc := cX6_sortOf) (maxL := 1) (ret := (some .int)) (by decide) rfl ?_
  intro p e s m args below meth c s₁ B hml hv
  obtain ⟨rfl, hsz, hP, hK, hD0, hE⟩ := hv
  have hx := B.exec
  have hb := B.bytes
  have hr := B.returns
  have hts := atoms_spec (ws := wsX6_sortOf) B.pre
  have hown : s.vm.findClass RX6 = some m.cls := findClass_of_methodNamed B.named
  have hlocks := B.notSynchronized
  subst hsz
  have hD := hD0.self (sz := s.heap.size)
  generalize hAe : va_A (w_X6_sortOf G ) s.heap.size = A at hD hE ⊢
  have hA : ∀ q : Nat, s.heap.size ≤ q → A q := fun q h => by rw [← hAe]; exact Or.inr h
  have hS : va_S A s.heap s.heap [] := va_S.rf
  have hl := lv_entry ([.int x1]) (n := 1) (Nat.le_of_ble_eq_true rfl)
  rw [lg_entry_eq]
  generalize (lg_sl ([.int x1]) ++ List.replicate (1 - (lg_sl ([.int x1])).length) Slot.unset).toArray = ls at hl ⊢
  have hl : lv_has ls 1 [(0, .int x1)] := hl
  have hP : va_P G.1 vwCl (w_X6_sortOf G ) s.heap := hP
  rw [fX6_sortOf] at h
  have join_14 : ∀  (H : Heap) (locs : List Loc) (ls : Array Slot), fX6_sortOf_J14 x1 = some rv → va_P G.1 vwCl (w_X6_sortOf G ) H → va_D A (w_X6_sortOf G ) → va_S A s.heap H locs → lv_has ls 1 [(0, .int x1)] → W p l e (headSpec wsX6_sortOf { frames := 0, cells := 0, slots := 0, locals := 0 }).room s m ([.int x1] : List Value).toArray below meth c H locs 0 0 (MQ below (zQ (some (.int rv)) G (w_X6_sortOf G ) A) ([.int x1] : List Value).toArray s 0 0 A) (F0 m 14 ls []) := by
    intro  H locs ls h hP hD hS hl
    rw [fX6_sortOf_J14] at h
    refine lv_iload_n hx hb dX6_sortOf_14 rfl (lv_at hl 0 rfl) ?_
    refine lv_bipush (v := (48 : Int32)) hx hb dX6_sortOf_15 (by decide) ?_
    refine lv_icmp_lt (tgt := 28) hx hb dX6_sortOf_17 (by decide) (fun c17 => ?_) (fun c17 => ?_)
    · have h := zt c17 h
      refine lv_iload_n hx hb dX6_sortOf_28 rfl (lv_at hl 0 rfl) ?_
      refine lv_bipush (v := (59 : Int32)) hx hb dX6_sortOf_29 (by decide) ?_
      refine lv_icmp_ne (tgt := 38) hx hb dX6_sortOf_31 (by decide) (fun c31 => ?_) (fun c31 => ?_)
      · have h := zf c31 h
        refine lv_iconst (v := (4 : Int32)) hx hb dX6_sortOf_38 (by decide) ?_
        cases h
        exact W.iret hx hb hr (fun t9 ht9 _ => zend hP hD hS ht9) hS.2.2 dX6_sortOf_39
      · have h := zt c31 h
        refine lv_iconst (v := (3 : Int32)) hx hb dX6_sortOf_34 (by decide) ?_
        refine lv_goto (tgt := 39) hx hb dX6_sortOf_35 (by decide) ?_
        cases h
        exact W.iret hx hb hr (fun t9 ht9 _ => zend hP hD hS ht9) hS.2.2 dX6_sortOf_39
    · have h := zf c17 h
      refine lv_iload_n hx hb dX6_sortOf_20 rfl (lv_at hl 0 rfl) ?_
      refine lv_bipush (v := (57 : Int32)) hx hb dX6_sortOf_21 (by decide) ?_
      refine lv_icmp_gt (tgt := 28) hx hb dX6_sortOf_23 (by decide) (fun c23 => ?_) (fun c23 => ?_)
      · have h := zt c23 h
        refine lv_iload_n hx hb dX6_sortOf_28 rfl (lv_at hl 0 rfl) ?_
        refine lv_bipush (v := (59 : Int32)) hx hb dX6_sortOf_29 (by decide) ?_
        refine lv_icmp_ne (tgt := 38) hx hb dX6_sortOf_31 (by decide) (fun c31 => ?_) (fun c31 => ?_)
        · have h := zf c31 h
          refine lv_iconst (v := (4 : Int32)) hx hb dX6_sortOf_38 (by decide) ?_
          cases h
          exact W.iret hx hb hr (fun t9 ht9 _ => zend hP hD hS ht9) hS.2.2 dX6_sortOf_39
        · have h := zt c31 h
          refine lv_iconst (v := (3 : Int32)) hx hb dX6_sortOf_34 (by decide) ?_
          refine lv_goto (tgt := 39) hx hb dX6_sortOf_35 (by decide) ?_
          cases h
          exact W.iret hx hb hr (fun t9 ht9 _ => zend hP hD hS ht9) hS.2.2 dX6_sortOf_39
      · have h := zf c23 h
        refine lv_iconst (v := (2 : Int32)) hx hb dX6_sortOf_26 (by decide) ?_
        cases h
        exact W.iret hx hb hr (fun t9 ht9 _ => zend hP hD hS ht9) hS.2.2 dX6_sortOf_27
  refine lv_iload_n hx hb dX6_sortOf_0 rfl (lv_at hl 0 rfl) ?_
  refine lv_bipush (v := (97 : Int32)) hx hb dX6_sortOf_1 (by decide) ?_
  refine lv_icmp_lt (tgt := 14) hx hb dX6_sortOf_3 (by decide) (fun c3 => ?_) (fun c3 => ?_)
  · have h := zt c3 h
    exact join_14  _ _ _ h hP hD hS (lv_sub hl [0] rfl)
  · have h := zf c3 h
    refine lv_iload_n hx hb dX6_sortOf_6 rfl (lv_at hl 0 rfl) ?_
    refine lv_bipush (v := (122 : Int32)) hx hb dX6_sortOf_7 (by decide) ?_
    refine lv_icmp_gt (tgt := 14) hx hb dX6_sortOf_9 (by decide) (fun c9 => ?_) (fun c9 => ?_)
    · have h := zt c9 h
      exact join_14  _ _ _ h hP hD hS (lv_sub hl [0] rfl)
    · have h := zf c9 h
      refine lv_iconst (v := (1 : Int32)) hx hb dX6_sortOf_12 (by decide) ?_
      cases h
      exact W.iret hx hb hr (fun t9 ht9 _ => zend hP hD hS ht9) hS.2.2 dX6_sortOf_13
abbrev w_X6_take (G : zG) (a : Nat) (a_bytes : Nat) (v_length : Int32) (v_next : Int32) (v_start : Int32) (v_number : Int32) (f_bytes : (Nat → Int32)) : va_W := [(a, .inr (6, [.ref a_bytes, .int v_length, .int v_next, .int v_start, .int v_number])), (a_bytes, .inl (zCB G, 200, .inl f_bytes))]
theorem in_X6_take_X6 : ∀ w ∈ wsX60, w ∈ wsX6_take := by decide +kernel
set_option maxHeartbeats 4000000 in
set_option maxRecDepth 100000 in
theorem c_X6_take (l : Launch) (G : zG) (fu : Nat) (a : Nat) (a_bytes : Nat) (v_length : Int32) (v_next : Int32) (v_start : Int32) (v_number : Int32) (f_bytes : (Nat → Int32)) (rv : Int32) (ov_next : Int32) (ov_start : Int32) (h : fX6_take fu v_length v_next v_start f_bytes = some (rv, ov_next, ov_start)) : zC l yX6_take wsX6_take 1 20 G [.ref a] (w_X6_take G a a_bytes v_length v_next v_start v_number f_bytes) (some (.int rv)) (w_X6_take G a a_bytes v_length ov_next ov_start v_number f_bytes) := by
  refine fun sz => Met.ofW (cc := cX6_take) (maxL := 2) (ret := (some .int)) (by decide) rfl ?_
  intro p e s m args below meth c s₁ B hml hv
  obtain ⟨rfl, hsz, hP, hK, hD0, hE⟩ := hv
  have hx := B.exec
  have hb := B.bytes
  have hr := B.returns
  have hts := atoms_spec (ws := wsX6_take) B.pre
  have hown : s.vm.findClass RX6 = some m.cls := findClass_of_methodNamed B.named
  have hlocks := B.notSynchronized
  subst hsz
  have hD := hD0.self (sz := s.heap.size)
  generalize hAe : va_A (w_X6_take G a a_bytes v_length v_next v_start v_number f_bytes) s.heap.size = A at hD hE ⊢
  have hA : ∀ q : Nat, s.heap.size ≤ q → A q := fun q h => by rw [← hAe]; exact Or.inr h
  have hS : va_S A s.heap s.heap [] := va_S.rf
  have hl := lv_entry ([.ref a]) (n := 2) (Nat.le_of_ble_eq_true rfl)
  rw [lg_entry_eq]
  generalize (lg_sl ([.ref a]) ++ List.replicate (2 - (lg_sl ([.ref a])).length) Slot.unset).toArray = ls at hl ⊢
  have hl : lv_has ls 2 [(0, .ref a)] := hl
  have hP : va_P G.1 vwCl (w_X6_take G a a_bytes v_length v_next v_start v_number f_bytes) s.heap := hP
  rw [fX6_take] at h
  have join_38 : ∀ (v_next_38 : Int32) (v_start_38 : Int32) (H : Heap) (locs : List Loc) (ls : Array Slot), fX6_take_J38 fu v_length f_bytes v_next_38 v_start_38 = some (rv, ov_next, ov_start) → va_P G.1 vwCl (w_X6_take G a a_bytes v_length v_next_38 v_start_38 v_number f_bytes) H → va_D A (w_X6_take G a a_bytes v_length v_next_38 v_start_38 v_number f_bytes) → va_S A s.heap H locs → lv_has ls 2 [(0, .ref a)] → W p l e (headSpec wsX6_take { frames := 1, cells := 0, slots := 0, locals := 20 }).room s m ([.ref a] : List Value).toArray below meth c H locs 0 0 (MQ below (zQ (some (.int rv)) G (w_X6_take G a a_bytes v_length ov_next ov_start v_number f_bytes) A) ([.ref a] : List Value).toArray s 0 0 A) (F0 m 38 ls []) := by
    intro v_next_38 v_start_38 H locs ls h hP hD hS hl
    rw [fX6_take_J38] at h
    refine lv_aload_n hx hb dX6_take_38 rfl (lv_at hl 0 rfl) ?_
    refine lv_aload_n hx hb dX6_take_39 rfl (lv_at hl 0 rfl) ?_
    refine va_get (D := G.1) (ci := 6) (v := .int v_next_38) (C := RX6) (T := TX6) (N := 5) hx hb hts in_X6_take_X6 hown hK.1 hP 0 rfl rfl 2 (by decide) (hts (.fieldLink RX6 19 "NineHands$Text" "next" "I") (by decide +kernel)) (fun _ h9 => h9) rfl dX6_take_40 ?_
    refine zput1 (D := G.1) (ci := 6) (C := RX6) (T := TX6) (N := 5) (ty := .int) (ws' := (w_X6_take G a a_bytes v_length v_next_38 v_next_38 v_number f_bytes)) hx hb hts in_X6_take_X6 tyX6 tyX6_ok nmX6 hown hK.1 hP hD hS 0 rfl rfl 3 (by decide) (hts (.fieldLink RX6 22 "NineHands$Text" "start" "I") (by decide +kernel)) (fun _ h9 => h9) rfl (by decide +kernel) rfl rfl (Nat.le_of_ble_eq_true rfl) rfl dX6_take_43 (fun H locs hP hD hS => ?_)
    refine lv_aload_n hx hb dX6_take_46 rfl (lv_at hl 0 rfl) ?_
    refine va_get (D := G.1) (ci := 6) (v := .int v_next_38) (C := RX6) (T := TX6) (N := 5) hx hb hts in_X6_take_X6 hown hK.1 hP 0 rfl rfl 2 (by decide) (hts (.fieldLink RX6 19 "NineHands$Text" "next" "I") (by decide +kernel)) (fun _ h9 => h9) rfl dX6_take_47 ?_
    refine lv_aload_n hx hb dX6_take_50 rfl (lv_at hl 0 rfl) ?_
    refine va_get (D := G.1) (ci := 6) (v := .int v_length) (C := RX6) (T := TX6) (N := 5) hx hb hts in_X6_take_X6 hown hK.1 hP 0 rfl rfl 1 (by decide) (hts (.fieldLink RX6 15 "NineHands$Text" "length" "I") (by decide +kernel)) (fun _ h9 => h9) rfl dX6_take_51 ?_
    refine lv_icmp_lt (tgt := 59) hx hb dX6_take_54 (by decide) (fun c54 => ?_) (fun c54 => ?_)
    · have h := zt c54 h
      refine lv_aload_n hx hb dX6_take_59 rfl (lv_at hl 0 rfl) ?_
      refine va_get (D := G.1) (ci := 6) (v := .ref a_bytes) (C := RX6) (T := TX6) (N := 5) hx hb hts in_X6_take_X6 hown hK.1 hP 0 rfl rfl 0 (by decide) (hts (.fieldLink RX6 9 "NineHands$Text" "bytes" "[B") (by decide +kernel)) (fun _ h9 => h9) rfl dX6_take_60 ?_
      refine lv_aload_n hx hb dX6_take_63 rfl (lv_at hl 0 rfl) ?_
      refine va_get (D := G.1) (ci := 6) (v := .int v_next_38) (C := RX6) (T := TX6) (N := 5) hx hb hts in_X6_take_X6 hown hK.1 hP 0 rfl rfl 2 (by decide) (hts (.fieldLink RX6 19 "NineHands$Text" "next" "I") (by decide +kernel)) (fun _ h9 => h9) rfl dX6_take_64 ?_
      obtain ⟨g67, h⟩ := zg h
      refine zbld hx hb hK.1 hP 1 1 rfl rfl g67 (j := (v_next_38).toNatClampNeg) rfl dX6_take_67 ?_
      obtain ⟨y68, hc68, h⟩ := zb1_e h
      refine zcS (As := [.int (f_bytes (v_next_38).toNatClampNeg)]) (rest := []) (ws' := (w_X6_take G a a_bytes v_length v_next_38 v_next_38 v_number f_bytes)) (st1 := [.int y68]) ⟨hx, hb, hml, hown, hts⟩ (c_X6_sortOf l G (f_bytes (v_next_38).toNatClampNeg) y68 hc68) (va_cwS 1 hts gX6_take_X6_sortOf rfl rfl rfl (by decide +kernel) ⟨Nat.le_of_ble_eq_true rfl, Nat.le_of_ble_eq_true rfl⟩) hK hE hP hD hS hA [] rfl rfl rfl rfl rfl hl.1 rfl (Nat.le_of_ble_eq_true rfl) dX6_take_68 (Nat.zero_le _) (Nat.zero_le _) rfl (fun H locs hP hD hS => ?_)
      refine lv_istore_n (lv' := [(1, .int y68), (0, .ref a)]) hx hb dX6_take_71 rfl hl (by decide) rfl (fun ls hl => ?_)
      refine lv_aload_n hx hb dX6_take_72 rfl (lv_at hl 1 rfl) ?_
      refine lv_dup hx hb dX6_take_73 rfl ?_
      refine va_get (D := G.1) (ci := 6) (v := .int v_next_38) (C := RX6) (T := TX6) (N := 5) hx hb hts in_X6_take_X6 hown hK.1 hP 0 rfl rfl 2 (by decide) (hts (.fieldLink RX6 19 "NineHands$Text" "next" "I") (by decide +kernel)) (fun _ h9 => h9) rfl dX6_take_74 ?_
      refine lv_iconst (v := (1 : Int32)) hx hb dX6_take_77 (by decide) ?_
      refine lv_iadd hx hb dX6_take_78 ?_
      refine zput1 (D := G.1) (ci := 6) (C := RX6) (T := TX6) (N := 5) (ty := .int) (ws' := (w_X6_take G a a_bytes v_length (v_next_38 + (1 : Int32)) v_next_38 v_number f_bytes)) hx hb hts in_X6_take_X6 tyX6 tyX6_ok nmX6 hown hK.1 hP hD hS 0 rfl rfl 2 (by decide) (hts (.fieldLink RX6 19 "NineHands$Text" "next" "I") (by decide +kernel)) (fun _ h9 => h9) rfl (by decide +kernel) rfl rfl (Nat.le_of_ble_eq_true rfl) rfl dX6_take_79 (fun H locs hP hD hS => ?_)
      refine lv_iload_n hx hb dX6_take_82 rfl (lv_at hl 0 rfl) ?_
      refine lv_iconst (v := (1 : Int32)) hx hb dX6_take_83 (by decide) ?_
      refine lv_icmp_eq (tgt := 92) hx hb dX6_take_84 (by decide) (fun c84 => ?_) (fun c84 => ?_)
      · have h := zt c84 h
        have loop_92 : ∀ (n : Nat) (K : Int32 → Option (Int32 × Int32 × Int32)) (v_next_92 : Int32) (H : Heap) (locs : List Loc) (ls : Array Slot), fX6_take_L92 fu y68 v_length f_bytes K n v_next_92 = some (rv, ov_next, ov_start) → (∀ (v_next_92e : Int32) (H : Heap) (locs : List Loc) (ls : Array Slot), K v_next_92e = some (rv, ov_next, ov_start) → va_P G.1 vwCl (w_X6_take G a a_bytes v_length v_next_92e v_next_38 v_number f_bytes) H → va_D A (w_X6_take G a a_bytes v_length v_next_92e v_next_38 v_number f_bytes) → va_S A s.heap H locs → lv_has ls 2 [(1, .int y68)] → W p l e (headSpec wsX6_take { frames := 1, cells := 0, slots := 0, locals := 20 }).room s m ([.ref a] : List Value).toArray below meth c H locs 0 0 (MQ below (zQ (some (.int rv)) G (w_X6_take G a a_bytes v_length ov_next ov_start v_number f_bytes) A) ([.ref a] : List Value).toArray s 0 0 A) (F0 m 132 ls [])) → va_P G.1 vwCl (w_X6_take G a a_bytes v_length v_next_92 v_next_38 v_number f_bytes) H → va_D A (w_X6_take G a a_bytes v_length v_next_92 v_next_38 v_number f_bytes) → va_S A s.heap H locs → lv_has ls 2 [(0, .ref a), (1, .int y68)] → W p l e (headSpec wsX6_take { frames := 1, cells := 0, slots := 0, locals := 20 }).room s m ([.ref a] : List Value).toArray below meth c H locs 0 0 (MQ below (zQ (some (.int rv)) G (w_X6_take G a a_bytes v_length ov_next ov_start v_number f_bytes) A) ([.ref a] : List Value).toArray s 0 0 A) (F0 m 92 ls []) := by
          intro n
          induction n with
          | zero => intro K v_next_92 H locs ls h; rw [fX6_take_L92] at h; cases h
          | succ n ih =>
            intro K v_next_92 H locs ls h hk hP hD hS hl
            rw [fX6_take_L92] at h
            refine lv_aload_n hx hb dX6_take_92 rfl (lv_at hl 0 rfl) ?_
            refine va_get (D := G.1) (ci := 6) (v := .int v_next_92) (C := RX6) (T := TX6) (N := 5) hx hb hts in_X6_take_X6 hown hK.1 hP 0 rfl rfl 2 (by decide) (hts (.fieldLink RX6 19 "NineHands$Text" "next" "I") (by decide +kernel)) (fun _ h9 => h9) rfl dX6_take_93 ?_
            refine lv_aload_n hx hb dX6_take_96 rfl (lv_at hl 0 rfl) ?_
            refine va_get (D := G.1) (ci := 6) (v := .int v_length) (C := RX6) (T := TX6) (N := 5) hx hb hts in_X6_take_X6 hown hK.1 hP 0 rfl rfl 1 (by decide) (hts (.fieldLink RX6 15 "NineHands$Text" "length" "I") (by decide +kernel)) (fun _ h9 => h9) rfl dX6_take_97 ?_
            refine lv_icmp_ge (tgt := 132) hx hb dX6_take_100 (by decide) (fun c100 => ?_) (fun c100 => ?_)
            · have h := zt c100 h
              exact hk _ _ _ _ h hP hD hS (lv_sub hl [1] rfl)
            · have h := zf c100 h
              refine lv_aload_n hx hb dX6_take_103 rfl (lv_at hl 0 rfl) ?_
              refine va_get (D := G.1) (ci := 6) (v := .ref a_bytes) (C := RX6) (T := TX6) (N := 5) hx hb hts in_X6_take_X6 hown hK.1 hP 0 rfl rfl 0 (by decide) (hts (.fieldLink RX6 9 "NineHands$Text" "bytes" "[B") (by decide +kernel)) (fun _ h9 => h9) rfl dX6_take_104 ?_
              refine lv_aload_n hx hb dX6_take_107 rfl (lv_at hl 0 rfl) ?_
              refine va_get (D := G.1) (ci := 6) (v := .int v_next_92) (C := RX6) (T := TX6) (N := 5) hx hb hts in_X6_take_X6 hown hK.1 hP 0 rfl rfl 2 (by decide) (hts (.fieldLink RX6 19 "NineHands$Text" "next" "I") (by decide +kernel)) (fun _ h9 => h9) rfl dX6_take_108 ?_
              obtain ⟨g111, h⟩ := zg h
              refine zbld hx hb hK.1 hP 1 1 rfl rfl g111 (j := (v_next_92).toNatClampNeg) rfl dX6_take_111 ?_
              obtain ⟨y112, hc112, h⟩ := zb1_e h
              refine zcS (As := [.int (f_bytes (v_next_92).toNatClampNeg)]) (rest := []) (ws' := (w_X6_take G a a_bytes v_length v_next_92 v_next_38 v_number f_bytes)) (st1 := [.int y112]) ⟨hx, hb, hml, hown, hts⟩ (c_X6_sortOf l G (f_bytes (v_next_92).toNatClampNeg) y112 hc112) (va_cwS 1 hts gX6_take_X6_sortOf rfl rfl rfl (by decide +kernel) ⟨Nat.le_of_ble_eq_true rfl, Nat.le_of_ble_eq_true rfl⟩) hK hE hP hD hS hA [] rfl rfl rfl rfl rfl hl.1 rfl (Nat.le_of_ble_eq_true rfl) dX6_take_112 (Nat.zero_le _) (Nat.zero_le _) rfl (fun H locs hP hD hS => ?_)
              refine lv_iload_n hx hb dX6_take_115 rfl (lv_at hl 1 rfl) ?_
              refine lv_icmp_ne (tgt := 132) hx hb dX6_take_116 (by decide) (fun c116 => ?_) (fun c116 => ?_)
              · have h := zf c116 h
                exact hk _ _ _ _ h hP hD hS (lv_sub hl [1] rfl)
              · have h := zt c116 h
                refine lv_aload_n hx hb dX6_take_119 rfl (lv_at hl 0 rfl) ?_
                refine lv_dup hx hb dX6_take_120 rfl ?_
                refine va_get (D := G.1) (ci := 6) (v := .int v_next_92) (C := RX6) (T := TX6) (N := 5) hx hb hts in_X6_take_X6 hown hK.1 hP 0 rfl rfl 2 (by decide) (hts (.fieldLink RX6 19 "NineHands$Text" "next" "I") (by decide +kernel)) (fun _ h9 => h9) rfl dX6_take_121 ?_
                refine lv_iconst (v := (1 : Int32)) hx hb dX6_take_124 (by decide) ?_
                refine lv_iadd hx hb dX6_take_125 ?_
                refine zput1 (D := G.1) (ci := 6) (C := RX6) (T := TX6) (N := 5) (ty := .int) (ws' := (w_X6_take G a a_bytes v_length (v_next_92 + (1 : Int32)) v_next_38 v_number f_bytes)) hx hb hts in_X6_take_X6 tyX6 tyX6_ok nmX6 hown hK.1 hP hD hS 0 rfl rfl 2 (by decide) (hts (.fieldLink RX6 19 "NineHands$Text" "next" "I") (by decide +kernel)) (fun _ h9 => h9) rfl (by decide +kernel) rfl rfl (Nat.le_of_ble_eq_true rfl) rfl dX6_take_126 (fun H locs hP hD hS => ?_)
                refine lv_goto (tgt := 92) hx hb dX6_take_129 (by decide) ?_
                exact ih K _ _ _ _ h hk hP hD hS (lv_sub hl [0, 1] rfl)
        refine loop_92 fu _ _ _ _ _ h (fun v_next_92e H locs ls h hP hD hS hl => ?_) hP hD hS (lv_sub hl [1, 0] rfl)
        refine lv_iload_n hx hb dX6_take_132 rfl (lv_at hl 0 rfl) ?_
        cases h
        exact W.iret hx hb hr (fun t9 ht9 _ => zend hP hD hS ht9) hS.2.2 dX6_take_133
      · have h := zf c84 h
        refine lv_iload_n hx hb dX6_take_87 rfl (lv_at hl 0 rfl) ?_
        refine lv_iconst (v := (2 : Int32)) hx hb dX6_take_88 (by decide) ?_
        refine lv_icmp_ne (tgt := 132) hx hb dX6_take_89 (by decide) (fun c89 => ?_) (fun c89 => ?_)
        · have h := zf c89 h
          refine lv_iload_n hx hb dX6_take_132 rfl (lv_at hl 0 rfl) ?_
          cases h
          exact W.iret hx hb hr (fun t9 ht9 _ => zend hP hD hS ht9) hS.2.2 dX6_take_133
        · have h := zt c89 h
          have loop_92 : ∀ (n : Nat) (K : Int32 → Option (Int32 × Int32 × Int32)) (v_next_92 : Int32) (H : Heap) (locs : List Loc) (ls : Array Slot), fX6_take_L92 fu y68 v_length f_bytes K n v_next_92 = some (rv, ov_next, ov_start) → (∀ (v_next_92e : Int32) (H : Heap) (locs : List Loc) (ls : Array Slot), K v_next_92e = some (rv, ov_next, ov_start) → va_P G.1 vwCl (w_X6_take G a a_bytes v_length v_next_92e v_next_38 v_number f_bytes) H → va_D A (w_X6_take G a a_bytes v_length v_next_92e v_next_38 v_number f_bytes) → va_S A s.heap H locs → lv_has ls 2 [(1, .int y68)] → W p l e (headSpec wsX6_take { frames := 1, cells := 0, slots := 0, locals := 20 }).room s m ([.ref a] : List Value).toArray below meth c H locs 0 0 (MQ below (zQ (some (.int rv)) G (w_X6_take G a a_bytes v_length ov_next ov_start v_number f_bytes) A) ([.ref a] : List Value).toArray s 0 0 A) (F0 m 132 ls [])) → va_P G.1 vwCl (w_X6_take G a a_bytes v_length v_next_92 v_next_38 v_number f_bytes) H → va_D A (w_X6_take G a a_bytes v_length v_next_92 v_next_38 v_number f_bytes) → va_S A s.heap H locs → lv_has ls 2 [(0, .ref a), (1, .int y68)] → W p l e (headSpec wsX6_take { frames := 1, cells := 0, slots := 0, locals := 20 }).room s m ([.ref a] : List Value).toArray below meth c H locs 0 0 (MQ below (zQ (some (.int rv)) G (w_X6_take G a a_bytes v_length ov_next ov_start v_number f_bytes) A) ([.ref a] : List Value).toArray s 0 0 A) (F0 m 92 ls []) := by
            intro n
            induction n with
            | zero => intro K v_next_92 H locs ls h; rw [fX6_take_L92] at h; cases h
            | succ n ih =>
              intro K v_next_92 H locs ls h hk hP hD hS hl
              rw [fX6_take_L92] at h
              refine lv_aload_n hx hb dX6_take_92 rfl (lv_at hl 0 rfl) ?_
              refine va_get (D := G.1) (ci := 6) (v := .int v_next_92) (C := RX6) (T := TX6) (N := 5) hx hb hts in_X6_take_X6 hown hK.1 hP 0 rfl rfl 2 (by decide) (hts (.fieldLink RX6 19 "NineHands$Text" "next" "I") (by decide +kernel)) (fun _ h9 => h9) rfl dX6_take_93 ?_
              refine lv_aload_n hx hb dX6_take_96 rfl (lv_at hl 0 rfl) ?_
              refine va_get (D := G.1) (ci := 6) (v := .int v_length) (C := RX6) (T := TX6) (N := 5) hx hb hts in_X6_take_X6 hown hK.1 hP 0 rfl rfl 1 (by decide) (hts (.fieldLink RX6 15 "NineHands$Text" "length" "I") (by decide +kernel)) (fun _ h9 => h9) rfl dX6_take_97 ?_
              refine lv_icmp_ge (tgt := 132) hx hb dX6_take_100 (by decide) (fun c100 => ?_) (fun c100 => ?_)
              · have h := zt c100 h
                exact hk _ _ _ _ h hP hD hS (lv_sub hl [1] rfl)
              · have h := zf c100 h
                refine lv_aload_n hx hb dX6_take_103 rfl (lv_at hl 0 rfl) ?_
                refine va_get (D := G.1) (ci := 6) (v := .ref a_bytes) (C := RX6) (T := TX6) (N := 5) hx hb hts in_X6_take_X6 hown hK.1 hP 0 rfl rfl 0 (by decide) (hts (.fieldLink RX6 9 "NineHands$Text" "bytes" "[B") (by decide +kernel)) (fun _ h9 => h9) rfl dX6_take_104 ?_
                refine lv_aload_n hx hb dX6_take_107 rfl (lv_at hl 0 rfl) ?_
                refine va_get (D := G.1) (ci := 6) (v := .int v_next_92) (C := RX6) (T := TX6) (N := 5) hx hb hts in_X6_take_X6 hown hK.1 hP 0 rfl rfl 2 (by decide) (hts (.fieldLink RX6 19 "NineHands$Text" "next" "I") (by decide +kernel)) (fun _ h9 => h9) rfl dX6_take_108 ?_
                obtain ⟨g111, h⟩ := zg h
                refine zbld hx hb hK.1 hP 1 1 rfl rfl g111 (j := (v_next_92).toNatClampNeg) rfl dX6_take_111 ?_
                obtain ⟨y112, hc112, h⟩ := zb1_e h
                refine zcS (As := [.int (f_bytes (v_next_92).toNatClampNeg)]) (rest := []) (ws' := (w_X6_take G a a_bytes v_length v_next_92 v_next_38 v_number f_bytes)) (st1 := [.int y112]) ⟨hx, hb, hml, hown, hts⟩ (c_X6_sortOf l G (f_bytes (v_next_92).toNatClampNeg) y112 hc112) (va_cwS 1 hts gX6_take_X6_sortOf rfl rfl rfl (by decide +kernel) ⟨Nat.le_of_ble_eq_true rfl, Nat.le_of_ble_eq_true rfl⟩) hK hE hP hD hS hA [] rfl rfl rfl rfl rfl hl.1 rfl (Nat.le_of_ble_eq_true rfl) dX6_take_112 (Nat.zero_le _) (Nat.zero_le _) rfl (fun H locs hP hD hS => ?_)
                refine lv_iload_n hx hb dX6_take_115 rfl (lv_at hl 1 rfl) ?_
                refine lv_icmp_ne (tgt := 132) hx hb dX6_take_116 (by decide) (fun c116 => ?_) (fun c116 => ?_)
                · have h := zf c116 h
                  exact hk _ _ _ _ h hP hD hS (lv_sub hl [1] rfl)
                · have h := zt c116 h
                  refine lv_aload_n hx hb dX6_take_119 rfl (lv_at hl 0 rfl) ?_
                  refine lv_dup hx hb dX6_take_120 rfl ?_
                  refine va_get (D := G.1) (ci := 6) (v := .int v_next_92) (C := RX6) (T := TX6) (N := 5) hx hb hts in_X6_take_X6 hown hK.1 hP 0 rfl rfl 2 (by decide) (hts (.fieldLink RX6 19 "NineHands$Text" "next" "I") (by decide +kernel)) (fun _ h9 => h9) rfl dX6_take_121 ?_
                  refine lv_iconst (v := (1 : Int32)) hx hb dX6_take_124 (by decide) ?_
                  refine lv_iadd hx hb dX6_take_125 ?_
                  refine zput1 (D := G.1) (ci := 6) (C := RX6) (T := TX6) (N := 5) (ty := .int) (ws' := (w_X6_take G a a_bytes v_length (v_next_92 + (1 : Int32)) v_next_38 v_number f_bytes)) hx hb hts in_X6_take_X6 tyX6 tyX6_ok nmX6 hown hK.1 hP hD hS 0 rfl rfl 2 (by decide) (hts (.fieldLink RX6 19 "NineHands$Text" "next" "I") (by decide +kernel)) (fun _ h9 => h9) rfl (by decide +kernel) rfl rfl (Nat.le_of_ble_eq_true rfl) rfl dX6_take_126 (fun H locs hP hD hS => ?_)
                  refine lv_goto (tgt := 92) hx hb dX6_take_129 (by decide) ?_
                  exact ih K _ _ _ _ h hk hP hD hS (lv_sub hl [0, 1] rfl)
          refine loop_92 fu _ _ _ _ _ h (fun v_next_92e H locs ls h hP hD hS hl => ?_) hP hD hS (lv_sub hl [1, 0] rfl)
          refine lv_iload_n hx hb dX6_take_132 rfl (lv_at hl 0 rfl) ?_
          cases h
          exact W.iret hx hb hr (fun t9 ht9 _ => zend hP hD hS ht9) hS.2.2 dX6_take_133
    · have h := zf c54 h
      refine lv_iconst (v := (0 : Int32)) hx hb dX6_take_57 (by decide) ?_
      cases h
      exact W.iret hx hb hr (fun t9 ht9 _ => zend hP hD hS ht9) hS.2.2 dX6_take_58
  have loop_0 : ∀ (n : Nat) (K : Int32 → Option (Int32 × Int32 × Int32)) (v_next_0 : Int32) (H : Heap) (locs : List Loc) (ls : Array Slot), fX6_take_L0 fu v_length f_bytes K n v_next_0 = some (rv, ov_next, ov_start) → (∀ (v_next_0e : Int32) (H : Heap) (locs : List Loc) (ls : Array Slot), K v_next_0e = some (rv, ov_next, ov_start) → va_P G.1 vwCl (w_X6_take G a a_bytes v_length v_next_0e v_start v_number f_bytes) H → va_D A (w_X6_take G a a_bytes v_length v_next_0e v_start v_number f_bytes) → va_S A s.heap H locs → lv_has ls 2 [(0, .ref a)] → W p l e (headSpec wsX6_take { frames := 1, cells := 0, slots := 0, locals := 20 }).room s m ([.ref a] : List Value).toArray below meth c H locs 0 0 (MQ below (zQ (some (.int rv)) G (w_X6_take G a a_bytes v_length ov_next ov_start v_number f_bytes) A) ([.ref a] : List Value).toArray s 0 0 A) (F0 m 38 ls [])) → va_P G.1 vwCl (w_X6_take G a a_bytes v_length v_next_0 v_start v_number f_bytes) H → va_D A (w_X6_take G a a_bytes v_length v_next_0 v_start v_number f_bytes) → va_S A s.heap H locs → lv_has ls 2 [(0, .ref a)] → W p l e (headSpec wsX6_take { frames := 1, cells := 0, slots := 0, locals := 20 }).room s m ([.ref a] : List Value).toArray below meth c H locs 0 0 (MQ below (zQ (some (.int rv)) G (w_X6_take G a a_bytes v_length ov_next ov_start v_number f_bytes) A) ([.ref a] : List Value).toArray s 0 0 A) (F0 m 0 ls []) := by
    intro n
    induction n with
    | zero => intro K v_next_0 H locs ls h; rw [fX6_take_L0] at h; cases h
    | succ n ih =>
      intro K v_next_0 H locs ls h hk hP hD hS hl
      rw [fX6_take_L0] at h
      refine lv_aload_n hx hb dX6_take_0 rfl (lv_at hl 0 rfl) ?_
      refine va_get (D := G.1) (ci := 6) (v := .int v_next_0) (C := RX6) (T := TX6) (N := 5) hx hb hts in_X6_take_X6 hown hK.1 hP 0 rfl rfl 2 (by decide) (hts (.fieldLink RX6 19 "NineHands$Text" "next" "I") (by decide +kernel)) (fun _ h9 => h9) rfl dX6_take_1 ?_
      refine lv_aload_n hx hb dX6_take_4 rfl (lv_at hl 0 rfl) ?_
      refine va_get (D := G.1) (ci := 6) (v := .int v_length) (C := RX6) (T := TX6) (N := 5) hx hb hts in_X6_take_X6 hown hK.1 hP 0 rfl rfl 1 (by decide) (hts (.fieldLink RX6 15 "NineHands$Text" "length" "I") (by decide +kernel)) (fun _ h9 => h9) rfl dX6_take_5 ?_
      refine lv_icmp_ge (tgt := 38) hx hb dX6_take_8 (by decide) (fun c8 => ?_) (fun c8 => ?_)
      · have h := zt c8 h
        exact hk _ _ _ _ h hP hD hS (lv_sub hl [0] rfl)
      · have h := zf c8 h
        refine lv_aload_n hx hb dX6_take_11 rfl (lv_at hl 0 rfl) ?_
        refine va_get (D := G.1) (ci := 6) (v := .ref a_bytes) (C := RX6) (T := TX6) (N := 5) hx hb hts in_X6_take_X6 hown hK.1 hP 0 rfl rfl 0 (by decide) (hts (.fieldLink RX6 9 "NineHands$Text" "bytes" "[B") (by decide +kernel)) (fun _ h9 => h9) rfl dX6_take_12 ?_
        refine lv_aload_n hx hb dX6_take_15 rfl (lv_at hl 0 rfl) ?_
        refine va_get (D := G.1) (ci := 6) (v := .int v_next_0) (C := RX6) (T := TX6) (N := 5) hx hb hts in_X6_take_X6 hown hK.1 hP 0 rfl rfl 2 (by decide) (hts (.fieldLink RX6 19 "NineHands$Text" "next" "I") (by decide +kernel)) (fun _ h9 => h9) rfl dX6_take_16 ?_
        obtain ⟨g19, h⟩ := zg h
        refine zbld hx hb hK.1 hP 1 1 rfl rfl g19 (j := (v_next_0).toNatClampNeg) rfl dX6_take_19 ?_
        refine lv_bipush (v := (32 : Int32)) hx hb dX6_take_20 (by decide) ?_
        refine lv_icmp_ne (tgt := 38) hx hb dX6_take_22 (by decide) (fun c22 => ?_) (fun c22 => ?_)
        · have h := zf c22 h
          exact hk _ _ _ _ h hP hD hS (lv_sub hl [0] rfl)
        · have h := zt c22 h
          refine lv_aload_n hx hb dX6_take_25 rfl (lv_at hl 0 rfl) ?_
          refine lv_dup hx hb dX6_take_26 rfl ?_
          refine va_get (D := G.1) (ci := 6) (v := .int v_next_0) (C := RX6) (T := TX6) (N := 5) hx hb hts in_X6_take_X6 hown hK.1 hP 0 rfl rfl 2 (by decide) (hts (.fieldLink RX6 19 "NineHands$Text" "next" "I") (by decide +kernel)) (fun _ h9 => h9) rfl dX6_take_27 ?_
          refine lv_iconst (v := (1 : Int32)) hx hb dX6_take_30 (by decide) ?_
          refine lv_iadd hx hb dX6_take_31 ?_
          refine zput1 (D := G.1) (ci := 6) (C := RX6) (T := TX6) (N := 5) (ty := .int) (ws' := (w_X6_take G a a_bytes v_length (v_next_0 + (1 : Int32)) v_start v_number f_bytes)) hx hb hts in_X6_take_X6 tyX6 tyX6_ok nmX6 hown hK.1 hP hD hS 0 rfl rfl 2 (by decide) (hts (.fieldLink RX6 19 "NineHands$Text" "next" "I") (by decide +kernel)) (fun _ h9 => h9) rfl (by decide +kernel) rfl rfl (Nat.le_of_ble_eq_true rfl) rfl dX6_take_32 (fun H locs hP hD hS => ?_)
          refine lv_goto (tgt := 0) hx hb dX6_take_35 (by decide) ?_
          exact ih K _ _ _ _ h hk hP hD hS (lv_sub hl [0] rfl)
  refine loop_0 fu _ _ _ _ _ h (fun v_next_0e H locs ls h hP hD hS hl => ?_) hP hD hS (lv_sub hl [0] rfl)
  exact join_38 _ _ _ _ _ h hP hD hS (lv_sub hl [0] rfl)
abbrev w_X6_tookWord (G : zG) (a : Nat) (a_bytes : Nat) (v_length : Int32) (v_next : Int32) (v_start : Int32) (v_number : Int32) (f_bytes : (Nat → Int32)) : va_W := [(a, .inr (6, [.ref a_bytes, .int v_length, .int v_next, .int v_start, .int v_number])), (a_bytes, .inl (zCB G, 200, .inl f_bytes))]
theorem in_X6_tookWord_X6 : ∀ w ∈ wsX60, w ∈ wsX6_tookWord := by decide +kernel
set_option maxHeartbeats 4000000 in
set_option maxRecDepth 100000 in
theorem c_X6_tookWord (l : Launch) (G : zG) (fu : Nat) (si : Nat) (hsi : si < 2) (a : Nat) (a_bytes : Nat) (v_length : Int32) (v_next : Int32) (v_start : Int32) (v_number : Int32) (f_bytes : (Nat → Int32)) (rv : Int32) (h : fX6_tookWord fu si v_next v_start f_bytes = some rv) : zC l yX6_tookWord wsX6_tookWord 4 85 G [.ref a, .ref (G.2.2.1 si)] (w_X6_tookWord G a a_bytes v_length v_next v_start v_number f_bytes) (some (.int rv)) (w_X6_tookWord G a a_bytes v_length v_next v_start v_number f_bytes) := by
  refine fun sz => Met.ofW (cc := cX6_tookWord) (maxL := 3) (ret := (some .boolean)) (by decide) rfl ?_
  intro p e s m args below meth c s₁ B hml hv
  obtain ⟨rfl, hsz, hP, hK, hD0, hE⟩ := hv
  have hx := B.exec
  have hb := B.bytes
  have hr := B.returns
  have hts := atoms_spec (ws := wsX6_tookWord) B.pre
  have hown : s.vm.findClass RX6 = some m.cls := findClass_of_methodNamed B.named
  have hlocks := B.notSynchronized
  subst hsz
  have hD := hD0.self (sz := s.heap.size)
  generalize hAe : va_A (w_X6_tookWord G a a_bytes v_length v_next v_start v_number f_bytes) s.heap.size = A at hD hE ⊢
  have hA : ∀ q : Nat, s.heap.size ≤ q → A q := fun q h => by rw [← hAe]; exact Or.inr h
  have hS : va_S A s.heap s.heap [] := va_S.rf
  have hl := lv_entry ([.ref a, .ref (G.2.2.1 si)]) (n := 3) (Nat.le_of_ble_eq_true rfl)
  rw [lg_entry_eq]
  generalize (lg_sl ([.ref a, .ref (G.2.2.1 si)]) ++ List.replicate (3 - (lg_sl ([.ref a, .ref (G.2.2.1 si)])).length) Slot.unset).toArray = ls at hl ⊢
  have hl : lv_has ls 3 [(0, .ref a), (1, .ref (G.2.2.1 si))] := hl
  have hP : va_P G.1 vwCl (w_X6_tookWord G a a_bytes v_length v_next v_start v_number f_bytes) s.heap := hP
  rw [fX6_tookWord] at h
  refine lv_aload_n hx hb dX6_tookWord_0 rfl (lv_at hl 0 rfl) ?_
  refine va_get (D := G.1) (ci := 6) (v := .int v_next) (C := RX6) (T := TX6) (N := 5) hx hb hts in_X6_tookWord_X6 hown hK.1 hP 0 rfl rfl 2 (by decide) (hts (.fieldLink RX6 19 "NineHands$Text" "next" "I") (by decide +kernel)) (fun _ h9 => h9) rfl dX6_tookWord_1 ?_
  refine lv_aload_n hx hb dX6_tookWord_4 rfl (lv_at hl 0 rfl) ?_
  refine va_get (D := G.1) (ci := 6) (v := .int v_start) (C := RX6) (T := TX6) (N := 5) hx hb hts in_X6_tookWord_X6 hown hK.1 hP 0 rfl rfl 3 (by decide) (hts (.fieldLink RX6 22 "NineHands$Text" "start" "I") (by decide +kernel)) (fun _ h9 => h9) rfl dX6_tookWord_5 ?_
  refine lv_isub hx hb dX6_tookWord_8 ?_
  refine lv_aload_n hx hb dX6_tookWord_9 rfl (lv_at hl 1 rfl) ?_
  obtain ⟨y10, hc10, h⟩ := zb1_e h
  refine zcVs (As := []) (rest := [.int (v_next - v_start)])  (st1 := [.int y10, .int (v_next - v_start)]) ⟨hx, hb, hml, hown, hts⟩ (c_J0_length_8abf5 l G si hsi y10 hc10) (cwV 0 hts gX6_tookWord_J0_length_8abf5 rfl rfl rfl (by decide +kernel) ⟨Nat.le_of_ble_eq_true rfl, Nat.le_of_ble_eq_true rfl⟩) hK hE hP hD hS hA (vk_recv hE.1 hsi hS) rfl hl.1 rfl (Nat.le_of_ble_eq_true rfl) dX6_tookWord_10 (Nat.zero_le _) (Nat.zero_le _) rfl (fun H locs hP hD hS => ?_)
  refine lv_icmp_eq (tgt := 18) hx hb dX6_tookWord_13 (by decide) (fun c13 => ?_) (fun c13 => ?_)
  · have h := zt c13 h
    refine lv_iconst (v := (0 : Int32)) hx hb dX6_tookWord_18 (by decide) ?_
    refine lv_istore_n (lv' := [(2, .int (0 : Int32)), (0, .ref a), (1, .ref (G.2.2.1 si))]) hx hb dX6_tookWord_19 rfl hl (by decide) rfl (fun ls hl => ?_)
    have loop_20 : ∀ (n : Nat) (K : Option Int32) (l2_20 : Int32) (H : Heap) (locs : List Loc) (ls : Array Slot), fX6_tookWord_L20 fu si si v_start f_bytes K n l2_20 = some rv → (∀ (H : Heap) (locs : List Loc) (ls : Array Slot), K  = some rv → va_P G.1 vwCl (w_X6_tookWord G a a_bytes v_length v_next v_start v_number f_bytes) H → va_D A (w_X6_tookWord G a a_bytes v_length v_next v_start v_number f_bytes) → va_S A s.heap H locs → lv_has ls 3 [] → W p l e (headSpec wsX6_tookWord { frames := 4, cells := 0, slots := 0, locals := 85 }).room s m ([.ref a, .ref (G.2.2.1 si)] : List Value).toArray below meth c H locs 0 0 (MQ below (zQ (some (.int rv)) G (w_X6_tookWord G a a_bytes v_length v_next v_start v_number f_bytes) A) ([.ref a, .ref (G.2.2.1 si)] : List Value).toArray s 0 0 A) (F0 m 55 ls [])) → va_P G.1 vwCl (w_X6_tookWord G a a_bytes v_length v_next v_start v_number f_bytes) H → va_D A (w_X6_tookWord G a a_bytes v_length v_next v_start v_number f_bytes) → va_S A s.heap H locs → lv_has ls 3 [(0, .ref a), (1, .ref (G.2.2.1 si)), (2, .int l2_20)] → W p l e (headSpec wsX6_tookWord { frames := 4, cells := 0, slots := 0, locals := 85 }).room s m ([.ref a, .ref (G.2.2.1 si)] : List Value).toArray below meth c H locs 0 0 (MQ below (zQ (some (.int rv)) G (w_X6_tookWord G a a_bytes v_length v_next v_start v_number f_bytes) A) ([.ref a, .ref (G.2.2.1 si)] : List Value).toArray s 0 0 A) (F0 m 20 ls []) := by
      intro n
      induction n with
      | zero => intro K l2_20 H locs ls h; rw [fX6_tookWord_L20] at h; cases h
      | succ n ih =>
        intro K l2_20 H locs ls h hk hP hD hS hl
        rw [fX6_tookWord_L20] at h
        refine lv_iload_n hx hb dX6_tookWord_20 rfl (lv_at hl 2 rfl) ?_
        refine lv_aload_n hx hb dX6_tookWord_21 rfl (lv_at hl 1 rfl) ?_
        obtain ⟨y22, hc22, h⟩ := zb1_e h
        refine zcVs (As := []) (rest := [.int l2_20])  (st1 := [.int y22, .int l2_20]) ⟨hx, hb, hml, hown, hts⟩ (c_J0_length_8abf5 l G si hsi y22 hc22) (cwV 0 hts gX6_tookWord_J0_length_8abf5 rfl rfl rfl (by decide +kernel) ⟨Nat.le_of_ble_eq_true rfl, Nat.le_of_ble_eq_true rfl⟩) hK hE hP hD hS hA (vk_recv hE.1 hsi hS) rfl hl.1 rfl (Nat.le_of_ble_eq_true rfl) dX6_tookWord_22 (Nat.zero_le _) (Nat.zero_le _) rfl (fun H locs hP hD hS => ?_)
        refine lv_icmp_ge (tgt := 55) hx hb dX6_tookWord_25 (by decide) (fun c25 => ?_) (fun c25 => ?_)
        · have h := zt c25 h
          exact hk  _ _ _ h hP hD hS (lv_sub hl [] rfl)
        · have h := zf c25 h
          refine lv_aload_n hx hb dX6_tookWord_28 rfl (lv_at hl 0 rfl) ?_
          refine va_get (D := G.1) (ci := 6) (v := .ref a_bytes) (C := RX6) (T := TX6) (N := 5) hx hb hts in_X6_tookWord_X6 hown hK.1 hP 0 rfl rfl 0 (by decide) (hts (.fieldLink RX6 9 "NineHands$Text" "bytes" "[B") (by decide +kernel)) (fun _ h9 => h9) rfl dX6_tookWord_29 ?_
          refine lv_aload_n hx hb dX6_tookWord_32 rfl (lv_at hl 0 rfl) ?_
          refine va_get (D := G.1) (ci := 6) (v := .int v_start) (C := RX6) (T := TX6) (N := 5) hx hb hts in_X6_tookWord_X6 hown hK.1 hP 0 rfl rfl 3 (by decide) (hts (.fieldLink RX6 22 "NineHands$Text" "start" "I") (by decide +kernel)) (fun _ h9 => h9) rfl dX6_tookWord_33 ?_
          refine lv_iload_n hx hb dX6_tookWord_36 rfl (lv_at hl 2 rfl) ?_
          refine lv_iadd hx hb dX6_tookWord_37 ?_
          obtain ⟨g38, h⟩ := zg h
          refine zbld hx hb hK.1 hP 1 1 rfl rfl g38 (j := ((v_start + l2_20)).toNatClampNeg) rfl dX6_tookWord_38 ?_
          refine lv_aload_n hx hb dX6_tookWord_39 rfl (lv_at hl 1 rfl) ?_
          refine lv_iload_n hx hb dX6_tookWord_40 rfl (lv_at hl 2 rfl) ?_
          obtain ⟨y41, hc41, h⟩ := zb1_e h
          refine zcVs (As := [.int l2_20]) (rest := [.int (f_bytes ((v_start + l2_20)).toNatClampNeg)])  (st1 := [.int y41, .int (f_bytes ((v_start + l2_20)).toNatClampNeg)]) ⟨hx, hb, hml, hown, hts⟩ (c_J0_charAt_5068e l G si hsi l2_20 y41 hc41) (cwV 1 hts gX6_tookWord_J0_charAt_5068e rfl rfl rfl (by decide +kernel) ⟨Nat.le_of_ble_eq_true rfl, Nat.le_of_ble_eq_true rfl⟩) hK hE hP hD hS hA (vk_recv hE.1 hsi hS) rfl hl.1 rfl (Nat.le_of_ble_eq_true rfl) dX6_tookWord_41 (Nat.zero_le _) (Nat.zero_le _) rfl (fun H locs hP hD hS => ?_)
          refine lv_icmp_eq (tgt := 49) hx hb dX6_tookWord_44 (by decide) (fun c44 => ?_) (fun c44 => ?_)
          · have h := zt c44 h
            refine lv_iinc (v := (l2_20 + (1 : Int32))) (lv' := [(2, .int (l2_20 + (1 : Int32))), (0, .ref a), (1, .ref (G.2.2.1 si))]) hx hb dX6_tookWord_49 hl (k := 2) rfl rfl (by decide) rfl (fun ls hl => ?_)
            refine lv_goto (tgt := 20) hx hb dX6_tookWord_52 (by decide) ?_
            exact ih K _ _ _ _ h hk hP hD hS (lv_sub hl [1, 2, 0] rfl)
          · have h := zf c44 h
            refine lv_iconst (v := (0 : Int32)) hx hb dX6_tookWord_47 (by decide) ?_
            cases h
            exact W.zret (ty := .boolean) hx hb hr rfl (fun t9 ht9 _ => zend hP hD hS ht9) hS.2.2 dX6_tookWord_48
    refine loop_20 fu _ _ _ _ _ h (fun  H locs ls h hP hD hS hl => ?_) hP hD hS (lv_sub hl [1, 2, 0] rfl)
    refine lv_iconst (v := (1 : Int32)) hx hb dX6_tookWord_55 (by decide) ?_
    cases h
    exact W.zret (ty := .boolean) hx hb hr rfl (fun t9 ht9 _ => zend hP hD hS ht9) hS.2.2 dX6_tookWord_56
  · have h := zf c13 h
    refine lv_iconst (v := (0 : Int32)) hx hb dX6_tookWord_16 (by decide) ?_
    cases h
    exact W.zret (ty := .boolean) hx hb hr rfl (fun t9 ht9 _ => zend hP hD hS ht9) hS.2.2 dX6_tookWord_17
abbrev w_X6_takeNumber (G : zG) (a : Nat) (a_bytes : Nat) (v_length : Int32) (v_next : Int32) (v_start : Int32) (v_number : Int32) (f_bytes : (Nat → Int32)) : va_W := [(a, .inr (6, [.ref a_bytes, .int v_length, .int v_next, .int v_start, .int v_number])), (a_bytes, .inl (zCB G, 200, .inl f_bytes))]
theorem in_X6_takeNumber_X6 : ∀ w ∈ wsX60, w ∈ wsX6_takeNumber := by decide +kernel
set_option maxHeartbeats 4000000 in
set_option maxRecDepth 100000 in
theorem c_X6_takeNumber (l : Launch) (G : zG) (fu : Nat) (a : Nat) (a_bytes : Nat) (v_length : Int32) (v_next : Int32) (v_start : Int32) (v_number : Int32) (f_bytes : (Nat → Int32)) (x1 : Int32) (rv : Int32) (ov_next : Int32) (ov_start : Int32) (ov_number : Int32) (h : fX6_takeNumber fu v_length v_next v_start v_number f_bytes x1 = some (rv, ov_next, ov_start, ov_number)) : zC l yX6_takeNumber wsX6_takeNumber 2 41 G [.ref a, .int x1] (w_X6_takeNumber G a a_bytes v_length v_next v_start v_number f_bytes) (some (.int rv)) (w_X6_takeNumber G a a_bytes v_length ov_next ov_start ov_number f_bytes) := by
  refine fun sz => Met.ofW (cc := cX6_takeNumber) (maxL := 3) (ret := (some .boolean)) (by decide) rfl ?_
  intro p e s m args below meth c s₁ B hml hv
  obtain ⟨rfl, hsz, hP, hK, hD0, hE⟩ := hv
  have hx := B.exec
  have hb := B.bytes
  have hr := B.returns
  have hts := atoms_spec (ws := wsX6_takeNumber) B.pre
  have hown : s.vm.findClass RX6 = some m.cls := findClass_of_methodNamed B.named
  have hlocks := B.notSynchronized
  subst hsz
  have hD := hD0.self (sz := s.heap.size)
  generalize hAe : va_A (w_X6_takeNumber G a a_bytes v_length v_next v_start v_number f_bytes) s.heap.size = A at hD hE ⊢
  have hA : ∀ q : Nat, s.heap.size ≤ q → A q := fun q h => by rw [← hAe]; exact Or.inr h
  have hS : va_S A s.heap s.heap [] := va_S.rf
  have hl := lv_entry ([.ref a, .int x1]) (n := 3) (Nat.le_of_ble_eq_true rfl)
  rw [lg_entry_eq]
  generalize (lg_sl ([.ref a, .int x1]) ++ List.replicate (3 - (lg_sl ([.ref a, .int x1])).length) Slot.unset).toArray = ls at hl ⊢
  have hl : lv_has ls 3 [(0, .ref a), (1, .int x1)] := hl
  have hP : va_P G.1 vwCl (w_X6_takeNumber G a a_bytes v_length v_next v_start v_number f_bytes) s.heap := hP
  rw [fX6_takeNumber] at h
  have join_95 : ∀ (s0_95 : Int32) (v_next_95 : Int32) (v_start_95 : Int32) (v_number_95 : Int32) (H : Heap) (locs : List Loc) (ls : Array Slot), fX6_takeNumber_J95 fu x1 s0_95 v_next_95 v_start_95 v_number_95 = some (rv, ov_next, ov_start, ov_number) → va_P G.1 vwCl (w_X6_takeNumber G a a_bytes v_length v_next_95 v_start_95 v_number_95 f_bytes) H → va_D A (w_X6_takeNumber G a a_bytes v_length v_next_95 v_start_95 v_number_95 f_bytes) → va_S A s.heap H locs → lv_has ls 3 [(0, .ref a), (1, .int x1)] → W p l e (headSpec wsX6_takeNumber { frames := 2, cells := 0, slots := 0, locals := 41 }).room s m ([.ref a, .int x1] : List Value).toArray below meth c H locs 0 0 (MQ below (zQ (some (.int rv)) G (w_X6_takeNumber G a a_bytes v_length ov_next ov_start ov_number f_bytes) A) ([.ref a, .int x1] : List Value).toArray s 0 0 A) (F0 m 95 ls [.int s0_95]) := by
    intro s0_95 v_next_95 v_start_95 v_number_95 H locs ls h hP hD hS hl
    rw [fX6_takeNumber_J95] at h
    refine lv_istore_n (lv' := [(2, .int s0_95), (0, .ref a), (1, .int x1)]) hx hb dX6_takeNumber_95 rfl hl (by decide) rfl (fun ls hl => ?_)
    refine lv_iload_n hx hb dX6_takeNumber_96 rfl (lv_at hl 0 rfl) ?_
    refine lv_if_ne (tgt := 112) hx hb dX6_takeNumber_97 (by decide) (fun c97 => ?_) (fun c97 => ?_)
    · have h := zf c97 h
      refine lv_iconst (v := (0 : Int32)) hx hb dX6_takeNumber_112 (by decide) ?_
      cases h
      exact W.zret (ty := .boolean) hx hb hr rfl (fun t9 ht9 _ => zend hP hD hS ht9) hS.2.2 dX6_takeNumber_113
    · have h := zt c97 h
      refine lv_aload_n hx hb dX6_takeNumber_100 rfl (lv_at hl 1 rfl) ?_
      refine va_get (D := G.1) (ci := 6) (v := .int v_number_95) (C := RX6) (T := TX6) (N := 5) hx hb hts in_X6_takeNumber_X6 hown hK.1 hP 0 rfl rfl 4 (by decide) (hts (.fieldLink RX6 25 "NineHands$Text" "number" "I") (by decide +kernel)) (fun _ h9 => h9) rfl dX6_takeNumber_101 ?_
      refine lv_iload_n hx hb dX6_takeNumber_104 rfl (lv_at hl 2 rfl) ?_
      refine lv_icmp_gt (tgt := 112) hx hb dX6_takeNumber_105 (by decide) (fun c105 => ?_) (fun c105 => ?_)
      · have h := zt c105 h
        refine lv_iconst (v := (0 : Int32)) hx hb dX6_takeNumber_112 (by decide) ?_
        cases h
        exact W.zret (ty := .boolean) hx hb hr rfl (fun t9 ht9 _ => zend hP hD hS ht9) hS.2.2 dX6_takeNumber_113
      · have h := zf c105 h
        refine lv_iconst (v := (1 : Int32)) hx hb dX6_takeNumber_108 (by decide) ?_
        refine lv_goto (tgt := 113) hx hb dX6_takeNumber_109 (by decide) ?_
        cases h
        exact W.zret (ty := .boolean) hx hb hr rfl (fun t9 ht9 _ => zend hP hD hS ht9) hS.2.2 dX6_takeNumber_113
  refine lv_aload_n hx hb dX6_takeNumber_0 rfl (lv_at hl 0 rfl) ?_
  obtain ⟨y1, y1_v_next, y1_v_start, hc1, h⟩ := zb3_e h
  refine zcV (As := []) (rest := []) (ws' := (w_X6_takeNumber G a a_bytes v_length y1_v_next y1_v_start v_number f_bytes)) (st1 := [.int y1]) ⟨hx, hb, hml, hown, hts⟩ (c_X6_take l G fu a a_bytes v_length v_next v_start v_number f_bytes y1 y1_v_next y1_v_start hc1) (cwV 0 hts gX6_takeNumber_X6_take rfl rfl rfl (by decide +kernel) ⟨Nat.le_of_ble_eq_true rfl, Nat.le_of_ble_eq_true rfl⟩) hK hE hP hD hS hA [0, 1] rfl rfl 0 6 rfl rfl rfl rfl rfl rfl hl.1 rfl (Nat.le_of_ble_eq_true rfl) dX6_takeNumber_1 (Nat.zero_le _) (Nat.zero_le _) rfl (fun H locs hP hD hS => ?_)
  refine lv_iconst (v := (2 : Int32)) hx hb dX6_takeNumber_4 (by decide) ?_
  refine lv_icmp_ne (tgt := 21) hx hb dX6_takeNumber_5 (by decide) (fun c5 => ?_) (fun c5 => ?_)
  · have h := zf c5 h
    refine lv_iconst (v := (0 : Int32)) hx hb dX6_takeNumber_21 (by decide) ?_
    cases h
    exact W.zret (ty := .boolean) hx hb hr rfl (fun t9 ht9 _ => zend hP hD hS ht9) hS.2.2 dX6_takeNumber_22
  · have h := zt c5 h
    refine lv_aload_n hx hb dX6_takeNumber_8 rfl (lv_at hl 0 rfl) ?_
    refine va_get (D := G.1) (ci := 6) (v := .int y1_v_next) (C := RX6) (T := TX6) (N := 5) hx hb hts in_X6_takeNumber_X6 hown hK.1 hP 0 rfl rfl 2 (by decide) (hts (.fieldLink RX6 19 "NineHands$Text" "next" "I") (by decide +kernel)) (fun _ h9 => h9) rfl dX6_takeNumber_9 ?_
    refine lv_aload_n hx hb dX6_takeNumber_12 rfl (lv_at hl 0 rfl) ?_
    refine va_get (D := G.1) (ci := 6) (v := .int y1_v_start) (C := RX6) (T := TX6) (N := 5) hx hb hts in_X6_takeNumber_X6 hown hK.1 hP 0 rfl rfl 3 (by decide) (hts (.fieldLink RX6 22 "NineHands$Text" "start" "I") (by decide +kernel)) (fun _ h9 => h9) rfl dX6_takeNumber_13 ?_
    refine lv_isub hx hb dX6_takeNumber_16 ?_
    refine lv_iconst (v := (2 : Int32)) hx hb dX6_takeNumber_17 (by decide) ?_
    refine lv_icmp_le (tgt := 23) hx hb dX6_takeNumber_18 (by decide) (fun c18 => ?_) (fun c18 => ?_)
    · have h := zt c18 h
      refine lv_aload_n hx hb dX6_takeNumber_23 rfl (lv_at hl 0 rfl) ?_
      refine lv_iconst (v := (0 : Int32)) hx hb dX6_takeNumber_24 (by decide) ?_
      refine zput1 (D := G.1) (ci := 6) (C := RX6) (T := TX6) (N := 5) (ty := .int) (ws' := (w_X6_takeNumber G a a_bytes v_length y1_v_next y1_v_start (0 : Int32) f_bytes)) hx hb hts in_X6_takeNumber_X6 tyX6 tyX6_ok nmX6 hown hK.1 hP hD hS 0 rfl rfl 4 (by decide) (hts (.fieldLink RX6 25 "NineHands$Text" "number" "I") (by decide +kernel)) (fun _ h9 => h9) rfl (by decide +kernel) rfl rfl (Nat.le_of_ble_eq_true rfl) rfl dX6_takeNumber_25 (fun H locs hP hD hS => ?_)
      refine lv_aload_n hx hb dX6_takeNumber_28 rfl (lv_at hl 0 rfl) ?_
      refine va_get (D := G.1) (ci := 6) (v := .int y1_v_start) (C := RX6) (T := TX6) (N := 5) hx hb hts in_X6_takeNumber_X6 hown hK.1 hP 0 rfl rfl 3 (by decide) (hts (.fieldLink RX6 22 "NineHands$Text" "start" "I") (by decide +kernel)) (fun _ h9 => h9) rfl dX6_takeNumber_29 ?_
      refine lv_istore_n (lv' := [(2, .int y1_v_start), (0, .ref a), (1, .int x1)]) hx hb dX6_takeNumber_32 rfl hl (by decide) rfl (fun ls hl => ?_)
      have loop_33 : ∀ (n : Nat) (K : Int32 → Option (Int32 × Int32 × Int32 × Int32)) (l2_33 : Int32) (v_number_33 : Int32) (H : Heap) (locs : List Loc) (ls : Array Slot), fX6_takeNumber_L33 fu x1 y1_v_next f_bytes K n l2_33 v_number_33 = some (rv, ov_next, ov_start, ov_number) → (∀ (v_number_33e : Int32) (H : Heap) (locs : List Loc) (ls : Array Slot), K v_number_33e = some (rv, ov_next, ov_start, ov_number) → va_P G.1 vwCl (w_X6_takeNumber G a a_bytes v_length y1_v_next y1_v_start v_number_33e f_bytes) H → va_D A (w_X6_takeNumber G a a_bytes v_length y1_v_next y1_v_start v_number_33e f_bytes) → va_S A s.heap H locs → lv_has ls 3 [(0, .ref a), (1, .int x1)] → W p l e (headSpec wsX6_takeNumber { frames := 2, cells := 0, slots := 0, locals := 41 }).room s m ([.ref a, .int x1] : List Value).toArray below meth c H locs 0 0 (MQ below (zQ (some (.int rv)) G (w_X6_takeNumber G a a_bytes v_length ov_next ov_start ov_number f_bytes) A) ([.ref a, .int x1] : List Value).toArray s 0 0 A) (F0 m 68 ls [])) → va_P G.1 vwCl (w_X6_takeNumber G a a_bytes v_length y1_v_next y1_v_start v_number_33 f_bytes) H → va_D A (w_X6_takeNumber G a a_bytes v_length y1_v_next y1_v_start v_number_33 f_bytes) → va_S A s.heap H locs → lv_has ls 3 [(0, .ref a), (1, .int x1), (2, .int l2_33)] → W p l e (headSpec wsX6_takeNumber { frames := 2, cells := 0, slots := 0, locals := 41 }).room s m ([.ref a, .int x1] : List Value).toArray below meth c H locs 0 0 (MQ below (zQ (some (.int rv)) G (w_X6_takeNumber G a a_bytes v_length ov_next ov_start ov_number f_bytes) A) ([.ref a, .int x1] : List Value).toArray s 0 0 A) (F0 m 33 ls []) := by
        intro n
        induction n with
        | zero => intro K l2_33 v_number_33 H locs ls h; rw [fX6_takeNumber_L33] at h; cases h
        | succ n ih =>
          intro K l2_33 v_number_33 H locs ls h hk hP hD hS hl
          rw [fX6_takeNumber_L33] at h
          refine lv_iload_n hx hb dX6_takeNumber_33 rfl (lv_at hl 2 rfl) ?_
          refine lv_aload_n hx hb dX6_takeNumber_34 rfl (lv_at hl 0 rfl) ?_
          refine va_get (D := G.1) (ci := 6) (v := .int y1_v_next) (C := RX6) (T := TX6) (N := 5) hx hb hts in_X6_takeNumber_X6 hown hK.1 hP 0 rfl rfl 2 (by decide) (hts (.fieldLink RX6 19 "NineHands$Text" "next" "I") (by decide +kernel)) (fun _ h9 => h9) rfl dX6_takeNumber_35 ?_
          refine lv_icmp_ge (tgt := 68) hx hb dX6_takeNumber_38 (by decide) (fun c38 => ?_) (fun c38 => ?_)
          · have h := zt c38 h
            exact hk _ _ _ _ h hP hD hS (lv_sub hl [0, 1] rfl)
          · have h := zf c38 h
            refine lv_aload_n hx hb dX6_takeNumber_41 rfl (lv_at hl 0 rfl) ?_
            refine lv_bipush (v := (10 : Int32)) hx hb dX6_takeNumber_42 (by decide) ?_
            refine lv_aload_n hx hb dX6_takeNumber_44 rfl (lv_at hl 0 rfl) ?_
            refine va_get (D := G.1) (ci := 6) (v := .int v_number_33) (C := RX6) (T := TX6) (N := 5) hx hb hts in_X6_takeNumber_X6 hown hK.1 hP 0 rfl rfl 4 (by decide) (hts (.fieldLink RX6 25 "NineHands$Text" "number" "I") (by decide +kernel)) (fun _ h9 => h9) rfl dX6_takeNumber_45 ?_
            refine lv_imul hx hb dX6_takeNumber_48 ?_
            refine lv_aload_n hx hb dX6_takeNumber_49 rfl (lv_at hl 0 rfl) ?_
            refine va_get (D := G.1) (ci := 6) (v := .ref a_bytes) (C := RX6) (T := TX6) (N := 5) hx hb hts in_X6_takeNumber_X6 hown hK.1 hP 0 rfl rfl 0 (by decide) (hts (.fieldLink RX6 9 "NineHands$Text" "bytes" "[B") (by decide +kernel)) (fun _ h9 => h9) rfl dX6_takeNumber_50 ?_
            refine lv_iload_n hx hb dX6_takeNumber_53 rfl (lv_at hl 2 rfl) ?_
            obtain ⟨g54, h⟩ := zg h
            refine zbld hx hb hK.1 hP 1 1 rfl rfl g54 (j := (l2_33).toNatClampNeg) rfl dX6_takeNumber_54 ?_
            refine lv_iadd hx hb dX6_takeNumber_55 ?_
            refine lv_bipush (v := (48 : Int32)) hx hb dX6_takeNumber_56 (by decide) ?_
            refine lv_isub hx hb dX6_takeNumber_58 ?_
            refine zput1 (D := G.1) (ci := 6) (C := RX6) (T := TX6) (N := 5) (ty := .int) (ws' := (w_X6_takeNumber G a a_bytes v_length y1_v_next y1_v_start ((((10 : Int32) * v_number_33) + (f_bytes (l2_33).toNatClampNeg)) - (48 : Int32)) f_bytes)) hx hb hts in_X6_takeNumber_X6 tyX6 tyX6_ok nmX6 hown hK.1 hP hD hS 0 rfl rfl 4 (by decide) (hts (.fieldLink RX6 25 "NineHands$Text" "number" "I") (by decide +kernel)) (fun _ h9 => h9) rfl (by decide +kernel) rfl rfl (Nat.le_of_ble_eq_true rfl) rfl dX6_takeNumber_59 (fun H locs hP hD hS => ?_)
            refine lv_iinc (v := (l2_33 + (1 : Int32))) (lv' := [(2, .int (l2_33 + (1 : Int32))), (0, .ref a), (1, .int x1)]) hx hb dX6_takeNumber_62 hl (k := 2) rfl rfl (by decide) rfl (fun ls hl => ?_)
            refine lv_goto (tgt := 33) hx hb dX6_takeNumber_65 (by decide) ?_
            exact ih K _ _ _ _ _ h hk hP hD hS (lv_sub hl [1, 2, 0] rfl)
      refine loop_33 fu _ _ _ _ _ _ h (fun v_number_33e H locs ls h hP hD hS hl => ?_) hP hD hS (lv_sub hl [1, 2, 0] rfl)
      refine lv_aload_n hx hb dX6_takeNumber_68 rfl (lv_at hl 0 rfl) ?_
      refine va_get (D := G.1) (ci := 6) (v := .int y1_v_next) (C := RX6) (T := TX6) (N := 5) hx hb hts in_X6_takeNumber_X6 hown hK.1 hP 0 rfl rfl 2 (by decide) (hts (.fieldLink RX6 19 "NineHands$Text" "next" "I") (by decide +kernel)) (fun _ h9 => h9) rfl dX6_takeNumber_69 ?_
      refine lv_aload_n hx hb dX6_takeNumber_72 rfl (lv_at hl 0 rfl) ?_
      refine va_get (D := G.1) (ci := 6) (v := .int y1_v_start) (C := RX6) (T := TX6) (N := 5) hx hb hts in_X6_takeNumber_X6 hown hK.1 hP 0 rfl rfl 3 (by decide) (hts (.fieldLink RX6 22 "NineHands$Text" "start" "I") (by decide +kernel)) (fun _ h9 => h9) rfl dX6_takeNumber_73 ?_
      refine lv_isub hx hb dX6_takeNumber_76 ?_
      refine lv_iconst (v := (2 : Int32)) hx hb dX6_takeNumber_77 (by decide) ?_
      refine lv_icmp_ne (tgt := 94) hx hb dX6_takeNumber_78 (by decide) (fun c78 => ?_) (fun c78 => ?_)
      · have h := zf c78 h
        refine lv_iconst (v := (0 : Int32)) hx hb dX6_takeNumber_94 (by decide) ?_
        exact join_95 _ _ _ _ _ _ _ h hP hD hS (lv_sub hl [0, 1] rfl)
      · have h := zt c78 h
        refine lv_aload_n hx hb dX6_takeNumber_81 rfl (lv_at hl 0 rfl) ?_
        refine va_get (D := G.1) (ci := 6) (v := .int v_number_33e) (C := RX6) (T := TX6) (N := 5) hx hb hts in_X6_takeNumber_X6 hown hK.1 hP 0 rfl rfl 4 (by decide) (hts (.fieldLink RX6 25 "NineHands$Text" "number" "I") (by decide +kernel)) (fun _ h9 => h9) rfl dX6_takeNumber_82 ?_
        refine lv_bipush (v := (10 : Int32)) hx hb dX6_takeNumber_85 (by decide) ?_
        refine lv_icmp_ge (tgt := 94) hx hb dX6_takeNumber_87 (by decide) (fun c87 => ?_) (fun c87 => ?_)
        · have h := zt c87 h
          refine lv_iconst (v := (0 : Int32)) hx hb dX6_takeNumber_94 (by decide) ?_
          exact join_95 _ _ _ _ _ _ _ h hP hD hS (lv_sub hl [0, 1] rfl)
        · have h := zf c87 h
          refine lv_iconst (v := (1 : Int32)) hx hb dX6_takeNumber_90 (by decide) ?_
          refine lv_goto (tgt := 95) hx hb dX6_takeNumber_91 (by decide) ?_
          exact join_95 _ _ _ _ _ _ _ h hP hD hS (lv_sub hl [0, 1] rfl)
    · have h := zf c18 h
      refine lv_iconst (v := (0 : Int32)) hx hb dX6_takeNumber_21 (by decide) ?_
      cases h
      exact W.zret (ty := .boolean) hx hb hr rfl (fun t9 ht9 _ => zend hP hD hS ht9) hS.2.2 dX6_takeNumber_22
abbrev w_X6_readClerk (G : zG) (a : Nat) (a_bytes : Nat) (a_p0 : Nat) (a_p0_clerks : Nat) (ca_p0_clk : Nat → Nat) (v_length : Int32) (v_next : Int32) (v_start : Int32) (v_number : Int32) (f_bytes : (Nat → Int32)) (v_p0_count : Int32) (v_p0_letterTold : Int32) (v_p0_firstTone : Int32) (v_p0_firstMarks : Int32) (k_p0_lean : (Nat → Int32)) (k_p0_sets : (Nat → Int32)) (k_p0_drops : (Nat → Int32)) (k_p0_keeps : (Nat → Int32)) : va_W := [(a, .inr (6, [.ref a_bytes, .int v_length, .int v_next, .int v_start, .int v_number])), (a_bytes, .inl (zCB G, 200, .inl f_bytes)), (a_p0, .inr (3, [.ref a_p0_clerks, .int v_p0_count, .int v_p0_letterTold, .int v_p0_firstTone, .int v_p0_firstMarks])), (a_p0_clerks, .inl (zCC G, 6, .inr (.inr (.inr (.inr (fun k => some (ca_p0_clk k)))))))] ++ zclks ca_p0_clk k_p0_lean k_p0_sets k_p0_drops k_p0_keeps
theorem in_X6_readClerk_X6 : ∀ w ∈ wsX60, w ∈ wsX6_readClerk := by decide +kernel
set_option maxHeartbeats 4000000 in
set_option maxRecDepth 100000 in
theorem c_X6_readClerk (l : Launch) (G : zG) (fu : Nat) (a : Nat) (a_bytes : Nat) (a_p0 : Nat) (a_p0_clerks : Nat) (ca_p0_clk : Nat → Nat) (v_length : Int32) (v_next : Int32) (v_start : Int32) (v_number : Int32) (f_bytes : (Nat → Int32)) (v_p0_count : Int32) (v_p0_letterTold : Int32) (v_p0_firstTone : Int32) (v_p0_firstMarks : Int32) (k_p0_lean : (Nat → Int32)) (k_p0_sets : (Nat → Int32)) (k_p0_drops : (Nat → Int32)) (k_p0_keeps : (Nat → Int32)) (rv : Int32) (ov_next : Int32) (ov_start : Int32) (ov_number : Int32) (ov_p0_count : Int32) (ok_p0_lean : (Nat → Int32)) (ok_p0_sets : (Nat → Int32)) (ok_p0_drops : (Nat → Int32)) (ok_p0_keeps : (Nat → Int32)) (h : fX6_readClerk fu v_length v_next v_start v_number f_bytes v_p0_count k_p0_lean k_p0_sets k_p0_drops k_p0_keeps = some (rv, ov_next, ov_start, ov_number, ov_p0_count, ok_p0_lean, ok_p0_sets, ok_p0_drops, ok_p0_keeps)) : zC l yX6_readClerk wsX6_readClerk 3 63 G [.ref a, .ref a_p0] (w_X6_readClerk G a a_bytes a_p0 a_p0_clerks ca_p0_clk v_length v_next v_start v_number f_bytes v_p0_count v_p0_letterTold v_p0_firstTone v_p0_firstMarks k_p0_lean k_p0_sets k_p0_drops k_p0_keeps) (some (.int rv)) (w_X6_readClerk G a a_bytes a_p0 a_p0_clerks ca_p0_clk v_length ov_next ov_start ov_number f_bytes ov_p0_count v_p0_letterTold v_p0_firstTone v_p0_firstMarks ok_p0_lean ok_p0_sets ok_p0_drops ok_p0_keeps) := by
  refine fun sz => Met.ofW (cc := cX6_readClerk) (maxL := 5) (ret := (some .boolean)) (by decide) rfl ?_
  intro p e s m args below meth c s₁ B hml hv
  obtain ⟨rfl, hsz, hP, hK, hD0, hE⟩ := hv
  have hx := B.exec
  have hb := B.bytes
  have hr := B.returns
  have hts := atoms_spec (ws := wsX6_readClerk) B.pre
  have hown : s.vm.findClass RX6 = some m.cls := findClass_of_methodNamed B.named
  have hlocks := B.notSynchronized
  subst hsz
  have hD := hD0.self (sz := s.heap.size)
  generalize hAe : va_A (w_X6_readClerk G a a_bytes a_p0 a_p0_clerks ca_p0_clk v_length v_next v_start v_number f_bytes v_p0_count v_p0_letterTold v_p0_firstTone v_p0_firstMarks k_p0_lean k_p0_sets k_p0_drops k_p0_keeps) s.heap.size = A at hD hE ⊢
  have hA : ∀ q : Nat, s.heap.size ≤ q → A q := fun q h => by rw [← hAe]; exact Or.inr h
  have hS : va_S A s.heap s.heap [] := va_S.rf
  have hl := lv_entry ([.ref a, .ref a_p0]) (n := 5) (Nat.le_of_ble_eq_true rfl)
  rw [lg_entry_eq]
  generalize (lg_sl ([.ref a, .ref a_p0]) ++ List.replicate (5 - (lg_sl ([.ref a, .ref a_p0])).length) Slot.unset).toArray = ls at hl ⊢
  have hl : lv_has ls 5 [(0, .ref a), (1, .ref a_p0)] := hl
  have hP : va_P G.1 vwCl (w_X6_readClerk G a a_bytes a_p0 a_p0_clerks ca_p0_clk v_length v_next v_start v_number f_bytes v_p0_count v_p0_letterTold v_p0_firstTone v_p0_firstMarks k_p0_lean k_p0_sets k_p0_drops k_p0_keeps) s.heap := hP
  rw [fX6_readClerk] at h
  refine lv_aload_n hx hb dX6_readClerk_0 rfl (lv_at hl 0 rfl) ?_
  refine lv_bipush (v := (8 : Int32)) hx hb dX6_readClerk_1 (by decide) ?_
  obtain ⟨y3, y3_v_next, y3_v_start, y3_v_number, hc3, h⟩ := zb4_e h
  refine zcV (As := [.int (8 : Int32)]) (rest := []) (ws' := (w_X6_readClerk G a a_bytes a_p0 a_p0_clerks ca_p0_clk v_length y3_v_next y3_v_start y3_v_number f_bytes v_p0_count v_p0_letterTold v_p0_firstTone v_p0_firstMarks k_p0_lean k_p0_sets k_p0_drops k_p0_keeps)) (st1 := [.int y3]) ⟨hx, hb, hml, hown, hts⟩ (c_X6_takeNumber l G fu a a_bytes v_length v_next v_start v_number f_bytes (8 : Int32) y3 y3_v_next y3_v_start y3_v_number hc3) (cwV 1 hts gX6_readClerk_X6_takeNumber rfl rfl rfl (by decide +kernel) ⟨Nat.le_of_ble_eq_true rfl, Nat.le_of_ble_eq_true rfl⟩) hK hE hP hD hS hA [0, 1] rfl rfl 0 6 rfl rfl rfl rfl rfl rfl hl.1 rfl (Nat.le_of_ble_eq_true rfl) dX6_readClerk_3 (Nat.zero_le _) (Nat.zero_le _) rfl (fun H locs hP hD hS => ?_)
  refine lv_if_ne (tgt := 11) hx hb dX6_readClerk_6 (by decide) (fun c6 => ?_) (fun c6 => ?_)
  · have h := zf c6 h
    refine lv_aload_n hx hb dX6_readClerk_11 rfl (lv_at hl 0 rfl) ?_
    refine va_get (D := G.1) (ci := 6) (v := .int y3_v_number) (C := RX6) (T := TX6) (N := 5) hx hb hts in_X6_readClerk_X6 hown hK.1 hP 0 rfl rfl 4 (by decide) (hts (.fieldLink RX6 25 "NineHands$Text" "number" "I") (by decide +kernel)) (fun _ h9 => h9) rfl dX6_readClerk_12 ?_
    refine lv_istore_n (lv' := [(2, .int y3_v_number), (0, .ref a), (1, .ref a_p0)]) hx hb dX6_readClerk_15 rfl hl (by decide) rfl (fun ls hl => ?_)
    refine lv_aload_n hx hb dX6_readClerk_16 rfl (lv_at hl 1 rfl) ?_
    refine lv_bipush (v := (7 : Int32)) hx hb dX6_readClerk_17 (by decide) ?_
    obtain ⟨y19, y19_v_next, y19_v_start, y19_v_number, hc19, h⟩ := zb4_e h
    refine zcV (As := [.int (7 : Int32)]) (rest := []) (ws' := (w_X6_readClerk G a a_bytes a_p0 a_p0_clerks ca_p0_clk v_length y19_v_next y19_v_start y19_v_number f_bytes v_p0_count v_p0_letterTold v_p0_firstTone v_p0_firstMarks k_p0_lean k_p0_sets k_p0_drops k_p0_keeps)) (st1 := [.int y19]) ⟨hx, hb, hml, hown, hts⟩ (c_X6_takeNumber l G fu a a_bytes v_length y3_v_next y3_v_start y3_v_number f_bytes (7 : Int32) y19 y19_v_next y19_v_start y19_v_number hc19) (cwV 1 hts gX6_readClerk_X6_takeNumber rfl rfl rfl (by decide +kernel) ⟨Nat.le_of_ble_eq_true rfl, Nat.le_of_ble_eq_true rfl⟩) hK hE hP hD hS hA [0, 1] rfl rfl 0 6 rfl rfl rfl rfl rfl rfl hl.1 rfl (Nat.le_of_ble_eq_true rfl) dX6_readClerk_19 (Nat.zero_le _) (Nat.zero_le _) rfl (fun H locs hP hD hS => ?_)
    refine lv_if_ne (tgt := 27) hx hb dX6_readClerk_22 (by decide) (fun c22 => ?_) (fun c22 => ?_)
    · have h := zf c22 h
      refine lv_aload_n hx hb dX6_readClerk_27 rfl (lv_at hl 1 rfl) ?_
      refine va_get (D := G.1) (ci := 6) (v := .int y19_v_number) (C := RX6) (T := TX6) (N := 5) hx hb hts in_X6_readClerk_X6 hown hK.1 hP 0 rfl rfl 4 (by decide) (hts (.fieldLink RX6 25 "NineHands$Text" "number" "I") (by decide +kernel)) (fun _ h9 => h9) rfl dX6_readClerk_28 ?_
      refine lv_istore_n (lv' := [(3, .int y19_v_number), (2, .int y3_v_number), (0, .ref a), (1, .ref a_p0)]) hx hb dX6_readClerk_31 rfl hl (by decide) rfl (fun ls hl => ?_)
      refine lv_aload_n hx hb dX6_readClerk_32 rfl (lv_at hl 2 rfl) ?_
      refine lv_bipush (v := (7 : Int32)) hx hb dX6_readClerk_33 (by decide) ?_
      obtain ⟨y35, y35_v_next, y35_v_start, y35_v_number, hc35, h⟩ := zb4_e h
      refine zcV (As := [.int (7 : Int32)]) (rest := []) (ws' := (w_X6_readClerk G a a_bytes a_p0 a_p0_clerks ca_p0_clk v_length y35_v_next y35_v_start y35_v_number f_bytes v_p0_count v_p0_letterTold v_p0_firstTone v_p0_firstMarks k_p0_lean k_p0_sets k_p0_drops k_p0_keeps)) (st1 := [.int y35]) ⟨hx, hb, hml, hown, hts⟩ (c_X6_takeNumber l G fu a a_bytes v_length y19_v_next y19_v_start y19_v_number f_bytes (7 : Int32) y35 y35_v_next y35_v_start y35_v_number hc35) (cwV 1 hts gX6_readClerk_X6_takeNumber rfl rfl rfl (by decide +kernel) ⟨Nat.le_of_ble_eq_true rfl, Nat.le_of_ble_eq_true rfl⟩) hK hE hP hD hS hA [0, 1] rfl rfl 0 6 rfl rfl rfl rfl rfl rfl hl.1 rfl (Nat.le_of_ble_eq_true rfl) dX6_readClerk_35 (Nat.zero_le _) (Nat.zero_le _) rfl (fun H locs hP hD hS => ?_)
      refine lv_if_eq (tgt := 50) hx hb dX6_readClerk_38 (by decide) (fun c38 => ?_) (fun c38 => ?_)
      · have h := zt c38 h
        refine lv_iconst (v := (0 : Int32)) hx hb dX6_readClerk_50 (by decide) ?_
        simp only [Option.some.injEq, Prod.mk.injEq] at h
        obtain ⟨rfl, rfl, rfl, rfl, rfl, rfl, rfl, rfl, rfl⟩ := h
        exact W.zret (ty := .boolean) hx hb hr rfl (fun t9 ht9 _ => zend hP hD hS ht9) hS.2.2 dX6_readClerk_51
      · have h := zf c38 h
        refine lv_aload_n hx hb dX6_readClerk_41 rfl (lv_at hl 2 rfl) ?_
        refine va_get (D := G.1) (ci := 6) (v := .int y35_v_number) (C := RX6) (T := TX6) (N := 5) hx hb hts in_X6_readClerk_X6 hown hK.1 hP 0 rfl rfl 4 (by decide) (hts (.fieldLink RX6 25 "NineHands$Text" "number" "I") (by decide +kernel)) (fun _ h9 => h9) rfl dX6_readClerk_42 ?_
        refine lv_iload_n hx hb dX6_readClerk_45 rfl (lv_at hl 0 rfl) ?_
        refine lv_iand hx hb dX6_readClerk_46 ?_
        refine lv_if_eq (tgt := 52) hx hb dX6_readClerk_47 (by decide) (fun c47 => ?_) (fun c47 => ?_)
        · have h := zt c47 h
          refine lv_aload_n hx hb dX6_readClerk_52 rfl (lv_at hl 2 rfl) ?_
          refine va_get (D := G.1) (ci := 6) (v := .int y35_v_number) (C := RX6) (T := TX6) (N := 5) hx hb hts in_X6_readClerk_X6 hown hK.1 hP 0 rfl rfl 4 (by decide) (hts (.fieldLink RX6 25 "NineHands$Text" "number" "I") (by decide +kernel)) (fun _ h9 => h9) rfl dX6_readClerk_53 ?_
          refine lv_istore (lv' := [(4, .int y35_v_number), (3, .int y19_v_number), (2, .int y3_v_number), (0, .ref a), (1, .ref a_p0)]) hx hb dX6_readClerk_56 hl (by decide) rfl (fun ls hl => ?_)
          refine lv_aload_n hx hb dX6_readClerk_58 rfl (lv_at hl 3 rfl) ?_
          refine lv_bipush (v := (10 : Int32)) hx hb dX6_readClerk_59 (by decide) ?_
          obtain ⟨y61, y61_v_next, y61_v_start, y61_v_number, hc61, h⟩ := zb4_e h
          refine zcV (As := [.int (10 : Int32)]) (rest := []) (ws' := (w_X6_readClerk G a a_bytes a_p0 a_p0_clerks ca_p0_clk v_length y61_v_next y61_v_start y61_v_number f_bytes v_p0_count v_p0_letterTold v_p0_firstTone v_p0_firstMarks k_p0_lean k_p0_sets k_p0_drops k_p0_keeps)) (st1 := [.int y61]) ⟨hx, hb, hml, hown, hts⟩ (c_X6_takeNumber l G fu a a_bytes v_length y35_v_next y35_v_start y35_v_number f_bytes (10 : Int32) y61 y61_v_next y61_v_start y61_v_number hc61) (cwV 1 hts gX6_readClerk_X6_takeNumber rfl rfl rfl (by decide +kernel) ⟨Nat.le_of_ble_eq_true rfl, Nat.le_of_ble_eq_true rfl⟩) hK hE hP hD hS hA [0, 1] rfl rfl 0 6 rfl rfl rfl rfl rfl rfl hl.1 rfl (Nat.le_of_ble_eq_true rfl) dX6_readClerk_61 (Nat.zero_le _) (Nat.zero_le _) rfl (fun H locs hP hD hS => ?_)
          refine lv_if_ne (tgt := 69) hx hb dX6_readClerk_64 (by decide) (fun c64 => ?_) (fun c64 => ?_)
          · have h := zf c64 h
            refine lv_aload_n hx hb dX6_readClerk_69 rfl (lv_at hl 4 rfl) ?_
            refine lv_iload_n hx hb dX6_readClerk_70 rfl (lv_at hl 2 rfl) ?_
            refine lv_iload_n hx hb dX6_readClerk_71 rfl (lv_at hl 1 rfl) ?_
            refine lv_iload hx hb dX6_readClerk_72 (lv_at hl 0 rfl) ?_
            refine lv_aload_n hx hb dX6_readClerk_74 rfl (lv_at hl 3 rfl) ?_
            refine va_get (D := G.1) (ci := 6) (v := .int y61_v_number) (C := RX6) (T := TX6) (N := 5) hx hb hts in_X6_readClerk_X6 hown hK.1 hP 0 rfl rfl 4 (by decide) (hts (.fieldLink RX6 25 "NineHands$Text" "number" "I") (by decide +kernel)) (fun _ h9 => h9) rfl dX6_readClerk_75 ?_
            obtain ⟨y78_v_count, y78_k_lean, y78_k_sets, y78_k_drops, y78_k_keeps, hc78, h⟩ := zb5_e h
            refine zcV (As := [.int y3_v_number, .int y19_v_number, .int y35_v_number, .int y61_v_number]) (rest := []) (ws' := (w_X6_readClerk G a a_bytes a_p0 a_p0_clerks ca_p0_clk v_length y61_v_next y61_v_start y61_v_number f_bytes y78_v_count v_p0_letterTold v_p0_firstTone v_p0_firstMarks y78_k_lean y78_k_sets y78_k_drops y78_k_keeps)) (st1 := []) ⟨hx, hb, hml, hown, hts⟩ (c_X3_add l G a_p0 a_p0_clerks ca_p0_clk v_p0_count v_p0_letterTold v_p0_firstTone v_p0_firstMarks k_p0_lean k_p0_sets k_p0_drops k_p0_keeps y3_v_number y19_v_number y35_v_number y61_v_number y78_v_count y78_k_lean y78_k_sets y78_k_drops y78_k_keeps hc78) (cwV 4 hts gX6_readClerk_X3_add rfl rfl rfl (by decide +kernel) ⟨Nat.le_of_ble_eq_true rfl, Nat.le_of_ble_eq_true rfl⟩) hK hE hP hD hS hA [2, 3, 4, 5, 6, 7, 8, 9] rfl rfl 0 3 rfl rfl rfl rfl rfl rfl hl.1 rfl (Nat.le_of_ble_eq_true rfl) dX6_readClerk_78 (Nat.zero_le _) (Nat.zero_le _) rfl (fun H locs hP hD hS => ?_)
            refine lv_aload_n hx hb dX6_readClerk_81 rfl (lv_at hl 3 rfl) ?_
            obtain ⟨y82, y82_v_next, y82_v_start, hc82, h⟩ := zb3_e h
            refine zcV (As := []) (rest := []) (ws' := (w_X6_readClerk G a a_bytes a_p0 a_p0_clerks ca_p0_clk v_length y82_v_next y82_v_start y61_v_number f_bytes y78_v_count v_p0_letterTold v_p0_firstTone v_p0_firstMarks y78_k_lean y78_k_sets y78_k_drops y78_k_keeps)) (st1 := [.int y82]) ⟨hx, hb, hml, hown, hts⟩ (c_X6_take l G fu a a_bytes v_length y61_v_next y61_v_start y61_v_number f_bytes y82 y82_v_next y82_v_start hc82) (cwV 0 hts gX6_readClerk_X6_take rfl rfl rfl (by decide +kernel) ⟨Nat.le_of_ble_eq_true rfl, Nat.le_of_ble_eq_true rfl⟩) hK hE hP hD hS hA [0, 1] rfl rfl 0 6 rfl rfl rfl rfl rfl rfl hl.1 rfl (Nat.le_of_ble_eq_true rfl) dX6_readClerk_82 (Nat.zero_le _) (Nat.zero_le _) rfl (fun H locs hP hD hS => ?_)
            refine lv_iconst (v := (3 : Int32)) hx hb dX6_readClerk_85 (by decide) ?_
            refine lv_icmp_ne (tgt := 93) hx hb dX6_readClerk_86 (by decide) (fun c86 => ?_) (fun c86 => ?_)
            · have h := zf c86 h
              refine lv_iconst (v := (0 : Int32)) hx hb dX6_readClerk_93 (by decide) ?_
              simp only [Option.some.injEq, Prod.mk.injEq] at h
              obtain ⟨rfl, rfl, rfl, rfl, rfl, rfl, rfl, rfl, rfl⟩ := h
              exact W.zret (ty := .boolean) hx hb hr rfl (fun t9 ht9 _ => zend hP hD hS ht9) hS.2.2 dX6_readClerk_94
            · have h := zt c86 h
              refine lv_iconst (v := (1 : Int32)) hx hb dX6_readClerk_89 (by decide) ?_
              refine lv_goto (tgt := 94) hx hb dX6_readClerk_90 (by decide) ?_
              simp only [Option.some.injEq, Prod.mk.injEq] at h
              obtain ⟨rfl, rfl, rfl, rfl, rfl, rfl, rfl, rfl, rfl⟩ := h
              exact W.zret (ty := .boolean) hx hb hr rfl (fun t9 ht9 _ => zend hP hD hS ht9) hS.2.2 dX6_readClerk_94
          · have h := zt c64 h
            refine lv_iconst (v := (0 : Int32)) hx hb dX6_readClerk_67 (by decide) ?_
            simp only [Option.some.injEq, Prod.mk.injEq] at h
            obtain ⟨rfl, rfl, rfl, rfl, rfl, rfl, rfl, rfl, rfl⟩ := h
            exact W.zret (ty := .boolean) hx hb hr rfl (fun t9 ht9 _ => zend hP hD hS ht9) hS.2.2 dX6_readClerk_68
        · have h := zf c47 h
          refine lv_iconst (v := (0 : Int32)) hx hb dX6_readClerk_50 (by decide) ?_
          simp only [Option.some.injEq, Prod.mk.injEq] at h
          obtain ⟨rfl, rfl, rfl, rfl, rfl, rfl, rfl, rfl, rfl⟩ := h
          exact W.zret (ty := .boolean) hx hb hr rfl (fun t9 ht9 _ => zend hP hD hS ht9) hS.2.2 dX6_readClerk_51
    · have h := zt c22 h
      refine lv_iconst (v := (0 : Int32)) hx hb dX6_readClerk_25 (by decide) ?_
      simp only [Option.some.injEq, Prod.mk.injEq] at h
      obtain ⟨rfl, rfl, rfl, rfl, rfl, rfl, rfl, rfl, rfl⟩ := h
      exact W.zret (ty := .boolean) hx hb hr rfl (fun t9 ht9 _ => zend hP hD hS ht9) hS.2.2 dX6_readClerk_26
  · have h := zt c6 h
    refine lv_iconst (v := (0 : Int32)) hx hb dX6_readClerk_9 (by decide) ?_
    simp only [Option.some.injEq, Prod.mk.injEq] at h
    obtain ⟨rfl, rfl, rfl, rfl, rfl, rfl, rfl, rfl, rfl⟩ := h
    exact W.zret (ty := .boolean) hx hb hr rfl (fun t9 ht9 _ => zend hP hD hS ht9) hS.2.2 dX6_readClerk_10
abbrev w_X6_readFirstLine (G : zG) (a : Nat) (a_bytes : Nat) (a_p0 : Nat) (a_p0_clerks : Nat) (v_length : Int32) (v_next : Int32) (v_start : Int32) (v_number : Int32) (f_bytes : (Nat → Int32)) (v_p0_count : Int32) (v_p0_letterTold : Int32) (v_p0_firstTone : Int32) (v_p0_firstMarks : Int32) : va_W := [(a, .inr (6, [.ref a_bytes, .int v_length, .int v_next, .int v_start, .int v_number])), (a_bytes, .inl (zCB G, 200, .inl f_bytes)), (a_p0, .inr (3, [.ref a_p0_clerks, .int v_p0_count, .int v_p0_letterTold, .int v_p0_firstTone, .int v_p0_firstMarks]))]
theorem in_X6_readFirstLine_X3 : ∀ w ∈ wsX30, w ∈ wsX6_readFirstLine := by decide +kernel
theorem in_X6_readFirstLine_X6 : ∀ w ∈ wsX60, w ∈ wsX6_readFirstLine := by decide +kernel
set_option maxHeartbeats 4000000 in
set_option maxRecDepth 100000 in
theorem c_X6_readFirstLine (l : Launch) (G : zG) (fu : Nat) (a : Nat) (a_bytes : Nat) (a_p0 : Nat) (a_p0_clerks : Nat) (v_length : Int32) (v_next : Int32) (v_start : Int32) (v_number : Int32) (f_bytes : (Nat → Int32)) (v_p0_count : Int32) (v_p0_letterTold : Int32) (v_p0_firstTone : Int32) (v_p0_firstMarks : Int32) (rv : Int32) (ov_next : Int32) (ov_start : Int32) (ov_number : Int32) (ov_p0_letterTold : Int32) (ov_p0_firstTone : Int32) (ov_p0_firstMarks : Int32) (h : fX6_readFirstLine fu v_length v_next v_start v_number f_bytes v_p0_letterTold v_p0_firstTone v_p0_firstMarks = some (rv, ov_next, ov_start, ov_number, ov_p0_letterTold, ov_p0_firstTone, ov_p0_firstMarks)) : zC l yX6_readFirstLine wsX6_readFirstLine 3 63 G [.ref a, .ref a_p0] (w_X6_readFirstLine G a a_bytes a_p0 a_p0_clerks v_length v_next v_start v_number f_bytes v_p0_count v_p0_letterTold v_p0_firstTone v_p0_firstMarks) (some (.int rv)) (w_X6_readFirstLine G a a_bytes a_p0 a_p0_clerks v_length ov_next ov_start ov_number f_bytes v_p0_count ov_p0_letterTold ov_p0_firstTone ov_p0_firstMarks) := by
  refine fun sz => Met.ofW (cc := cX6_readFirstLine) (maxL := 2) (ret := (some .boolean)) (by decide) rfl ?_
  intro p e s m args below meth c s₁ B hml hv
  obtain ⟨rfl, hsz, hP, hK, hD0, hE⟩ := hv
  have hx := B.exec
  have hb := B.bytes
  have hr := B.returns
  have hts := atoms_spec (ws := wsX6_readFirstLine) B.pre
  have hown : s.vm.findClass RX6 = some m.cls := findClass_of_methodNamed B.named
  have hlocks := B.notSynchronized
  subst hsz
  have hD := hD0.self (sz := s.heap.size)
  generalize hAe : va_A (w_X6_readFirstLine G a a_bytes a_p0 a_p0_clerks v_length v_next v_start v_number f_bytes v_p0_count v_p0_letterTold v_p0_firstTone v_p0_firstMarks) s.heap.size = A at hD hE ⊢
  have hA : ∀ q : Nat, s.heap.size ≤ q → A q := fun q h => by rw [← hAe]; exact Or.inr h
  have hS : va_S A s.heap s.heap [] := va_S.rf
  have hl := lv_entry ([.ref a, .ref a_p0]) (n := 2) (Nat.le_of_ble_eq_true rfl)
  rw [lg_entry_eq]
  generalize (lg_sl ([.ref a, .ref a_p0]) ++ List.replicate (2 - (lg_sl ([.ref a, .ref a_p0])).length) Slot.unset).toArray = ls at hl ⊢
  have hl : lv_has ls 2 [(0, .ref a), (1, .ref a_p0)] := hl
  have hP : va_P G.1 vwCl (w_X6_readFirstLine G a a_bytes a_p0 a_p0_clerks v_length v_next v_start v_number f_bytes v_p0_count v_p0_letterTold v_p0_firstTone v_p0_firstMarks) s.heap := hP
  rw [fX6_readFirstLine] at h
  refine lv_aload_n hx hb dX6_readFirstLine_0 rfl (lv_at hl 0 rfl) ?_
  refine lv_bipush (v := (9 : Int32)) hx hb dX6_readFirstLine_1 (by decide) ?_
  obtain ⟨y3, y3_v_next, y3_v_start, y3_v_number, hc3, h⟩ := zb4_e h
  refine zcV (As := [.int (9 : Int32)]) (rest := []) (ws' := (w_X6_readFirstLine G a a_bytes a_p0 a_p0_clerks v_length y3_v_next y3_v_start y3_v_number f_bytes v_p0_count v_p0_letterTold v_p0_firstTone v_p0_firstMarks)) (st1 := [.int y3]) ⟨hx, hb, hml, hown, hts⟩ (c_X6_takeNumber l G fu a a_bytes v_length v_next v_start v_number f_bytes (9 : Int32) y3 y3_v_next y3_v_start y3_v_number hc3) (cwV 1 hts gX6_readFirstLine_X6_takeNumber rfl rfl rfl (by decide +kernel) ⟨Nat.le_of_ble_eq_true rfl, Nat.le_of_ble_eq_true rfl⟩) hK hE hP hD hS hA [0, 1] rfl rfl 0 6 rfl rfl rfl rfl rfl rfl hl.1 rfl (Nat.le_of_ble_eq_true rfl) dX6_readFirstLine_3 (Nat.zero_le _) (Nat.zero_le _) rfl (fun H locs hP hD hS => ?_)
  refine lv_if_ne (tgt := 11) hx hb dX6_readFirstLine_6 (by decide) (fun c6 => ?_) (fun c6 => ?_)
  · have h := zf c6 h
    refine lv_aload_n hx hb dX6_readFirstLine_11 rfl (lv_at hl 1 rfl) ?_
    refine lv_aload_n hx hb dX6_readFirstLine_12 rfl (lv_at hl 0 rfl) ?_
    refine va_get (D := G.1) (ci := 6) (v := .int y3_v_number) (C := RX6) (T := TX6) (N := 5) hx hb hts in_X6_readFirstLine_X6 hown hK.1 hP 0 rfl rfl 4 (by decide) (hts (.fieldLink RX6 25 "NineHands$Text" "number" "I") (by decide +kernel)) (fun _ h9 => h9) rfl dX6_readFirstLine_13 ?_
    refine zputN (D := G.1) (ci := 3) (C := RX3) (T := TX3) (N := 5) (ty := .int) (ws' := (w_X6_readFirstLine G a a_bytes a_p0 a_p0_clerks v_length y3_v_next y3_v_start y3_v_number f_bytes v_p0_count v_p0_letterTold y3_v_number v_p0_firstMarks)) hx hb hts in_X6_readFirstLine_X3 tyX3 tyX3_ok nmX3 hown hK.1 hP hD hS 2 rfl rfl 3 (by decide) (va_Nw.use rfl (hK.2.1.1 ("NineHands$Text", 71, "NineHands$Office", "firstTone", "I", "NineHands") (by decide +kernel))) (fun _ h9 => h9) rfl (by decide +kernel) rfl rfl (Nat.le_of_ble_eq_true rfl) rfl dX6_readFirstLine_16 (fun H locs hP hD hS => ?_)
    refine lv_aload_n hx hb dX6_readFirstLine_19 rfl (lv_at hl 0 rfl) ?_
    refine lv_bipush (v := (7 : Int32)) hx hb dX6_readFirstLine_20 (by decide) ?_
    obtain ⟨y22, y22_v_next, y22_v_start, y22_v_number, hc22, h⟩ := zb4_e h
    refine zcV (As := [.int (7 : Int32)]) (rest := []) (ws' := (w_X6_readFirstLine G a a_bytes a_p0 a_p0_clerks v_length y22_v_next y22_v_start y22_v_number f_bytes v_p0_count v_p0_letterTold y3_v_number v_p0_firstMarks)) (st1 := [.int y22]) ⟨hx, hb, hml, hown, hts⟩ (c_X6_takeNumber l G fu a a_bytes v_length y3_v_next y3_v_start y3_v_number f_bytes (7 : Int32) y22 y22_v_next y22_v_start y22_v_number hc22) (cwV 1 hts gX6_readFirstLine_X6_takeNumber rfl rfl rfl (by decide +kernel) ⟨Nat.le_of_ble_eq_true rfl, Nat.le_of_ble_eq_true rfl⟩) hK hE hP hD hS hA [0, 1] rfl rfl 0 6 rfl rfl rfl rfl rfl rfl hl.1 rfl (Nat.le_of_ble_eq_true rfl) dX6_readFirstLine_22 (Nat.zero_le _) (Nat.zero_le _) rfl (fun H locs hP hD hS => ?_)
    refine lv_if_ne (tgt := 30) hx hb dX6_readFirstLine_25 (by decide) (fun c25 => ?_) (fun c25 => ?_)
    · have h := zf c25 h
      refine lv_aload_n hx hb dX6_readFirstLine_30 rfl (lv_at hl 1 rfl) ?_
      refine lv_aload_n hx hb dX6_readFirstLine_31 rfl (lv_at hl 0 rfl) ?_
      refine va_get (D := G.1) (ci := 6) (v := .int y22_v_number) (C := RX6) (T := TX6) (N := 5) hx hb hts in_X6_readFirstLine_X6 hown hK.1 hP 0 rfl rfl 4 (by decide) (hts (.fieldLink RX6 25 "NineHands$Text" "number" "I") (by decide +kernel)) (fun _ h9 => h9) rfl dX6_readFirstLine_32 ?_
      refine zputN (D := G.1) (ci := 3) (C := RX3) (T := TX3) (N := 5) (ty := .int) (ws' := (w_X6_readFirstLine G a a_bytes a_p0 a_p0_clerks v_length y22_v_next y22_v_start y22_v_number f_bytes v_p0_count v_p0_letterTold y3_v_number y22_v_number)) hx hb hts in_X6_readFirstLine_X3 tyX3 tyX3_ok nmX3 hown hK.1 hP hD hS 2 rfl rfl 4 (by decide) (va_Nw.use rfl (hK.2.1.1 ("NineHands$Text", 74, "NineHands$Office", "firstMarks", "I", "NineHands") (by decide +kernel))) (fun _ h9 => h9) rfl (by decide +kernel) rfl rfl (Nat.le_of_ble_eq_true rfl) rfl dX6_readFirstLine_35 (fun H locs hP hD hS => ?_)
      refine lv_aload_n hx hb dX6_readFirstLine_38 rfl (lv_at hl 1 rfl) ?_
      refine lv_iconst (v := (1 : Int32)) hx hb dX6_readFirstLine_39 (by decide) ?_
      refine zputN (D := G.1) (ci := 3) (C := RX3) (T := TX3) (N := 5) (ty := .boolean) (ws' := (w_X6_readFirstLine G a a_bytes a_p0 a_p0_clerks v_length y22_v_next y22_v_start y22_v_number f_bytes v_p0_count (1 : Int32) y3_v_number y22_v_number)) hx hb hts in_X6_readFirstLine_X3 tyX3 tyX3_ok nmX3 hown hK.1 hP hD hS 2 rfl rfl 2 (by decide) (va_Nw.use rfl (hK.2.1.1 ("NineHands$Text", 56, "NineHands$Office", "letterTold", "Z", "NineHands") (by decide +kernel))) (fun _ h9 => h9) rfl (by decide +kernel) rfl rfl (Nat.le_of_ble_eq_true rfl) rfl dX6_readFirstLine_40 (fun H locs hP hD hS => ?_)
      refine lv_aload_n hx hb dX6_readFirstLine_43 rfl (lv_at hl 0 rfl) ?_
      obtain ⟨y44, y44_v_next, y44_v_start, hc44, h⟩ := zb3_e h
      refine zcV (As := []) (rest := []) (ws' := (w_X6_readFirstLine G a a_bytes a_p0 a_p0_clerks v_length y44_v_next y44_v_start y22_v_number f_bytes v_p0_count (1 : Int32) y3_v_number y22_v_number)) (st1 := [.int y44]) ⟨hx, hb, hml, hown, hts⟩ (c_X6_take l G fu a a_bytes v_length y22_v_next y22_v_start y22_v_number f_bytes y44 y44_v_next y44_v_start hc44) (cwV 0 hts gX6_readFirstLine_X6_take rfl rfl rfl (by decide +kernel) ⟨Nat.le_of_ble_eq_true rfl, Nat.le_of_ble_eq_true rfl⟩) hK hE hP hD hS hA [0, 1] rfl rfl 0 6 rfl rfl rfl rfl rfl rfl hl.1 rfl (Nat.le_of_ble_eq_true rfl) dX6_readFirstLine_44 (Nat.zero_le _) (Nat.zero_le _) rfl (fun H locs hP hD hS => ?_)
      refine lv_iconst (v := (3 : Int32)) hx hb dX6_readFirstLine_47 (by decide) ?_
      refine lv_icmp_ne (tgt := 55) hx hb dX6_readFirstLine_48 (by decide) (fun c48 => ?_) (fun c48 => ?_)
      · have h := zf c48 h
        refine lv_iconst (v := (0 : Int32)) hx hb dX6_readFirstLine_55 (by decide) ?_
        cases h
        exact W.zret (ty := .boolean) hx hb hr rfl (fun t9 ht9 _ => zend hP hD hS ht9) hS.2.2 dX6_readFirstLine_56
      · have h := zt c48 h
        refine lv_iconst (v := (1 : Int32)) hx hb dX6_readFirstLine_51 (by decide) ?_
        refine lv_goto (tgt := 56) hx hb dX6_readFirstLine_52 (by decide) ?_
        cases h
        exact W.zret (ty := .boolean) hx hb hr rfl (fun t9 ht9 _ => zend hP hD hS ht9) hS.2.2 dX6_readFirstLine_56
    · have h := zt c25 h
      refine lv_iconst (v := (0 : Int32)) hx hb dX6_readFirstLine_28 (by decide) ?_
      cases h
      exact W.zret (ty := .boolean) hx hb hr rfl (fun t9 ht9 _ => zend hP hD hS ht9) hS.2.2 dX6_readFirstLine_29
  · have h := zt c6 h
    refine lv_iconst (v := (0 : Int32)) hx hb dX6_readFirstLine_9 (by decide) ?_
    cases h
    exact W.zret (ty := .boolean) hx hb hr rfl (fun t9 ht9 _ => zend hP hD hS ht9) hS.2.2 dX6_readFirstLine_10
abbrev w_X6_readItem (G : zG) (a : Nat) (a_bytes : Nat) (a_p0 : Nat) (a_p0_clerks : Nat) (ca_p0_clk : Nat → Nat) (v_length : Int32) (v_next : Int32) (v_start : Int32) (v_number : Int32) (f_bytes : (Nat → Int32)) (v_p0_count : Int32) (v_p0_letterTold : Int32) (v_p0_firstTone : Int32) (v_p0_firstMarks : Int32) (k_p0_lean : (Nat → Int32)) (k_p0_sets : (Nat → Int32)) (k_p0_drops : (Nat → Int32)) (k_p0_keeps : (Nat → Int32)) : va_W := [(a, .inr (6, [.ref a_bytes, .int v_length, .int v_next, .int v_start, .int v_number])), (a_bytes, .inl (zCB G, 200, .inl f_bytes)), (a_p0, .inr (3, [.ref a_p0_clerks, .int v_p0_count, .int v_p0_letterTold, .int v_p0_firstTone, .int v_p0_firstMarks])), (a_p0_clerks, .inl (zCC G, 6, .inr (.inr (.inr (.inr (fun k => some (ca_p0_clk k)))))))] ++ zclks ca_p0_clk k_p0_lean k_p0_sets k_p0_drops k_p0_keeps
theorem in_X6_readItem_X3 : ∀ w ∈ wsX30, w ∈ wsX6_readItem := by decide +kernel
set_option maxHeartbeats 4000000 in
set_option maxRecDepth 100000 in
theorem c_X6_readItem (l : Launch) (G : zG) (fu : Nat) (a : Nat) (a_bytes : Nat) (a_p0 : Nat) (a_p0_clerks : Nat) (ca_p0_clk : Nat → Nat) (v_length : Int32) (v_next : Int32) (v_start : Int32) (v_number : Int32) (f_bytes : (Nat → Int32)) (v_p0_count : Int32) (v_p0_letterTold : Int32) (v_p0_firstTone : Int32) (v_p0_firstMarks : Int32) (k_p0_lean : (Nat → Int32)) (k_p0_sets : (Nat → Int32)) (k_p0_drops : (Nat → Int32)) (k_p0_keeps : (Nat → Int32)) (rv : Int32) (ov_next : Int32) (ov_start : Int32) (ov_number : Int32) (ov_p0_count : Int32) (ov_p0_letterTold : Int32) (ov_p0_firstTone : Int32) (ov_p0_firstMarks : Int32) (ok_p0_lean : (Nat → Int32)) (ok_p0_sets : (Nat → Int32)) (ok_p0_drops : (Nat → Int32)) (ok_p0_keeps : (Nat → Int32)) (h : fX6_readItem fu v_length v_next v_start v_number f_bytes v_p0_count v_p0_letterTold v_p0_firstTone v_p0_firstMarks k_p0_lean k_p0_sets k_p0_drops k_p0_keeps = some (rv, ov_next, ov_start, ov_number, ov_p0_count, ov_p0_letterTold, ov_p0_firstTone, ov_p0_firstMarks, ok_p0_lean, ok_p0_sets, ok_p0_drops, ok_p0_keeps)) : zC l yX6_readItem wsX6_readItem 5 107 G [.ref a, .ref a_p0] (w_X6_readItem G a a_bytes a_p0 a_p0_clerks ca_p0_clk v_length v_next v_start v_number f_bytes v_p0_count v_p0_letterTold v_p0_firstTone v_p0_firstMarks k_p0_lean k_p0_sets k_p0_drops k_p0_keeps) (some (.int rv)) (w_X6_readItem G a a_bytes a_p0 a_p0_clerks ca_p0_clk v_length ov_next ov_start ov_number f_bytes ov_p0_count ov_p0_letterTold ov_p0_firstTone ov_p0_firstMarks ok_p0_lean ok_p0_sets ok_p0_drops ok_p0_keeps) := by
  refine fun sz => Met.ofW (cc := cX6_readItem) (maxL := 2) (ret := (some .boolean)) (by decide) rfl ?_
  intro p e s m args below meth c s₁ B hml hv
  obtain ⟨rfl, hsz, hP, hK, hD0, hE⟩ := hv
  have hx := B.exec
  have hb := B.bytes
  have hr := B.returns
  have hts := atoms_spec (ws := wsX6_readItem) B.pre
  have hown : s.vm.findClass RX6 = some m.cls := findClass_of_methodNamed B.named
  have hlocks := B.notSynchronized
  subst hsz
  have hD := hD0.self (sz := s.heap.size)
  generalize hAe : va_A (w_X6_readItem G a a_bytes a_p0 a_p0_clerks ca_p0_clk v_length v_next v_start v_number f_bytes v_p0_count v_p0_letterTold v_p0_firstTone v_p0_firstMarks k_p0_lean k_p0_sets k_p0_drops k_p0_keeps) s.heap.size = A at hD hE ⊢
  have hA : ∀ q : Nat, s.heap.size ≤ q → A q := fun q h => by rw [← hAe]; exact Or.inr h
  have hS : va_S A s.heap s.heap [] := va_S.rf
  have hl := lv_entry ([.ref a, .ref a_p0]) (n := 2) (Nat.le_of_ble_eq_true rfl)
  rw [lg_entry_eq]
  generalize (lg_sl ([.ref a, .ref a_p0]) ++ List.replicate (2 - (lg_sl ([.ref a, .ref a_p0])).length) Slot.unset).toArray = ls at hl ⊢
  have hl : lv_has ls 2 [(0, .ref a), (1, .ref a_p0)] := hl
  have hP : va_P G.1 vwCl (w_X6_readItem G a a_bytes a_p0 a_p0_clerks ca_p0_clk v_length v_next v_start v_number f_bytes v_p0_count v_p0_letterTold v_p0_firstTone v_p0_firstMarks k_p0_lean k_p0_sets k_p0_drops k_p0_keeps) s.heap := hP
  rw [fX6_readItem] at h
  refine lv_aload_n hx hb dX6_readItem_0 rfl (lv_at hl 0 rfl) ?_
  refine va_ldcS hx hb hown hK.2.2.1 dX6_readItem_1 ?_
  obtain ⟨y3, hc3, h⟩ := zb1_e h
  refine zcV (As := [.ref (G.2.2.1 0)]) (rest := []) (ws' := (w_X6_readItem G a a_bytes a_p0 a_p0_clerks ca_p0_clk v_length v_next v_start v_number f_bytes v_p0_count v_p0_letterTold v_p0_firstTone v_p0_firstMarks k_p0_lean k_p0_sets k_p0_drops k_p0_keeps)) (st1 := [.int y3]) ⟨hx, hb, hml, hown, hts⟩ (c_X6_tookWord l G fu 0 (by decide) a a_bytes v_length v_next v_start v_number f_bytes y3 hc3) (cwV 1 hts gX6_readItem_X6_tookWord rfl rfl rfl (by decide +kernel) ⟨Nat.le_of_ble_eq_true rfl, Nat.le_of_ble_eq_true rfl⟩) hK hE hP hD hS hA [0, 1] rfl rfl 0 6 rfl rfl rfl rfl rfl rfl hl.1 rfl (Nat.le_of_ble_eq_true rfl) dX6_readItem_3 (Nat.zero_le _) (Nat.zero_le _) rfl (fun H locs hP hD hS => ?_)
  refine lv_if_eq (tgt := 30) hx hb dX6_readItem_6 (by decide) (fun c6 => ?_) (fun c6 => ?_)
  · have h := zt c6 h
    refine lv_aload_n hx hb dX6_readItem_30 rfl (lv_at hl 0 rfl) ?_
    refine va_ldcS hx hb hown hK.2.2.2.1 dX6_readItem_31 ?_
    obtain ⟨y33, hc33, h⟩ := zb1_e h
    refine zcV (As := [.ref (G.2.2.1 1)]) (rest := []) (ws' := (w_X6_readItem G a a_bytes a_p0 a_p0_clerks ca_p0_clk v_length v_next v_start v_number f_bytes v_p0_count v_p0_letterTold v_p0_firstTone v_p0_firstMarks k_p0_lean k_p0_sets k_p0_drops k_p0_keeps)) (st1 := [.int y33]) ⟨hx, hb, hml, hown, hts⟩ (c_X6_tookWord l G fu 1 (by decide) a a_bytes v_length v_next v_start v_number f_bytes y33 hc33) (cwV 1 hts gX6_readItem_X6_tookWord rfl rfl rfl (by decide +kernel) ⟨Nat.le_of_ble_eq_true rfl, Nat.le_of_ble_eq_true rfl⟩) hK hE hP hD hS hA [0, 1] rfl rfl 0 6 rfl rfl rfl rfl rfl rfl hl.1 rfl (Nat.le_of_ble_eq_true rfl) dX6_readItem_33 (Nat.zero_le _) (Nat.zero_le _) rfl (fun H locs hP hD hS => ?_)
    refine lv_if_eq (tgt := 58) hx hb dX6_readItem_36 (by decide) (fun c36 => ?_) (fun c36 => ?_)
    · have h := zt c36 h
      refine lv_iconst (v := (0 : Int32)) hx hb dX6_readItem_58 (by decide) ?_
      simp only [Option.some.injEq, Prod.mk.injEq] at h
      obtain ⟨rfl, rfl, rfl, rfl, rfl, rfl, rfl, rfl, rfl, rfl, rfl, rfl⟩ := h
      exact W.zret (ty := .boolean) hx hb hr rfl (fun t9 ht9 _ => zend hP hD hS ht9) hS.2.2 dX6_readItem_59
    · have h := zf c36 h
      refine lv_aload_n hx hb dX6_readItem_39 rfl (lv_at hl 1 rfl) ?_
      refine va_getN (D := G.1) (ci := 3) (v := .int v_p0_letterTold) (C := RX3) (T := TX3) (N := 5) hx hb hts in_X6_readItem_X3 hown hK.1 hP 2 rfl rfl 2 (by decide) (va_Nw.use rfl (hK.2.1.1 ("NineHands$Text", 56, "NineHands$Office", "letterTold", "Z", "NineHands") (by decide +kernel))) (fun _ h9 => h9) rfl dX6_readItem_40 ?_
      refine lv_if_ne (tgt := 58) hx hb dX6_readItem_43 (by decide) (fun c43 => ?_) (fun c43 => ?_)
      · have h := zf c43 h
        refine lv_iconst (v := (0 : Int32)) hx hb dX6_readItem_58 (by decide) ?_
        simp only [Option.some.injEq, Prod.mk.injEq] at h
        obtain ⟨rfl, rfl, rfl, rfl, rfl, rfl, rfl, rfl, rfl, rfl, rfl, rfl⟩ := h
        exact W.zret (ty := .boolean) hx hb hr rfl (fun t9 ht9 _ => zend hP hD hS ht9) hS.2.2 dX6_readItem_59
      · have h := zt c43 h
        refine lv_aload_n hx hb dX6_readItem_46 rfl (lv_at hl 0 rfl) ?_
        refine lv_aload_n hx hb dX6_readItem_47 rfl (lv_at hl 1 rfl) ?_
        obtain ⟨y48, y48_v_next, y48_v_start, y48_v_number, y48_v_p0_letterTold, y48_v_p0_firstTone, y48_v_p0_firstMarks, hc48, h⟩ := zb7_e h
        refine zcV (As := [.ref a_p0]) (rest := []) (ws' := (w_X6_readItem G a a_bytes a_p0 a_p0_clerks ca_p0_clk v_length y48_v_next y48_v_start y48_v_number f_bytes v_p0_count y48_v_p0_letterTold y48_v_p0_firstTone y48_v_p0_firstMarks k_p0_lean k_p0_sets k_p0_drops k_p0_keeps)) (st1 := [.int y48]) ⟨hx, hb, hml, hown, hts⟩ (c_X6_readFirstLine l G fu a a_bytes a_p0 a_p0_clerks v_length v_next v_start v_number f_bytes v_p0_count v_p0_letterTold v_p0_firstTone v_p0_firstMarks y48 y48_v_next y48_v_start y48_v_number y48_v_p0_letterTold y48_v_p0_firstTone y48_v_p0_firstMarks hc48) (cwV 1 hts gX6_readItem_X6_readFirstLine rfl rfl rfl (by decide +kernel) ⟨Nat.le_of_ble_eq_true rfl, Nat.le_of_ble_eq_true rfl⟩) hK hE hP hD hS hA [0, 1, 2] rfl rfl 0 6 rfl rfl rfl rfl rfl rfl hl.1 rfl (Nat.le_of_ble_eq_true rfl) dX6_readItem_48 (Nat.zero_le _) (Nat.zero_le _) rfl (fun H locs hP hD hS => ?_)
        refine lv_if_eq (tgt := 58) hx hb dX6_readItem_51 (by decide) (fun c51 => ?_) (fun c51 => ?_)
        · have h := zt c51 h
          refine lv_iconst (v := (0 : Int32)) hx hb dX6_readItem_58 (by decide) ?_
          simp only [Option.some.injEq, Prod.mk.injEq] at h
          obtain ⟨rfl, rfl, rfl, rfl, rfl, rfl, rfl, rfl, rfl, rfl, rfl, rfl⟩ := h
          exact W.zret (ty := .boolean) hx hb hr rfl (fun t9 ht9 _ => zend hP hD hS ht9) hS.2.2 dX6_readItem_59
        · have h := zf c51 h
          refine lv_iconst (v := (1 : Int32)) hx hb dX6_readItem_54 (by decide) ?_
          refine lv_goto (tgt := 59) hx hb dX6_readItem_55 (by decide) ?_
          simp only [Option.some.injEq, Prod.mk.injEq] at h
          obtain ⟨rfl, rfl, rfl, rfl, rfl, rfl, rfl, rfl, rfl, rfl, rfl, rfl⟩ := h
          exact W.zret (ty := .boolean) hx hb hr rfl (fun t9 ht9 _ => zend hP hD hS ht9) hS.2.2 dX6_readItem_59
  · have h := zf c6 h
    refine lv_aload_n hx hb dX6_readItem_9 rfl (lv_at hl 1 rfl) ?_
    obtain ⟨y10, hc10, h⟩ := zb1_e h
    refine zcV (As := []) (rest := []) (ws' := (w_X6_readItem G a a_bytes a_p0 a_p0_clerks ca_p0_clk v_length v_next v_start v_number f_bytes v_p0_count v_p0_letterTold v_p0_firstTone v_p0_firstMarks k_p0_lean k_p0_sets k_p0_drops k_p0_keeps)) (st1 := [.int y10]) ⟨hx, hb, hml, hown, hts⟩ (c_X3_isFull l G a_p0 a_p0_clerks v_p0_count v_p0_letterTold v_p0_firstTone v_p0_firstMarks y10 hc10) (cwV 0 hts gX6_readItem_X3_isFull rfl rfl rfl (by decide +kernel) ⟨Nat.le_of_ble_eq_true rfl, Nat.le_of_ble_eq_true rfl⟩) hK hE hP hD hS hA [2] rfl rfl 0 3 rfl rfl rfl rfl rfl rfl hl.1 rfl (Nat.le_of_ble_eq_true rfl) dX6_readItem_10 (Nat.zero_le _) (Nat.zero_le _) rfl (fun H locs hP hD hS => ?_)
    refine lv_if_ne (tgt := 28) hx hb dX6_readItem_13 (by decide) (fun c13 => ?_) (fun c13 => ?_)
    · have h := zf c13 h
      refine lv_iconst (v := (0 : Int32)) hx hb dX6_readItem_28 (by decide) ?_
      simp only [Option.some.injEq, Prod.mk.injEq] at h
      obtain ⟨rfl, rfl, rfl, rfl, rfl, rfl, rfl, rfl, rfl, rfl, rfl, rfl⟩ := h
      exact W.zret (ty := .boolean) hx hb hr rfl (fun t9 ht9 _ => zend hP hD hS ht9) hS.2.2 dX6_readItem_29
    · have h := zt c13 h
      refine lv_aload_n hx hb dX6_readItem_16 rfl (lv_at hl 0 rfl) ?_
      refine lv_aload_n hx hb dX6_readItem_17 rfl (lv_at hl 1 rfl) ?_
      obtain ⟨y18, y18_v_next, y18_v_start, y18_v_number, y18_v_p0_count, y18_k_p0_lean, y18_k_p0_sets, y18_k_p0_drops, y18_k_p0_keeps, hc18, h⟩ := zb9_e h
      refine zcV (As := [.ref a_p0]) (rest := []) (ws' := (w_X6_readItem G a a_bytes a_p0 a_p0_clerks ca_p0_clk v_length y18_v_next y18_v_start y18_v_number f_bytes y18_v_p0_count v_p0_letterTold v_p0_firstTone v_p0_firstMarks y18_k_p0_lean y18_k_p0_sets y18_k_p0_drops y18_k_p0_keeps)) (st1 := [.int y18]) ⟨hx, hb, hml, hown, hts⟩ (c_X6_readClerk l G fu a a_bytes a_p0 a_p0_clerks ca_p0_clk v_length v_next v_start v_number f_bytes v_p0_count v_p0_letterTold v_p0_firstTone v_p0_firstMarks k_p0_lean k_p0_sets k_p0_drops k_p0_keeps y18 y18_v_next y18_v_start y18_v_number y18_v_p0_count y18_k_p0_lean y18_k_p0_sets y18_k_p0_drops y18_k_p0_keeps hc18) (cwV 1 hts gX6_readItem_X6_readClerk rfl rfl rfl (by decide +kernel) ⟨Nat.le_of_ble_eq_true rfl, Nat.le_of_ble_eq_true rfl⟩) hK hE hP hD hS hA [0, 1, 2, 3, 4, 5, 6, 7, 8, 9] rfl rfl 0 6 rfl rfl rfl rfl rfl rfl hl.1 rfl (Nat.le_of_ble_eq_true rfl) dX6_readItem_18 (Nat.zero_le _) (Nat.zero_le _) rfl (fun H locs hP hD hS => ?_)
      refine lv_if_eq (tgt := 28) hx hb dX6_readItem_21 (by decide) (fun c21 => ?_) (fun c21 => ?_)
      · have h := zt c21 h
        refine lv_iconst (v := (0 : Int32)) hx hb dX6_readItem_28 (by decide) ?_
        simp only [Option.some.injEq, Prod.mk.injEq] at h
        obtain ⟨rfl, rfl, rfl, rfl, rfl, rfl, rfl, rfl, rfl, rfl, rfl, rfl⟩ := h
        exact W.zret (ty := .boolean) hx hb hr rfl (fun t9 ht9 _ => zend hP hD hS ht9) hS.2.2 dX6_readItem_29
      · have h := zf c21 h
        refine lv_iconst (v := (1 : Int32)) hx hb dX6_readItem_24 (by decide) ?_
        refine lv_goto (tgt := 29) hx hb dX6_readItem_25 (by decide) ?_
        simp only [Option.some.injEq, Prod.mk.injEq] at h
        obtain ⟨rfl, rfl, rfl, rfl, rfl, rfl, rfl, rfl, rfl, rfl, rfl, rfl⟩ := h
        exact W.zret (ty := .boolean) hx hb hr rfl (fun t9 ht9 _ => zend hP hD hS ht9) hS.2.2 dX6_readItem_29
abbrev w_X6_readInto (G : zG) (a : Nat) (a_bytes : Nat) (a_p0 : Nat) (a_p0_clerks : Nat) (ca_p0_clk : Nat → Nat) (v_length : Int32) (v_next : Int32) (v_start : Int32) (v_number : Int32) (f_bytes : (Nat → Int32)) (v_p0_count : Int32) (v_p0_letterTold : Int32) (v_p0_firstTone : Int32) (v_p0_firstMarks : Int32) (k_p0_lean : (Nat → Int32)) (k_p0_sets : (Nat → Int32)) (k_p0_drops : (Nat → Int32)) (k_p0_keeps : (Nat → Int32)) : va_W := [(a, .inr (6, [.ref a_bytes, .int v_length, .int v_next, .int v_start, .int v_number])), (a_bytes, .inl (zCB G, 200, .inl f_bytes)), (a_p0, .inr (3, [.ref a_p0_clerks, .int v_p0_count, .int v_p0_letterTold, .int v_p0_firstTone, .int v_p0_firstMarks])), (a_p0_clerks, .inl (zCC G, 6, .inr (.inr (.inr (.inr (fun k => some (ca_p0_clk k)))))))] ++ zclks ca_p0_clk k_p0_lean k_p0_sets k_p0_drops k_p0_keeps
theorem in_X6_readInto_X6 : ∀ w ∈ wsX60, w ∈ wsX6_readInto := by decide +kernel
set_option maxHeartbeats 4000000 in
set_option maxRecDepth 100000 in
theorem c_X6_readInto (l : Launch) (G : zG) (fu : Nat) (a : Nat) (a_bytes : Nat) (a_p0 : Nat) (a_p0_clerks : Nat) (ca_p0_clk : Nat → Nat) (v_length : Int32) (v_next : Int32) (v_start : Int32) (v_number : Int32) (f_bytes : (Nat → Int32)) (v_p0_count : Int32) (v_p0_letterTold : Int32) (v_p0_firstTone : Int32) (v_p0_firstMarks : Int32) (k_p0_lean : (Nat → Int32)) (k_p0_sets : (Nat → Int32)) (k_p0_drops : (Nat → Int32)) (k_p0_keeps : (Nat → Int32)) (rv : Int32) (ov_next : Int32) (ov_start : Int32) (ov_number : Int32) (ov_p0_count : Int32) (ov_p0_letterTold : Int32) (ov_p0_firstTone : Int32) (ov_p0_firstMarks : Int32) (ok_p0_lean : (Nat → Int32)) (ok_p0_sets : (Nat → Int32)) (ok_p0_drops : (Nat → Int32)) (ok_p0_keeps : (Nat → Int32)) (h : fX6_readInto fu v_length v_next v_start v_number f_bytes v_p0_count v_p0_letterTold v_p0_firstTone v_p0_firstMarks k_p0_lean k_p0_sets k_p0_drops k_p0_keeps = some (rv, ov_next, ov_start, ov_number, ov_p0_count, ov_p0_letterTold, ov_p0_firstTone, ov_p0_firstMarks, ok_p0_lean, ok_p0_sets, ok_p0_drops, ok_p0_keeps)) : zC l yX6_readInto wsX6_readInto 6 128 G [.ref a, .ref a_p0] (w_X6_readInto G a a_bytes a_p0 a_p0_clerks ca_p0_clk v_length v_next v_start v_number f_bytes v_p0_count v_p0_letterTold v_p0_firstTone v_p0_firstMarks k_p0_lean k_p0_sets k_p0_drops k_p0_keeps) (some (.int rv)) (w_X6_readInto G a a_bytes a_p0 a_p0_clerks ca_p0_clk v_length ov_next ov_start ov_number f_bytes ov_p0_count ov_p0_letterTold ov_p0_firstTone ov_p0_firstMarks ok_p0_lean ok_p0_sets ok_p0_drops ok_p0_keeps) := by
  refine fun sz => Met.ofW (cc := cX6_readInto) (maxL := 4) (ret := (some .int)) (by decide) rfl ?_
  intro p e s m args below meth c s₁ B hml hv
  obtain ⟨rfl, hsz, hP, hK, hD0, hE⟩ := hv
  have hx := B.exec
  have hb := B.bytes
  have hr := B.returns
  have hts := atoms_spec (ws := wsX6_readInto) B.pre
  have hown : s.vm.findClass RX6 = some m.cls := findClass_of_methodNamed B.named
  have hlocks := B.notSynchronized
  subst hsz
  have hD := hD0.self (sz := s.heap.size)
  generalize hAe : va_A (w_X6_readInto G a a_bytes a_p0 a_p0_clerks ca_p0_clk v_length v_next v_start v_number f_bytes v_p0_count v_p0_letterTold v_p0_firstTone v_p0_firstMarks k_p0_lean k_p0_sets k_p0_drops k_p0_keeps) s.heap.size = A at hD hE ⊢
  have hA : ∀ q : Nat, s.heap.size ≤ q → A q := fun q h => by rw [← hAe]; exact Or.inr h
  have hS : va_S A s.heap s.heap [] := va_S.rf
  have hl := lv_entry ([.ref a, .ref a_p0]) (n := 4) (Nat.le_of_ble_eq_true rfl)
  rw [lg_entry_eq]
  generalize (lg_sl ([.ref a, .ref a_p0]) ++ List.replicate (4 - (lg_sl ([.ref a, .ref a_p0])).length) Slot.unset).toArray = ls at hl ⊢
  have hl : lv_has ls 4 [(0, .ref a), (1, .ref a_p0)] := hl
  have hP : va_P G.1 vwCl (w_X6_readInto G a a_bytes a_p0 a_p0_clerks ca_p0_clk v_length v_next v_start v_number f_bytes v_p0_count v_p0_letterTold v_p0_firstTone v_p0_firstMarks k_p0_lean k_p0_sets k_p0_drops k_p0_keeps) s.heap := hP
  rw [fX6_readInto] at h
  refine lv_aload_n hx hb dX6_readInto_0 rfl (lv_at hl 1 rfl) ?_
  obtain ⟨y1_v_count, y1_v_letterTold, y1_v_firstTone, y1_v_firstMarks, hc1, h⟩ := zb4_e h
  refine zcVN (As := []) (rest := []) (ws' := (w_X6_readInto G a a_bytes a_p0 a_p0_clerks ca_p0_clk v_length v_next v_start v_number f_bytes y1_v_count y1_v_letterTold y1_v_firstTone y1_v_firstMarks k_p0_lean k_p0_sets k_p0_drops k_p0_keeps)) (st1 := []) ⟨hx, hb, hml, hown, hts⟩ (c_X3_begin l G a_p0 a_p0_clerks v_p0_count v_p0_letterTold v_p0_firstTone v_p0_firstMarks y1_v_count y1_v_letterTold y1_v_firstTone y1_v_firstMarks hc1) ⟨va_cnB 0 hts gX6_readInto_X3_begin_n28 rfl rfl rfl (hK.2.1.2 ("NineHands$Text", 28, yX3_begin, "NineHands") (by decide +kernel)) (hts (.initialized RX3) (by decide +kernel)) (by decide +kernel) ⟨Nat.le_of_ble_eq_true rfl, Nat.le_of_ble_eq_true rfl⟩, (hts (.instanceMethod yX3_begin) (by decide +kernel)), (hts (.selects RX3 yX3_begin yX3_begin) (by decide +kernel))⟩ hK hE hP hD hS hA [2] rfl rfl 0 3 rfl rfl rfl rfl rfl rfl hl.1 rfl (Nat.le_of_ble_eq_true rfl) dX6_readInto_1 (Nat.zero_le _) (Nat.zero_le _) rfl (fun H locs hP hD hS => ?_)
  refine lv_aload_n hx hb dX6_readInto_4 rfl (lv_at hl 0 rfl) ?_
  refine lv_iconst (v := (0 : Int32)) hx hb dX6_readInto_5 (by decide) ?_
  refine zput1 (D := G.1) (ci := 6) (C := RX6) (T := TX6) (N := 5) (ty := .int) (ws' := (w_X6_readInto G a a_bytes a_p0 a_p0_clerks ca_p0_clk v_length (0 : Int32) v_start v_number f_bytes y1_v_count y1_v_letterTold y1_v_firstTone y1_v_firstMarks k_p0_lean k_p0_sets k_p0_drops k_p0_keeps)) hx hb hts in_X6_readInto_X6 tyX6 tyX6_ok nmX6 hown hK.1 hP hD hS 0 rfl rfl 2 (by decide) (hts (.fieldLink RX6 19 "NineHands$Text" "next" "I") (by decide +kernel)) (fun _ h9 => h9) rfl (by decide +kernel) rfl rfl (Nat.le_of_ble_eq_true rfl) rfl dX6_readInto_6 (fun H locs hP hD hS => ?_)
  refine lv_iconst (v := (0 : Int32)) hx hb dX6_readInto_9 (by decide) ?_
  refine lv_istore_n (lv' := [(2, .int (0 : Int32)), (0, .ref a), (1, .ref a_p0)]) hx hb dX6_readInto_10 rfl hl (by decide) rfl (fun ls hl => ?_)
  refine lv_aload_n hx hb dX6_readInto_11 rfl (lv_at hl 1 rfl) ?_
  obtain ⟨y12, y12_v_next, y12_v_start, hc12, h⟩ := zb3_e h
  refine zcV (As := []) (rest := []) (ws' := (w_X6_readInto G a a_bytes a_p0 a_p0_clerks ca_p0_clk v_length y12_v_next y12_v_start v_number f_bytes y1_v_count y1_v_letterTold y1_v_firstTone y1_v_firstMarks k_p0_lean k_p0_sets k_p0_drops k_p0_keeps)) (st1 := [.int y12]) ⟨hx, hb, hml, hown, hts⟩ (c_X6_take l G fu a a_bytes v_length (0 : Int32) v_start v_number f_bytes y12 y12_v_next y12_v_start hc12) (cwV 0 hts gX6_readInto_X6_take rfl rfl rfl (by decide +kernel) ⟨Nat.le_of_ble_eq_true rfl, Nat.le_of_ble_eq_true rfl⟩) hK hE hP hD hS hA [0, 1] rfl rfl 0 6 rfl rfl rfl rfl rfl rfl hl.1 rfl (Nat.le_of_ble_eq_true rfl) dX6_readInto_12 (Nat.zero_le _) (Nat.zero_le _) rfl (fun H locs hP hD hS => ?_)
  refine lv_istore_n (lv' := [(3, .int y12), (2, .int (0 : Int32)), (0, .ref a), (1, .ref a_p0)]) hx hb dX6_readInto_15 rfl hl (by decide) rfl (fun ls hl => ?_)
  have loop_16 : ∀ (n : Nat) (K : Int32 → Int32 → Int32 → Int32 → Int32 → Int32 → Int32 → Int32 → (Nat → Int32) → (Nat → Int32) → (Nat → Int32) → (Nat → Int32) → Option (Int32 × Int32 × Int32 × Int32 × Int32 × Int32 × Int32 × Int32 × (Nat → Int32) × (Nat → Int32) × (Nat → Int32) × (Nat → Int32))) (l2_16 : Int32) (l3_16 : Int32) (v_next_16 : Int32) (v_start_16 : Int32) (v_number_16 : Int32) (v_p0_count_16 : Int32) (v_p0_letterTold_16 : Int32) (v_p0_firstTone_16 : Int32) (v_p0_firstMarks_16 : Int32) (k_p0_lean_16 : (Nat → Int32)) (k_p0_sets_16 : (Nat → Int32)) (k_p0_drops_16 : (Nat → Int32)) (k_p0_keeps_16 : (Nat → Int32)) (H : Heap) (locs : List Loc) (ls : Array Slot), fX6_readInto_L16 fu v_length f_bytes K n l2_16 l3_16 v_next_16 v_start_16 v_number_16 v_p0_count_16 v_p0_letterTold_16 v_p0_firstTone_16 v_p0_firstMarks_16 k_p0_lean_16 k_p0_sets_16 k_p0_drops_16 k_p0_keeps_16 = some (rv, ov_next, ov_start, ov_number, ov_p0_count, ov_p0_letterTold, ov_p0_firstTone, ov_p0_firstMarks, ok_p0_lean, ok_p0_sets, ok_p0_drops, ok_p0_keeps) → (∀ (l2_16e : Int32) (v_next_16e : Int32) (v_start_16e : Int32) (v_number_16e : Int32) (v_p0_count_16e : Int32) (v_p0_letterTold_16e : Int32) (v_p0_firstTone_16e : Int32) (v_p0_firstMarks_16e : Int32) (k_p0_lean_16e : (Nat → Int32)) (k_p0_sets_16e : (Nat → Int32)) (k_p0_drops_16e : (Nat → Int32)) (k_p0_keeps_16e : (Nat → Int32)) (H : Heap) (locs : List Loc) (ls : Array Slot), K l2_16e v_next_16e v_start_16e v_number_16e v_p0_count_16e v_p0_letterTold_16e v_p0_firstTone_16e v_p0_firstMarks_16e k_p0_lean_16e k_p0_sets_16e k_p0_drops_16e k_p0_keeps_16e = some (rv, ov_next, ov_start, ov_number, ov_p0_count, ov_p0_letterTold, ov_p0_firstTone, ov_p0_firstMarks, ok_p0_lean, ok_p0_sets, ok_p0_drops, ok_p0_keeps) → va_P G.1 vwCl (w_X6_readInto G a a_bytes a_p0 a_p0_clerks ca_p0_clk v_length v_next_16e v_start_16e v_number_16e f_bytes v_p0_count_16e v_p0_letterTold_16e v_p0_firstTone_16e v_p0_firstMarks_16e k_p0_lean_16e k_p0_sets_16e k_p0_drops_16e k_p0_keeps_16e) H → va_D A (w_X6_readInto G a a_bytes a_p0 a_p0_clerks ca_p0_clk v_length v_next_16e v_start_16e v_number_16e f_bytes v_p0_count_16e v_p0_letterTold_16e v_p0_firstTone_16e v_p0_firstMarks_16e k_p0_lean_16e k_p0_sets_16e k_p0_drops_16e k_p0_keeps_16e) → va_S A s.heap H locs → lv_has ls 4 [(2, .int l2_16e)] → W p l e (headSpec wsX6_readInto { frames := 6, cells := 0, slots := 0, locals := 128 }).room s m ([.ref a, .ref a_p0] : List Value).toArray below meth c H locs 0 0 (MQ below (zQ (some (.int rv)) G (w_X6_readInto G a a_bytes a_p0 a_p0_clerks ca_p0_clk v_length ov_next ov_start ov_number f_bytes ov_p0_count ov_p0_letterTold ov_p0_firstTone ov_p0_firstMarks ok_p0_lean ok_p0_sets ok_p0_drops ok_p0_keeps) A) ([.ref a, .ref a_p0] : List Value).toArray s 0 0 A) (F0 m 59 ls [])) → va_P G.1 vwCl (w_X6_readInto G a a_bytes a_p0 a_p0_clerks ca_p0_clk v_length v_next_16 v_start_16 v_number_16 f_bytes v_p0_count_16 v_p0_letterTold_16 v_p0_firstTone_16 v_p0_firstMarks_16 k_p0_lean_16 k_p0_sets_16 k_p0_drops_16 k_p0_keeps_16) H → va_D A (w_X6_readInto G a a_bytes a_p0 a_p0_clerks ca_p0_clk v_length v_next_16 v_start_16 v_number_16 f_bytes v_p0_count_16 v_p0_letterTold_16 v_p0_firstTone_16 v_p0_firstMarks_16 k_p0_lean_16 k_p0_sets_16 k_p0_drops_16 k_p0_keeps_16) → va_S A s.heap H locs → lv_has ls 4 [(0, .ref a), (1, .ref a_p0), (2, .int l2_16), (3, .int l3_16)] → W p l e (headSpec wsX6_readInto { frames := 6, cells := 0, slots := 0, locals := 128 }).room s m ([.ref a, .ref a_p0] : List Value).toArray below meth c H locs 0 0 (MQ below (zQ (some (.int rv)) G (w_X6_readInto G a a_bytes a_p0 a_p0_clerks ca_p0_clk v_length ov_next ov_start ov_number f_bytes ov_p0_count ov_p0_letterTold ov_p0_firstTone ov_p0_firstMarks ok_p0_lean ok_p0_sets ok_p0_drops ok_p0_keeps) A) ([.ref a, .ref a_p0] : List Value).toArray s 0 0 A) (F0 m 16 ls []) := by
    intro n
    induction n with
    | zero => intro K l2_16 l3_16 v_next_16 v_start_16 v_number_16 v_p0_count_16 v_p0_letterTold_16 v_p0_firstTone_16 v_p0_firstMarks_16 k_p0_lean_16 k_p0_sets_16 k_p0_drops_16 k_p0_keeps_16 H locs ls h; rw [fX6_readInto_L16] at h; cases h
    | succ n ih =>
      intro K l2_16 l3_16 v_next_16 v_start_16 v_number_16 v_p0_count_16 v_p0_letterTold_16 v_p0_firstTone_16 v_p0_firstMarks_16 k_p0_lean_16 k_p0_sets_16 k_p0_drops_16 k_p0_keeps_16 H locs ls h hk hP hD hS hl
      rw [fX6_readInto_L16] at h
      refine lv_iload_n hx hb dX6_readInto_16 rfl (lv_at hl 3 rfl) ?_
      refine lv_if_eq (tgt := 59) hx hb dX6_readInto_17 (by decide) (fun c17 => ?_) (fun c17 => ?_)
      · have h := zt c17 h
        exact hk _ _ _ _ _ _ _ _ _ _ _ _ _ _ _ h hP hD hS (lv_sub hl [2] rfl)
      · have h := zf c17 h
        refine lv_iload_n hx hb dX6_readInto_20 rfl (lv_at hl 2 rfl) ?_
        refine lv_sipush (v := (200 : Int32)) hx hb dX6_readInto_21 (by decide) ?_
        refine lv_icmp_ge (tgt := 59) hx hb dX6_readInto_24 (by decide) (fun c24 => ?_) (fun c24 => ?_)
        · have h := zt c24 h
          exact hk _ _ _ _ _ _ _ _ _ _ _ _ _ _ _ h hP hD hS (lv_sub hl [2] rfl)
        · have h := zf c24 h
          refine lv_iload_n hx hb dX6_readInto_27 rfl (lv_at hl 3 rfl) ?_
          refine lv_iconst (v := (1 : Int32)) hx hb dX6_readInto_28 (by decide) ?_
          refine lv_icmp_ne (tgt := 40) hx hb dX6_readInto_29 (by decide) (fun c29 => ?_) (fun c29 => ?_)
          · have h := zf c29 h
            refine lv_bipush (v := ((-10) : Int32)) hx hb dX6_readInto_40 (by decide) ?_
            refine lv_aload_n hx hb dX6_readInto_42 rfl (lv_at hl 0 rfl) ?_
            refine va_get (D := G.1) (ci := 6) (v := .int v_start_16) (C := RX6) (T := TX6) (N := 5) hx hb hts in_X6_readInto_X6 hown hK.1 hP 0 rfl rfl 3 (by decide) (hts (.fieldLink RX6 22 "NineHands$Text" "start" "I") (by decide +kernel)) (fun _ h9 => h9) rfl dX6_readInto_43 ?_
            refine lv_isub hx hb dX6_readInto_46 ?_
            simp only [Option.some.injEq, Prod.mk.injEq] at h
            obtain ⟨rfl, rfl, rfl, rfl, rfl, rfl, rfl, rfl, rfl, rfl, rfl, rfl⟩ := h
            exact W.iret hx hb hr (fun t9 ht9 _ => zend hP hD hS ht9) hS.2.2 dX6_readInto_47
          · have h := zt c29 h
            refine lv_aload_n hx hb dX6_readInto_32 rfl (lv_at hl 0 rfl) ?_
            refine lv_aload_n hx hb dX6_readInto_33 rfl (lv_at hl 1 rfl) ?_
            obtain ⟨y34, y34_v_next, y34_v_start, y34_v_number, y34_v_p0_count, y34_v_p0_letterTold, y34_v_p0_firstTone, y34_v_p0_firstMarks, y34_k_p0_lean, y34_k_p0_sets, y34_k_p0_drops, y34_k_p0_keeps, hc34, h⟩ := zb12_e h
            refine zcV (As := [.ref a_p0]) (rest := []) (ws' := (w_X6_readInto G a a_bytes a_p0 a_p0_clerks ca_p0_clk v_length y34_v_next y34_v_start y34_v_number f_bytes y34_v_p0_count y34_v_p0_letterTold y34_v_p0_firstTone y34_v_p0_firstMarks y34_k_p0_lean y34_k_p0_sets y34_k_p0_drops y34_k_p0_keeps)) (st1 := [.int y34]) ⟨hx, hb, hml, hown, hts⟩ (c_X6_readItem l G fu a a_bytes a_p0 a_p0_clerks ca_p0_clk v_length v_next_16 v_start_16 v_number_16 f_bytes v_p0_count_16 v_p0_letterTold_16 v_p0_firstTone_16 v_p0_firstMarks_16 k_p0_lean_16 k_p0_sets_16 k_p0_drops_16 k_p0_keeps_16 y34 y34_v_next y34_v_start y34_v_number y34_v_p0_count y34_v_p0_letterTold y34_v_p0_firstTone y34_v_p0_firstMarks y34_k_p0_lean y34_k_p0_sets y34_k_p0_drops y34_k_p0_keeps hc34) (cwV 1 hts gX6_readInto_X6_readItem rfl rfl rfl (by decide +kernel) ⟨Nat.le_of_ble_eq_true rfl, Nat.le_of_ble_eq_true rfl⟩) hK hE hP hD hS hA [0, 1, 2, 3, 4, 5, 6, 7, 8, 9] rfl rfl 0 6 rfl rfl rfl rfl rfl rfl hl.1 rfl (Nat.le_of_ble_eq_true rfl) dX6_readInto_34 (Nat.zero_le _) (Nat.zero_le _) rfl (fun H locs hP hD hS => ?_)
            refine lv_if_ne (tgt := 48) hx hb dX6_readInto_37 (by decide) (fun c37 => ?_) (fun c37 => ?_)
            · have h := zf c37 h
              refine lv_iinc (v := (l2_16 + (1 : Int32))) (lv' := [(2, .int (l2_16 + (1 : Int32))), (0, .ref a), (1, .ref a_p0), (3, .int l3_16)]) hx hb dX6_readInto_48 hl (k := 2) rfl rfl (by decide) rfl (fun ls hl => ?_)
              refine lv_aload_n hx hb dX6_readInto_51 rfl (lv_at hl 1 rfl) ?_
              obtain ⟨y52, y52_v_next, y52_v_start, hc52, h⟩ := zb3_e h
              refine zcV (As := []) (rest := []) (ws' := (w_X6_readInto G a a_bytes a_p0 a_p0_clerks ca_p0_clk v_length y52_v_next y52_v_start y34_v_number f_bytes y34_v_p0_count y34_v_p0_letterTold y34_v_p0_firstTone y34_v_p0_firstMarks y34_k_p0_lean y34_k_p0_sets y34_k_p0_drops y34_k_p0_keeps)) (st1 := [.int y52]) ⟨hx, hb, hml, hown, hts⟩ (c_X6_take l G fu a a_bytes v_length y34_v_next y34_v_start y34_v_number f_bytes y52 y52_v_next y52_v_start hc52) (cwV 0 hts gX6_readInto_X6_take rfl rfl rfl (by decide +kernel) ⟨Nat.le_of_ble_eq_true rfl, Nat.le_of_ble_eq_true rfl⟩) hK hE hP hD hS hA [0, 1] rfl rfl 0 6 rfl rfl rfl rfl rfl rfl hl.1 rfl (Nat.le_of_ble_eq_true rfl) dX6_readInto_52 (Nat.zero_le _) (Nat.zero_le _) rfl (fun H locs hP hD hS => ?_)
              refine lv_istore_n (lv' := [(3, .int y52), (2, .int (l2_16 + (1 : Int32))), (0, .ref a), (1, .ref a_p0)]) hx hb dX6_readInto_55 rfl hl (by decide) rfl (fun ls hl => ?_)
              refine lv_goto (tgt := 16) hx hb dX6_readInto_56 (by decide) ?_
              exact ih K _ _ _ _ _ _ _ _ _ _ _ _ _ _ _ _ h hk hP hD hS (lv_sub hl [2, 3, 1, 0] rfl)
            · have h := zt c37 h
              refine lv_bipush (v := ((-10) : Int32)) hx hb dX6_readInto_40 (by decide) ?_
              refine lv_aload_n hx hb dX6_readInto_42 rfl (lv_at hl 0 rfl) ?_
              refine va_get (D := G.1) (ci := 6) (v := .int y34_v_start) (C := RX6) (T := TX6) (N := 5) hx hb hts in_X6_readInto_X6 hown hK.1 hP 0 rfl rfl 3 (by decide) (hts (.fieldLink RX6 22 "NineHands$Text" "start" "I") (by decide +kernel)) (fun _ h9 => h9) rfl dX6_readInto_43 ?_
              refine lv_isub hx hb dX6_readInto_46 ?_
              simp only [Option.some.injEq, Prod.mk.injEq] at h
              obtain ⟨rfl, rfl, rfl, rfl, rfl, rfl, rfl, rfl, rfl, rfl, rfl, rfl⟩ := h
              exact W.iret hx hb hr (fun t9 ht9 _ => zend hP hD hS ht9) hS.2.2 dX6_readInto_47
  refine loop_16 fu _ _ _ _ _ _ _ _ _ _ _ _ _ _ _ _ _ h (fun l2_16e v_next_16e v_start_16e v_number_16e v_p0_count_16e v_p0_letterTold_16e v_p0_firstTone_16e v_p0_firstMarks_16e k_p0_lean_16e k_p0_sets_16e k_p0_drops_16e k_p0_keeps_16e H locs ls h hP hD hS hl => ?_) hP hD hS (lv_sub hl [2, 3, 1, 0] rfl)
  refine lv_iload_n hx hb dX6_readInto_59 rfl (lv_at hl 0 rfl) ?_
  simp only [Option.some.injEq, Prod.mk.injEq] at h
  obtain ⟨rfl, rfl, rfl, rfl, rfl, rfl, rfl, rfl, rfl, rfl, rfl, rfl⟩ := h
  exact W.iret hx hb hr (fun t9 ht9 _ => zend hP hD hS ht9) hS.2.2 dX6_readInto_60
