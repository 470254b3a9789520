/-! Constructors: a contract that makes cells (zN), its call (zcI, zcIN), new arrays (znewI ..), a row of references written another way (zarr_q). -/
def zQn (G : zG) (B : va_W → Prop) (A : Nat → Prop) : Array Value → State → Outcome → State → Prop := fun _ st oc t => oc = .returned none ∧ (∃ ws, B ws ∧ va_P G.1 vwCl ws t.heap ∧ va_D A ws) ∧ va_F A st t
def zN (l : Launch) (y : MethodName) (w : List Cond) (fr lo mc ms : Nat) (G : zG) (av : List Value) (ws : va_W) (B : va_W → Prop) : Prop :=
  ∀ sz : Nat, Met l y w { frames := fr, cells := mc, slots := ms, locals := lo } (va_Pc av (zPre G sz ws)) (zQn G B (va_A ws sz)) mc ms (va_A ws sz)
theorem zarr_q {D : va_G} {cl : List vw_C} {ws : va_W} {H : Heap} {k a n : Nat} {cA : ClassId} {F F' : Nat → Option Nat} (hP : va_P D cl ws H) (hk : ws[k]? = some (a, .inl (cA, n, .inr (.inr (.inr (.inr F)))))) (h : ∀ j, j < n → F j = F' j) {ws' : va_W} (hw : ws.set k (a, .inl (cA, n, .inr (.inr (.inr (.inr F'))))) = ws') : va_P D cl ws' H := by
  subst hw
  intro i q hq
  by_cases hi : k = i
  · subst hi
    rw [List.getElem?_set_self (List.getElem?_eq_some_iff.mp hk).1] at hq
    cases hq
    have h1 := hP k _ hk
    show H[a]? = some (vp_cell cA (n, .inr (.inr (.inr (.inr F')))))
    have h2 : H[a]? = some (vp_cell cA (n, .inr (.inr (.inr (.inr F))))) := h1
    rw [h2, vp_cell_q, vp_cell_q]
    have e : (Array.ofFn (n := n) fun j => va_rf (F j.val)) = Array.ofFn (n := n) fun j => va_rf (F' j.val) := by
      congr 1
      funext j
      rw [h j.val j.isLt]
    unfold arrV
    rw [e]
  · rw [List.getElem?_set_ne hi] at hq
    exact hP i q hq
theorem zD_q {A : Nat → Prop} {ws : va_W} {k a : Nat} {e e' : va_E} (hD : va_D A ws) (hk : ws[k]? = some (a, e)) {ws' : va_W} (hw : ws.set k (a, e') = ws') : va_D A ws' := by
  subst hw
  exact hD.set hk
section ZN
variable {p : Program} {l : Launch} {e : Env} {R : Room} {s : State} {m : MethodId} {args : Array Value} {below : List Frame} {meth : Method} {c : Code} {H : Heap} {locs : List Loc} {cells slots : Nat} {Q : State → Prop}
variable {cc : ByteArray} {pc nL : Nat} {ls : Array Slot} {rest st0 : List Value} {A : Nat → Prop} {G : zG} {ws : va_W}
theorem zafterI {wc wr : va_W} {B : va_W → Prop} {av : Array Value} {mc ms : Nat} (hr : va_Run p l e R s m args below meth c H locs cells slots mc ms (F0 m pc ls st0) rest (zQn G B (va_A wc H.size) av) (va_A wc H.size))
    (hP : va_P G.1 vwCl ws H) (hD : va_D A ws) (hS : va_S A s.heap H locs) (hA : ∀ q, s.heap.size ≤ q → A q) (isC isR : List Nat) (hC : isC.map (fun i => ws[i]?) = wc.map some) (hR : isR.map (fun i => ws[i]?) = wr.map some) (hnR : va_nd isR = true) (hdis : ∀ i ∈ isR, i ∉ isC)
    (kk : ∀ (w1 : va_W) (H1 : Heap) (locs1 : List Loc), B w1 → va_P G.1 vwCl (wr ++ w1) H1 → va_D A (wr ++ w1) → va_S A s.heap H1 locs1 → W p l e R s m args below meth c H1 locs1 (cells + mc) (slots + ms) Q (F0 m (pc + 3) ls rest)) : W p l e R s m args below meth c H locs cells slots Q (F0 m pc ls st0) := by
  have hF := va_free (wc := wc) hD hS hA isC hC
  intro T hT X
  obtain ⟨v, st₀, t, T', L, h0, X', hL, e1, e2, ⟨hv, ⟨w1, hB, hP1, hD1⟩, hz, hk⟩, st⟩ := hr T hT X
  have hv : v = none := Outcome.returned.inj hv
  subst hv
  rw [h0] at hz hk
  obtain ⟨hP2, hD2⟩ := va_join (wr := wr) (w1 := w1) (H1 := t.heap) hP hD isC isR hC hR hnR hdis hk hF hP1 hD1
  obtain ⟨t2, a1, b1⟩ := kk w1 T'.heap (locs ++ L) hB (by rw [e1]; exact hP2) hD2
    ⟨Nat.le_trans hS.1 (by rw [e1]; exact hz), fun q h1 h2 => by rw [e1, hk q (Nat.lt_of_lt_of_le h1 hS.1) (fun z => h2 (hF q z))]; exact hS.2.1 q h1 h2, fun q hq => by
      rcases List.mem_append.mp hq with h | h
      · exact hS.2.2 q h
      · exact hF _ (hL q h)⟩ T' rfl X'
  exact ⟨t2, st t2 a1, b1⟩
theorem zcI {own : String} {index maxL n fr lo mc ms : Nat} {y : MethodName} {bytes : ByteArray} {w Ts : List Cond} {b : Nat} {As : List Value} {wc wr : va_W} {B : va_W → Prop}
    (S : CallFix p m c cc nL s args Ts own) (hM : zN l y w fr lo mc ms G (.ref b :: As) wc B) (cw : CallB R s args own index y bytes maxL none w { frames := fr, cells := mc, slots := ms, locals := lo } mc ms n ∧ y.name = "<init>" ∧ (Cond.instanceMethod y).before args s = true)
    (hK : zK G s) (hE : zE G A s) (hP : va_P G.1 vwCl ws H) (hD : va_D A ws) (hS : va_S A s.heap H locs) (hA : ∀ q, s.heap.size ≤ q → A q) (isC isR : List Nat) (hnd : va_nd isC = true) (hC : isC.map (fun i => ws[i]?) = wc.map some) (hR : isR.map (fun i => ws[i]?) = wr.map some) (hnR : va_nd isR = true) (hdis : ∀ i ∈ isR, i ∉ isC)
    (hstack : st0 = As.reverse ++ .ref b :: rest) (hsz : ls.size = nL) (hn : As.length = n) (hroom : (rest.map fun v => v.category).sum ≤ 8) (hdg : decode cc pc = .ok (.invokespecial index, 3)) (hce : cells + mc ≤ R.cells ∧ slots + ms ≤ R.slots)
    (kk : ∀ (w1 : va_W) (H1 : Heap) (locs1 : List Loc), B w1 → va_P G.1 vwCl (wr ++ w1) H1 → va_D A (wr ++ w1) → va_S A s.heap H1 locs1 → W p l e R s m args below meth c H1 locs1 (cells + mc) (slots + ms) Q (F0 m (pc + 3) ls rest)) : W p l e R s m args below meth c H locs cells slots Q (F0 m pc ls st0) :=
  zafterI (va_runI S (hM H.size) cw ⟨zBlind, fun U hU hW => ⟨rfl, zpre hK hE hP hD hS hA isC hnd hC hU hW⟩⟩ rfl hn hsz hstack (lv_room hroom) hdg hce) hP hD hS hA isC isR hC hR hnR hdis kk
theorem zcIN {own host : String} {index maxL n fr lo mc ms : Nat} {y : MethodName} {bytes : ByteArray} {w Ts : List Cond} {b : Nat} {As : List Value} {wc wr : va_W} {B : va_W → Prop}
    (S : CallFix p m c cc nL s args Ts own) (hM : zN l y w fr lo mc ms G (.ref b :: As) wc B) (cw : va_CN R s args own index y host bytes maxL none w { frames := fr, cells := mc, slots := ms, locals := lo } mc ms n ∧ y.name = "<init>" ∧ (Cond.instanceMethod y).before args s = true)
    (hK : zK G s) (hE : zE G A s) (hP : va_P G.1 vwCl ws H) (hD : va_D A ws) (hS : va_S A s.heap H locs) (hA : ∀ q, s.heap.size ≤ q → A q) (isC isR : List Nat) (hnd : va_nd isC = true) (hC : isC.map (fun i => ws[i]?) = wc.map some) (hR : isR.map (fun i => ws[i]?) = wr.map some) (hnR : va_nd isR = true) (hdis : ∀ i ∈ isR, i ∉ isC)
    (hstack : st0 = As.reverse ++ .ref b :: rest) (hsz : ls.size = nL) (hn : As.length = n) (hroom : (rest.map fun v => v.category).sum ≤ 8) (hdg : decode cc pc = .ok (.invokespecial index, 3)) (hce : cells + mc ≤ R.cells ∧ slots + ms ≤ R.slots)
    (kk : ∀ (w1 : va_W) (H1 : Heap) (locs1 : List Loc), B w1 → va_P G.1 vwCl (wr ++ w1) H1 → va_D A (wr ++ w1) → va_S A s.heap H1 locs1 → W p l e R s m args below meth c H1 locs1 (cells + mc) (slots + ms) Q (F0 m (pc + 3) ls rest)) : W p l e R s m args below meth c H locs cells slots Q (F0 m pc ls st0) :=
  zafterI (va_runIN S (hM H.size) cw ⟨zBlind, fun U hU hW => ⟨rfl, zpre hK hE hP hD hS hA isC hnd hC hU hW⟩⟩ rfl hn hsz hstack (lv_room hroom) hdg hce) hP hD hS hA isC isR hC hR hnR hdis kk
theorem znewI {H0 : Heap} (hexec : p.tables.exec = Jvm.exec) (hb : c.code = cc) (harr : (Cond.arrayClass .int).before args s = true) (hK : zK G s) (hP : va_P G.1 vwCl ws H) (hD : va_D A ws) (hS : va_S A H0 H locs) (hA : ∀ q, H0.size ≤ q → A q) {n : Int32} {N' : Nat} (hn : ¬ n < 0) (hN : n.toNatClampNeg = N') (hbytes : N' * 4 ≤ 536870912) (hcells : cells + 1 ≤ R.cells) (hslots : slots + N' ≤ R.slots) (hdg : decode cc pc = .ok (.newarray .int, 2))
    (kk : ∀ (q : Nat) (H1 : Heap), va_P G.1 vwCl (ws ++ [(q, .inl (zCI G, N', .inl (fun _ => 0)))]) H1 → va_D A (ws ++ [(q, .inl (zCI G, N', .inl (fun _ => 0)))]) → va_S A H0 H1 locs → W p l e R s m args below meth c H1 locs (cells + 1) (slots + N') Q (F0 m (pc + 2) ls (.ref q :: rest))) : W p l e R s m args below meth c H locs cells slots Q (F0 m pc ls (.int n :: rest)) :=
  va_newa (atype := .int) hexec hb harr rfl hK.1 hP hD hS hA (a0 := (N', .inl (fun _ => 0))) (fun _ => rfl) hn hN hbytes hcells hslots hdg (fun q cA H1 hK2 hP2 hD2 hS2 => by
    have e : cA = zCI G := Option.some.inj ((va_nm_int (hK2.2 5 _ rfl).2).symm.trans (va_nm_int (hK.1.2 0 _ rfl).2))
    subst e
    exact kk q H1 hP2 hD2 hS2)
theorem znewB {H0 : Heap} (hexec : p.tables.exec = Jvm.exec) (hb : c.code = cc) (harr : (Cond.arrayClass .byte).before args s = true) (hK : zK G s) (hP : va_P G.1 vwCl ws H) (hD : va_D A ws) (hS : va_S A H0 H locs) (hA : ∀ q, H0.size ≤ q → A q) {n : Int32} {N' : Nat} (hn : ¬ n < 0) (hN : n.toNatClampNeg = N') (hbytes : N' * 1 ≤ 536870912) (hcells : cells + 1 ≤ R.cells) (hslots : slots + N' ≤ R.slots) (hdg : decode cc pc = .ok (.newarray .byte, 2))
    (kk : ∀ (q : Nat) (H1 : Heap), va_P G.1 vwCl (ws ++ [(q, .inl (zCB G, N', .inl (fun _ => 0)))]) H1 → va_D A (ws ++ [(q, .inl (zCB G, N', .inl (fun _ => 0)))]) → va_S A H0 H1 locs → W p l e R s m args below meth c H1 locs (cells + 1) (slots + N') Q (F0 m (pc + 2) ls (.ref q :: rest))) : W p l e R s m args below meth c H locs cells slots Q (F0 m pc ls (.int n :: rest)) :=
  va_newa (atype := .byte) hexec hb harr rfl hK.1 hP hD hS hA (a0 := (N', .inl (fun _ => 0))) (fun _ => rfl) hn hN hbytes hcells hslots hdg (fun q cA H1 hK2 hP2 hD2 hS2 => by
    have e : cA = zCB G := Option.some.inj ((va_nm_byte (hK2.2 5 _ rfl).2).symm.trans (va_nm_byte (hK.1.2 1 _ rfl).2))
    subst e
    exact kk q H1 hP2 hD2 hS2)
theorem znewZ {H0 : Heap} (hexec : p.tables.exec = Jvm.exec) (hb : c.code = cc) (harr : (Cond.arrayClass .boolean).before args s = true) (hK : zK G s) (hP : va_P G.1 vwCl ws H) (hD : va_D A ws) (hS : va_S A H0 H locs) (hA : ∀ q, H0.size ≤ q → A q) {n : Int32} {N' : Nat} (hn : ¬ n < 0) (hN : n.toNatClampNeg = N') (hbytes : N' * 1 ≤ 536870912) (hcells : cells + 1 ≤ R.cells) (hslots : slots + N' ≤ R.slots) (hdg : decode cc pc = .ok (.newarray .boolean, 2))
    (kk : ∀ (q : Nat) (H1 : Heap), va_P G.1 vwCl (ws ++ [(q, .inl (zCZ G, N', .inl (fun _ => 0)))]) H1 → va_D A (ws ++ [(q, .inl (zCZ G, N', .inl (fun _ => 0)))]) → va_S A H0 H1 locs → W p l e R s m args below meth c H1 locs (cells + 1) (slots + N') Q (F0 m (pc + 2) ls (.ref q :: rest))) : W p l e R s m args below meth c H locs cells slots Q (F0 m pc ls (.int n :: rest)) :=
  va_newa (atype := .boolean) hexec hb harr rfl hK.1 hP hD hS hA (a0 := (N', .inl (fun _ => 0))) (fun _ => rfl) hn hN hbytes hcells hslots hdg (fun q cA H1 hK2 hP2 hD2 hS2 => by
    have e : cA = zCZ G := Option.some.inj ((va_nm_boolean (hK2.2 5 _ rfl).2).symm.trans (va_nm_boolean (hK.1.2 2 _ rfl).2))
    subst e
    exact kk q H1 hP2 hD2 hS2)
theorem znewC (hexec : p.tables.exec = Jvm.exec) (hb : c.code = cc) {own : String} {index : Nat} (hown : s.vm.findClass own = some m.cls) (hclink : (Cond.classLink own index "NineHands$Clerk").before args s = true) (hK : zK G s) (hP : va_P G.1 vwCl ws H) (hD : va_D A ws) {H0 : Heap} (hS : va_S A H0 H locs) (hA : ∀ q, H0.size ≤ q → A q)
    {n : Int32} {N' : Nat} (hn : ¬ n < 0) (hN : n.toNatClampNeg = N') (hbytes : N' * 4 ≤ 536870912) (hcells : cells + 1 ≤ R.cells) (hslots : slots + N' ≤ R.slots) (hdg : decode cc pc = .ok (.anewarray index, 3))
    (kk : ∀ (q : Nat) (H1 : Heap), va_P G.1 vwCl (ws ++ [(q, .inl (zCC G, N', .inr (.inr (.inr (.inr (fun _ => none))))))]) H1 → va_D A (ws ++ [(q, .inl (zCC G, N', .inr (.inr (.inr (.inr (fun _ => none))))))]) → va_S A H0 H1 locs →
      W p l e R s m args below meth c H1 locs (cells + 1) (slots + N') Q (F0 m (pc + 3) ls (.ref q :: rest))) : W p l e R s m args below meth c H locs cells slots Q (F0 m pc ls (.int n :: rest)) :=
  va_newq hexec hb hown hclink hK.2.2.2.2.1 hK.1 hP hD hS hA hn hN hbytes hcells hslots hdg (fun q cA H1 hK2 hP2 hD2 hS2 => by
    have h1 : va_RA s cA (.object "NineHands$Clerk") := (hK2.2 5 _ rfl).2
    have h2 : va_RA s (zCC G) (.object "NineHands$Clerk") := (hK.1.2 3 _ rfl).2
    obtain ⟨_, _, _, _, _, e1⟩ := h1
    obtain ⟨_, _, _, _, _, e2⟩ := h2
    have e : cA = zCC G := Option.some.inj (e1.symm.trans e2)
    subst e
    exact kk q H1 hP2 hD2 hS2)
theorem znewL (hexec : p.tables.exec = Jvm.exec) (hb : c.code = cc) {own : String} {index : Nat} (hown : s.vm.findClass own = some m.cls) (hclink : (Cond.classLink own index "NineHands$Letter").before args s = true) (hK : zK G s) (hP : va_P G.1 vwCl ws H) (hD : va_D A ws) {H0 : Heap} (hS : va_S A H0 H locs) (hA : ∀ q, H0.size ≤ q → A q)
    {n : Int32} {N' : Nat} (hn : ¬ n < 0) (hN : n.toNatClampNeg = N') (hbytes : N' * 4 ≤ 536870912) (hcells : cells + 1 ≤ R.cells) (hslots : slots + N' ≤ R.slots) (hdg : decode cc pc = .ok (.anewarray index, 3))
    (kk : ∀ (q : Nat) (H1 : Heap), va_P G.1 vwCl (ws ++ [(q, .inl (zCL G, N', .inr (.inr (.inr (.inr (fun _ => none))))))]) H1 → va_D A (ws ++ [(q, .inl (zCL G, N', .inr (.inr (.inr (.inr (fun _ => none))))))]) → va_S A H0 H1 locs →
      W p l e R s m args below meth c H1 locs (cells + 1) (slots + N') Q (F0 m (pc + 3) ls (.ref q :: rest))) : W p l e R s m args below meth c H locs cells slots Q (F0 m pc ls (.int n :: rest)) :=
  va_newq hexec hb hown hclink hK.2.2.2.2.2 hK.1 hP hD hS hA hn hN hbytes hcells hslots hdg (fun q cA H1 hK2 hP2 hD2 hS2 => by
    have h1 : va_RA s cA (.object "NineHands$Letter") := (hK2.2 5 _ rfl).2
    have h2 : va_RA s (zCL G) (.object "NineHands$Letter") := (hK.1.2 4 _ rfl).2
    obtain ⟨_, _, _, _, _, e1⟩ := h1
    obtain ⟨_, _, _, _, _, e2⟩ := h2
    have e : cA = zCL G := Option.some.inj (e1.symm.trans e2)
    subst e
    exact kk q H1 hP2 hD2 hS2)
theorem zendN {B : va_W → Prop} {ws' : va_W} {t : State} (hB : B ws') (hP : va_P G.1 vwCl ws' H) (hD : va_D A ws') (hS : va_S A s.heap H locs) (ht : t.heap = H) : zQn G B A args s (.returned none) t := ⟨rfl, ⟨ws', hB, by rw [ht]; exact hP, hD⟩, hS.F ht⟩
end ZN
