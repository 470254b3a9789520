section
-- ===== PART A: goes FIRST, ahead of the names: the tables' words, and 'selects' of the private methods out of them =====
/-- a private method of a class that the tables say can be made, by its rows of tables_1 -/
def lw_okq (q : MethodName × Nat) : Prop := (q.1.cls ≠ "java/lang/invoke/MethodHandle" ∧ q.1.cls ≠ "java/lang/invoke/VarHandle") ∧ Cond.instantiable q.1.cls q.2 ∈ tables_1 ∧ Cond.privateMethod q.1 ∈ tables_1 ∧ Cond.instanceMethod q.1 ∈ tables_1
theorem lw_p0 : lw_okq (⟨"NineHands$Office", "begin", "()V"⟩, 5) := ⟨⟨by decide +kernel, by decide +kernel⟩, List.mem_of_getElem? (i := 136) (by decide +kernel), List.mem_of_getElem? (i := 170) (by decide +kernel), List.mem_of_getElem? (i := 171) (by decide +kernel)⟩
theorem lw_p1 : lw_okq (⟨"NineHands$Text", "take", "()I"⟩, 5) := ⟨⟨by decide +kernel, by decide +kernel⟩, List.mem_of_getElem? (i := 26) (by decide +kernel), List.mem_of_getElem? (i := 257) (by decide +kernel), List.mem_of_getElem? (i := 258) (by decide +kernel)⟩
theorem lw_p2 : lw_okq (⟨"NineHands$Text", "readItem", "(LNineHands$Office;)Z"⟩, 5) := ⟨⟨by decide +kernel, by decide +kernel⟩, List.mem_of_getElem? (i := 26) (by decide +kernel), List.mem_of_getElem? (i := 264) (by decide +kernel), List.mem_of_getElem? (i := 265) (by decide +kernel)⟩
theorem lw_p3 : lw_okq (⟨"NineHands$Text", "tookWord", "(Ljava/lang/String;)Z"⟩, 5) := ⟨⟨by decide +kernel, by decide +kernel⟩, List.mem_of_getElem? (i := 26) (by decide +kernel), List.mem_of_getElem? (i := 269) (by decide +kernel), List.mem_of_getElem? (i := 270) (by decide +kernel)⟩
theorem lw_p4 : lw_okq (⟨"NineHands$Text", "readClerk", "(LNineHands$Office;)Z"⟩, 5) := ⟨⟨by decide +kernel, by decide +kernel⟩, List.mem_of_getElem? (i := 26) (by decide +kernel), List.mem_of_getElem? (i := 325) (by decide +kernel), List.mem_of_getElem? (i := 326) (by decide +kernel)⟩
theorem lw_p5 : lw_okq (⟨"NineHands$Text", "takeNumber", "(I)Z"⟩, 5) := ⟨⟨by decide +kernel, by decide +kernel⟩, List.mem_of_getElem? (i := 26) (by decide +kernel), List.mem_of_getElem? (i := 329) (by decide +kernel), List.mem_of_getElem? (i := 330) (by decide +kernel)⟩
theorem lw_p6 : lw_okq (⟨"NineHands$Text", "readFirstLine", "(LNineHands$Office;)Z"⟩, 5) := ⟨⟨by decide +kernel, by decide +kernel⟩, List.mem_of_getElem? (i := 26) (by decide +kernel), List.mem_of_getElem? (i := 339) (by decide +kernel), List.mem_of_getElem? (i := 340) (by decide +kernel)⟩
theorem lw_p7 : lw_okq (⟨"NineHands", "beginAnew", "()V"⟩, 9) := ⟨⟨by decide +kernel, by decide +kernel⟩, List.mem_of_getElem? (i := 18) (by decide +kernel), List.mem_of_getElem? (i := 343) (by decide +kernel), List.mem_of_getElem? (i := 344) (by decide +kernel)⟩
theorem lw_p8 : lw_okq (⟨"NineHands", "hasLineAhead", "(I)Z"⟩, 9) := ⟨⟨by decide +kernel, by decide +kernel⟩, List.mem_of_getElem? (i := 18) (by decide +kernel), List.mem_of_getElem? (i := 435) (by decide +kernel), List.mem_of_getElem? (i := 436) (by decide +kernel)⟩
theorem lw_p9 : lw_okq (⟨"NineHands", "writersOf", "(I)I"⟩, 9) := ⟨⟨by decide +kernel, by decide +kernel⟩, List.mem_of_getElem? (i := 18) (by decide +kernel), List.mem_of_getElem? (i := 439) (by decide +kernel), List.mem_of_getElem? (i := 440) (by decide +kernel)⟩
theorem lw_p10 : lw_okq (⟨"NineHands", "waysOf", "(II)I"⟩, 9) := ⟨⟨by decide +kernel, by decide +kernel⟩, List.mem_of_getElem? (i := 18) (by decide +kernel), List.mem_of_getElem? (i := 443) (by decide +kernel), List.mem_of_getElem? (i := 444) (by decide +kernel)⟩
theorem lw_p11 : lw_okq (⟨"NineHands", "likeliestOf", "(I)I"⟩, 9) := ⟨⟨by decide +kernel, by decide +kernel⟩, List.mem_of_getElem? (i := 18) (by decide +kernel), List.mem_of_getElem? (i := 453) (by decide +kernel), List.mem_of_getElem? (i := 454) (by decide +kernel)⟩
theorem lw_p12 : lw_okq (⟨"NineHands", "waysOfAll", "(I)I"⟩, 9) := ⟨⟨by decide +kernel, by decide +kernel⟩, List.mem_of_getElem? (i := 18) (by decide +kernel), List.mem_of_getElem? (i := 471) (by decide +kernel), List.mem_of_getElem? (i := 472) (by decide +kernel)⟩
theorem lw_p13 : lw_okq (⟨"NineHands$Orders", "lineUp", "(I)V"⟩, 4) := ⟨⟨by decide +kernel, by decide +kernel⟩, List.mem_of_getElem? (i := 117) (by decide +kernel), List.mem_of_getElem? (i := 490) (by decide +kernel), List.mem_of_getElem? (i := 491) (by decide +kernel)⟩
theorem lw_p14 : lw_okq (⟨"NineHands$Orders", "stray", "(LNineHands$Office;IIZ)I"⟩, 4) := ⟨⟨by decide +kernel, by decide +kernel⟩, List.mem_of_getElem? (i := 117) (by decide +kernel), List.mem_of_getElem? (i := 494) (by decide +kernel), List.mem_of_getElem? (i := 495) (by decide +kernel)⟩
theorem lw_p15 : lw_okq (⟨"NineHands$Orders", "keepRow", "()V"⟩, 4) := ⟨⟨by decide +kernel, by decide +kernel⟩, List.mem_of_getElem? (i := 117) (by decide +kernel), List.mem_of_getElem? (i := 504) (by decide +kernel), List.mem_of_getElem? (i := 505) (by decide +kernel)⟩
def lw_privs_1 : List (MethodName × Nat) := [(⟨"NineHands$Office", "begin", "()V"⟩, 5), (⟨"NineHands$Text", "take", "()I"⟩, 5), (⟨"NineHands$Text", "readItem", "(LNineHands$Office;)Z"⟩, 5), (⟨"NineHands$Text", "tookWord", "(Ljava/lang/String;)Z"⟩, 5), (⟨"NineHands$Text", "readClerk", "(LNineHands$Office;)Z"⟩, 5), (⟨"NineHands$Text", "takeNumber", "(I)Z"⟩, 5), (⟨"NineHands$Text", "readFirstLine", "(LNineHands$Office;)Z"⟩, 5), (⟨"NineHands", "beginAnew", "()V"⟩, 9), (⟨"NineHands", "hasLineAhead", "(I)Z"⟩, 9), (⟨"NineHands", "writersOf", "(I)I"⟩, 9), (⟨"NineHands", "waysOf", "(II)I"⟩, 9), (⟨"NineHands", "likeliestOf", "(I)I"⟩, 9), (⟨"NineHands", "waysOfAll", "(I)I"⟩, 9), (⟨"NineHands$Orders", "lineUp", "(I)V"⟩, 4), (⟨"NineHands$Orders", "stray", "(LNineHands$Office;IIZ)I"⟩, 4), (⟨"NineHands$Orders", "keepRow", "()V"⟩, 4)]
theorem lw_r1 : ∀ q ∈ lw_privs_1, lw_okq q := List.forall_mem_cons.mpr ⟨lw_p0, List.forall_mem_cons.mpr ⟨lw_p1, List.forall_mem_cons.mpr ⟨lw_p2, List.forall_mem_cons.mpr ⟨lw_p3, List.forall_mem_cons.mpr ⟨lw_p4, List.forall_mem_cons.mpr ⟨lw_p5, List.forall_mem_cons.mpr ⟨lw_p6, List.forall_mem_cons.mpr ⟨lw_p7, List.forall_mem_cons.mpr ⟨lw_p8, List.forall_mem_cons.mpr ⟨lw_p9, List.forall_mem_cons.mpr ⟨lw_p10, List.forall_mem_cons.mpr ⟨lw_p11, List.forall_mem_cons.mpr ⟨lw_p12, List.forall_mem_cons.mpr ⟨lw_p13, List.forall_mem_cons.mpr ⟨lw_p14, List.forall_mem_cons.mpr ⟨lw_p15, fun _ h => absurd h List.not_mem_nil⟩⟩⟩⟩⟩⟩⟩⟩⟩⟩⟩⟩⟩⟩⟩⟩
theorem lw_p16 : lw_okq (⟨"NineHands$Orders", "step", "()Z"⟩, 4) := ⟨⟨by decide +kernel, by decide +kernel⟩, List.mem_of_getElem? (i := 117) (by decide +kernel), List.mem_of_getElem? (i := 511) (by decide +kernel), List.mem_of_getElem? (i := 512) (by decide +kernel)⟩
theorem lw_p17 : lw_okq (⟨"NineHands$Orders", "swap", "(II)V"⟩, 4) := ⟨⟨by decide +kernel, by decide +kernel⟩, List.mem_of_getElem? (i := 117) (by decide +kernel), List.mem_of_getElem? (i := 515) (by decide +kernel), List.mem_of_getElem? (i := 516) (by decide +kernel)⟩
theorem lw_p18 : lw_okq (⟨"NineHands$Samples", "leanFits", "(I)Z"⟩, 5) := ⟨⟨by decide +kernel, by decide +kernel⟩, List.mem_of_getElem? (i := 79) (by decide +kernel), List.mem_of_getElem? (i := 548) (by decide +kernel), List.mem_of_getElem? (i := 549) (by decide +kernel)⟩
theorem lw_p19 : lw_okq (⟨"NineHands$Copies", "canComeOf", "(II)Z"⟩, 2) := ⟨⟨by decide +kernel, by decide +kernel⟩, List.mem_of_getElem? (i := 102) (by decide +kernel), List.mem_of_getElem? (i := 601) (by decide +kernel), List.mem_of_getElem? (i := 602) (by decide +kernel)⟩
theorem lw_p20 : lw_okq (⟨"NineHands", "asClerk", "(LNineHands$Clerk;)I"⟩, 9) := ⟨⟨by decide +kernel, by decide +kernel⟩, List.mem_of_getElem? (i := 18) (by decide +kernel), List.mem_of_getElem? (i := 624) (by decide +kernel), List.mem_of_getElem? (i := 625) (by decide +kernel)⟩
theorem lw_p21 : lw_okq (⟨"NineHands", "asTwin", "(LNineHands$Clerk;)I"⟩, 9) := ⟨⟨by decide +kernel, by decide +kernel⟩, List.mem_of_getElem? (i := 18) (by decide +kernel), List.mem_of_getElem? (i := 628) (by decide +kernel), List.mem_of_getElem? (i := 629) (by decide +kernel)⟩
theorem lw_p22 : lw_okq (⟨"NineHands", "asMocker", "(LNineHands$Clerk;)I"⟩, 9) := ⟨⟨by decide +kernel, by decide +kernel⟩, List.mem_of_getElem? (i := 18) (by decide +kernel), List.mem_of_getElem? (i := 633) (by decide +kernel), List.mem_of_getElem? (i := 634) (by decide +kernel)⟩
theorem lw_p23 : lw_okq (⟨"NineHands", "asConstant", "(LNineHands$Clerk;)I"⟩, 9) := ⟨⟨by decide +kernel, by decide +kernel⟩, List.mem_of_getElem? (i := 18) (by decide +kernel), List.mem_of_getElem? (i := 638) (by decide +kernel), List.mem_of_getElem? (i := 639) (by decide +kernel)⟩
theorem lw_p24 : lw_okq (⟨"NineHands", "asLeft", "(LNineHands$Clerk;I)I"⟩, 9) := ⟨⟨by decide +kernel, by decide +kernel⟩, List.mem_of_getElem? (i := 18) (by decide +kernel), List.mem_of_getElem? (i := 643) (by decide +kernel), List.mem_of_getElem? (i := 644) (by decide +kernel)⟩
theorem lw_p25 : lw_okq (⟨"NineHands", "asHasty", "(LNineHands$Clerk;)I"⟩, 9) := ⟨⟨by decide +kernel, by decide +kernel⟩, List.mem_of_getElem? (i := 18) (by decide +kernel), List.mem_of_getElem? (i := 648) (by decide +kernel), List.mem_of_getElem? (i := 649) (by decide +kernel)⟩
theorem lw_p26 : lw_okq (⟨"NineHandsModel", "begins", "(I)V"⟩, 23) := ⟨⟨by decide +kernel, by decide +kernel⟩, List.mem_of_getElem? (i := 675) (by decide +kernel), List.mem_of_getElem? (i := 681) (by decide +kernel), List.mem_of_getElem? (i := 682) (by decide +kernel)⟩
theorem lw_p27 : lw_okq (⟨"NineHandsModel", "advances", "()V"⟩, 23) := ⟨⟨by decide +kernel, by decide +kernel⟩, List.mem_of_getElem? (i := 675) (by decide +kernel), List.mem_of_getElem? (i := 772) (by decide +kernel), List.mem_of_getElem? (i := 773) (by decide +kernel)⟩
theorem lw_p28 : lw_okq (⟨"NineHandsModel", "byteAt", "(I)I"⟩, 23) := ⟨⟨by decide +kernel, by decide +kernel⟩, List.mem_of_getElem? (i := 675) (by decide +kernel), List.mem_of_getElem? (i := 776) (by decide +kernel), List.mem_of_getElem? (i := 777) (by decide +kernel)⟩
theorem lw_p29 : lw_okq (⟨"NineHandsModel", "isWell", "()Z"⟩, 23) := ⟨⟨by decide +kernel, by decide +kernel⟩, List.mem_of_getElem? (i := 675) (by decide +kernel), List.mem_of_getElem? (i := 790) (by decide +kernel), List.mem_of_getElem? (i := 791) (by decide +kernel)⟩
theorem lw_p30 : lw_okq (⟨"NineHandsModel", "takes", "(Z)I"⟩, 23) := ⟨⟨by decide +kernel, by decide +kernel⟩, List.mem_of_getElem? (i := 675) (by decide +kernel), List.mem_of_getElem? (i := 794) (by decide +kernel), List.mem_of_getElem? (i := 795) (by decide +kernel)⟩
theorem lw_p31 : lw_okq (⟨"NineHandsModel", "readsItem", "(I)V"⟩, 23) := ⟨⟨by decide +kernel, by decide +kernel⟩, List.mem_of_getElem? (i := 675) (by decide +kernel), List.mem_of_getElem? (i := 798) (by decide +kernel), List.mem_of_getElem? (i := 799) (by decide +kernel)⟩
def lw_privs_2 : List (MethodName × Nat) := [(⟨"NineHands$Orders", "step", "()Z"⟩, 4), (⟨"NineHands$Orders", "swap", "(II)V"⟩, 4), (⟨"NineHands$Samples", "leanFits", "(I)Z"⟩, 5), (⟨"NineHands$Copies", "canComeOf", "(II)Z"⟩, 2), (⟨"NineHands", "asClerk", "(LNineHands$Clerk;)I"⟩, 9), (⟨"NineHands", "asTwin", "(LNineHands$Clerk;)I"⟩, 9), (⟨"NineHands", "asMocker", "(LNineHands$Clerk;)I"⟩, 9), (⟨"NineHands", "asConstant", "(LNineHands$Clerk;)I"⟩, 9), (⟨"NineHands", "asLeft", "(LNineHands$Clerk;I)I"⟩, 9), (⟨"NineHands", "asHasty", "(LNineHands$Clerk;)I"⟩, 9), (⟨"NineHandsModel", "begins", "(I)V"⟩, 23), (⟨"NineHandsModel", "advances", "()V"⟩, 23), (⟨"NineHandsModel", "byteAt", "(I)I"⟩, 23), (⟨"NineHandsModel", "isWell", "()Z"⟩, 23), (⟨"NineHandsModel", "takes", "(Z)I"⟩, 23), (⟨"NineHandsModel", "readsItem", "(I)V"⟩, 23)]
theorem lw_r2 : ∀ q ∈ lw_privs_2, lw_okq q := List.forall_mem_cons.mpr ⟨lw_p16, List.forall_mem_cons.mpr ⟨lw_p17, List.forall_mem_cons.mpr ⟨lw_p18, List.forall_mem_cons.mpr ⟨lw_p19, List.forall_mem_cons.mpr ⟨lw_p20, List.forall_mem_cons.mpr ⟨lw_p21, List.forall_mem_cons.mpr ⟨lw_p22, List.forall_mem_cons.mpr ⟨lw_p23, List.forall_mem_cons.mpr ⟨lw_p24, List.forall_mem_cons.mpr ⟨lw_p25, List.forall_mem_cons.mpr ⟨lw_p26, List.forall_mem_cons.mpr ⟨lw_p27, List.forall_mem_cons.mpr ⟨lw_p28, List.forall_mem_cons.mpr ⟨lw_p29, List.forall_mem_cons.mpr ⟨lw_p30, List.forall_mem_cons.mpr ⟨lw_p31, fun _ h => absurd h List.not_mem_nil⟩⟩⟩⟩⟩⟩⟩⟩⟩⟩⟩⟩⟩⟩⟩⟩
theorem lw_p32 : lw_okq (⟨"NineHandsModel", "number", "(II)I"⟩, 23) := ⟨⟨by decide +kernel, by decide +kernel⟩, List.mem_of_getElem? (i := 675) (by decide +kernel), List.mem_of_getElem? (i := 802) (by decide +kernel), List.mem_of_getElem? (i := 803) (by decide +kernel)⟩
theorem lw_p33 : lw_okq (⟨"NineHandsModel", "isClerk", "(I)Z"⟩, 23) := ⟨⟨by decide +kernel, by decide +kernel⟩, List.mem_of_getElem? (i := 675) (by decide +kernel), List.mem_of_getElem? (i := 810) (by decide +kernel), List.mem_of_getElem? (i := 811) (by decide +kernel)⟩
theorem lw_p34 : lw_okq (⟨"NineHandsModel", "madeBy", "(II)I"⟩, 23) := ⟨⟨by decide +kernel, by decide +kernel⟩, List.mem_of_getElem? (i := 675) (by decide +kernel), List.mem_of_getElem? (i := 822) (by decide +kernel), List.mem_of_getElem? (i := 823) (by decide +kernel)⟩
theorem lw_p35 : lw_okq (⟨"NineHandsModel", "toneBy", "(II)I"⟩, 23) := ⟨⟨by decide +kernel, by decide +kernel⟩, List.mem_of_getElem? (i := 675) (by decide +kernel), List.mem_of_getElem? (i := 826) (by decide +kernel), List.mem_of_getElem? (i := 827) (by decide +kernel)⟩
theorem lw_p36 : lw_okq (⟨"NineHandsModel", "last", "()I"⟩, 23) := ⟨⟨by decide +kernel, by decide +kernel⟩, List.mem_of_getElem? (i := 675) (by decide +kernel), List.mem_of_getElem? (i := 836) (by decide +kernel), List.mem_of_getElem? (i := 837) (by decide +kernel)⟩
theorem lw_p37 : lw_okq (⟨"NineHandsModel", "puts", "(II)V"⟩, 23) := ⟨⟨by decide +kernel, by decide +kernel⟩, List.mem_of_getElem? (i := 675) (by decide +kernel), List.mem_of_getElem? (i := 840) (by decide +kernel), List.mem_of_getElem? (i := 841) (by decide +kernel)⟩
theorem lw_p38 : lw_okq (⟨"NineHandsModel", "whoOf", "(I)I"⟩, 23) := ⟨⟨by decide +kernel, by decide +kernel⟩, List.mem_of_getElem? (i := 675) (by decide +kernel), List.mem_of_getElem? (i := 864) (by decide +kernel), List.mem_of_getElem? (i := 865) (by decide +kernel)⟩
theorem lw_p39 : lw_okq (⟨"NineHandsModel", "waysOf", "(II)I"⟩, 23) := ⟨⟨by decide +kernel, by decide +kernel⟩, List.mem_of_getElem? (i := 675) (by decide +kernel), List.mem_of_getElem? (i := 868) (by decide +kernel), List.mem_of_getElem? (i := 869) (by decide +kernel)⟩
theorem lw_p40 : lw_okq (⟨"NineHandsModel", "areClerks", "(I)Z"⟩, 23) := ⟨⟨by decide +kernel, by decide +kernel⟩, List.mem_of_getElem? (i := 675) (by decide +kernel), List.mem_of_getElem? (i := 890) (by decide +kernel), List.mem_of_getElem? (i := 891) (by decide +kernel)⟩
theorem lw_p41 : lw_okq (⟨"NineHandsModel", "told", "(III)I"⟩, 23) := ⟨⟨by decide +kernel, by decide +kernel⟩, List.mem_of_getElem? (i := 675) (by decide +kernel), List.mem_of_getElem? (i := 894) (by decide +kernel), List.mem_of_getElem? (i := 895) (by decide +kernel)⟩
theorem lw_p42 : lw_okq (⟨"NineHandsModel", "bestRow", "(II)I"⟩, 23) := ⟨⟨by decide +kernel, by decide +kernel⟩, List.mem_of_getElem? (i := 675) (by decide +kernel), List.mem_of_getElem? (i := 898) (by decide +kernel), List.mem_of_getElem? (i := 899) (by decide +kernel)⟩
theorem lw_p43 : lw_okq (⟨"NineHandsModel", "farBy", "(I)I"⟩, 23) := ⟨⟨by decide +kernel, by decide +kernel⟩, List.mem_of_getElem? (i := 675) (by decide +kernel), List.mem_of_getElem? (i := 902) (by decide +kernel), List.mem_of_getElem? (i := 903) (by decide +kernel)⟩
theorem lw_p44 : lw_okq (⟨"NineHandsModel", "steps", "()Z"⟩, 23) := ⟨⟨by decide +kernel, by decide +kernel⟩, List.mem_of_getElem? (i := 675) (by decide +kernel), List.mem_of_getElem? (i := 909) (by decide +kernel), List.mem_of_getElem? (i := 910) (by decide +kernel)⟩
theorem lw_p45 : lw_okq (⟨"NineHandsModel", "changes", "(II)V"⟩, 23) := ⟨⟨by decide +kernel, by decide +kernel⟩, List.mem_of_getElem? (i := 675) (by decide +kernel), List.mem_of_getElem? (i := 913) (by decide +kernel), List.mem_of_getElem? (i := 914) (by decide +kernel)⟩
theorem lw_p46 : lw_okq (⟨"NineHandsModel", "fitsLean", "(I)Z"⟩, 23) := ⟨⟨by decide +kernel, by decide +kernel⟩, List.mem_of_getElem? (i := 675) (by decide +kernel), List.mem_of_getElem? (i := 929) (by decide +kernel), List.mem_of_getElem? (i := 930) (by decide +kernel)⟩
theorem lw_p47 : lw_okq (⟨"NineHandsModel", "marksBy", "(I)I"⟩, 23) := ⟨⟨by decide +kernel, by decide +kernel⟩, List.mem_of_getElem? (i := 675) (by decide +kernel), List.mem_of_getElem? (i := 933) (by decide +kernel), List.mem_of_getElem? (i := 934) (by decide +kernel)⟩
def lw_privs_3 : List (MethodName × Nat) := [(⟨"NineHandsModel", "number", "(II)I"⟩, 23), (⟨"NineHandsModel", "isClerk", "(I)Z"⟩, 23), (⟨"NineHandsModel", "madeBy", "(II)I"⟩, 23), (⟨"NineHandsModel", "toneBy", "(II)I"⟩, 23), (⟨"NineHandsModel", "last", "()I"⟩, 23), (⟨"NineHandsModel", "puts", "(II)V"⟩, 23), (⟨"NineHandsModel", "whoOf", "(I)I"⟩, 23), (⟨"NineHandsModel", "waysOf", "(II)I"⟩, 23), (⟨"NineHandsModel", "areClerks", "(I)Z"⟩, 23), (⟨"NineHandsModel", "told", "(III)I"⟩, 23), (⟨"NineHandsModel", "bestRow", "(II)I"⟩, 23), (⟨"NineHandsModel", "farBy", "(I)I"⟩, 23), (⟨"NineHandsModel", "steps", "()Z"⟩, 23), (⟨"NineHandsModel", "changes", "(II)V"⟩, 23), (⟨"NineHandsModel", "fitsLean", "(I)Z"⟩, 23), (⟨"NineHandsModel", "marksBy", "(I)I"⟩, 23)]
theorem lw_r3 : ∀ q ∈ lw_privs_3, lw_okq q := List.forall_mem_cons.mpr ⟨lw_p32, List.forall_mem_cons.mpr ⟨lw_p33, List.forall_mem_cons.mpr ⟨lw_p34, List.forall_mem_cons.mpr ⟨lw_p35, List.forall_mem_cons.mpr ⟨lw_p36, List.forall_mem_cons.mpr ⟨lw_p37, List.forall_mem_cons.mpr ⟨lw_p38, List.forall_mem_cons.mpr ⟨lw_p39, List.forall_mem_cons.mpr ⟨lw_p40, List.forall_mem_cons.mpr ⟨lw_p41, List.forall_mem_cons.mpr ⟨lw_p42, List.forall_mem_cons.mpr ⟨lw_p43, List.forall_mem_cons.mpr ⟨lw_p44, List.forall_mem_cons.mpr ⟨lw_p45, List.forall_mem_cons.mpr ⟨lw_p46, List.forall_mem_cons.mpr ⟨lw_p47, fun _ h => absurd h List.not_mem_nil⟩⟩⟩⟩⟩⟩⟩⟩⟩⟩⟩⟩⟩⟩⟩⟩
theorem lw_p48 : lw_okq (⟨"NineHandsModel", "cameOf", "(I)I"⟩, 23) := ⟨⟨by decide +kernel, by decide +kernel⟩, List.mem_of_getElem? (i := 675) (by decide +kernel), List.mem_of_getElem? (i := 949) (by decide +kernel), List.mem_of_getElem? (i := 950) (by decide +kernel)⟩
def lw_privs_4 : List (MethodName × Nat) := [(⟨"NineHandsModel", "cameOf", "(I)I"⟩, 23)]
theorem lw_r4 : ∀ q ∈ lw_privs_4, lw_okq q := List.forall_mem_cons.mpr ⟨lw_p48, fun _ h => absurd h List.not_mem_nil⟩
def lw_privs : List (MethodName × Nat) := lw_privs_1 ++ (lw_privs_2 ++ (lw_privs_3 ++ (lw_privs_4)))
def lw_tbl : List Cond := k2_sels lw_privs ++ tables_1
theorem lw_privs_ok : ∀ q ∈ lw_privs, lw_okq q := by
  show ∀ q ∈ lw_privs_1 ++ (lw_privs_2 ++ (lw_privs_3 ++ (lw_privs_4))), lw_okq q
  exact List.forall_mem_append.mpr ⟨lw_r1, List.forall_mem_append.mpr ⟨lw_r2, List.forall_mem_append.mpr ⟨lw_r3, lw_r4⟩⟩⟩
end
section
/-! ===== BEGIN words of one list among another's, by their places ===== -/
theorem goodIn_r {big : List Cond} (ws : List Cond) (ps : List Nat) (hp : ws = ps.filterMap (fun i => big[i]?)) (h : ws.all goodWord = true) : GoodIn big ws := by
  intro w hw
  have h1 := List.all_eq_true.mp h w hw
  rw [hp] at hw
  obtain ⟨i, -, hi⟩ := List.mem_filterMap.mp hw
  have hm : w ∈ big := by first | exact List.mem_of_getElem? hi | exact List.getElem?_mem hi
  exact ⟨hm, good_of_word h1⟩
theorem goodIn_app {big a b : List Cond} (ha : GoodIn big a) (hb : GoodIn big b) : GoodIn big (a ++ b) := fun w h => (List.mem_append.mp h).elim (ha w) (hb w)
theorem goodIn_ca {big a b : List Cond} {c : Cond} (ha : GoodIn big (c :: a)) (hb : GoodIn big b) : GoodIn big (c :: (a ++ b)) := fun w h => (List.mem_cons.mp h).elim (fun e => ha w (List.mem_cons.mpr (Or.inl e))) (fun h => (List.mem_append.mp h).elim (fun h => ha w (List.mem_cons.mpr (Or.inr h))) (hb w))
theorem goodIn_sub {big ws : List Cond} (hm : ∀ w ∈ ws, w ∈ big) (h : ws.all goodWord = true) : GoodIn big ws := fun w hw => ⟨hm w hw, good_of_word (List.all_eq_true.mp h w hw)⟩
/-! ===== END ===== -/

/-! ===== BEGIN printed: names, fields, word lists, decode rows ===== -/
def RX0 : String := "NineHands$Clerk"
def TX0 : u_T := fun k => match k with
  | 0 => ("NineHands$Clerk", "lean", "I", false)
  | 1 => ("NineHands$Clerk", "sets", "I", false)
  | 2 => ("NineHands$Clerk", "drops", "I", false)
  | _ => ("NineHands$Clerk", "keeps", "I", false)
def tyX0 : Nat → FieldType := fun k => match k with
  | 0 => .int
  | 1 => .int
  | 2 => .int
  | _ => .int
abbrev wsX00 : List Cond := u_ws RX0 TX0 4
theorem nmX0 : ∀ a, a < 4 → ∀ b, b < 4 → a ≠ b → (TX0 a).2.1 ≠ (TX0 b).2.1 := by decide +kernel
theorem tyX0_ok : ∀ k, k < 4 → parseFieldDescriptor (TX0 k).2.2.1 = some (tyX0 k) := by decide +kernel
abbrev cX0_init : ByteArray := prog_2_method_1_code
def yX0_init : MethodName := ⟨RX0, "<init>", "()V"⟩
abbrev cX0_toneBehind : ByteArray := prog_2_method_2_code
def yX0_toneBehind : MethodName := ⟨RX0, "toneBehind", "(I)I"⟩
abbrev cX0_marksBehind : ByteArray := prog_2_method_3_code
def yX0_marksBehind : MethodName := ⟨RX0, "marksBehind", "(I)I"⟩
abbrev cX0_waysTo : ByteArray := prog_2_method_4_code
def yX0_waysTo : MethodName := ⟨RX0, "waysTo", "(IIII)I"⟩
def RX1 : String := "NineHands$Copies"
def TX1 : u_T := fun k => match k with
  | 0 => ("NineHands$Copies", "slips", "[I", true)
  | _ => ("NineHands$Copies", "count", "I", false)
def tyX1 : Nat → FieldType := fun k => match k with
  | 0 => .array .int
  | _ => .int
abbrev wsX10 : List Cond := u_ws RX1 TX1 2
theorem nmX1 : ∀ a, a < 2 → ∀ b, b < 2 → a ≠ b → (TX1 a).2.1 ≠ (TX1 b).2.1 := by decide +kernel
theorem tyX1_ok : ∀ k, k < 2 → parseFieldDescriptor (TX1 k).2.2.1 = some (tyX1 k) := by decide +kernel
abbrev cX1_init : ByteArray := prog_3_method_1_code
def yX1_init : MethodName := ⟨RX1, "<init>", "()V"⟩
abbrev cX1_isFull : ByteArray := prog_3_method_2_code
def yX1_isFull : MethodName := ⟨RX1, "isFull", "()Z"⟩
abbrev cX1_add : ByteArray := prog_3_method_3_code
def yX1_add : MethodName := ⟨RX1, "add", "(I)V"⟩
abbrev cX1_originOf : ByteArray := prog_3_method_4_code
def yX1_originOf : MethodName := ⟨RX1, "originOf", "(I)I"⟩
abbrev cX1_depthOf : ByteArray := prog_3_method_5_code
def yX1_depthOf : MethodName := ⟨RX1, "depthOf", "(I)I"⟩
abbrev cX1_canComeOf : ByteArray := prog_3_method_6_code
def yX1_canComeOf : MethodName := ⟨RX1, "canComeOf", "(II)Z"⟩
def RX2 : String := "NineHands$Letter"
def TX2 : u_T := fun k => match k with
  | 0 => ("NineHands$Letter", "tones", "[I", true)
  | 1 => ("NineHands$Letter", "marks", "[I", true)
  | 2 => ("NineHands$Letter", "writers", "[I", true)
  | 3 => ("NineHands$Letter", "lines", "I", false)
  | _ => ("NineHands$Letter", "luck", "I", false)
def tyX2 : Nat → FieldType := fun k => match k with
  | 0 => .array .int
  | 1 => .array .int
  | 2 => .array .int
  | 3 => .int
  | _ => .int
abbrev wsX20 : List Cond := u_ws RX2 TX2 5
theorem nmX2 : ∀ a, a < 5 → ∀ b, b < 5 → a ≠ b → (TX2 a).2.1 ≠ (TX2 b).2.1 := by decide +kernel
theorem tyX2_ok : ∀ k, k < 5 → parseFieldDescriptor (TX2 k).2.2.1 = some (tyX2 k) := by decide +kernel
abbrev cX2_init : ByteArray := prog_4_method_1_code
def yX2_init : MethodName := ⟨RX2, "<init>", "()V"⟩
abbrev cX2_begin : ByteArray := prog_4_method_2_code
def yX2_begin : MethodName := ⟨RX2, "begin", "(II)V"⟩
abbrev cX2_add : ByteArray := prog_4_method_3_code
def yX2_add : MethodName := ⟨RX2, "add", "(III)V"⟩
abbrev cX2_isBlank : ByteArray := prog_4_method_4_code
def yX2_isBlank : MethodName := ⟨RX2, "isBlank", "()Z"⟩
abbrev cX2_isFull : ByteArray := prog_4_method_5_code
def yX2_isFull : MethodName := ⟨RX2, "isFull", "()Z"⟩
abbrev cX2_lastTone : ByteArray := prog_4_method_6_code
def yX2_lastTone : MethodName := ⟨RX2, "lastTone", "()I"⟩
abbrev cX2_lastMarks : ByteArray := prog_4_method_7_code
def yX2_lastMarks : MethodName := ⟨RX2, "lastMarks", "()I"⟩
abbrev cX2_draw : ByteArray := prog_4_method_8_code
def yX2_draw : MethodName := ⟨RX2, "draw", "()I"⟩
abbrev cX2_become : ByteArray := prog_4_method_9_code
def yX2_become : MethodName := ⟨RX2, "become", "(LNineHands$Letter;)V"⟩
def RX3 : String := "NineHands$Office"
def TX3 : u_T := fun k => match k with
  | 0 => ("NineHands$Office", "clerks", "[LNineHands$Clerk;", true)
  | 1 => ("NineHands$Office", "count", "I", false)
  | 2 => ("NineHands$Office", "letterTold", "Z", false)
  | 3 => ("NineHands$Office", "firstTone", "I", false)
  | _ => ("NineHands$Office", "firstMarks", "I", false)
def tyX3 : Nat → FieldType := fun k => match k with
  | 0 => .array (.object "NineHands$Clerk")
  | 1 => .int
  | 2 => .boolean
  | 3 => .int
  | _ => .int
abbrev wsX30 : List Cond := u_ws RX3 TX3 5
theorem nmX3 : ∀ a, a < 5 → ∀ b, b < 5 → a ≠ b → (TX3 a).2.1 ≠ (TX3 b).2.1 := by decide +kernel
theorem tyX3_ok : ∀ k, k < 5 → parseFieldDescriptor (TX3 k).2.2.1 = some (tyX3 k) := by decide +kernel
abbrev cX3_init : ByteArray := prog_5_method_1_code
def yX3_init : MethodName := ⟨RX3, "<init>", "()V"⟩
abbrev cX3_begin : ByteArray := prog_5_method_2_code
def yX3_begin : MethodName := ⟨RX3, "begin", "()V"⟩
abbrev cX3_find : ByteArray := prog_5_method_3_code
def yX3_find : MethodName := ⟨RX3, "find", "(I)LNineHands$Clerk;"⟩
abbrev cX3_hasAll : ByteArray := prog_5_method_4_code
def yX3_hasAll : MethodName := ⟨RX3, "hasAll", "(I)Z"⟩
abbrev cX3_isFull : ByteArray := prog_5_method_5_code
def yX3_isFull : MethodName := ⟨RX3, "isFull", "()Z"⟩
abbrev cX3_add : ByteArray := prog_5_method_6_code
def yX3_add : MethodName := ⟨RX3, "add", "(IIII)V"⟩
def RX4 : String := "NineHands$Orders"
def TX4 : u_T := fun k => match k with
  | 0 => ("NineHands$Orders", "row", "[I", true)
  | 1 => ("NineHands$Orders", "best", "[I", true)
  | 2 => ("NineHands$Orders", "size", "I", false)
  | _ => ("NineHands$Orders", "least", "I", false)
def tyX4 : Nat → FieldType := fun k => match k with
  | 0 => .array .int
  | 1 => .array .int
  | 2 => .int
  | _ => .int
abbrev wsX40 : List Cond := u_ws RX4 TX4 4
theorem nmX4 : ∀ a, a < 4 → ∀ b, b < 4 → a ≠ b → (TX4 a).2.1 ≠ (TX4 b).2.1 := by decide +kernel
theorem tyX4_ok : ∀ k, k < 4 → parseFieldDescriptor (TX4 k).2.2.1 = some (tyX4 k) := by decide +kernel
abbrev cX4_init : ByteArray := prog_6_method_1_code
def yX4_init : MethodName := ⟨RX4, "<init>", "()V"⟩
abbrev cX4_seek : ByteArray := prog_6_method_2_code
def yX4_seek : MethodName := ⟨RX4, "seek", "(LNineHands$Office;IIIZ)V"⟩
abbrev cX4_answer : ByteArray := prog_6_method_3_code
def yX4_answer : MethodName := ⟨RX4, "answer", "(I)I"⟩
abbrev cX4_lineUp : ByteArray := prog_6_method_4_code
def yX4_lineUp : MethodName := ⟨RX4, "lineUp", "(I)V"⟩
abbrev cX4_keepRow : ByteArray := prog_6_method_5_code
def yX4_keepRow : MethodName := ⟨RX4, "keepRow", "()V"⟩
abbrev cX4_stray : ByteArray := prog_6_method_6_code
def yX4_stray : MethodName := ⟨RX4, "stray", "(LNineHands$Office;IIZ)I"⟩
abbrev cX4_step : ByteArray := prog_6_method_7_code
def yX4_step : MethodName := ⟨RX4, "step", "()Z"⟩
abbrev cX4_swap : ByteArray := prog_6_method_8_code
def yX4_swap : MethodName := ⟨RX4, "swap", "(II)V"⟩
def RX5 : String := "NineHands$Samples"
def TX5 : u_T := fun k => match k with
  | 0 => ("NineHands$Samples", "tones", "[I", true)
  | 1 => ("NineHands$Samples", "marks", "[I", true)
  | 2 => ("NineHands$Samples", "thenTones", "[I", true)
  | 3 => ("NineHands$Samples", "thenMarks", "[I", true)
  | _ => ("NineHands$Samples", "count", "I", false)
def tyX5 : Nat → FieldType := fun k => match k with
  | 0 => .array .int
  | 1 => .array .int
  | 2 => .array .int
  | 3 => .array .int
  | _ => .int
abbrev wsX50 : List Cond := u_ws RX5 TX5 5
theorem nmX5 : ∀ a, a < 5 → ∀ b, b < 5 → a ≠ b → (TX5 a).2.1 ≠ (TX5 b).2.1 := by decide +kernel
theorem tyX5_ok : ∀ k, k < 5 → parseFieldDescriptor (TX5 k).2.2.1 = some (tyX5 k) := by decide +kernel
abbrev cX5_init : ByteArray := prog_7_method_1_code
def yX5_init : MethodName := ⟨RX5, "<init>", "()V"⟩
abbrev cX5_isFull : ByteArray := prog_7_method_2_code
def yX5_isFull : MethodName := ⟨RX5, "isFull", "()Z"⟩
abbrev cX5_add : ByteArray := prog_7_method_3_code
def yX5_add : MethodName := ⟨RX5, "add", "(IIII)V"⟩
abbrev cX5_leastLean : ByteArray := prog_7_method_4_code
def yX5_leastLean : MethodName := ⟨RX5, "leastLean", "()I"⟩
abbrev cX5_greatestLean : ByteArray := prog_7_method_5_code
def yX5_greatestLean : MethodName := ⟨RX5, "greatestLean", "()I"⟩
abbrev cX5_leanFits : ByteArray := prog_7_method_6_code
def yX5_leanFits : MethodName := ⟨RX5, "leanFits", "(I)Z"⟩
abbrev cX5_marksFit : ByteArray := prog_7_method_7_code
def yX5_marksFit : MethodName := ⟨RX5, "marksFit", "()Z"⟩
abbrev cX5_maySet : ByteArray := prog_7_method_8_code
def yX5_maySet : MethodName := ⟨RX5, "maySet", "()I"⟩
abbrev cX5_mayDrop : ByteArray := prog_7_method_9_code
def yX5_mayDrop : MethodName := ⟨RX5, "mayDrop", "()I"⟩
abbrev cX5_mayLeave : ByteArray := prog_7_method_10_code
def yX5_mayLeave : MethodName := ⟨RX5, "mayLeave", "()I"⟩
def RX6 : String := "NineHands$Text"
def TX6 : u_T := fun k => match k with
  | 0 => ("NineHands$Text", "bytes", "[B", true)
  | 1 => ("NineHands$Text", "length", "I", false)
  | 2 => ("NineHands$Text", "next", "I", false)
  | 3 => ("NineHands$Text", "start", "I", false)
  | _ => ("NineHands$Text", "number", "I", false)
def tyX6 : Nat → FieldType := fun k => match k with
  | 0 => .array .byte
  | 1 => .int
  | 2 => .int
  | 3 => .int
  | _ => .int
abbrev wsX60 : List Cond := u_ws RX6 TX6 5
theorem nmX6 : ∀ a, a < 5 → ∀ b, b < 5 → a ≠ b → (TX6 a).2.1 ≠ (TX6 b).2.1 := by decide +kernel
theorem tyX6_ok : ∀ k, k < 5 → parseFieldDescriptor (TX6 k).2.2.1 = some (tyX6 k) := by decide +kernel
abbrev cX6_init : ByteArray := prog_8_method_1_code
def yX6_init : MethodName := ⟨RX6, "<init>", "()V"⟩
abbrev cX6_append : ByteArray := prog_8_method_2_code
def yX6_append : MethodName := ⟨RX6, "append", "(JI)V"⟩
abbrev cX6_readInto : ByteArray := prog_8_method_3_code
def yX6_readInto : MethodName := ⟨RX6, "readInto", "(LNineHands$Office;)I"⟩
abbrev cX6_readItem : ByteArray := prog_8_method_4_code
def yX6_readItem : MethodName := ⟨RX6, "readItem", "(LNineHands$Office;)Z"⟩
abbrev cX6_readClerk : ByteArray := prog_8_method_5_code
def yX6_readClerk : MethodName := ⟨RX6, "readClerk", "(LNineHands$Office;)Z"⟩
abbrev cX6_readFirstLine : ByteArray := prog_8_method_6_code
def yX6_readFirstLine : MethodName := ⟨RX6, "readFirstLine", "(LNineHands$Office;)Z"⟩
abbrev cX6_takeNumber : ByteArray := prog_8_method_7_code
def yX6_takeNumber : MethodName := ⟨RX6, "takeNumber", "(I)Z"⟩
abbrev cX6_take : ByteArray := prog_8_method_8_code
def yX6_take : MethodName := ⟨RX6, "take", "()I"⟩
abbrev cX6_sortOf : ByteArray := prog_8_method_9_code
def yX6_sortOf : MethodName := ⟨RX6, "sortOf", "(I)I"⟩
abbrev cX6_tookWord : ByteArray := prog_8_method_10_code
def yX6_tookWord : MethodName := ⟨RX6, "tookWord", "(Ljava/lang/String;)Z"⟩
def RX7 : String := "NineHands"
def TX7 : u_T := fun k => match k with
  | 0 => ("NineHands", "text", "LNineHands$Text;", true)
  | 1 => ("NineHands", "letter", "LNineHands$Letter;", true)
  | 2 => ("NineHands", "images", "[LNineHands$Letter;", true)
  | 3 => ("NineHands", "samples", "LNineHands$Samples;", true)
  | 4 => ("NineHands", "copies", "LNineHands$Copies;", true)
  | 5 => ("NineHands", "orders", "LNineHands$Orders;", true)
  | 6 => ("NineHands", "office", "LNineHands$Office;", false)
  | 7 => ("NineHands", "draft", "LNineHands$Office;", false)
  | _ => ("NineHands", "traced", "J", false)
def tyX7 : Nat → FieldType := fun k => match k with
  | 0 => .object "NineHands$Text"
  | 1 => .object "NineHands$Letter"
  | 2 => .array (.object "NineHands$Letter")
  | 3 => .object "NineHands$Samples"
  | 4 => .object "NineHands$Copies"
  | 5 => .object "NineHands$Orders"
  | 6 => .object "NineHands$Office"
  | 7 => .object "NineHands$Office"
  | _ => .long
abbrev wsX70 : List Cond := u_ws RX7 TX7 9
theorem nmX7 : ∀ a, a < 9 → ∀ b, b < 9 → a ≠ b → (TX7 a).2.1 ≠ (TX7 b).2.1 := by decide +kernel
theorem tyX7_ok : ∀ k, k < 9 → parseFieldDescriptor (TX7 k).2.2.1 = some (tyX7 k) := by decide +kernel
abbrev cX7_init : ByteArray := prog_1_method_1_code
def yX7_init : MethodName := ⟨RX7, "<init>", "()V"⟩
abbrev cX7_type : ByteArray := prog_1_method_2_code
def yX7_type : MethodName := ⟨RX7, "type", "(JI)I"⟩
abbrev cX7_clear : ByteArray := prog_1_method_3_code
def yX7_clear : MethodName := ⟨RX7, "clear", "()I"⟩
abbrev cX7_chancery : ByteArray := prog_1_method_4_code
def yX7_chancery : MethodName := ⟨RX7, "chancery", "()I"⟩
abbrev cX7_clerk : ByteArray := prog_1_method_5_code
def yX7_clerk : MethodName := ⟨RX7, "clerk", "(II)I"⟩
abbrev cX7_line : ByteArray := prog_1_method_6_code
def yX7_line : MethodName := ⟨RX7, "line", "(II)I"⟩
abbrev cX7_makes : ByteArray := prog_1_method_7_code
def yX7_makes : MethodName := ⟨RX7, "makes", "(III)I"⟩
abbrev cX7_write : ByteArray := prog_1_method_8_code
def yX7_write : MethodName := ⟨RX7, "write", "(I)I"⟩
abbrev cX7_forge : ByteArray := prog_1_method_9_code
def yX7_forge : MethodName := ⟨RX7, "forge", "(II)I"⟩
abbrev cX7_undo : ByteArray := prog_1_method_10_code
def yX7_undo : MethodName := ⟨RX7, "undo", "()I"⟩
abbrev cX7_lot : ByteArray := prog_1_method_11_code
def yX7_lot : MethodName := ⟨RX7, "lot", "(I)I"⟩
abbrev cX7_turned : ByteArray := prog_1_method_12_code
def yX7_turned : MethodName := ⟨RX7, "turned", "()I"⟩
abbrev cX7_who : ByteArray := prog_1_method_13_code
def yX7_who : MethodName := ⟨RX7, "who", "(II)I"⟩
abbrev cX7_rows : ByteArray := prog_1_method_14_code
def yX7_rows : MethodName := ⟨RX7, "rows", "()I"⟩
abbrev cX7_odds : ByteArray := prog_1_method_15_code
def yX7_odds : MethodName := ⟨RX7, "odds", "(III)I"⟩
abbrev cX7_order : ByteArray := prog_1_method_16_code
def yX7_order : MethodName := ⟨RX7, "order", "(III)I"⟩
abbrev cX7_drift : ByteArray := prog_1_method_17_code
def yX7_drift : MethodName := ⟨RX7, "drift", "(II)I"⟩
abbrev cX7_sign : ByteArray := prog_1_method_18_code
def yX7_sign : MethodName := ⟨RX7, "sign", "(IIII)I"⟩
abbrev cX7_learnt : ByteArray := prog_1_method_19_code
def yX7_learnt : MethodName := ⟨RX7, "learnt", "(I)I"⟩
abbrev cX7_forget : ByteArray := prog_1_method_20_code
def yX7_forget : MethodName := ⟨RX7, "forget", "()I"⟩
abbrev cX7_copy : ByteArray := prog_1_method_21_code
def yX7_copy : MethodName := ⟨RX7, "copy", "(I)I"⟩
abbrev cX7_came : ByteArray := prog_1_method_22_code
def yX7_came : MethodName := ⟨RX7, "came", "(II)I"⟩
abbrev cX7_firsts : ByteArray := prog_1_method_23_code
def yX7_firsts : MethodName := ⟨RX7, "firsts", "()I"⟩
abbrev cX7_burn : ByteArray := prog_1_method_24_code
def yX7_burn : MethodName := ⟨RX7, "burn", "()I"⟩
abbrev cX7_rate : ByteArray := prog_1_method_25_code
def yX7_rate : MethodName := ⟨RX7, "rate", "(II)I"⟩
abbrev cX7_keep : ByteArray := prog_1_method_26_code
def yX7_keep : MethodName := ⟨RX7, "keep", "(I)I"⟩
abbrev cX7_back : ByteArray := prog_1_method_27_code
def yX7_back : MethodName := ⟨RX7, "back", "(I)I"⟩
abbrev cX7_count : ByteArray := prog_1_method_28_code
def yX7_count : MethodName := ⟨RX7, "count", "(I)I"⟩
abbrev cX7_trace : ByteArray := prog_1_method_29_code
def yX7_trace : MethodName := ⟨RX7, "trace", "()J"⟩
abbrev cX7_beginAnew : ByteArray := prog_1_method_30_code
def yX7_beginAnew : MethodName := ⟨RX7, "beginAnew", "()V"⟩
abbrev cX7_isTone : ByteArray := prog_1_method_31_code
def yX7_isTone : MethodName := ⟨RX7, "isTone", "(I)Z"⟩
abbrev cX7_isLine : ByteArray := prog_1_method_32_code
def yX7_isLine : MethodName := ⟨RX7, "isLine", "(II)Z"⟩
abbrev cX7_isWarm : ByteArray := prog_1_method_33_code
def yX7_isWarm : MethodName := ⟨RX7, "isWarm", "(I)Z"⟩
abbrev cX7_leant : ByteArray := prog_1_method_34_code
def yX7_leant : MethodName := ⟨RX7, "leant", "(II)I"⟩
abbrev cX7_told : ByteArray := prog_1_method_35_code
def yX7_told : MethodName := ⟨RX7, "told", "(II)I"⟩
abbrev cX7_hasLineAhead : ByteArray := prog_1_method_36_code
def yX7_hasLineAhead : MethodName := ⟨RX7, "hasLineAhead", "(I)Z"⟩
abbrev cX7_waysOf : ByteArray := prog_1_method_37_code
def yX7_waysOf : MethodName := ⟨RX7, "waysOf", "(II)I"⟩
abbrev cX7_waysOfAll : ByteArray := prog_1_method_38_code
def yX7_waysOfAll : MethodName := ⟨RX7, "waysOfAll", "(I)I"⟩
abbrev cX7_writersOf : ByteArray := prog_1_method_39_code
def yX7_writersOf : MethodName := ⟨RX7, "writersOf", "(I)I"⟩
abbrev cX7_likeliestOf : ByteArray := prog_1_method_40_code
def yX7_likeliestOf : MethodName := ⟨RX7, "likeliestOf", "(I)I"⟩
abbrev cX7_sharedDivisor : ByteArray := prog_1_method_41_code
def yX7_sharedDivisor : MethodName := ⟨RX7, "sharedDivisor", "(II)I"⟩
abbrev cX7_asClerk : ByteArray := prog_1_method_42_code
def yX7_asClerk : MethodName := ⟨RX7, "asClerk", "(LNineHands$Clerk;)I"⟩
abbrev cX7_asTwin : ByteArray := prog_1_method_43_code
def yX7_asTwin : MethodName := ⟨RX7, "asTwin", "(LNineHands$Clerk;)I"⟩
abbrev cX7_asMocker : ByteArray := prog_1_method_44_code
def yX7_asMocker : MethodName := ⟨RX7, "asMocker", "(LNineHands$Clerk;)I"⟩
abbrev cX7_asConstant : ByteArray := prog_1_method_45_code
def yX7_asConstant : MethodName := ⟨RX7, "asConstant", "(LNineHands$Clerk;)I"⟩
abbrev cX7_asLeft : ByteArray := prog_1_method_46_code
def yX7_asLeft : MethodName := ⟨RX7, "asLeft", "(LNineHands$Clerk;I)I"⟩
abbrev cX7_asHasty : ByteArray := prog_1_method_47_code
def yX7_asHasty : MethodName := ⟨RX7, "asHasty", "(LNineHands$Clerk;)I"⟩
def RX8 : String := "NineHandsModel"
def TX8 : u_T := fun k => match k with
  | 0 => ("NineHandsModel", "thrown", "I", false)
  | 1 => ("NineHandsModel", "trace", "J", false)
  | 2 => ("NineHandsModel", "text", "[I", true)
  | 3 => ("NineHandsModel", "typed", "I", false)
  | 4 => ("NineHandsModel", "next", "I", false)
  | 5 => ("NineHandsModel", "token", "I", false)
  | 6 => ("NineHandsModel", "place", "I", false)
  | 7 => ("NineHandsModel", "value", "I", false)
  | 8 => ("NineHandsModel", "fault", "I", false)
  | 9 => ("NineHandsModel", "clerk", "[I", true)
  | 10 => ("NineHandsModel", "clerks", "I", false)
  | 11 => ("NineHandsModel", "draftClerks", "I", false)
  | 12 => ("NineHandsModel", "draftLine", "I", false)
  | 13 => ("NineHandsModel", "s", "[I", true)
  | 14 => ("NineHandsModel", "kept", "[I", true)
  | 15 => ("NineHandsModel", "isKept", "[Z", true)
  | 16 => ("NineHandsModel", "signed", "[I", true)
  | 17 => ("NineHandsModel", "signMany", "I", false)
  | 18 => ("NineHandsModel", "slips", "[I", true)
  | 19 => ("NineHandsModel", "copies", "I", false)
  | 20 => ("NineHandsModel", "row", "[I", true)
  | 21 => ("NineHandsModel", "best", "[I", true)
  | _ => ("NineHandsModel", "rowMany", "I", false)
def tyX8 : Nat → FieldType := fun k => match k with
  | 0 => .int
  | 1 => .long
  | 2 => .array .int
  | 3 => .int
  | 4 => .int
  | 5 => .int
  | 6 => .int
  | 7 => .int
  | 8 => .int
  | 9 => .array .int
  | 10 => .int
  | 11 => .int
  | 12 => .int
  | 13 => .array .int
  | 14 => .array .int
  | 15 => .array .boolean
  | 16 => .array .int
  | 17 => .int
  | 18 => .array .int
  | 19 => .int
  | 20 => .array .int
  | 21 => .array .int
  | _ => .int
abbrev wsX80 : List Cond := u_ws RX8 TX8 23
theorem nmX8 : ∀ a, a < 23 → ∀ b, b < 23 → a ≠ b → (TX8 a).2.1 ≠ (TX8 b).2.1 := by decide +kernel
theorem tyX8_ok : ∀ k, k < 23 → parseFieldDescriptor (TX8 k).2.2.1 = some (tyX8 k) := by decide +kernel
abbrev cX8_init : ByteArray := prog_10_method_1_code
def yX8_init : MethodName := ⟨RX8, "<init>", "()V"⟩
abbrev cX8_in : ByteArray := prog_10_method_3_code
def yX8_in : MethodName := ⟨RX8, "in", "(III)Z"⟩
abbrev cX8_size : ByteArray := prog_10_method_4_code
def yX8_size : MethodName := ⟨RX8, "size", "(I)I"⟩
abbrev cX8_ones : ByteArray := prog_10_method_5_code
def yX8_ones : MethodName := ⟨RX8, "ones", "(I)I"⟩
abbrev cX8_type : ByteArray := prog_10_method_6_code
def yX8_type : MethodName := ⟨RX8, "type", "(JI)I"⟩
abbrev cX8_clear : ByteArray := prog_10_method_7_code
def yX8_clear : MethodName := ⟨RX8, "clear", "()I"⟩
abbrev cX8_byteAt : ByteArray := prog_10_method_8_code
def yX8_byteAt : MethodName := ⟨RX8, "byteAt", "(I)I"⟩
abbrev cX8_add : ByteArray := prog_10_method_9_code
def yX8_add : MethodName := ⟨RX8, "add", "(JI)J"⟩
abbrev cX8_named : ByteArray := prog_10_method_10_code
def yX8_named : MethodName := ⟨RX8, "named", "(IIIIII)J"⟩
abbrev cX8_wordOf : ByteArray := prog_10_method_11_code
def yX8_wordOf : MethodName := ⟨RX8, "wordOf", "(J)I"⟩
abbrev cX8_advances : ByteArray := prog_10_method_12_code
def yX8_advances : MethodName := ⟨RX8, "advances", "()V"⟩
abbrev cX8_isWell : ByteArray := prog_10_method_13_code
def yX8_isWell : MethodName := ⟨RX8, "isWell", "()Z"⟩
abbrev cX8_takes : ByteArray := prog_10_method_14_code
def yX8_takes : MethodName := ⟨RX8, "takes", "(Z)I"⟩
abbrev cX8_number : ByteArray := prog_10_method_15_code
def yX8_number : MethodName := ⟨RX8, "number", "(II)I"⟩
abbrev cX8_readsItem : ByteArray := prog_10_method_16_code
def yX8_readsItem : MethodName := ⟨RX8, "readsItem", "(I)V"⟩
abbrev cX8_chancery : ByteArray := prog_10_method_17_code
def yX8_chancery : MethodName := ⟨RX8, "chancery", "()I"⟩
abbrev cX8_begins : ByteArray := prog_10_method_18_code
def yX8_begins : MethodName := ⟨RX8, "begins", "(I)V"⟩
abbrev cX8_isClerk : ByteArray := prog_10_method_19_code
def yX8_isClerk : MethodName := ⟨RX8, "isClerk", "(I)Z"⟩
abbrev cX8_clerk : ByteArray := prog_10_method_20_code
def yX8_clerk : MethodName := ⟨RX8, "clerk", "(II)I"⟩
abbrev cX8_line : ByteArray := prog_10_method_21_code
def yX8_line : MethodName := ⟨RX8, "line", "(II)I"⟩
abbrev cX8_toneBy : ByteArray := prog_10_method_22_code
def yX8_toneBy : MethodName := ⟨RX8, "toneBy", "(II)I"⟩
abbrev cX8_madeBy : ByteArray := prog_10_method_23_code
def yX8_madeBy : MethodName := ⟨RX8, "madeBy", "(II)I"⟩
abbrev cX8_makes : ByteArray := prog_10_method_24_code
def yX8_makes : MethodName := ⟨RX8, "makes", "(III)I"⟩
abbrev cX8_last : ByteArray := prog_10_method_25_code
def yX8_last : MethodName := ⟨RX8, "last", "()I"⟩
abbrev cX8_puts : ByteArray := prog_10_method_26_code
def yX8_puts : MethodName := ⟨RX8, "puts", "(II)V"⟩
abbrev cX8_write : ByteArray := prog_10_method_27_code
def yX8_write : MethodName := ⟨RX8, "write", "(I)I"⟩
abbrev cX8_forge : ByteArray := prog_10_method_28_code
def yX8_forge : MethodName := ⟨RX8, "forge", "(II)I"⟩
abbrev cX8_undo : ByteArray := prog_10_method_29_code
def yX8_undo : MethodName := ⟨RX8, "undo", "()I"⟩
abbrev cX8_lot : ByteArray := prog_10_method_30_code
def yX8_lot : MethodName := ⟨RX8, "lot", "(I)I"⟩
abbrev cX8_turned : ByteArray := prog_10_method_31_code
def yX8_turned : MethodName := ⟨RX8, "turned", "()I"⟩
abbrev cX8_waysOf : ByteArray := prog_10_method_32_code
def yX8_waysOf : MethodName := ⟨RX8, "waysOf", "(II)I"⟩
abbrev cX8_whoOf : ByteArray := prog_10_method_33_code
def yX8_whoOf : MethodName := ⟨RX8, "whoOf", "(I)I"⟩
abbrev cX8_who : ByteArray := prog_10_method_34_code
def yX8_who : MethodName := ⟨RX8, "who", "(II)I"⟩
abbrev cX8_rows : ByteArray := prog_10_method_35_code
def yX8_rows : MethodName := ⟨RX8, "rows", "()I"⟩
abbrev cX8_gcd : ByteArray := prog_10_method_36_code
def yX8_gcd : MethodName := ⟨RX8, "gcd", "(II)I"⟩
abbrev cX8_odds : ByteArray := prog_10_method_37_code
def yX8_odds : MethodName := ⟨RX8, "odds", "(III)I"⟩
abbrev cX8_steps : ByteArray := prog_10_method_38_code
def yX8_steps : MethodName := ⟨RX8, "steps", "()Z"⟩
abbrev cX8_changes : ByteArray := prog_10_method_39_code
def yX8_changes : MethodName := ⟨RX8, "changes", "(II)V"⟩
abbrev cX8_farBy : ByteArray := prog_10_method_40_code
def yX8_farBy : MethodName := ⟨RX8, "farBy", "(I)I"⟩
abbrev cX8_bestRow : ByteArray := prog_10_method_41_code
def yX8_bestRow : MethodName := ⟨RX8, "bestRow", "(II)I"⟩
abbrev cX8_told : ByteArray := prog_10_method_42_code
def yX8_told : MethodName := ⟨RX8, "told", "(III)I"⟩
abbrev cX8_areClerks : ByteArray := prog_10_method_43_code
def yX8_areClerks : MethodName := ⟨RX8, "areClerks", "(I)Z"⟩
abbrev cX8_order : ByteArray := prog_10_method_44_code
def yX8_order : MethodName := ⟨RX8, "order", "(III)I"⟩
abbrev cX8_drift : ByteArray := prog_10_method_45_code
def yX8_drift : MethodName := ⟨RX8, "drift", "(II)I"⟩
abbrev cX8_sign : ByteArray := prog_10_method_46_code
def yX8_sign : MethodName := ⟨RX8, "sign", "(IIII)I"⟩
abbrev cX8_fitsLean : ByteArray := prog_10_method_47_code
def yX8_fitsLean : MethodName := ⟨RX8, "fitsLean", "(I)Z"⟩
abbrev cX8_marksBy : ByteArray := prog_10_method_48_code
def yX8_marksBy : MethodName := ⟨RX8, "marksBy", "(I)I"⟩
abbrev cX8_learnt : ByteArray := prog_10_method_49_code
def yX8_learnt : MethodName := ⟨RX8, "learnt", "(I)I"⟩
abbrev cX8_forget : ByteArray := prog_10_method_50_code
def yX8_forget : MethodName := ⟨RX8, "forget", "()I"⟩
abbrev cX8_copy : ByteArray := prog_10_method_51_code
def yX8_copy : MethodName := ⟨RX8, "copy", "(I)I"⟩
abbrev cX8_cameOf : ByteArray := prog_10_method_52_code
def yX8_cameOf : MethodName := ⟨RX8, "cameOf", "(I)I"⟩
abbrev cX8_came : ByteArray := prog_10_method_53_code
def yX8_came : MethodName := ⟨RX8, "came", "(II)I"⟩
abbrev cX8_firsts : ByteArray := prog_10_method_54_code
def yX8_firsts : MethodName := ⟨RX8, "firsts", "()I"⟩
abbrev cX8_burn : ByteArray := prog_10_method_55_code
def yX8_burn : MethodName := ⟨RX8, "burn", "()I"⟩
abbrev cX8_rate : ByteArray := prog_10_method_56_code
def yX8_rate : MethodName := ⟨RX8, "rate", "(II)I"⟩
abbrev cX8_keep : ByteArray := prog_10_method_57_code
def yX8_keep : MethodName := ⟨RX8, "keep", "(I)I"⟩
abbrev cX8_back : ByteArray := prog_10_method_58_code
def yX8_back : MethodName := ⟨RX8, "back", "(I)I"⟩
abbrev cX8_count : ByteArray := prog_10_method_59_code
def yX8_count : MethodName := ⟨RX8, "count", "(I)I"⟩
abbrev cX8_trace : ByteArray := prog_10_method_60_code
def yX8_trace : MethodName := ⟨RX8, "trace", "()J"⟩
def RJ6 : String := "java/lang/Integer"
def TJ6 : u_T := fun k => match k with
  | _ => ("", "", "", false)
def tyJ6 : Nat → FieldType := fun k => match k with
  | _ => .int
abbrev wsJ60 : List Cond := u_ws RJ6 TJ6 0
theorem nmJ6 : ∀ a, a < 0 → ∀ b, b < 0 → a ≠ b → (TJ6 a).2.1 ≠ (TJ6 b).2.1 := by decide +kernel
theorem tyJ6_ok : ∀ k, k < 0 → parseFieldDescriptor (TJ6 k).2.2.1 = some (tyJ6 k) := by decide +kernel
abbrev cJ6_bitCount_0f7a4 : ByteArray := prog_11_method_49_code
def yJ6_bitCount_0f7a4 : MethodName := ⟨RJ6, "bitCount", "(I)I"⟩
def RJ9 : String := "java/lang/Math"
def TJ9 : u_T := fun k => match k with
  | _ => ("", "", "", false)
def tyJ9 : Nat → FieldType := fun k => match k with
  | _ => .int
abbrev wsJ90 : List Cond := u_ws RJ9 TJ9 0
theorem nmJ9 : ∀ a, a < 0 → ∀ b, b < 0 → a ≠ b → (TJ9 a).2.1 ≠ (TJ9 b).2.1 := by decide +kernel
theorem tyJ9_ok : ∀ k, k < 0 → parseFieldDescriptor (TJ9 k).2.2.1 = some (tyJ9 k) := by decide +kernel
abbrev cJ9_abs_0f7a4 : ByteArray := prog_12_method_59_code
def yJ9_abs_0f7a4 : MethodName := ⟨RJ9, "abs", "(I)I"⟩
abbrev cJ9_max_7cf53 : ByteArray := prog_12_method_65_code
def yJ9_max_7cf53 : MethodName := ⟨RJ9, "max", "(II)I"⟩
abbrev cJ9_min_7cf53 : ByteArray := prog_12_method_69_code
def yJ9_min_7cf53 : MethodName := ⟨RJ9, "min", "(II)I"⟩
def RJ0 : String := "java/lang/String"
def TJ0 : u_T := fun k => match k with
  | _ => ("", "", "", false)
def tyJ0 : Nat → FieldType := fun k => match k with
  | _ => .int
abbrev wsJ00 : List Cond := u_ws RJ0 TJ0 0
theorem nmJ0 : ∀ a, a < 0 → ∀ b, b < 0 → a ≠ b → (TJ0 a).2.1 ≠ (TJ0 b).2.1 := by decide +kernel
theorem tyJ0_ok : ∀ k, k < 0 → parseFieldDescriptor (TJ0 k).2.2.1 = some (tyJ0 k) := by decide +kernel
abbrev cJ0_length_8abf5 : ByteArray := prog_13_method_54_code
def yJ0_length_8abf5 : MethodName := ⟨RJ0, "length", "()I"⟩
abbrev cJ0_charAt_5068e : ByteArray := prog_13_method_56_code
def yJ0_charAt_5068e : MethodName := ⟨RJ0, "charAt", "(I)C"⟩
abbrev cJ0_coder_7d493 : ByteArray := prog_13_method_152_code
def yJ0_coder_7d493 : MethodName := ⟨RJ0, "coder", "()B"⟩
abbrev cJ0_isLatin1_aae02 : ByteArray := prog_13_method_154_code
def yJ0_isLatin1_aae02 : MethodName := ⟨RJ0, "isLatin1", "()Z"⟩
abbrev cJ0_checkIndex_df160 : ByteArray := prog_13_method_155_code
def yJ0_checkIndex_df160 : MethodName := ⟨RJ0, "checkIndex", "(II)V"⟩
def RJ1 : String := "java/lang/StringLatin1"
def TJ1 : u_T := fun k => match k with
  | _ => ("", "", "", false)
def tyJ1 : Nat → FieldType := fun k => match k with
  | _ => .int
abbrev wsJ10 : List Cond := u_ws RJ1 TJ1 0
theorem nmJ1 : ∀ a, a < 0 → ∀ b, b < 0 → a ≠ b → (TJ1 a).2.1 ≠ (TJ1 b).2.1 := by decide +kernel
theorem tyJ1_ok : ∀ k, k < 0 → parseFieldDescriptor (TJ1 k).2.2.1 = some (tyJ1 k) := by decide +kernel
abbrev cJ1_charAt_3b067 : ByteArray := prog_14_method_2_code
def yJ1_charAt_3b067 : MethodName := ⟨RJ1, "charAt", "([BI)C"⟩
def RJ2 : String := "java/lang/StringUTF16"
def TJ2 : u_T := fun k => match k with
  | _ => ("", "", "", false)
def tyJ2 : Nat → FieldType := fun k => match k with
  | _ => .int
abbrev wsJ20 : List Cond := u_ws RJ2 TJ2 0
theorem nmJ2 : ∀ a, a < 0 → ∀ b, b < 0 → a ≠ b → (TJ2 a).2.1 ≠ (TJ2 b).2.1 := by decide +kernel
theorem tyJ2_ok : ∀ k, k < 0 → parseFieldDescriptor (TJ2 k).2.2.1 = some (tyJ2 k) := by decide +kernel
abbrev cJ2_getChar_3b067 : ByteArray := prog_15_method_5_code
def yJ2_getChar_3b067 : MethodName := ⟨RJ2, "getChar", "([BI)C"⟩
abbrev cJ2_length_9d52b : ByteArray := prog_15_method_6_code
def yJ2_length_9d52b : MethodName := ⟨RJ2, "length", "([B)I"⟩
abbrev cJ2_charAt_3b067 : ByteArray := prog_15_method_83_code
def yJ2_charAt_3b067 : MethodName := ⟨RJ2, "charAt", "([BI)C"⟩
abbrev cJ2_checkIndex_2214a : ByteArray := prog_15_method_91_code
def yJ2_checkIndex_2214a : MethodName := ⟨RJ2, "checkIndex", "(I[B)V"⟩
def RJ10 : String := "java/lang/System"
def TJ10 : u_T := fun k => match k with
  | _ => ("", "", "", false)
def tyJ10 : Nat → FieldType := fun k => match k with
  | _ => .int
abbrev wsJ100 : List Cond := u_ws RJ10 TJ10 0
theorem nmJ10 : ∀ a, a < 0 → ∀ b, b < 0 → a ≠ b → (TJ10 a).2.1 ≠ (TJ10 b).2.1 := by decide +kernel
theorem tyJ10_ok : ∀ k, k < 0 → parseFieldDescriptor (TJ10 k).2.2.1 = some (tyJ10 k) := by decide +kernel
def RJ3 : String := "jdk/internal/util/Preconditions"
def TJ3 : u_T := fun k => match k with
  | _ => ("", "", "", false)
def tyJ3 : Nat → FieldType := fun k => match k with
  | _ => .int
abbrev wsJ30 : List Cond := u_ws RJ3 TJ3 0
theorem nmJ3 : ∀ a, a < 0 → ∀ b, b < 0 → a ≠ b → (TJ3 a).2.1 ≠ (TJ3 b).2.1 := by decide +kernel
theorem tyJ3_ok : ∀ k, k < 0 → parseFieldDescriptor (TJ3 k).2.2.1 = some (tyJ3 k) := by decide +kernel
abbrev cJ3_checkIndex_8e157 : ByteArray := prog_17_method_11_code
def yJ3_checkIndex_8e157 : MethodName := ⟨RJ3, "checkIndex", "(IILjava/util/function/BiFunction;)I"⟩
def RL : String := "NineHandsLaw"
abbrev cL_law : ByteArray := code
def yL_law : MethodName := ⟨RL, "law", "([I)Z"⟩
def wsX0_init : List Cond := .code yX0_init cX0_init 1 none :: ([.methodLink RX0 3 objectInit, .instanceMethod objectInit, .code objectInit ⟨#[0xb1]⟩ 1 none])
def wsX7_leant : List Cond := .code yX7_leant cX7_leant 2 (some .int) :: ([.methodLink RX7 262 Lib.Math.min.name, .static Lib.Math.min.name, .initialized "java/lang/Math", .code Lib.Math.min.name Lib.Math.min.code 2 (some .int), .methodLink RX7 267 Lib.Math.max.name, .static Lib.Math.max.name, .code Lib.Math.max.name Lib.Math.max.code 2 (some .int)])
def wsX0_toneBehind : List Cond := .code yX0_toneBehind cX0_toneBehind 2 (some .int) :: ([.fieldLink RX0 9 "NineHands$Clerk" "lean" "I", .static yX7_leant, .initialized RX7, .code yX7_leant cX7_leant 2 (some .int), .methodLink RX7 262 Lib.Math.min.name, .static Lib.Math.min.name, .initialized "java/lang/Math", .code Lib.Math.min.name Lib.Math.min.code 2 (some .int), .methodLink RX7 267 Lib.Math.max.name, .static Lib.Math.max.name, .code Lib.Math.max.name Lib.Math.max.code 2 (some .int)] ++ wsX00)
def wsX0_marksBehind : List Cond := .code yX0_marksBehind cX0_marksBehind 2 (some .int) :: ([.fieldLink RX0 19 "NineHands$Clerk" "sets" "I", .fieldLink RX0 22 "NineHands$Clerk" "drops" "I"] ++ wsX00)
def wsX0_waysTo : List Cond := .code yX0_waysTo cX0_waysTo 6 (some .int) :: ([.fieldLink RX0 32 "NineHands$Clerk" "keeps" "I", .methodLink RX0 25 yX0_toneBehind, .instanceMethod yX0_toneBehind, .selects RX0 yX0_toneBehind yX0_toneBehind, .initialized RX0, .code yX0_toneBehind cX0_toneBehind 2 (some .int), .fieldLink RX0 9 "NineHands$Clerk" "lean" "I", .static yX7_leant, .initialized RX7, .code yX7_leant cX7_leant 2 (some .int), .methodLink RX7 262 Lib.Math.min.name, .static Lib.Math.min.name, .initialized "java/lang/Math", .code Lib.Math.min.name Lib.Math.min.code 2 (some .int), .methodLink RX7 267 Lib.Math.max.name, .static Lib.Math.max.name, .code Lib.Math.max.name Lib.Math.max.code 2 (some .int), .methodLink RX0 29 yX0_marksBehind, .instanceMethod yX0_marksBehind, .selects RX0 yX0_marksBehind yX0_marksBehind, .code yX0_marksBehind cX0_marksBehind 2 (some .int), .fieldLink RX0 19 "NineHands$Clerk" "sets" "I", .fieldLink RX0 22 "NineHands$Clerk" "drops" "I"] ++ wsX00)
def wsX1_init : List Cond := .code yX1_init cX1_init 1 none :: ([.methodLink RX1 3 objectInit, .instanceMethod objectInit, .code objectInit ⟨#[0xb1]⟩ 1 none, .arrayClass .int, .fieldLink RX1 9 "NineHands$Copies" "slips" "[I", .fieldLink RX1 15 "NineHands$Copies" "count" "I"] ++ wsX10)
def wsX1_isFull : List Cond := .code yX1_isFull cX1_isFull 1 (some .boolean) :: ([.fieldLink RX1 15 "NineHands$Copies" "count" "I"] ++ wsX10)
def wsX1_add : List Cond := .code yX1_add cX1_add 2 none :: ([.fieldLink RX1 9 "NineHands$Copies" "slips" "[I", .fieldLink RX1 15 "NineHands$Copies" "count" "I", .methodLink RX1 19 yX1_isFull, .instanceMethod yX1_isFull, .selects RX1 yX1_isFull yX1_isFull, .initialized RX1, .code yX1_isFull cX1_isFull 1 (some .boolean)] ++ wsX10)
def wsX1_canComeOf : List Cond := .code yX1_canComeOf cX1_canComeOf 3 (some .boolean) :: ([.fieldLink RX1 9 "NineHands$Copies" "slips" "[I"] ++ wsX10)
def wsJ6_bitCount_0f7a4 : List Cond := .code yJ6_bitCount_0f7a4 cJ6_bitCount_0f7a4 1 (some .int) :: ([.constant RJ6 265 (1431655765), .constant RJ6 266 (858993459), .constant RJ6 267 (252645135)])
def wsX1_originOf : List Cond := .code yX1_originOf cX1_originOf 5 (some .int) :: ([.fieldLink RX1 15 "NineHands$Copies" "count" "I", .fieldLink RX1 9 "NineHands$Copies" "slips" "[I", .methodLink RX1 23 yX1_canComeOf, .instanceMethod yX1_canComeOf, .selects RX1 yX1_canComeOf yX1_canComeOf, .initialized RX1, .code yX1_canComeOf cX1_canComeOf 3 (some .boolean), .methodLink RX1 27 yJ6_bitCount_0f7a4, .static yJ6_bitCount_0f7a4, .initialized RJ6, .code yJ6_bitCount_0f7a4 cJ6_bitCount_0f7a4 1 (some .int), .constant RJ6 265 (1431655765), .constant RJ6 266 (858993459), .constant RJ6 267 (252645135)] ++ wsX10)
def wsX1_depthOf : List Cond := .code yX1_depthOf cX1_depthOf 4 (some .int) :: ([.methodLink RX1 33 yX1_originOf, .instanceMethod yX1_originOf, .selects RX1 yX1_originOf yX1_originOf, .initialized RX1, .code yX1_originOf cX1_originOf 5 (some .int), .fieldLink RX1 15 "NineHands$Copies" "count" "I", .fieldLink RX1 9 "NineHands$Copies" "slips" "[I", .methodLink RX1 23 yX1_canComeOf, .instanceMethod yX1_canComeOf, .selects RX1 yX1_canComeOf yX1_canComeOf, .code yX1_canComeOf cX1_canComeOf 3 (some .boolean), .methodLink RX1 27 yJ6_bitCount_0f7a4, .static yJ6_bitCount_0f7a4, .initialized RJ6, .code yJ6_bitCount_0f7a4 cJ6_bitCount_0f7a4 1 (some .int), .constant RJ6 265 (1431655765), .constant RJ6 266 (858993459), .constant RJ6 267 (252645135)] ++ wsX10)
def wsX2_init : List Cond := .code yX2_init cX2_init 1 none :: ([.methodLink RX2 3 objectInit, .instanceMethod objectInit, .code objectInit ⟨#[0xb1]⟩ 1 none, .arrayClass .int, .fieldLink RX2 9 "NineHands$Letter" "tones" "[I", .fieldLink RX2 15 "NineHands$Letter" "marks" "[I", .fieldLink RX2 18 "NineHands$Letter" "writers" "[I", .fieldLink RX2 21 "NineHands$Letter" "lines" "I", .fieldLink RX2 25 "NineHands$Letter" "luck" "I"] ++ wsX20)
def wsX2_isFull : List Cond := .code yX2_isFull cX2_isFull 1 (some .boolean) :: ([.fieldLink RX2 21 "NineHands$Letter" "lines" "I"] ++ wsX20)
def wsX2_add : List Cond := .code yX2_add cX2_add 4 none :: ([.fieldLink RX2 9 "NineHands$Letter" "tones" "[I", .fieldLink RX2 21 "NineHands$Letter" "lines" "I", .fieldLink RX2 15 "NineHands$Letter" "marks" "[I", .fieldLink RX2 18 "NineHands$Letter" "writers" "[I", .methodLink RX2 32 yX2_isFull, .instanceMethod yX2_isFull, .selects RX2 yX2_isFull yX2_isFull, .initialized RX2, .code yX2_isFull cX2_isFull 1 (some .boolean)] ++ wsX20)
def wsX2_begin : List Cond := .code yX2_begin cX2_begin 3 none :: ([.fieldLink RX2 21 "NineHands$Letter" "lines" "I", .methodLink RX2 28 yX2_add, .instanceMethod yX2_add, .selects RX2 yX2_add yX2_add, .initialized RX2, .code yX2_add cX2_add 4 none, .fieldLink RX2 9 "NineHands$Letter" "tones" "[I", .fieldLink RX2 15 "NineHands$Letter" "marks" "[I", .fieldLink RX2 18 "NineHands$Letter" "writers" "[I", .methodLink RX2 32 yX2_isFull, .instanceMethod yX2_isFull, .selects RX2 yX2_isFull yX2_isFull, .code yX2_isFull cX2_isFull 1 (some .boolean)] ++ wsX20)
def wsX2_isBlank : List Cond := .code yX2_isBlank cX2_isBlank 1 (some .boolean) :: ([.fieldLink RX2 21 "NineHands$Letter" "lines" "I"] ++ wsX20)
def wsX2_lastTone : List Cond := .code yX2_lastTone cX2_lastTone 1 (some .int) :: ([.fieldLink RX2 9 "NineHands$Letter" "tones" "[I", .fieldLink RX2 21 "NineHands$Letter" "lines" "I", .methodLink RX2 36 yX2_isBlank, .instanceMethod yX2_isBlank, .selects RX2 yX2_isBlank yX2_isBlank, .initialized RX2, .code yX2_isBlank cX2_isBlank 1 (some .boolean)] ++ wsX20)
def wsX2_lastMarks : List Cond := .code yX2_lastMarks cX2_lastMarks 1 (some .int) :: ([.fieldLink RX2 15 "NineHands$Letter" "marks" "[I", .fieldLink RX2 21 "NineHands$Letter" "lines" "I", .methodLink RX2 36 yX2_isBlank, .instanceMethod yX2_isBlank, .selects RX2 yX2_isBlank yX2_isBlank, .initialized RX2, .code yX2_isBlank cX2_isBlank 1 (some .boolean)] ++ wsX20)
def wsX2_draw : List Cond := .code yX2_draw cX2_draw 1 (some .int) :: ([.fieldLink RX2 25 "NineHands$Letter" "luck" "I", .constant RX2 39 (1103515245)] ++ wsX20)
def wsX2_become : List Cond := .code yX2_become cX2_become 2 none :: ([.fieldLink RX2 9 "NineHands$Letter" "tones" "[I", .methodLink RX2 40 arraycopyName, .native arraycopyName, .static arraycopyName, .initialized "java/lang/System", .fieldLink RX2 15 "NineHands$Letter" "marks" "[I", .fieldLink RX2 18 "NineHands$Letter" "writers" "[I", .fieldLink RX2 21 "NineHands$Letter" "lines" "I", .fieldLink RX2 25 "NineHands$Letter" "luck" "I"] ++ wsX20)
def wsX3_begin : List Cond := .code yX3_begin cX3_begin 1 none :: ([.fieldLink RX3 21 "NineHands$Office" "count" "I", .fieldLink RX3 25 "NineHands$Office" "letterTold" "Z", .fieldLink RX3 29 "NineHands$Office" "firstTone" "I", .fieldLink RX3 32 "NineHands$Office" "firstMarks" "I"] ++ wsX30)
def wsX3_init : List Cond := .code yX3_init cX3_init 2 none :: ([.methodLink RX3 3 objectInit, .instanceMethod objectInit, .code objectInit ⟨#[0xb1]⟩ 1 none, .classLink RX3 9 RX0, .fieldLink RX3 11 "NineHands$Office" "clerks" "[LNineHands$Clerk;", .instantiable RX0 4, .initialized RX0, .instanceMethod yX0_init, .code yX0_init cX0_init 1 none, .methodLink RX0 3 objectInit, .methodLink RX3 18 yX3_begin, .instanceMethod yX3_begin, .selects RX3 yX3_begin yX3_begin, .initialized RX3, .code yX3_begin cX3_begin 1 none, .fieldLink RX3 21 "NineHands$Office" "count" "I", .fieldLink RX3 25 "NineHands$Office" "letterTold" "Z", .fieldLink RX3 29 "NineHands$Office" "firstTone" "I", .fieldLink RX3 32 "NineHands$Office" "firstMarks" "I"] ++ wsX30 ++ wsX00)
def wsX3_find : List Cond := .code yX3_find cX3_find 2 (some (.object "NineHands$Clerk")) :: ([.fieldLink RX3 21 "NineHands$Office" "count" "I", .fieldLink RX3 11 "NineHands$Office" "clerks" "[LNineHands$Clerk;"] ++ wsX30)
def wsX3_hasAll : List Cond := .code yX3_hasAll cX3_hasAll 2 (some .boolean) :: ([.fieldLink RX3 21 "NineHands$Office" "count" "I"] ++ wsX30)
def wsX3_isFull : List Cond := .code yX3_isFull cX3_isFull 1 (some .boolean) :: ([.fieldLink RX3 21 "NineHands$Office" "count" "I"] ++ wsX30)
def wsX3_add : List Cond := .code yX3_add cX3_add 6 none :: ([.fieldLink RX3 11 "NineHands$Office" "clerks" "[LNineHands$Clerk;", .fieldLink RX3 21 "NineHands$Office" "count" "I", .methodLink RX3 35 yX3_isFull, .instanceMethod yX3_isFull, .selects RX3 yX3_isFull yX3_isFull, .initialized RX3, .code yX3_isFull cX3_isFull 1 (some .boolean)] ++ wsX30 ++ wsX00)
def wsX4_init : List Cond := .code yX4_init cX4_init 1 none :: ([.methodLink RX4 3 objectInit, .instanceMethod objectInit, .code objectInit ⟨#[0xb1]⟩ 1 none, .arrayClass .int, .fieldLink RX4 9 "NineHands$Orders" "row" "[I", .fieldLink RX4 15 "NineHands$Orders" "best" "[I", .fieldLink RX4 18 "NineHands$Orders" "size" "I", .fieldLink RX4 22 "NineHands$Orders" "least" "I"] ++ wsX40)
def wsX4_lineUp : List Cond := .code yX4_lineUp cX4_lineUp 3 none :: ([.fieldLink RX4 18 "NineHands$Orders" "size" "I", .fieldLink RX4 9 "NineHands$Orders" "row" "[I"] ++ wsX40)
def wsX4_stray_r1 : List Cond := [Cond.fieldLink RX4 18 "NineHands$Orders" "size" "I", Cond.fieldLink RX4 9 "NineHands$Orders" "row" "[I", Cond.methodLink RX4 58 Lib.Math.abs.name, Cond.static Lib.Math.abs.name, Cond.initialized "java/lang/Math", Cond.code Lib.Math.abs.name Lib.Math.abs.code 1 (some .int), Cond.methodLink RX4 63 Lib.Math.max.name, Cond.static Lib.Math.max.name, Cond.code Lib.Math.max.name Lib.Math.max.code 2 (some .int), Cond.methodLink RX4 46 yX3_find, Cond.instanceMethod yX3_find, Cond.selects RX3 yX3_find yX3_find, Cond.initialized RX3, Cond.code yX3_find cX3_find 2 (some (.object "NineHands$Clerk")), Cond.fieldLink RX3 21 "NineHands$Office" "count" "I", Cond.fieldLink RX3 11 "NineHands$Office" "clerks" "[LNineHands$Clerk;", Cond.methodLink RX4 52 yX0_toneBehind, Cond.instanceMethod yX0_toneBehind, Cond.selects RX0 yX0_toneBehind yX0_toneBehind, Cond.initialized RX0, Cond.code yX0_toneBehind cX0_toneBehind 2 (some .int), Cond.fieldLink RX0 9 "NineHands$Clerk" "lean" "I", Cond.static yX7_leant, Cond.initialized RX7]
def wsX4_stray_r2 : List Cond := [Cond.code yX7_leant cX7_leant 2 (some .int), Cond.methodLink RX7 262 Lib.Math.min.name, Cond.static Lib.Math.min.name, Cond.code Lib.Math.min.name Lib.Math.min.code 2 (some .int), Cond.methodLink RX7 267 Lib.Math.max.name]
def wsX4_stray : List Cond := .code yX4_stray cX4_stray 9 (some .int) :: ((wsX4_stray_r1 ++ wsX4_stray_r2) ++ wsX40 ++ wsX30 ++ wsX00)
def wsX4_keepRow : List Cond := .code yX4_keepRow cX4_keepRow 1 none :: ([.fieldLink RX4 9 "NineHands$Orders" "row" "[I", .fieldLink RX4 15 "NineHands$Orders" "best" "[I", .fieldLink RX4 18 "NineHands$Orders" "size" "I", .methodLink RX4 40 arraycopyName, .native arraycopyName, .static arraycopyName, .initialized "java/lang/System"] ++ wsX40)
def wsX4_swap : List Cond := .code yX4_swap cX4_swap 4 none :: ([.fieldLink RX4 9 "NineHands$Orders" "row" "[I"] ++ wsX40)
def wsX4_step : List Cond := .code yX4_step cX4_step 5 (some .boolean) :: ([.fieldLink RX4 18 "NineHands$Orders" "size" "I", .fieldLink RX4 9 "NineHands$Orders" "row" "[I", .methodLink RX4 67 yX4_swap, .instanceMethod yX4_swap, .selects RX4 yX4_swap yX4_swap, .initialized RX4, .code yX4_swap cX4_swap 4 none] ++ wsX40)
def wsX4_seek_r1 : List Cond := [Cond.fieldLink RX4 22 "NineHands$Orders" "least" "I", Cond.methodLink RX4 25 yX4_lineUp, Cond.instanceMethod yX4_lineUp, Cond.selects RX4 yX4_lineUp yX4_lineUp, Cond.initialized RX4, Cond.code yX4_lineUp cX4_lineUp 3 none, Cond.fieldLink RX4 18 "NineHands$Orders" "size" "I", Cond.fieldLink RX4 9 "NineHands$Orders" "row" "[I", Cond.methodLink RX4 29 yX4_stray, Cond.instanceMethod yX4_stray, Cond.selects RX4 yX4_stray yX4_stray, Cond.code yX4_stray cX4_stray 9 (some .int), Cond.methodLink RX4 58 Lib.Math.abs.name, Cond.static Lib.Math.abs.name, Cond.initialized "java/lang/Math", Cond.code Lib.Math.abs.name Lib.Math.abs.code 1 (some .int), Cond.methodLink RX4 63 Lib.Math.max.name, Cond.static Lib.Math.max.name, Cond.code Lib.Math.max.name Lib.Math.max.code 2 (some .int), Cond.methodLink RX4 46 yX3_find, Cond.instanceMethod yX3_find, Cond.selects RX3 yX3_find yX3_find, Cond.initialized RX3, Cond.code yX3_find cX3_find 2 (some (.object "NineHands$Clerk"))]
def wsX4_seek_r2 : List Cond := [Cond.fieldLink RX3 21 "NineHands$Office" "count" "I", Cond.fieldLink RX3 11 "NineHands$Office" "clerks" "[LNineHands$Clerk;", Cond.methodLink RX4 52 yX0_toneBehind, Cond.instanceMethod yX0_toneBehind, Cond.selects RX0 yX0_toneBehind yX0_toneBehind, Cond.initialized RX0, Cond.code yX0_toneBehind cX0_toneBehind 2 (some .int), Cond.fieldLink RX0 9 "NineHands$Clerk" "lean" "I", Cond.static yX7_leant, Cond.initialized RX7, Cond.code yX7_leant cX7_leant 2 (some .int), Cond.methodLink RX7 262 Lib.Math.min.name, Cond.static Lib.Math.min.name, Cond.code Lib.Math.min.name Lib.Math.min.code 2 (some .int), Cond.methodLink RX7 267 Lib.Math.max.name, Cond.methodLink RX4 33 yX4_keepRow, Cond.instanceMethod yX4_keepRow, Cond.selects RX4 yX4_keepRow yX4_keepRow, Cond.code yX4_keepRow cX4_keepRow 1 none, Cond.fieldLink RX4 15 "NineHands$Orders" "best" "[I", Cond.methodLink RX4 40 arraycopyName, Cond.native arraycopyName, Cond.static arraycopyName, Cond.initialized "java/lang/System"]
def wsX4_seek_r3 : List Cond := [Cond.methodLink RX4 36 yX4_step, Cond.instanceMethod yX4_step, Cond.selects RX4 yX4_step yX4_step, Cond.code yX4_step cX4_step 5 (some .boolean), Cond.methodLink RX4 67 yX4_swap, Cond.instanceMethod yX4_swap, Cond.selects RX4 yX4_swap yX4_swap, Cond.code yX4_swap cX4_swap 4 none]
def wsX4_seek : List Cond := .code yX4_seek cX4_seek 8 none :: ((wsX4_seek_r1 ++ (wsX4_seek_r2 ++ wsX4_seek_r3)) ++ wsX40 ++ wsX30 ++ wsX00)
def wsX4_answer : List Cond := .code yX4_answer cX4_answer 2 (some .int) :: ([.fieldLink RX4 22 "NineHands$Orders" "least" "I", .fieldLink RX4 18 "NineHands$Orders" "size" "I", .fieldLink RX4 15 "NineHands$Orders" "best" "[I"] ++ wsX40)
def wsX5_init : List Cond := .code yX5_init cX5_init 1 none :: ([.methodLink RX5 3 objectInit, .instanceMethod objectInit, .code objectInit ⟨#[0xb1]⟩ 1 none, .arrayClass .int, .fieldLink RX5 9 "NineHands$Samples" "tones" "[I", .fieldLink RX5 15 "NineHands$Samples" "marks" "[I", .fieldLink RX5 18 "NineHands$Samples" "thenTones" "[I", .fieldLink RX5 21 "NineHands$Samples" "thenMarks" "[I", .fieldLink RX5 24 "NineHands$Samples" "count" "I"] ++ wsX50)
def wsX5_isFull : List Cond := .code yX5_isFull cX5_isFull 1 (some .boolean) :: ([.fieldLink RX5 24 "NineHands$Samples" "count" "I"] ++ wsX50)
def wsX5_add : List Cond := .code yX5_add cX5_add 5 none :: ([.fieldLink RX5 9 "NineHands$Samples" "tones" "[I", .fieldLink RX5 24 "NineHands$Samples" "count" "I", .fieldLink RX5 15 "NineHands$Samples" "marks" "[I", .fieldLink RX5 18 "NineHands$Samples" "thenTones" "[I", .fieldLink RX5 21 "NineHands$Samples" "thenMarks" "[I", .methodLink RX5 28 yX5_isFull, .instanceMethod yX5_isFull, .selects RX5 yX5_isFull yX5_isFull, .initialized RX5, .code yX5_isFull cX5_isFull 1 (some .boolean)] ++ wsX50)
def wsX5_leanFits : List Cond := .code yX5_leanFits cX5_leanFits 3 (some .boolean) :: ([.fieldLink RX5 24 "NineHands$Samples" "count" "I", .fieldLink RX5 9 "NineHands$Samples" "tones" "[I", .fieldLink RX5 18 "NineHands$Samples" "thenTones" "[I", .static yX7_leant, .initialized RX7, .code yX7_leant cX7_leant 2 (some .int), .methodLink RX7 262 Lib.Math.min.name, .static Lib.Math.min.name, .initialized "java/lang/Math", .code Lib.Math.min.name Lib.Math.min.code 2 (some .int), .methodLink RX7 267 Lib.Math.max.name, .static Lib.Math.max.name, .code Lib.Math.max.name Lib.Math.max.code 2 (some .int)] ++ wsX50)
def wsX5_leastLean : List Cond := .code yX5_leastLean cX5_leastLean 2 (some .int) :: ([.methodLink RX5 32 yX5_leanFits, .instanceMethod yX5_leanFits, .selects RX5 yX5_leanFits yX5_leanFits, .initialized RX5, .code yX5_leanFits cX5_leanFits 3 (some .boolean), .fieldLink RX5 24 "NineHands$Samples" "count" "I", .fieldLink RX5 9 "NineHands$Samples" "tones" "[I", .fieldLink RX5 18 "NineHands$Samples" "thenTones" "[I", .static yX7_leant, .initialized RX7, .code yX7_leant cX7_leant 2 (some .int), .methodLink RX7 262 Lib.Math.min.name, .static Lib.Math.min.name, .initialized "java/lang/Math", .code Lib.Math.min.name Lib.Math.min.code 2 (some .int), .methodLink RX7 267 Lib.Math.max.name, .static Lib.Math.max.name, .code Lib.Math.max.name Lib.Math.max.code 2 (some .int)] ++ wsX50)
def wsX5_greatestLean : List Cond := .code yX5_greatestLean cX5_greatestLean 2 (some .int) :: ([.methodLink RX5 32 yX5_leanFits, .instanceMethod yX5_leanFits, .selects RX5 yX5_leanFits yX5_leanFits, .initialized RX5, .code yX5_leanFits cX5_leanFits 3 (some .boolean), .fieldLink RX5 24 "NineHands$Samples" "count" "I", .fieldLink RX5 9 "NineHands$Samples" "tones" "[I", .fieldLink RX5 18 "NineHands$Samples" "thenTones" "[I", .static yX7_leant, .initialized RX7, .code yX7_leant cX7_leant 2 (some .int), .methodLink RX7 262 Lib.Math.min.name, .static Lib.Math.min.name, .initialized "java/lang/Math", .code Lib.Math.min.name Lib.Math.min.code 2 (some .int), .methodLink RX7 267 Lib.Math.max.name, .static Lib.Math.max.name, .code Lib.Math.max.name Lib.Math.max.code 2 (some .int)] ++ wsX50)
def wsX5_maySet : List Cond := .code yX5_maySet cX5_maySet 3 (some .int) :: ([.fieldLink RX5 24 "NineHands$Samples" "count" "I", .fieldLink RX5 21 "NineHands$Samples" "thenMarks" "[I"] ++ wsX50)
def wsX5_mayDrop : List Cond := .code yX5_mayDrop cX5_mayDrop 3 (some .int) :: ([.fieldLink RX5 24 "NineHands$Samples" "count" "I", .fieldLink RX5 21 "NineHands$Samples" "thenMarks" "[I"] ++ wsX50)
def wsX5_mayLeave : List Cond := .code yX5_mayLeave cX5_mayLeave 3 (some .int) :: ([.fieldLink RX5 24 "NineHands$Samples" "count" "I", .fieldLink RX5 15 "NineHands$Samples" "marks" "[I", .fieldLink RX5 21 "NineHands$Samples" "thenMarks" "[I"] ++ wsX50)
def wsX5_marksFit : List Cond := .code yX5_marksFit cX5_marksFit 1 (some .boolean) :: ([.methodLink RX5 40 yX5_maySet, .instanceMethod yX5_maySet, .selects RX5 yX5_maySet yX5_maySet, .initialized RX5, .code yX5_maySet cX5_maySet 3 (some .int), .fieldLink RX5 24 "NineHands$Samples" "count" "I", .fieldLink RX5 21 "NineHands$Samples" "thenMarks" "[I", .methodLink RX5 44 yX5_mayDrop, .instanceMethod yX5_mayDrop, .selects RX5 yX5_mayDrop yX5_mayDrop, .code yX5_mayDrop cX5_mayDrop 3 (some .int), .methodLink RX5 47 yX5_mayLeave, .instanceMethod yX5_mayLeave, .selects RX5 yX5_mayLeave yX5_mayLeave, .code yX5_mayLeave cX5_mayLeave 3 (some .int), .fieldLink RX5 15 "NineHands$Samples" "marks" "[I"] ++ wsX50)
def wsX6_init : List Cond := .code yX6_init cX6_init 1 none :: ([.methodLink RX6 3 objectInit, .instanceMethod objectInit, .code objectInit ⟨#[0xb1]⟩ 1 none, .arrayClass .byte, .fieldLink RX6 9 "NineHands$Text" "bytes" "[B", .fieldLink RX6 15 "NineHands$Text" "length" "I", .fieldLink RX6 19 "NineHands$Text" "next" "I", .fieldLink RX6 22 "NineHands$Text" "start" "I", .fieldLink RX6 25 "NineHands$Text" "number" "I"] ++ wsX60)
def wsX6_append : List Cond := .code yX6_append cX6_append 5 none :: ([.fieldLink RX6 15 "NineHands$Text" "length" "I", .fieldLink RX6 9 "NineHands$Text" "bytes" "[B"] ++ wsX60)
def wsX6_sortOf : List Cond := .code yX6_sortOf cX6_sortOf 1 (some .int) :: ([])
def wsX6_take : List Cond := .code yX6_take cX6_take 2 (some .int) :: ([.fieldLink RX6 19 "NineHands$Text" "next" "I", .fieldLink RX6 15 "NineHands$Text" "length" "I", .fieldLink RX6 9 "NineHands$Text" "bytes" "[B", .fieldLink RX6 22 "NineHands$Text" "start" "I", .methodLink RX6 77 yX6_sortOf, .static yX6_sortOf, .initialized RX6, .code yX6_sortOf cX6_sortOf 1 (some .int)] ++ wsX60)
def wsJ0_coder_7d493 : List Cond := .code yJ0_coder_7d493 cJ0_coder_7d493 1 (some .byte) :: ([.fieldLink RJ0 38 "java/lang/String" "COMPACT_STRINGS" "Z", .fieldLink RJ0 15 "java/lang/String" "coder" "B"])
def wsJ0_length_8abf5 : List Cond := .code yJ0_length_8abf5 cJ0_length_8abf5 1 (some .int) :: ([.fieldLink RJ0 9 "java/lang/String" "value" "[B", .methodLink RJ0 335 yJ0_coder_7d493, .instanceMethod yJ0_coder_7d493, .selects RJ0 yJ0_coder_7d493 yJ0_coder_7d493, .initialized RJ0, .code yJ0_coder_7d493 cJ0_coder_7d493 1 (some .byte), .fieldLink RJ0 38 "java/lang/String" "COMPACT_STRINGS" "Z", .fieldLink RJ0 15 "java/lang/String" "coder" "B"])
def wsJ0_isLatin1_aae02 : List Cond := .code yJ0_isLatin1_aae02 cJ0_isLatin1_aae02 1 (some .boolean) :: ([.fieldLink RJ0 38 "java/lang/String" "COMPACT_STRINGS" "Z", .fieldLink RJ0 15 "java/lang/String" "coder" "B"])
def wsJ3_checkIndex_8e157 : List Cond := .code yJ3_checkIndex_8e157 cJ3_checkIndex_8e157 3 (some .int) :: ([])
def wsJ0_checkIndex_df160 : List Cond := .code yJ0_checkIndex_df160 cJ0_checkIndex_df160 2 none :: ([.fieldLink RJ0 1053 "jdk/internal/util/Preconditions" "SIOOBE_FORMATTER" "Ljava/util/function/BiFunction;", .methodLink RJ0 1059 yJ3_checkIndex_8e157, .static yJ3_checkIndex_8e157, .initialized RJ3, .code yJ3_checkIndex_8e157 cJ3_checkIndex_8e157 3 (some .int)])
def wsJ1_charAt_3b067 : List Cond := .code yJ1_charAt_3b067 cJ1_charAt_3b067 2 (some .char) :: ([.methodLink RJ1 9 yJ0_checkIndex_df160, .static yJ0_checkIndex_df160, .initialized RJ0, .code yJ0_checkIndex_df160 cJ0_checkIndex_df160 2 none, .fieldLink RJ0 1053 "jdk/internal/util/Preconditions" "SIOOBE_FORMATTER" "Ljava/util/function/BiFunction;", .methodLink RJ0 1059 yJ3_checkIndex_8e157, .static yJ3_checkIndex_8e157, .initialized RJ3, .code yJ3_checkIndex_8e157 cJ3_checkIndex_8e157 3 (some .int)])
def wsJ2_length_9d52b : List Cond := .code yJ2_length_9d52b cJ2_length_9d52b 1 (some .int) :: ([])
def wsJ2_checkIndex_2214a : List Cond := .code yJ2_checkIndex_2214a cJ2_checkIndex_2214a 2 none :: ([.methodLink RJ2 48 yJ2_length_9d52b, .static yJ2_length_9d52b, .initialized RJ2, .code yJ2_length_9d52b cJ2_length_9d52b 1 (some .int), .methodLink RJ2 414 yJ0_checkIndex_df160, .static yJ0_checkIndex_df160, .initialized RJ0, .code yJ0_checkIndex_df160 cJ0_checkIndex_df160 2 none, .fieldLink RJ0 1053 "jdk/internal/util/Preconditions" "SIOOBE_FORMATTER" "Ljava/util/function/BiFunction;", .methodLink RJ0 1059 yJ3_checkIndex_8e157, .static yJ3_checkIndex_8e157, .initialized RJ3, .code yJ3_checkIndex_8e157 cJ3_checkIndex_8e157 3 (some .int)])
def wsJ2_getChar_3b067 : List Cond := .code yJ2_getChar_3b067 cJ2_getChar_3b067 2 (some .char) :: ([.fieldLink RJ2 44 "java/lang/StringUTF16" "$assertionsDisabled" "Z", .fieldLink RJ2 59 "java/lang/StringUTF16" "HI_BYTE_SHIFT" "I", .fieldLink RJ2 63 "java/lang/StringUTF16" "LO_BYTE_SHIFT" "I", .methodLink RJ2 48 yJ2_length_9d52b, .static yJ2_length_9d52b, .initialized RJ2, .code yJ2_length_9d52b cJ2_length_9d52b 1 (some .int)])
def wsJ2_charAt_3b067 : List Cond := .code yJ2_charAt_3b067 cJ2_charAt_3b067 2 (some .char) :: ([.methodLink RJ2 67 yJ2_checkIndex_2214a, .static yJ2_checkIndex_2214a, .initialized RJ2, .code yJ2_checkIndex_2214a cJ2_checkIndex_2214a 2 none, .methodLink RJ2 48 yJ2_length_9d52b, .static yJ2_length_9d52b, .code yJ2_length_9d52b cJ2_length_9d52b 1 (some .int), .methodLink RJ2 414 yJ0_checkIndex_df160, .static yJ0_checkIndex_df160, .initialized RJ0, .code yJ0_checkIndex_df160 cJ0_checkIndex_df160 2 none, .fieldLink RJ0 1053 "jdk/internal/util/Preconditions" "SIOOBE_FORMATTER" "Ljava/util/function/BiFunction;", .methodLink RJ0 1059 yJ3_checkIndex_8e157, .static yJ3_checkIndex_8e157, .initialized RJ3, .code yJ3_checkIndex_8e157 cJ3_checkIndex_8e157 3 (some .int), .methodLink RJ2 71 yJ2_getChar_3b067, .static yJ2_getChar_3b067, .code yJ2_getChar_3b067 cJ2_getChar_3b067 2 (some .char), .fieldLink RJ2 44 "java/lang/StringUTF16" "$assertionsDisabled" "Z", .fieldLink RJ2 59 "java/lang/StringUTF16" "HI_BYTE_SHIFT" "I", .fieldLink RJ2 63 "java/lang/StringUTF16" "LO_BYTE_SHIFT" "I"])
def wsJ0_charAt_5068e_r1 : List Cond := [Cond.fieldLink RJ0 9 "java/lang/String" "value" "[B", Cond.methodLink RJ0 492 yJ0_isLatin1_aae02, Cond.instanceMethod yJ0_isLatin1_aae02, Cond.selects RJ0 yJ0_isLatin1_aae02 yJ0_isLatin1_aae02, Cond.initialized RJ0, Cond.code yJ0_isLatin1_aae02 cJ0_isLatin1_aae02 1 (some .boolean), Cond.fieldLink RJ0 38 "java/lang/String" "COMPACT_STRINGS" "Z", Cond.fieldLink RJ0 15 "java/lang/String" "coder" "B", Cond.methodLink RJ0 495 yJ1_charAt_3b067, Cond.static yJ1_charAt_3b067, Cond.initialized RJ1, Cond.code yJ1_charAt_3b067 cJ1_charAt_3b067 2 (some .char), Cond.methodLink RJ1 9 yJ0_checkIndex_df160, Cond.static yJ0_checkIndex_df160, Cond.code yJ0_checkIndex_df160 cJ0_checkIndex_df160 2 none, Cond.fieldLink RJ0 1053 "jdk/internal/util/Preconditions" "SIOOBE_FORMATTER" "Ljava/util/function/BiFunction;", Cond.methodLink RJ0 1059 yJ3_checkIndex_8e157, Cond.static yJ3_checkIndex_8e157, Cond.initialized RJ3, Cond.code yJ3_checkIndex_8e157 cJ3_checkIndex_8e157 3 (some .int), Cond.methodLink RJ0 498 yJ2_charAt_3b067, Cond.static yJ2_charAt_3b067, Cond.initialized RJ2, Cond.code yJ2_charAt_3b067 cJ2_charAt_3b067 2 (some .char)]
def wsJ0_charAt_5068e_r2 : List Cond := [Cond.methodLink RJ2 67 yJ2_checkIndex_2214a, Cond.static yJ2_checkIndex_2214a, Cond.code yJ2_checkIndex_2214a cJ2_checkIndex_2214a 2 none, Cond.methodLink RJ2 48 yJ2_length_9d52b, Cond.static yJ2_length_9d52b, Cond.code yJ2_length_9d52b cJ2_length_9d52b 1 (some .int), Cond.methodLink RJ2 414 yJ0_checkIndex_df160, Cond.methodLink RJ2 71 yJ2_getChar_3b067, Cond.static yJ2_getChar_3b067, Cond.code yJ2_getChar_3b067 cJ2_getChar_3b067 2 (some .char), Cond.fieldLink RJ2 44 "java/lang/StringUTF16" "$assertionsDisabled" "Z", Cond.fieldLink RJ2 59 "java/lang/StringUTF16" "HI_BYTE_SHIFT" "I", Cond.fieldLink RJ2 63 "java/lang/StringUTF16" "LO_BYTE_SHIFT" "I"]
def wsJ0_charAt_5068e : List Cond := .code yJ0_charAt_5068e cJ0_charAt_5068e 2 (some .char) :: ((wsJ0_charAt_5068e_r1 ++ wsJ0_charAt_5068e_r2))
def wsX6_tookWord_r1 : List Cond := [Cond.fieldLink RX6 19 "NineHands$Text" "next" "I", Cond.fieldLink RX6 22 "NineHands$Text" "start" "I", Cond.fieldLink RX6 9 "NineHands$Text" "bytes" "[B", Cond.methodLink RX6 81 yJ0_length_8abf5, Cond.instanceMethod yJ0_length_8abf5, Cond.selects RJ0 yJ0_length_8abf5 yJ0_length_8abf5, Cond.initialized RJ0, Cond.code yJ0_length_8abf5 cJ0_length_8abf5 1 (some .int), Cond.fieldLink RJ0 9 "java/lang/String" "value" "[B", Cond.methodLink RJ0 335 yJ0_coder_7d493, Cond.instanceMethod yJ0_coder_7d493, Cond.selects RJ0 yJ0_coder_7d493 yJ0_coder_7d493, Cond.code yJ0_coder_7d493 cJ0_coder_7d493 1 (some .byte), Cond.fieldLink RJ0 38 "java/lang/String" "COMPACT_STRINGS" "Z", Cond.fieldLink RJ0 15 "java/lang/String" "coder" "B", Cond.methodLink RX6 85 yJ0_charAt_5068e, Cond.instanceMethod yJ0_charAt_5068e, Cond.selects RJ0 yJ0_charAt_5068e yJ0_charAt_5068e, Cond.code yJ0_charAt_5068e cJ0_charAt_5068e 2 (some .char), Cond.methodLink RJ0 492 yJ0_isLatin1_aae02, Cond.instanceMethod yJ0_isLatin1_aae02, Cond.selects RJ0 yJ0_isLatin1_aae02 yJ0_isLatin1_aae02, Cond.code yJ0_isLatin1_aae02 cJ0_isLatin1_aae02 1 (some .boolean), Cond.methodLink RJ0 495 yJ1_charAt_3b067]
def wsX6_tookWord_r2 : List Cond := [Cond.static yJ1_charAt_3b067, Cond.initialized RJ1, Cond.code yJ1_charAt_3b067 cJ1_charAt_3b067 2 (some .char), Cond.methodLink RJ1 9 yJ0_checkIndex_df160, Cond.static yJ0_checkIndex_df160, Cond.code yJ0_checkIndex_df160 cJ0_checkIndex_df160 2 none, Cond.fieldLink RJ0 1053 "jdk/internal/util/Preconditions" "SIOOBE_FORMATTER" "Ljava/util/function/BiFunction;", Cond.methodLink RJ0 1059 yJ3_checkIndex_8e157, Cond.static yJ3_checkIndex_8e157, Cond.initialized RJ3, Cond.code yJ3_checkIndex_8e157 cJ3_checkIndex_8e157 3 (some .int), Cond.methodLink RJ0 498 yJ2_charAt_3b067, Cond.static yJ2_charAt_3b067, Cond.initialized RJ2, Cond.code yJ2_charAt_3b067 cJ2_charAt_3b067 2 (some .char), Cond.methodLink RJ2 67 yJ2_checkIndex_2214a, Cond.static yJ2_checkIndex_2214a, Cond.code yJ2_checkIndex_2214a cJ2_checkIndex_2214a 2 none, Cond.methodLink RJ2 48 yJ2_length_9d52b, Cond.static yJ2_length_9d52b, Cond.code yJ2_length_9d52b cJ2_length_9d52b 1 (some .int), Cond.methodLink RJ2 414 yJ0_checkIndex_df160, Cond.methodLink RJ2 71 yJ2_getChar_3b067, Cond.static yJ2_getChar_3b067]
def wsX6_tookWord_r3 : List Cond := [Cond.code yJ2_getChar_3b067 cJ2_getChar_3b067 2 (some .char), Cond.fieldLink RJ2 44 "java/lang/StringUTF16" "$assertionsDisabled" "Z", Cond.fieldLink RJ2 59 "java/lang/StringUTF16" "HI_BYTE_SHIFT" "I", Cond.fieldLink RJ2 63 "java/lang/StringUTF16" "LO_BYTE_SHIFT" "I"]
def wsX6_tookWord : List Cond := .code yX6_tookWord cX6_tookWord 3 (some .boolean) :: ((wsX6_tookWord_r1 ++ (wsX6_tookWord_r2 ++ wsX6_tookWord_r3)) ++ wsX60)
def wsX6_takeNumber : List Cond := .code yX6_takeNumber cX6_takeNumber 3 (some .boolean) :: ([.fieldLink RX6 19 "NineHands$Text" "next" "I", .fieldLink RX6 22 "NineHands$Text" "start" "I", .fieldLink RX6 25 "NineHands$Text" "number" "I", .fieldLink RX6 9 "NineHands$Text" "bytes" "[B", .methodLink RX6 33 yX6_take, .instanceMethod yX6_take, .selects RX6 yX6_take yX6_take, .initialized RX6, .code yX6_take cX6_take 2 (some .int), .fieldLink RX6 15 "NineHands$Text" "length" "I", .methodLink RX6 77 yX6_sortOf, .static yX6_sortOf, .code yX6_sortOf cX6_sortOf 1 (some .int)] ++ wsX60)
def wsX6_readClerk_r1 : List Cond := [Cond.fieldLink RX6 25 "NineHands$Text" "number" "I", Cond.methodLink RX6 63 yX6_takeNumber, Cond.instanceMethod yX6_takeNumber, Cond.selects RX6 yX6_takeNumber yX6_takeNumber, Cond.initialized RX6, Cond.code yX6_takeNumber cX6_takeNumber 3 (some .boolean), Cond.fieldLink RX6 19 "NineHands$Text" "next" "I", Cond.fieldLink RX6 22 "NineHands$Text" "start" "I", Cond.fieldLink RX6 9 "NineHands$Text" "bytes" "[B", Cond.methodLink RX6 33 yX6_take, Cond.instanceMethod yX6_take, Cond.selects RX6 yX6_take yX6_take, Cond.code yX6_take cX6_take 2 (some .int), Cond.fieldLink RX6 15 "NineHands$Text" "length" "I", Cond.methodLink RX6 77 yX6_sortOf, Cond.static yX6_sortOf, Cond.code yX6_sortOf cX6_sortOf 1 (some .int), Cond.methodLink RX6 67 yX3_add, Cond.instanceMethod yX3_add, Cond.selects RX3 yX3_add yX3_add, Cond.initialized RX3, Cond.code yX3_add cX3_add 6 none, Cond.fieldLink RX3 11 "NineHands$Office" "clerks" "[LNineHands$Clerk;", Cond.fieldLink RX3 21 "NineHands$Office" "count" "I"]
def wsX6_readClerk_r2 : List Cond := [Cond.methodLink RX3 35 yX3_isFull, Cond.instanceMethod yX3_isFull, Cond.selects RX3 yX3_isFull yX3_isFull, Cond.code yX3_isFull cX3_isFull 1 (some .boolean)]
def wsX6_readClerk : List Cond := .code yX6_readClerk cX6_readClerk 5 (some .boolean) :: ((wsX6_readClerk_r1 ++ wsX6_readClerk_r2) ++ wsX60 ++ wsX30 ++ wsX00)
def wsX6_readFirstLine : List Cond := .code yX6_readFirstLine cX6_readFirstLine 2 (some .boolean) :: ([.fieldLink RX6 25 "NineHands$Text" "number" "I", .methodLink RX6 63 yX6_takeNumber, .instanceMethod yX6_takeNumber, .selects RX6 yX6_takeNumber yX6_takeNumber, .initialized RX6, .code yX6_takeNumber cX6_takeNumber 3 (some .boolean), .fieldLink RX6 19 "NineHands$Text" "next" "I", .fieldLink RX6 22 "NineHands$Text" "start" "I", .fieldLink RX6 9 "NineHands$Text" "bytes" "[B", .methodLink RX6 33 yX6_take, .instanceMethod yX6_take, .selects RX6 yX6_take yX6_take, .code yX6_take cX6_take 2 (some .int), .fieldLink RX6 15 "NineHands$Text" "length" "I", .methodLink RX6 77 yX6_sortOf, .static yX6_sortOf, .code yX6_sortOf cX6_sortOf 1 (some .int)] ++ wsX60 ++ wsX30)
def wsX6_readItem_r1 : List Cond := [Cond.methodLink RX6 43 yX6_tookWord, Cond.instanceMethod yX6_tookWord, Cond.selects RX6 yX6_tookWord yX6_tookWord, Cond.initialized RX6, Cond.code yX6_tookWord cX6_tookWord 3 (some .boolean), Cond.fieldLink RX6 19 "NineHands$Text" "next" "I", Cond.fieldLink RX6 22 "NineHands$Text" "start" "I", Cond.fieldLink RX6 9 "NineHands$Text" "bytes" "[B", Cond.methodLink RX6 81 yJ0_length_8abf5, Cond.instanceMethod yJ0_length_8abf5, Cond.selects RJ0 yJ0_length_8abf5 yJ0_length_8abf5, Cond.initialized RJ0, Cond.code yJ0_length_8abf5 cJ0_length_8abf5 1 (some .int), Cond.fieldLink RJ0 9 "java/lang/String" "value" "[B", Cond.methodLink RJ0 335 yJ0_coder_7d493, Cond.instanceMethod yJ0_coder_7d493, Cond.selects RJ0 yJ0_coder_7d493 yJ0_coder_7d493, Cond.code yJ0_coder_7d493 cJ0_coder_7d493 1 (some .byte), Cond.fieldLink RJ0 38 "java/lang/String" "COMPACT_STRINGS" "Z", Cond.fieldLink RJ0 15 "java/lang/String" "coder" "B", Cond.methodLink RX6 85 yJ0_charAt_5068e, Cond.instanceMethod yJ0_charAt_5068e, Cond.selects RJ0 yJ0_charAt_5068e yJ0_charAt_5068e, Cond.code yJ0_charAt_5068e cJ0_charAt_5068e 2 (some .char)]
def wsX6_readItem_r2 : List Cond := [Cond.methodLink RJ0 492 yJ0_isLatin1_aae02, Cond.instanceMethod yJ0_isLatin1_aae02, Cond.selects RJ0 yJ0_isLatin1_aae02 yJ0_isLatin1_aae02, Cond.code yJ0_isLatin1_aae02 cJ0_isLatin1_aae02 1 (some .boolean), Cond.methodLink RJ0 495 yJ1_charAt_3b067, Cond.static yJ1_charAt_3b067, Cond.initialized RJ1, Cond.code yJ1_charAt_3b067 cJ1_charAt_3b067 2 (some .char), Cond.methodLink RJ1 9 yJ0_checkIndex_df160, Cond.static yJ0_checkIndex_df160, Cond.code yJ0_checkIndex_df160 cJ0_checkIndex_df160 2 none, Cond.fieldLink RJ0 1053 "jdk/internal/util/Preconditions" "SIOOBE_FORMATTER" "Ljava/util/function/BiFunction;", Cond.methodLink RJ0 1059 yJ3_checkIndex_8e157, Cond.static yJ3_checkIndex_8e157, Cond.initialized RJ3, Cond.code yJ3_checkIndex_8e157 cJ3_checkIndex_8e157 3 (some .int), Cond.methodLink RJ0 498 yJ2_charAt_3b067, Cond.static yJ2_charAt_3b067, Cond.initialized RJ2, Cond.code yJ2_charAt_3b067 cJ2_charAt_3b067 2 (some .char), Cond.methodLink RJ2 67 yJ2_checkIndex_2214a, Cond.static yJ2_checkIndex_2214a, Cond.code yJ2_checkIndex_2214a cJ2_checkIndex_2214a 2 none, Cond.methodLink RJ2 48 yJ2_length_9d52b]
def wsX6_readItem_r3 : List Cond := [Cond.static yJ2_length_9d52b, Cond.code yJ2_length_9d52b cJ2_length_9d52b 1 (some .int), Cond.methodLink RJ2 414 yJ0_checkIndex_df160, Cond.methodLink RJ2 71 yJ2_getChar_3b067, Cond.static yJ2_getChar_3b067, Cond.code yJ2_getChar_3b067 cJ2_getChar_3b067 2 (some .char), Cond.fieldLink RJ2 44 "java/lang/StringUTF16" "$assertionsDisabled" "Z", Cond.fieldLink RJ2 59 "java/lang/StringUTF16" "HI_BYTE_SHIFT" "I", Cond.fieldLink RJ2 63 "java/lang/StringUTF16" "LO_BYTE_SHIFT" "I", Cond.methodLink RX6 47 yX3_isFull, Cond.instanceMethod yX3_isFull, Cond.selects RX3 yX3_isFull yX3_isFull, Cond.initialized RX3, Cond.code yX3_isFull cX3_isFull 1 (some .boolean), Cond.fieldLink RX3 21 "NineHands$Office" "count" "I", Cond.methodLink RX6 51 yX6_readClerk, Cond.instanceMethod yX6_readClerk, Cond.selects RX6 yX6_readClerk yX6_readClerk, Cond.code yX6_readClerk cX6_readClerk 5 (some .boolean), Cond.fieldLink RX6 25 "NineHands$Text" "number" "I", Cond.methodLink RX6 63 yX6_takeNumber, Cond.instanceMethod yX6_takeNumber, Cond.selects RX6 yX6_takeNumber yX6_takeNumber, Cond.code yX6_takeNumber cX6_takeNumber 3 (some .boolean)]
def wsX6_readItem_r4 : List Cond := [Cond.methodLink RX6 33 yX6_take, Cond.instanceMethod yX6_take, Cond.selects RX6 yX6_take yX6_take, Cond.code yX6_take cX6_take 2 (some .int), Cond.fieldLink RX6 15 "NineHands$Text" "length" "I", Cond.methodLink RX6 77 yX6_sortOf, Cond.static yX6_sortOf, Cond.code yX6_sortOf cX6_sortOf 1 (some .int), Cond.methodLink RX6 67 yX3_add, Cond.instanceMethod yX3_add, Cond.selects RX3 yX3_add yX3_add, Cond.code yX3_add cX3_add 6 none, Cond.fieldLink RX3 11 "NineHands$Office" "clerks" "[LNineHands$Clerk;", Cond.methodLink RX3 35 yX3_isFull, Cond.methodLink RX6 60 yX6_readFirstLine, Cond.instanceMethod yX6_readFirstLine, Cond.selects RX6 yX6_readFirstLine yX6_readFirstLine, Cond.code yX6_readFirstLine cX6_readFirstLine 2 (some .boolean)]
def wsX6_readItem : List Cond := .code yX6_readItem cX6_readItem 2 (some .boolean) :: ((wsX6_readItem_r1 ++ (wsX6_readItem_r2 ++ (wsX6_readItem_r3 ++ wsX6_readItem_r4))) ++ wsX30 ++ wsX60 ++ wsX00)
def wsX6_readInto_r1 : List Cond := [Cond.fieldLink RX6 19 "NineHands$Text" "next" "I", Cond.fieldLink RX6 22 "NineHands$Text" "start" "I", Cond.instanceMethod yX3_begin, Cond.initialized RX3, Cond.selects RX3 yX3_begin yX3_begin, Cond.code yX3_begin cX3_begin 1 none, Cond.fieldLink RX3 21 "NineHands$Office" "count" "I", Cond.fieldLink RX3 25 "NineHands$Office" "letterTold" "Z", Cond.fieldLink RX3 29 "NineHands$Office" "firstTone" "I", Cond.fieldLink RX3 32 "NineHands$Office" "firstMarks" "I", Cond.methodLink RX6 33 yX6_take, Cond.instanceMethod yX6_take, Cond.selects RX6 yX6_take yX6_take, Cond.initialized RX6, Cond.code yX6_take cX6_take 2 (some .int), Cond.fieldLink RX6 15 "NineHands$Text" "length" "I", Cond.fieldLink RX6 9 "NineHands$Text" "bytes" "[B", Cond.methodLink RX6 77 yX6_sortOf, Cond.static yX6_sortOf, Cond.code yX6_sortOf cX6_sortOf 1 (some .int), Cond.methodLink RX6 37 yX6_readItem, Cond.instanceMethod yX6_readItem, Cond.selects RX6 yX6_readItem yX6_readItem, Cond.code yX6_readItem cX6_readItem 2 (some .boolean)]
def wsX6_readInto_r2 : List Cond := [Cond.methodLink RX6 43 yX6_tookWord, Cond.instanceMethod yX6_tookWord, Cond.selects RX6 yX6_tookWord yX6_tookWord, Cond.code yX6_tookWord cX6_tookWord 3 (some .boolean), Cond.methodLink RX6 81 yJ0_length_8abf5, Cond.instanceMethod yJ0_length_8abf5, Cond.selects RJ0 yJ0_length_8abf5 yJ0_length_8abf5, Cond.initialized RJ0, Cond.code yJ0_length_8abf5 cJ0_length_8abf5 1 (some .int), Cond.fieldLink RJ0 9 "java/lang/String" "value" "[B", Cond.methodLink RJ0 335 yJ0_coder_7d493, Cond.instanceMethod yJ0_coder_7d493, Cond.selects RJ0 yJ0_coder_7d493 yJ0_coder_7d493, Cond.code yJ0_coder_7d493 cJ0_coder_7d493 1 (some .byte), Cond.fieldLink RJ0 38 "java/lang/String" "COMPACT_STRINGS" "Z", Cond.fieldLink RJ0 15 "java/lang/String" "coder" "B", Cond.methodLink RX6 85 yJ0_charAt_5068e, Cond.instanceMethod yJ0_charAt_5068e, Cond.selects RJ0 yJ0_charAt_5068e yJ0_charAt_5068e, Cond.code yJ0_charAt_5068e cJ0_charAt_5068e 2 (some .char), Cond.methodLink RJ0 492 yJ0_isLatin1_aae02, Cond.instanceMethod yJ0_isLatin1_aae02, Cond.selects RJ0 yJ0_isLatin1_aae02 yJ0_isLatin1_aae02, Cond.code yJ0_isLatin1_aae02 cJ0_isLatin1_aae02 1 (some .boolean)]
def wsX6_readInto_r3 : List Cond := [Cond.methodLink RJ0 495 yJ1_charAt_3b067, Cond.static yJ1_charAt_3b067, Cond.initialized RJ1, Cond.code yJ1_charAt_3b067 cJ1_charAt_3b067 2 (some .char), Cond.methodLink RJ1 9 yJ0_checkIndex_df160, Cond.static yJ0_checkIndex_df160, Cond.code yJ0_checkIndex_df160 cJ0_checkIndex_df160 2 none, Cond.fieldLink RJ0 1053 "jdk/internal/util/Preconditions" "SIOOBE_FORMATTER" "Ljava/util/function/BiFunction;", Cond.methodLink RJ0 1059 yJ3_checkIndex_8e157, Cond.static yJ3_checkIndex_8e157, Cond.initialized RJ3, Cond.code yJ3_checkIndex_8e157 cJ3_checkIndex_8e157 3 (some .int), Cond.methodLink RJ0 498 yJ2_charAt_3b067, Cond.static yJ2_charAt_3b067, Cond.initialized RJ2, Cond.code yJ2_charAt_3b067 cJ2_charAt_3b067 2 (some .char), Cond.methodLink RJ2 67 yJ2_checkIndex_2214a, Cond.static yJ2_checkIndex_2214a, Cond.code yJ2_checkIndex_2214a cJ2_checkIndex_2214a 2 none, Cond.methodLink RJ2 48 yJ2_length_9d52b, Cond.static yJ2_length_9d52b, Cond.code yJ2_length_9d52b cJ2_length_9d52b 1 (some .int), Cond.methodLink RJ2 414 yJ0_checkIndex_df160, Cond.methodLink RJ2 71 yJ2_getChar_3b067]
def wsX6_readInto_r4 : List Cond := [Cond.static yJ2_getChar_3b067, Cond.code yJ2_getChar_3b067 cJ2_getChar_3b067 2 (some .char), Cond.fieldLink RJ2 44 "java/lang/StringUTF16" "$assertionsDisabled" "Z", Cond.fieldLink RJ2 59 "java/lang/StringUTF16" "HI_BYTE_SHIFT" "I", Cond.fieldLink RJ2 63 "java/lang/StringUTF16" "LO_BYTE_SHIFT" "I", Cond.methodLink RX6 47 yX3_isFull, Cond.instanceMethod yX3_isFull, Cond.selects RX3 yX3_isFull yX3_isFull, Cond.code yX3_isFull cX3_isFull 1 (some .boolean), Cond.methodLink RX6 51 yX6_readClerk, Cond.instanceMethod yX6_readClerk, Cond.selects RX6 yX6_readClerk yX6_readClerk, Cond.code yX6_readClerk cX6_readClerk 5 (some .boolean), Cond.fieldLink RX6 25 "NineHands$Text" "number" "I", Cond.methodLink RX6 63 yX6_takeNumber, Cond.instanceMethod yX6_takeNumber, Cond.selects RX6 yX6_takeNumber yX6_takeNumber, Cond.code yX6_takeNumber cX6_takeNumber 3 (some .boolean), Cond.methodLink RX6 67 yX3_add, Cond.instanceMethod yX3_add, Cond.selects RX3 yX3_add yX3_add, Cond.code yX3_add cX3_add 6 none, Cond.fieldLink RX3 11 "NineHands$Office" "clerks" "[LNineHands$Clerk;", Cond.methodLink RX3 35 yX3_isFull]
def wsX6_readInto_r5 : List Cond := [Cond.methodLink RX6 60 yX6_readFirstLine, Cond.instanceMethod yX6_readFirstLine, Cond.selects RX6 yX6_readFirstLine yX6_readFirstLine, Cond.code yX6_readFirstLine cX6_readFirstLine 2 (some .boolean)]
def wsX6_readInto : List Cond := .code yX6_readInto cX6_readInto 4 (some .int) :: ((wsX6_readInto_r1 ++ (wsX6_readInto_r2 ++ (wsX6_readInto_r3 ++ (wsX6_readInto_r4 ++ wsX6_readInto_r5)))) ++ wsX60 ++ wsX30 ++ wsX00)
def wsX7_init_r1 : List Cond := [Cond.methodLink RX7 1 objectInit, Cond.instanceMethod objectInit, Cond.code objectInit ⟨#[0xb1]⟩ 1 none, Cond.classLink RX7 7 RX6, Cond.instantiable RX6 5, Cond.initialized RX6, Cond.fieldLink RX7 10 "NineHands" "text" "LNineHands$Text;", Cond.classLink RX7 16 RX2, Cond.instantiable RX2 5, Cond.initialized RX2, Cond.fieldLink RX7 19 "NineHands" "letter" "LNineHands$Letter;", Cond.fieldLink RX7 23 "NineHands" "images" "[LNineHands$Letter;", Cond.classLink RX7 27 RX5, Cond.instantiable RX5 5, Cond.initialized RX5, Cond.fieldLink RX7 30 "NineHands" "samples" "LNineHands$Samples;", Cond.classLink RX7 34 RX1, Cond.instantiable RX1 2, Cond.initialized RX1, Cond.fieldLink RX7 37 "NineHands" "copies" "LNineHands$Copies;", Cond.classLink RX7 41 RX4, Cond.instantiable RX4 4, Cond.initialized RX4, Cond.fieldLink RX7 44 "NineHands" "orders" "LNineHands$Orders;"]
def wsX7_init_r2 : List Cond := [Cond.classLink RX7 48 RX3, Cond.instantiable RX3 5, Cond.initialized RX3, Cond.fieldLink RX7 51 "NineHands" "office" "LNineHands$Office;", Cond.fieldLink RX7 55 "NineHands" "draft" "LNineHands$Office;", Cond.fieldLink RX7 58 "NineHands" "traced" "J", Cond.instanceMethod yX6_init, Cond.code yX6_init cX6_init 1 none, Cond.methodLink RX6 3 objectInit, Cond.arrayClass .byte, Cond.fieldLink RX6 9 "NineHands$Text" "bytes" "[B", Cond.fieldLink RX6 15 "NineHands$Text" "length" "I", Cond.fieldLink RX6 19 "NineHands$Text" "next" "I", Cond.fieldLink RX6 22 "NineHands$Text" "start" "I", Cond.fieldLink RX6 25 "NineHands$Text" "number" "I", Cond.instanceMethod yX2_init, Cond.code yX2_init cX2_init 1 none, Cond.methodLink RX2 3 objectInit, Cond.arrayClass .int, Cond.fieldLink RX2 9 "NineHands$Letter" "tones" "[I", Cond.fieldLink RX2 15 "NineHands$Letter" "marks" "[I", Cond.fieldLink RX2 18 "NineHands$Letter" "writers" "[I", Cond.fieldLink RX2 21 "NineHands$Letter" "lines" "I", Cond.fieldLink RX2 25 "NineHands$Letter" "luck" "I"]
def wsX7_init_r3 : List Cond := [Cond.instanceMethod yX5_init, Cond.code yX5_init cX5_init 1 none, Cond.methodLink RX5 3 objectInit, Cond.fieldLink RX5 9 "NineHands$Samples" "tones" "[I", Cond.fieldLink RX5 15 "NineHands$Samples" "marks" "[I", Cond.fieldLink RX5 18 "NineHands$Samples" "thenTones" "[I", Cond.fieldLink RX5 21 "NineHands$Samples" "thenMarks" "[I", Cond.fieldLink RX5 24 "NineHands$Samples" "count" "I", Cond.instanceMethod yX1_init, Cond.code yX1_init cX1_init 1 none, Cond.methodLink RX1 3 objectInit, Cond.fieldLink RX1 9 "NineHands$Copies" "slips" "[I", Cond.fieldLink RX1 15 "NineHands$Copies" "count" "I", Cond.instanceMethod yX4_init, Cond.code yX4_init cX4_init 1 none, Cond.methodLink RX4 3 objectInit, Cond.fieldLink RX4 9 "NineHands$Orders" "row" "[I", Cond.fieldLink RX4 15 "NineHands$Orders" "best" "[I", Cond.fieldLink RX4 18 "NineHands$Orders" "size" "I", Cond.fieldLink RX4 22 "NineHands$Orders" "least" "I", Cond.methodLink RX7 50 yX3_init, Cond.instanceMethod yX3_init, Cond.code yX3_init cX3_init 2 none, Cond.methodLink RX3 3 objectInit]
def wsX7_init_r4 : List Cond := [Cond.classLink RX3 9 RX0, Cond.fieldLink RX3 11 "NineHands$Office" "clerks" "[LNineHands$Clerk;", Cond.instantiable RX0 4, Cond.initialized RX0, Cond.instanceMethod yX0_init, Cond.code yX0_init cX0_init 1 none, Cond.methodLink RX0 3 objectInit, Cond.methodLink RX3 18 yX3_begin, Cond.instanceMethod yX3_begin, Cond.selects RX3 yX3_begin yX3_begin, Cond.code yX3_begin cX3_begin 1 none, Cond.fieldLink RX3 21 "NineHands$Office" "count" "I", Cond.fieldLink RX3 25 "NineHands$Office" "letterTold" "Z", Cond.fieldLink RX3 29 "NineHands$Office" "firstTone" "I", Cond.fieldLink RX3 32 "NineHands$Office" "firstMarks" "I", Cond.methodLink RX7 69 yX2_begin, Cond.instanceMethod yX2_begin, Cond.selects RX2 yX2_begin yX2_begin, Cond.code yX2_begin cX2_begin 3 none, Cond.methodLink RX2 28 yX2_add, Cond.instanceMethod yX2_add, Cond.selects RX2 yX2_add yX2_add, Cond.code yX2_add cX2_add 4 none, Cond.methodLink RX2 32 yX2_isFull]
def wsX7_init_r5 : List Cond := [Cond.instanceMethod yX2_isFull, Cond.selects RX2 yX2_isFull yX2_isFull, Cond.code yX2_isFull cX2_isFull 1 (some .boolean)]
def wsX7_init : List Cond := .code yX7_init cX7_init 1 none :: ((wsX7_init_r1 ++ (wsX7_init_r2 ++ (wsX7_init_r3 ++ (wsX7_init_r4 ++ wsX7_init_r5)))) ++ wsX60 ++ wsX70 ++ wsX20 ++ wsX50 ++ wsX10 ++ wsX40 ++ wsX30 ++ wsX00)
def wsX7_type : List Cond := .code yX7_type cX7_type 4 (some .int) :: ([.fieldLink RX7 10 "NineHands" "text" "LNineHands$Text;", .methodLink RX7 76 yX6_append, .instanceMethod yX6_append, .selects RX6 yX6_append yX6_append, .initialized RX6, .code yX6_append cX6_append 5 none, .fieldLink RX6 15 "NineHands$Text" "length" "I", .fieldLink RX6 9 "NineHands$Text" "bytes" "[B"] ++ wsX70 ++ wsX60)
def wsX7_clear : List Cond := .code yX7_clear cX7_clear 2 (some .int) :: ([.fieldLink RX7 10 "NineHands" "text" "LNineHands$Text;"] ++ wsX70 ++ wsX60)
def wsX7_beginAnew : List Cond := .code yX7_beginAnew cX7_beginAnew 2 none :: ([.fieldLink RX7 10 "NineHands" "text" "LNineHands$Text;", .fieldLink RX7 19 "NineHands" "letter" "LNineHands$Letter;", .fieldLink RX7 51 "NineHands" "office" "LNineHands$Office;", .fieldLink RX7 30 "NineHands" "samples" "LNineHands$Samples;", .fieldLink RX7 37 "NineHands" "copies" "LNineHands$Copies;", .fieldLink RX7 23 "NineHands" "images" "[LNineHands$Letter;", .methodLink RX7 69 yX2_begin, .instanceMethod yX2_begin, .selects RX2 yX2_begin yX2_begin, .initialized RX2, .code yX2_begin cX2_begin 3 none, .fieldLink RX2 21 "NineHands$Letter" "lines" "I", .methodLink RX2 28 yX2_add, .instanceMethod yX2_add, .selects RX2 yX2_add yX2_add, .code yX2_add cX2_add 4 none, .fieldLink RX2 9 "NineHands$Letter" "tones" "[I", .fieldLink RX2 15 "NineHands$Letter" "marks" "[I", .fieldLink RX2 18 "NineHands$Letter" "writers" "[I", .methodLink RX2 32 yX2_isFull, .instanceMethod yX2_isFull, .selects RX2 yX2_isFull yX2_isFull, .code yX2_isFull cX2_isFull 1 (some .boolean)] ++ wsX70 ++ wsX60 ++ wsX30 ++ wsX50 ++ wsX10 ++ wsX20)
def wsX7_chancery_r1 : List Cond := [Cond.fieldLink RX7 10 "NineHands" "text" "LNineHands$Text;", Cond.fieldLink RX7 55 "NineHands" "draft" "LNineHands$Office;", Cond.fieldLink RX7 51 "NineHands" "office" "LNineHands$Office;", Cond.methodLink RX7 80 yX6_readInto, Cond.instanceMethod yX6_readInto, Cond.selects RX6 yX6_readInto yX6_readInto, Cond.initialized RX6, Cond.code yX6_readInto cX6_readInto 4 (some .int), Cond.fieldLink RX6 19 "NineHands$Text" "next" "I", Cond.fieldLink RX6 22 "NineHands$Text" "start" "I", Cond.instanceMethod yX3_begin, Cond.initialized RX3, Cond.selects RX3 yX3_begin yX3_begin, Cond.code yX3_begin cX3_begin 1 none, Cond.fieldLink RX3 21 "NineHands$Office" "count" "I", Cond.fieldLink RX3 25 "NineHands$Office" "letterTold" "Z", Cond.fieldLink RX3 29 "NineHands$Office" "firstTone" "I", Cond.fieldLink RX3 32 "NineHands$Office" "firstMarks" "I", Cond.methodLink RX6 33 yX6_take, Cond.instanceMethod yX6_take, Cond.selects RX6 yX6_take yX6_take, Cond.code yX6_take cX6_take 2 (some .int), Cond.fieldLink RX6 15 "NineHands$Text" "length" "I", Cond.fieldLink RX6 9 "NineHands$Text" "bytes" "[B"]
def wsX7_chancery_r2 : List Cond := [Cond.methodLink RX6 77 yX6_sortOf, Cond.static yX6_sortOf, Cond.code yX6_sortOf cX6_sortOf 1 (some .int), Cond.methodLink RX6 37 yX6_readItem, Cond.instanceMethod yX6_readItem, Cond.selects RX6 yX6_readItem yX6_readItem, Cond.code yX6_readItem cX6_readItem 2 (some .boolean), Cond.methodLink RX6 43 yX6_tookWord, Cond.instanceMethod yX6_tookWord, Cond.selects RX6 yX6_tookWord yX6_tookWord, Cond.code yX6_tookWord cX6_tookWord 3 (some .boolean), Cond.methodLink RX6 81 yJ0_length_8abf5, Cond.instanceMethod yJ0_length_8abf5, Cond.selects RJ0 yJ0_length_8abf5 yJ0_length_8abf5, Cond.initialized RJ0, Cond.code yJ0_length_8abf5 cJ0_length_8abf5 1 (some .int), Cond.fieldLink RJ0 9 "java/lang/String" "value" "[B", Cond.methodLink RJ0 335 yJ0_coder_7d493, Cond.instanceMethod yJ0_coder_7d493, Cond.selects RJ0 yJ0_coder_7d493 yJ0_coder_7d493, Cond.code yJ0_coder_7d493 cJ0_coder_7d493 1 (some .byte), Cond.fieldLink RJ0 38 "java/lang/String" "COMPACT_STRINGS" "Z", Cond.fieldLink RJ0 15 "java/lang/String" "coder" "B", Cond.methodLink RX6 85 yJ0_charAt_5068e]
def wsX7_chancery_r3 : List Cond := [Cond.instanceMethod yJ0_charAt_5068e, Cond.selects RJ0 yJ0_charAt_5068e yJ0_charAt_5068e, Cond.code yJ0_charAt_5068e cJ0_charAt_5068e 2 (some .char), Cond.methodLink RJ0 492 yJ0_isLatin1_aae02, Cond.instanceMethod yJ0_isLatin1_aae02, Cond.selects RJ0 yJ0_isLatin1_aae02 yJ0_isLatin1_aae02, Cond.code yJ0_isLatin1_aae02 cJ0_isLatin1_aae02 1 (some .boolean), Cond.methodLink RJ0 495 yJ1_charAt_3b067, Cond.static yJ1_charAt_3b067, Cond.initialized RJ1, Cond.code yJ1_charAt_3b067 cJ1_charAt_3b067 2 (some .char), Cond.methodLink RJ1 9 yJ0_checkIndex_df160, Cond.static yJ0_checkIndex_df160, Cond.code yJ0_checkIndex_df160 cJ0_checkIndex_df160 2 none, Cond.fieldLink RJ0 1053 "jdk/internal/util/Preconditions" "SIOOBE_FORMATTER" "Ljava/util/function/BiFunction;", Cond.methodLink RJ0 1059 yJ3_checkIndex_8e157, Cond.static yJ3_checkIndex_8e157, Cond.initialized RJ3, Cond.code yJ3_checkIndex_8e157 cJ3_checkIndex_8e157 3 (some .int), Cond.methodLink RJ0 498 yJ2_charAt_3b067, Cond.static yJ2_charAt_3b067, Cond.initialized RJ2, Cond.code yJ2_charAt_3b067 cJ2_charAt_3b067 2 (some .char), Cond.methodLink RJ2 67 yJ2_checkIndex_2214a]
def wsX7_chancery_r4 : List Cond := [Cond.static yJ2_checkIndex_2214a, Cond.code yJ2_checkIndex_2214a cJ2_checkIndex_2214a 2 none, Cond.methodLink RJ2 48 yJ2_length_9d52b, Cond.static yJ2_length_9d52b, Cond.code yJ2_length_9d52b cJ2_length_9d52b 1 (some .int), Cond.methodLink RJ2 414 yJ0_checkIndex_df160, Cond.methodLink RJ2 71 yJ2_getChar_3b067, Cond.static yJ2_getChar_3b067, Cond.code yJ2_getChar_3b067 cJ2_getChar_3b067 2 (some .char), Cond.fieldLink RJ2 44 "java/lang/StringUTF16" "$assertionsDisabled" "Z", Cond.fieldLink RJ2 59 "java/lang/StringUTF16" "HI_BYTE_SHIFT" "I", Cond.fieldLink RJ2 63 "java/lang/StringUTF16" "LO_BYTE_SHIFT" "I", Cond.methodLink RX6 47 yX3_isFull, Cond.instanceMethod yX3_isFull, Cond.selects RX3 yX3_isFull yX3_isFull, Cond.code yX3_isFull cX3_isFull 1 (some .boolean), Cond.methodLink RX6 51 yX6_readClerk, Cond.instanceMethod yX6_readClerk, Cond.selects RX6 yX6_readClerk yX6_readClerk, Cond.code yX6_readClerk cX6_readClerk 5 (some .boolean), Cond.fieldLink RX6 25 "NineHands$Text" "number" "I", Cond.methodLink RX6 63 yX6_takeNumber, Cond.instanceMethod yX6_takeNumber, Cond.selects RX6 yX6_takeNumber yX6_takeNumber]
def wsX7_chancery_r5 : List Cond := [Cond.code yX6_takeNumber cX6_takeNumber 3 (some .boolean), Cond.methodLink RX6 67 yX3_add, Cond.instanceMethod yX3_add, Cond.selects RX3 yX3_add yX3_add, Cond.code yX3_add cX3_add 6 none, Cond.fieldLink RX3 11 "NineHands$Office" "clerks" "[LNineHands$Clerk;", Cond.methodLink RX3 35 yX3_isFull, Cond.methodLink RX6 60 yX6_readFirstLine, Cond.instanceMethod yX6_readFirstLine, Cond.selects RX6 yX6_readFirstLine yX6_readFirstLine, Cond.code yX6_readFirstLine cX6_readFirstLine 2 (some .boolean), Cond.methodLink RX7 84 yX7_beginAnew, Cond.instanceMethod yX7_beginAnew, Cond.selects RX7 yX7_beginAnew yX7_beginAnew, Cond.initialized RX7, Cond.code yX7_beginAnew cX7_beginAnew 2 none, Cond.fieldLink RX7 19 "NineHands" "letter" "LNineHands$Letter;", Cond.fieldLink RX7 30 "NineHands" "samples" "LNineHands$Samples;", Cond.fieldLink RX7 37 "NineHands" "copies" "LNineHands$Copies;", Cond.fieldLink RX7 23 "NineHands" "images" "[LNineHands$Letter;", Cond.methodLink RX7 69 yX2_begin, Cond.instanceMethod yX2_begin, Cond.selects RX2 yX2_begin yX2_begin, Cond.initialized RX2]
def wsX7_chancery_r6 : List Cond := [Cond.code yX2_begin cX2_begin 3 none, Cond.fieldLink RX2 21 "NineHands$Letter" "lines" "I", Cond.methodLink RX2 28 yX2_add, Cond.instanceMethod yX2_add, Cond.selects RX2 yX2_add yX2_add, Cond.code yX2_add cX2_add 4 none, Cond.fieldLink RX2 9 "NineHands$Letter" "tones" "[I", Cond.fieldLink RX2 15 "NineHands$Letter" "marks" "[I", Cond.fieldLink RX2 18 "NineHands$Letter" "writers" "[I", Cond.methodLink RX2 32 yX2_isFull, Cond.instanceMethod yX2_isFull, Cond.selects RX2 yX2_isFull yX2_isFull, Cond.code yX2_isFull cX2_isFull 1 (some .boolean)]
def wsX7_chancery : List Cond := .code yX7_chancery cX7_chancery 3 (some .int) :: ((wsX7_chancery_r1 ++ (wsX7_chancery_r2 ++ (wsX7_chancery_r3 ++ (wsX7_chancery_r4 ++ (wsX7_chancery_r5 ++ wsX7_chancery_r6))))) ++ wsX70 ++ wsX60 ++ wsX30 ++ wsX00 ++ wsX50 ++ wsX10 ++ wsX20)
def wsX7_clerk : List Cond := .code yX7_clerk cX7_clerk 4 (some .int) :: ([.fieldLink RX7 51 "NineHands" "office" "LNineHands$Office;", .methodLink RX7 87 yX3_find, .instanceMethod yX3_find, .selects RX3 yX3_find yX3_find, .initialized RX3, .code yX3_find cX3_find 2 (some (.object "NineHands$Clerk")), .fieldLink RX3 21 "NineHands$Office" "count" "I", .fieldLink RX3 11 "NineHands$Office" "clerks" "[LNineHands$Clerk;"] ++ wsX70 ++ wsX00 ++ wsX30)
def wsX7_line : List Cond := .code yX7_line cX7_line 3 (some .int) :: ([.fieldLink RX7 19 "NineHands" "letter" "LNineHands$Letter;"] ++ wsX70 ++ wsX20)
def wsX7_isTone : List Cond := .code yX7_isTone cX7_isTone 1 (some .boolean) :: ([])
def wsX7_isLine : List Cond := .code yX7_isLine cX7_isLine 2 (some .boolean) :: ([.methodLink RX7 184 yX7_isTone, .static yX7_isTone, .initialized RX7, .code yX7_isTone cX7_isTone 1 (some .boolean)])
def wsX7_told : List Cond := .code yX7_told cX7_told 2 (some .int) :: ([])
def wsX7_makes_r1 : List Cond := [Cond.fieldLink RX7 51 "NineHands" "office" "LNineHands$Office;", Cond.methodLink RX7 87 yX3_find, Cond.instanceMethod yX3_find, Cond.selects RX3 yX3_find yX3_find, Cond.initialized RX3, Cond.code yX3_find cX3_find 2 (some (.object "NineHands$Clerk")), Cond.fieldLink RX3 21 "NineHands$Office" "count" "I", Cond.fieldLink RX3 11 "NineHands$Office" "clerks" "[LNineHands$Clerk;", Cond.methodLink RX7 118 yX7_isLine, Cond.static yX7_isLine, Cond.initialized RX7, Cond.code yX7_isLine cX7_isLine 2 (some .boolean), Cond.methodLink RX7 184 yX7_isTone, Cond.static yX7_isTone, Cond.code yX7_isTone cX7_isTone 1 (some .boolean), Cond.methodLink RX7 122 yX0_toneBehind, Cond.instanceMethod yX0_toneBehind, Cond.selects RX0 yX0_toneBehind yX0_toneBehind, Cond.initialized RX0, Cond.code yX0_toneBehind cX0_toneBehind 2 (some .int), Cond.fieldLink RX0 9 "NineHands$Clerk" "lean" "I", Cond.static yX7_leant, Cond.code yX7_leant cX7_leant 2 (some .int), Cond.methodLink RX7 262 Lib.Math.min.name]
def wsX7_makes_r2 : List Cond := [Cond.static Lib.Math.min.name, Cond.initialized "java/lang/Math", Cond.code Lib.Math.min.name Lib.Math.min.code 2 (some .int), Cond.methodLink RX7 267 Lib.Math.max.name, Cond.static Lib.Math.max.name, Cond.code Lib.Math.max.name Lib.Math.max.code 2 (some .int), Cond.methodLink RX7 126 yX0_marksBehind, Cond.instanceMethod yX0_marksBehind, Cond.selects RX0 yX0_marksBehind yX0_marksBehind, Cond.code yX0_marksBehind cX0_marksBehind 2 (some .int), Cond.fieldLink RX0 19 "NineHands$Clerk" "sets" "I", Cond.fieldLink RX0 22 "NineHands$Clerk" "drops" "I", Cond.methodLink RX7 129 yX7_told, Cond.static yX7_told, Cond.code yX7_told cX7_told 2 (some .int)]
def wsX7_makes : List Cond := .code yX7_makes cX7_makes 5 (some .int) :: ((wsX7_makes_r1 ++ wsX7_makes_r2) ++ wsX70 ++ wsX30 ++ wsX00)
def wsX7_write_r1 : List Cond := [Cond.fieldLink RX7 51 "NineHands" "office" "LNineHands$Office;", Cond.fieldLink RX7 19 "NineHands" "letter" "LNineHands$Letter;", Cond.methodLink RX7 87 yX3_find, Cond.instanceMethod yX3_find, Cond.selects RX3 yX3_find yX3_find, Cond.initialized RX3, Cond.code yX3_find cX3_find 2 (some (.object "NineHands$Clerk")), Cond.fieldLink RX3 21 "NineHands$Office" "count" "I", Cond.fieldLink RX3 11 "NineHands$Office" "clerks" "[LNineHands$Clerk;", Cond.methodLink RX7 133 yX2_isFull, Cond.instanceMethod yX2_isFull, Cond.selects RX2 yX2_isFull yX2_isFull, Cond.initialized RX2, Cond.code yX2_isFull cX2_isFull 1 (some .boolean), Cond.fieldLink RX2 21 "NineHands$Letter" "lines" "I", Cond.methodLink RX7 137 yX2_lastTone, Cond.instanceMethod yX2_lastTone, Cond.selects RX2 yX2_lastTone yX2_lastTone, Cond.code yX2_lastTone cX2_lastTone 1 (some .int), Cond.fieldLink RX2 9 "NineHands$Letter" "tones" "[I", Cond.methodLink RX2 36 yX2_isBlank, Cond.instanceMethod yX2_isBlank, Cond.selects RX2 yX2_isBlank yX2_isBlank, Cond.code yX2_isBlank cX2_isBlank 1 (some .boolean)]
def wsX7_write_r2 : List Cond := [Cond.methodLink RX7 141 yX2_lastMarks, Cond.instanceMethod yX2_lastMarks, Cond.selects RX2 yX2_lastMarks yX2_lastMarks, Cond.code yX2_lastMarks cX2_lastMarks 1 (some .int), Cond.fieldLink RX2 15 "NineHands$Letter" "marks" "[I", Cond.methodLink RX7 144 yX2_draw, Cond.instanceMethod yX2_draw, Cond.selects RX2 yX2_draw yX2_draw, Cond.code yX2_draw cX2_draw 1 (some .int), Cond.fieldLink RX2 25 "NineHands$Letter" "luck" "I", Cond.constant RX2 39 (1103515245), Cond.methodLink RX7 122 yX0_toneBehind, Cond.instanceMethod yX0_toneBehind, Cond.selects RX0 yX0_toneBehind yX0_toneBehind, Cond.initialized RX0, Cond.code yX0_toneBehind cX0_toneBehind 2 (some .int), Cond.fieldLink RX0 9 "NineHands$Clerk" "lean" "I", Cond.static yX7_leant, Cond.initialized RX7, Cond.code yX7_leant cX7_leant 2 (some .int), Cond.methodLink RX7 262 Lib.Math.min.name, Cond.static Lib.Math.min.name, Cond.initialized "java/lang/Math", Cond.code Lib.Math.min.name Lib.Math.min.code 2 (some .int)]
def wsX7_write_r3 : List Cond := [Cond.methodLink RX7 267 Lib.Math.max.name, Cond.static Lib.Math.max.name, Cond.code Lib.Math.max.name Lib.Math.max.code 2 (some .int), Cond.methodLink RX7 126 yX0_marksBehind, Cond.instanceMethod yX0_marksBehind, Cond.selects RX0 yX0_marksBehind yX0_marksBehind, Cond.code yX0_marksBehind cX0_marksBehind 2 (some .int), Cond.fieldLink RX0 19 "NineHands$Clerk" "sets" "I", Cond.fieldLink RX0 22 "NineHands$Clerk" "drops" "I", Cond.methodLink RX7 147 yX2_add, Cond.instanceMethod yX2_add, Cond.selects RX2 yX2_add yX2_add, Cond.code yX2_add cX2_add 4 none, Cond.fieldLink RX2 18 "NineHands$Letter" "writers" "[I", Cond.methodLink RX2 32 yX2_isFull, Cond.methodLink RX7 129 yX7_told, Cond.static yX7_told, Cond.code yX7_told cX7_told 2 (some .int)]
def wsX7_write : List Cond := .code yX7_write cX7_write 5 (some .int) :: ((wsX7_write_r1 ++ (wsX7_write_r2 ++ wsX7_write_r3)) ++ wsX70 ++ wsX00 ++ wsX30 ++ wsX20)
def wsX7_forge : List Cond := .code yX7_forge cX7_forge 3 (some .int) :: ([.fieldLink RX7 19 "NineHands" "letter" "LNineHands$Letter;", .methodLink RX7 118 yX7_isLine, .static yX7_isLine, .initialized RX7, .code yX7_isLine cX7_isLine 2 (some .boolean), .methodLink RX7 184 yX7_isTone, .static yX7_isTone, .code yX7_isTone cX7_isTone 1 (some .boolean), .methodLink RX7 133 yX2_isFull, .instanceMethod yX2_isFull, .selects RX2 yX2_isFull yX2_isFull, .initialized RX2, .code yX2_isFull cX2_isFull 1 (some .boolean), .fieldLink RX2 21 "NineHands$Letter" "lines" "I", .methodLink RX7 147 yX2_add, .instanceMethod yX2_add, .selects RX2 yX2_add yX2_add, .code yX2_add cX2_add 4 none, .fieldLink RX2 9 "NineHands$Letter" "tones" "[I", .fieldLink RX2 15 "NineHands$Letter" "marks" "[I", .fieldLink RX2 18 "NineHands$Letter" "writers" "[I", .methodLink RX2 32 yX2_isFull] ++ wsX70 ++ wsX20)
def wsX7_undo : List Cond := .code yX7_undo cX7_undo 1 (some .int) :: ([.fieldLink RX7 19 "NineHands" "letter" "LNineHands$Letter;"] ++ wsX70 ++ wsX20)
def wsX7_lot : List Cond := .code yX7_lot cX7_lot 3 (some .int) :: ([.fieldLink RX7 19 "NineHands" "letter" "LNineHands$Letter;"] ++ wsX70 ++ wsX20)
def wsX7_isWarm : List Cond := .code yX7_isWarm cX7_isWarm 1 (some .boolean) :: ([])
def wsX7_turned : List Cond := .code yX7_turned cX7_turned 3 (some .int) :: ([.fieldLink RX7 19 "NineHands" "letter" "LNineHands$Letter;", .methodLink RX7 154 yX7_isWarm, .static yX7_isWarm, .initialized RX7, .code yX7_isWarm cX7_isWarm 1 (some .boolean)] ++ wsX70 ++ wsX20)
def wsX7_hasLineAhead : List Cond := .code yX7_hasLineAhead cX7_hasLineAhead 2 (some .boolean) :: ([.fieldLink RX7 19 "NineHands" "letter" "LNineHands$Letter;"] ++ wsX70 ++ wsX20)
def wsX7_waysOf_r1 : List Cond := [Cond.fieldLink RX7 51 "NineHands" "office" "LNineHands$Office;", Cond.fieldLink RX7 19 "NineHands" "letter" "LNineHands$Letter;", Cond.methodLink RX7 87 yX3_find, Cond.instanceMethod yX3_find, Cond.selects RX3 yX3_find yX3_find, Cond.initialized RX3, Cond.code yX3_find cX3_find 2 (some (.object "NineHands$Clerk")), Cond.fieldLink RX3 21 "NineHands$Office" "count" "I", Cond.fieldLink RX3 11 "NineHands$Office" "clerks" "[LNineHands$Clerk;", Cond.methodLink RX7 158 yX7_hasLineAhead, Cond.instanceMethod yX7_hasLineAhead, Cond.selects RX7 yX7_hasLineAhead yX7_hasLineAhead, Cond.initialized RX7, Cond.code yX7_hasLineAhead cX7_hasLineAhead 2 (some .boolean), Cond.methodLink RX7 270 yX0_waysTo, Cond.instanceMethod yX0_waysTo, Cond.selects RX0 yX0_waysTo yX0_waysTo, Cond.initialized RX0, Cond.code yX0_waysTo cX0_waysTo 6 (some .int), Cond.fieldLink RX0 32 "NineHands$Clerk" "keeps" "I", Cond.methodLink RX0 25 yX0_toneBehind, Cond.instanceMethod yX0_toneBehind, Cond.selects RX0 yX0_toneBehind yX0_toneBehind, Cond.code yX0_toneBehind cX0_toneBehind 2 (some .int)]
def wsX7_waysOf_r2 : List Cond := [Cond.fieldLink RX0 9 "NineHands$Clerk" "lean" "I", Cond.static yX7_leant, Cond.code yX7_leant cX7_leant 2 (some .int), Cond.methodLink RX7 262 Lib.Math.min.name, Cond.static Lib.Math.min.name, Cond.initialized "java/lang/Math", Cond.code Lib.Math.min.name Lib.Math.min.code 2 (some .int), Cond.methodLink RX7 267 Lib.Math.max.name, Cond.static Lib.Math.max.name, Cond.code Lib.Math.max.name Lib.Math.max.code 2 (some .int), Cond.methodLink RX0 29 yX0_marksBehind, Cond.instanceMethod yX0_marksBehind, Cond.selects RX0 yX0_marksBehind yX0_marksBehind, Cond.code yX0_marksBehind cX0_marksBehind 2 (some .int), Cond.fieldLink RX0 19 "NineHands$Clerk" "sets" "I", Cond.fieldLink RX0 22 "NineHands$Clerk" "drops" "I"]
def wsX7_waysOf : List Cond := .code yX7_waysOf cX7_waysOf 6 (some .int) :: ((wsX7_waysOf_r1 ++ wsX7_waysOf_r2) ++ wsX70 ++ wsX20 ++ wsX30 ++ wsX00)
def wsX7_writersOf_r1 : List Cond := [Cond.fieldLink RX7 51 "NineHands" "office" "LNineHands$Office;", Cond.methodLink RX7 175 yX7_waysOf, Cond.instanceMethod yX7_waysOf, Cond.selects RX7 yX7_waysOf yX7_waysOf, Cond.initialized RX7, Cond.code yX7_waysOf cX7_waysOf 6 (some .int), Cond.fieldLink RX7 19 "NineHands" "letter" "LNineHands$Letter;", Cond.methodLink RX7 87 yX3_find, Cond.instanceMethod yX3_find, Cond.selects RX3 yX3_find yX3_find, Cond.initialized RX3, Cond.code yX3_find cX3_find 2 (some (.object "NineHands$Clerk")), Cond.fieldLink RX3 21 "NineHands$Office" "count" "I", Cond.fieldLink RX3 11 "NineHands$Office" "clerks" "[LNineHands$Clerk;", Cond.methodLink RX7 158 yX7_hasLineAhead, Cond.instanceMethod yX7_hasLineAhead, Cond.selects RX7 yX7_hasLineAhead yX7_hasLineAhead, Cond.code yX7_hasLineAhead cX7_hasLineAhead 2 (some .boolean), Cond.methodLink RX7 270 yX0_waysTo, Cond.instanceMethod yX0_waysTo, Cond.selects RX0 yX0_waysTo yX0_waysTo, Cond.initialized RX0, Cond.code yX0_waysTo cX0_waysTo 6 (some .int), Cond.fieldLink RX0 32 "NineHands$Clerk" "keeps" "I"]
def wsX7_writersOf_r2 : List Cond := [Cond.methodLink RX0 25 yX0_toneBehind, Cond.instanceMethod yX0_toneBehind, Cond.selects RX0 yX0_toneBehind yX0_toneBehind, Cond.code yX0_toneBehind cX0_toneBehind 2 (some .int), Cond.fieldLink RX0 9 "NineHands$Clerk" "lean" "I", Cond.static yX7_leant, Cond.code yX7_leant cX7_leant 2 (some .int), Cond.methodLink RX7 262 Lib.Math.min.name, Cond.static Lib.Math.min.name, Cond.initialized "java/lang/Math", Cond.code Lib.Math.min.name Lib.Math.min.code 2 (some .int), Cond.methodLink RX7 267 Lib.Math.max.name, Cond.static Lib.Math.max.name, Cond.code Lib.Math.max.name Lib.Math.max.code 2 (some .int), Cond.methodLink RX0 29 yX0_marksBehind, Cond.instanceMethod yX0_marksBehind, Cond.selects RX0 yX0_marksBehind yX0_marksBehind, Cond.code yX0_marksBehind cX0_marksBehind 2 (some .int), Cond.fieldLink RX0 19 "NineHands$Clerk" "sets" "I", Cond.fieldLink RX0 22 "NineHands$Clerk" "drops" "I"]
def wsX7_writersOf : List Cond := .code yX7_writersOf cX7_writersOf 4 (some .int) :: ((wsX7_writersOf_r1 ++ wsX7_writersOf_r2) ++ wsX70 ++ wsX30 ++ wsX20 ++ wsX00)
def wsX7_likeliestOf_r1 : List Cond := [Cond.fieldLink RX7 51 "NineHands" "office" "LNineHands$Office;", Cond.methodLink RX7 175 yX7_waysOf, Cond.instanceMethod yX7_waysOf, Cond.selects RX7 yX7_waysOf yX7_waysOf, Cond.initialized RX7, Cond.code yX7_waysOf cX7_waysOf 6 (some .int), Cond.fieldLink RX7 19 "NineHands" "letter" "LNineHands$Letter;", Cond.methodLink RX7 87 yX3_find, Cond.instanceMethod yX3_find, Cond.selects RX3 yX3_find yX3_find, Cond.initialized RX3, Cond.code yX3_find cX3_find 2 (some (.object "NineHands$Clerk")), Cond.fieldLink RX3 21 "NineHands$Office" "count" "I", Cond.fieldLink RX3 11 "NineHands$Office" "clerks" "[LNineHands$Clerk;", Cond.methodLink RX7 158 yX7_hasLineAhead, Cond.instanceMethod yX7_hasLineAhead, Cond.selects RX7 yX7_hasLineAhead yX7_hasLineAhead, Cond.code yX7_hasLineAhead cX7_hasLineAhead 2 (some .boolean), Cond.methodLink RX7 270 yX0_waysTo, Cond.instanceMethod yX0_waysTo, Cond.selects RX0 yX0_waysTo yX0_waysTo, Cond.initialized RX0, Cond.code yX0_waysTo cX0_waysTo 6 (some .int), Cond.fieldLink RX0 32 "NineHands$Clerk" "keeps" "I"]
def wsX7_likeliestOf_r2 : List Cond := [Cond.methodLink RX0 25 yX0_toneBehind, Cond.instanceMethod yX0_toneBehind, Cond.selects RX0 yX0_toneBehind yX0_toneBehind, Cond.code yX0_toneBehind cX0_toneBehind 2 (some .int), Cond.fieldLink RX0 9 "NineHands$Clerk" "lean" "I", Cond.static yX7_leant, Cond.code yX7_leant cX7_leant 2 (some .int), Cond.methodLink RX7 262 Lib.Math.min.name, Cond.static Lib.Math.min.name, Cond.initialized "java/lang/Math", Cond.code Lib.Math.min.name Lib.Math.min.code 2 (some .int), Cond.methodLink RX7 267 Lib.Math.max.name, Cond.static Lib.Math.max.name, Cond.code Lib.Math.max.name Lib.Math.max.code 2 (some .int), Cond.methodLink RX0 29 yX0_marksBehind, Cond.instanceMethod yX0_marksBehind, Cond.selects RX0 yX0_marksBehind yX0_marksBehind, Cond.code yX0_marksBehind cX0_marksBehind 2 (some .int), Cond.fieldLink RX0 19 "NineHands$Clerk" "sets" "I", Cond.fieldLink RX0 22 "NineHands$Clerk" "drops" "I"]
def wsX7_likeliestOf : List Cond := .code yX7_likeliestOf cX7_likeliestOf 6 (some .int) :: ((wsX7_likeliestOf_r1 ++ wsX7_likeliestOf_r2) ++ wsX70 ++ wsX30 ++ wsX20 ++ wsX00)
def wsX7_who_r1 : List Cond := [Cond.methodLink RX7 158 yX7_hasLineAhead, Cond.instanceMethod yX7_hasLineAhead, Cond.selects RX7 yX7_hasLineAhead yX7_hasLineAhead, Cond.initialized RX7, Cond.code yX7_hasLineAhead cX7_hasLineAhead 2 (some .boolean), Cond.fieldLink RX7 19 "NineHands" "letter" "LNineHands$Letter;", Cond.methodLink RX7 161 yX7_writersOf, Cond.instanceMethod yX7_writersOf, Cond.selects RX7 yX7_writersOf yX7_writersOf, Cond.code yX7_writersOf cX7_writersOf 4 (some .int), Cond.fieldLink RX7 51 "NineHands" "office" "LNineHands$Office;", Cond.methodLink RX7 175 yX7_waysOf, Cond.instanceMethod yX7_waysOf, Cond.selects RX7 yX7_waysOf yX7_waysOf, Cond.code yX7_waysOf cX7_waysOf 6 (some .int), Cond.methodLink RX7 87 yX3_find, Cond.instanceMethod yX3_find, Cond.selects RX3 yX3_find yX3_find, Cond.initialized RX3, Cond.code yX3_find cX3_find 2 (some (.object "NineHands$Clerk")), Cond.fieldLink RX3 21 "NineHands$Office" "count" "I", Cond.fieldLink RX3 11 "NineHands$Office" "clerks" "[LNineHands$Clerk;", Cond.methodLink RX7 270 yX0_waysTo, Cond.instanceMethod yX0_waysTo]
def wsX7_who_r2 : List Cond := [Cond.selects RX0 yX0_waysTo yX0_waysTo, Cond.initialized RX0, Cond.code yX0_waysTo cX0_waysTo 6 (some .int), Cond.fieldLink RX0 32 "NineHands$Clerk" "keeps" "I", Cond.methodLink RX0 25 yX0_toneBehind, Cond.instanceMethod yX0_toneBehind, Cond.selects RX0 yX0_toneBehind yX0_toneBehind, Cond.code yX0_toneBehind cX0_toneBehind 2 (some .int), Cond.fieldLink RX0 9 "NineHands$Clerk" "lean" "I", Cond.static yX7_leant, Cond.code yX7_leant cX7_leant 2 (some .int), Cond.methodLink RX7 262 Lib.Math.min.name, Cond.static Lib.Math.min.name, Cond.initialized "java/lang/Math", Cond.code Lib.Math.min.name Lib.Math.min.code 2 (some .int), Cond.methodLink RX7 267 Lib.Math.max.name, Cond.static Lib.Math.max.name, Cond.code Lib.Math.max.name Lib.Math.max.code 2 (some .int), Cond.methodLink RX0 29 yX0_marksBehind, Cond.instanceMethod yX0_marksBehind, Cond.selects RX0 yX0_marksBehind yX0_marksBehind, Cond.code yX0_marksBehind cX0_marksBehind 2 (some .int), Cond.fieldLink RX0 19 "NineHands$Clerk" "sets" "I", Cond.fieldLink RX0 22 "NineHands$Clerk" "drops" "I"]
def wsX7_who_r3 : List Cond := [Cond.methodLink RX7 164 yX7_likeliestOf, Cond.instanceMethod yX7_likeliestOf, Cond.selects RX7 yX7_likeliestOf yX7_likeliestOf, Cond.code yX7_likeliestOf cX7_likeliestOf 6 (some .int)]
def wsX7_who : List Cond := .code yX7_who cX7_who 3 (some .int) :: ((wsX7_who_r1 ++ (wsX7_who_r2 ++ wsX7_who_r3)) ++ wsX70 ++ wsX20 ++ wsX30 ++ wsX00)
def wsX7_rows_r1 : List Cond := [Cond.fieldLink RX7 19 "NineHands" "letter" "LNineHands$Letter;", Cond.methodLink RX7 161 yX7_writersOf, Cond.instanceMethod yX7_writersOf, Cond.selects RX7 yX7_writersOf yX7_writersOf, Cond.initialized RX7, Cond.code yX7_writersOf cX7_writersOf 4 (some .int), Cond.fieldLink RX7 51 "NineHands" "office" "LNineHands$Office;", Cond.methodLink RX7 175 yX7_waysOf, Cond.instanceMethod yX7_waysOf, Cond.selects RX7 yX7_waysOf yX7_waysOf, Cond.code yX7_waysOf cX7_waysOf 6 (some .int), Cond.methodLink RX7 87 yX3_find, Cond.instanceMethod yX3_find, Cond.selects RX3 yX3_find yX3_find, Cond.initialized RX3, Cond.code yX3_find cX3_find 2 (some (.object "NineHands$Clerk")), Cond.fieldLink RX3 21 "NineHands$Office" "count" "I", Cond.fieldLink RX3 11 "NineHands$Office" "clerks" "[LNineHands$Clerk;", Cond.methodLink RX7 158 yX7_hasLineAhead, Cond.instanceMethod yX7_hasLineAhead, Cond.selects RX7 yX7_hasLineAhead yX7_hasLineAhead, Cond.code yX7_hasLineAhead cX7_hasLineAhead 2 (some .boolean), Cond.methodLink RX7 270 yX0_waysTo, Cond.instanceMethod yX0_waysTo]
def wsX7_rows_r2 : List Cond := [Cond.selects RX0 yX0_waysTo yX0_waysTo, Cond.initialized RX0, Cond.code yX0_waysTo cX0_waysTo 6 (some .int), Cond.fieldLink RX0 32 "NineHands$Clerk" "keeps" "I", Cond.methodLink RX0 25 yX0_toneBehind, Cond.instanceMethod yX0_toneBehind, Cond.selects RX0 yX0_toneBehind yX0_toneBehind, Cond.code yX0_toneBehind cX0_toneBehind 2 (some .int), Cond.fieldLink RX0 9 "NineHands$Clerk" "lean" "I", Cond.static yX7_leant, Cond.code yX7_leant cX7_leant 2 (some .int), Cond.methodLink RX7 262 Lib.Math.min.name, Cond.static Lib.Math.min.name, Cond.initialized "java/lang/Math", Cond.code Lib.Math.min.name Lib.Math.min.code 2 (some .int), Cond.methodLink RX7 267 Lib.Math.max.name, Cond.static Lib.Math.max.name, Cond.code Lib.Math.max.name Lib.Math.max.code 2 (some .int), Cond.methodLink RX0 29 yX0_marksBehind, Cond.instanceMethod yX0_marksBehind, Cond.selects RX0 yX0_marksBehind yX0_marksBehind, Cond.code yX0_marksBehind cX0_marksBehind 2 (some .int), Cond.fieldLink RX0 19 "NineHands$Clerk" "sets" "I", Cond.fieldLink RX0 22 "NineHands$Clerk" "drops" "I"]
def wsX7_rows_r3 : List Cond := [Cond.methodLink RX7 167 yJ6_bitCount_0f7a4, Cond.static yJ6_bitCount_0f7a4, Cond.initialized RJ6, Cond.code yJ6_bitCount_0f7a4 cJ6_bitCount_0f7a4 1 (some .int), Cond.constant RJ6 265 (1431655765), Cond.constant RJ6 266 (858993459), Cond.constant RJ6 267 (252645135)]
def wsX7_rows : List Cond := .code yX7_rows cX7_rows 3 (some .int) :: ((wsX7_rows_r1 ++ (wsX7_rows_r2 ++ wsX7_rows_r3)) ++ wsX70 ++ wsX20 ++ wsX30 ++ wsX00)
def wsX7_waysOfAll_r1 : List Cond := [Cond.fieldLink RX7 51 "NineHands" "office" "LNineHands$Office;", Cond.methodLink RX7 175 yX7_waysOf, Cond.instanceMethod yX7_waysOf, Cond.selects RX7 yX7_waysOf yX7_waysOf, Cond.initialized RX7, Cond.code yX7_waysOf cX7_waysOf 6 (some .int), Cond.fieldLink RX7 19 "NineHands" "letter" "LNineHands$Letter;", Cond.methodLink RX7 87 yX3_find, Cond.instanceMethod yX3_find, Cond.selects RX3 yX3_find yX3_find, Cond.initialized RX3, Cond.code yX3_find cX3_find 2 (some (.object "NineHands$Clerk")), Cond.fieldLink RX3 21 "NineHands$Office" "count" "I", Cond.fieldLink RX3 11 "NineHands$Office" "clerks" "[LNineHands$Clerk;", Cond.methodLink RX7 158 yX7_hasLineAhead, Cond.instanceMethod yX7_hasLineAhead, Cond.selects RX7 yX7_hasLineAhead yX7_hasLineAhead, Cond.code yX7_hasLineAhead cX7_hasLineAhead 2 (some .boolean), Cond.methodLink RX7 270 yX0_waysTo, Cond.instanceMethod yX0_waysTo, Cond.selects RX0 yX0_waysTo yX0_waysTo, Cond.initialized RX0, Cond.code yX0_waysTo cX0_waysTo 6 (some .int), Cond.fieldLink RX0 32 "NineHands$Clerk" "keeps" "I"]
def wsX7_waysOfAll_r2 : List Cond := [Cond.methodLink RX0 25 yX0_toneBehind, Cond.instanceMethod yX0_toneBehind, Cond.selects RX0 yX0_toneBehind yX0_toneBehind, Cond.code yX0_toneBehind cX0_toneBehind 2 (some .int), Cond.fieldLink RX0 9 "NineHands$Clerk" "lean" "I", Cond.static yX7_leant, Cond.code yX7_leant cX7_leant 2 (some .int), Cond.methodLink RX7 262 Lib.Math.min.name, Cond.static Lib.Math.min.name, Cond.initialized "java/lang/Math", Cond.code Lib.Math.min.name Lib.Math.min.code 2 (some .int), Cond.methodLink RX7 267 Lib.Math.max.name, Cond.static Lib.Math.max.name, Cond.code Lib.Math.max.name Lib.Math.max.code 2 (some .int), Cond.methodLink RX0 29 yX0_marksBehind, Cond.instanceMethod yX0_marksBehind, Cond.selects RX0 yX0_marksBehind yX0_marksBehind, Cond.code yX0_marksBehind cX0_marksBehind 2 (some .int), Cond.fieldLink RX0 19 "NineHands$Clerk" "sets" "I", Cond.fieldLink RX0 22 "NineHands$Clerk" "drops" "I"]
def wsX7_waysOfAll : List Cond := .code yX7_waysOfAll cX7_waysOfAll 4 (some .int) :: ((wsX7_waysOfAll_r1 ++ wsX7_waysOfAll_r2) ++ wsX70 ++ wsX30 ++ wsX20 ++ wsX00)
def wsX7_sharedDivisor : List Cond := .code yX7_sharedDivisor cX7_sharedDivisor 4 (some .int) :: ([])
def wsX7_odds_r1 : List Cond := [Cond.fieldLink RX7 51 "NineHands" "office" "LNineHands$Office;", Cond.methodLink RX7 87 yX3_find, Cond.instanceMethod yX3_find, Cond.selects RX3 yX3_find yX3_find, Cond.initialized RX3, Cond.code yX3_find cX3_find 2 (some (.object "NineHands$Clerk")), Cond.fieldLink RX3 21 "NineHands$Office" "count" "I", Cond.fieldLink RX3 11 "NineHands$Office" "clerks" "[LNineHands$Clerk;", Cond.methodLink RX7 158 yX7_hasLineAhead, Cond.instanceMethod yX7_hasLineAhead, Cond.selects RX7 yX7_hasLineAhead yX7_hasLineAhead, Cond.initialized RX7, Cond.code yX7_hasLineAhead cX7_hasLineAhead 2 (some .boolean), Cond.fieldLink RX7 19 "NineHands" "letter" "LNineHands$Letter;", Cond.methodLink RX7 172 yX7_waysOfAll, Cond.instanceMethod yX7_waysOfAll, Cond.selects RX7 yX7_waysOfAll yX7_waysOfAll, Cond.code yX7_waysOfAll cX7_waysOfAll 4 (some .int), Cond.methodLink RX7 175 yX7_waysOf, Cond.instanceMethod yX7_waysOf, Cond.selects RX7 yX7_waysOf yX7_waysOf, Cond.code yX7_waysOf cX7_waysOf 6 (some .int), Cond.methodLink RX7 270 yX0_waysTo, Cond.instanceMethod yX0_waysTo]
def wsX7_odds_r2 : List Cond := [Cond.selects RX0 yX0_waysTo yX0_waysTo, Cond.initialized RX0, Cond.code yX0_waysTo cX0_waysTo 6 (some .int), Cond.fieldLink RX0 32 "NineHands$Clerk" "keeps" "I", Cond.methodLink RX0 25 yX0_toneBehind, Cond.instanceMethod yX0_toneBehind, Cond.selects RX0 yX0_toneBehind yX0_toneBehind, Cond.code yX0_toneBehind cX0_toneBehind 2 (some .int), Cond.fieldLink RX0 9 "NineHands$Clerk" "lean" "I", Cond.static yX7_leant, Cond.code yX7_leant cX7_leant 2 (some .int), Cond.methodLink RX7 262 Lib.Math.min.name, Cond.static Lib.Math.min.name, Cond.initialized "java/lang/Math", Cond.code Lib.Math.min.name Lib.Math.min.code 2 (some .int), Cond.methodLink RX7 267 Lib.Math.max.name, Cond.static Lib.Math.max.name, Cond.code Lib.Math.max.name Lib.Math.max.code 2 (some .int), Cond.methodLink RX0 29 yX0_marksBehind, Cond.instanceMethod yX0_marksBehind, Cond.selects RX0 yX0_marksBehind yX0_marksBehind, Cond.code yX0_marksBehind cX0_marksBehind 2 (some .int), Cond.fieldLink RX0 19 "NineHands$Clerk" "sets" "I", Cond.fieldLink RX0 22 "NineHands$Clerk" "drops" "I"]
def wsX7_odds_r3 : List Cond := [Cond.methodLink RX7 178 yX7_sharedDivisor, Cond.static yX7_sharedDivisor, Cond.code yX7_sharedDivisor cX7_sharedDivisor 4 (some .int)]
def wsX7_odds : List Cond := .code yX7_odds cX7_odds 7 (some .int) :: ((wsX7_odds_r1 ++ (wsX7_odds_r2 ++ wsX7_odds_r3)) ++ wsX70 ++ wsX30 ++ wsX20 ++ wsX00)
def wsX7_order_r1 : List Cond := [Cond.fieldLink RX7 51 "NineHands" "office" "LNineHands$Office;", Cond.fieldLink RX7 44 "NineHands" "orders" "LNineHands$Orders;", Cond.fieldLink RX7 19 "NineHands" "letter" "LNineHands$Letter;", Cond.methodLink RX7 181 yX3_hasAll, Cond.instanceMethod yX3_hasAll, Cond.selects RX3 yX3_hasAll yX3_hasAll, Cond.initialized RX3, Cond.code yX3_hasAll cX3_hasAll 2 (some .boolean), Cond.fieldLink RX3 21 "NineHands$Office" "count" "I", Cond.methodLink RX7 184 yX7_isTone, Cond.static yX7_isTone, Cond.initialized RX7, Cond.code yX7_isTone cX7_isTone 1 (some .boolean), Cond.methodLink RX7 137 yX2_lastTone, Cond.instanceMethod yX2_lastTone, Cond.selects RX2 yX2_lastTone yX2_lastTone, Cond.initialized RX2, Cond.code yX2_lastTone cX2_lastTone 1 (some .int), Cond.fieldLink RX2 9 "NineHands$Letter" "tones" "[I", Cond.fieldLink RX2 21 "NineHands$Letter" "lines" "I", Cond.methodLink RX2 36 yX2_isBlank, Cond.instanceMethod yX2_isBlank, Cond.selects RX2 yX2_isBlank yX2_isBlank, Cond.code yX2_isBlank cX2_isBlank 1 (some .boolean)]
def wsX7_order_r2 : List Cond := [Cond.methodLink RX7 187 yX4_seek, Cond.instanceMethod yX4_seek, Cond.selects RX4 yX4_seek yX4_seek, Cond.initialized RX4, Cond.code yX4_seek cX4_seek 8 none, Cond.fieldLink RX4 22 "NineHands$Orders" "least" "I", Cond.methodLink RX4 25 yX4_lineUp, Cond.instanceMethod yX4_lineUp, Cond.selects RX4 yX4_lineUp yX4_lineUp, Cond.code yX4_lineUp cX4_lineUp 3 none, Cond.fieldLink RX4 18 "NineHands$Orders" "size" "I", Cond.fieldLink RX4 9 "NineHands$Orders" "row" "[I", Cond.methodLink RX4 29 yX4_stray, Cond.instanceMethod yX4_stray, Cond.selects RX4 yX4_stray yX4_stray, Cond.code yX4_stray cX4_stray 9 (some .int), Cond.methodLink RX4 58 Lib.Math.abs.name, Cond.static Lib.Math.abs.name, Cond.initialized "java/lang/Math", Cond.code Lib.Math.abs.name Lib.Math.abs.code 1 (some .int), Cond.methodLink RX4 63 Lib.Math.max.name, Cond.static Lib.Math.max.name, Cond.code Lib.Math.max.name Lib.Math.max.code 2 (some .int), Cond.methodLink RX4 46 yX3_find]
def wsX7_order_r3 : List Cond := [Cond.instanceMethod yX3_find, Cond.selects RX3 yX3_find yX3_find, Cond.code yX3_find cX3_find 2 (some (.object "NineHands$Clerk")), Cond.fieldLink RX3 11 "NineHands$Office" "clerks" "[LNineHands$Clerk;", Cond.methodLink RX4 52 yX0_toneBehind, Cond.instanceMethod yX0_toneBehind, Cond.selects RX0 yX0_toneBehind yX0_toneBehind, Cond.initialized RX0, Cond.code yX0_toneBehind cX0_toneBehind 2 (some .int), Cond.fieldLink RX0 9 "NineHands$Clerk" "lean" "I", Cond.static yX7_leant, Cond.code yX7_leant cX7_leant 2 (some .int), Cond.methodLink RX7 262 Lib.Math.min.name, Cond.static Lib.Math.min.name, Cond.code Lib.Math.min.name Lib.Math.min.code 2 (some .int), Cond.methodLink RX7 267 Lib.Math.max.name, Cond.methodLink RX4 33 yX4_keepRow, Cond.instanceMethod yX4_keepRow, Cond.selects RX4 yX4_keepRow yX4_keepRow, Cond.code yX4_keepRow cX4_keepRow 1 none, Cond.fieldLink RX4 15 "NineHands$Orders" "best" "[I", Cond.methodLink RX4 40 arraycopyName, Cond.native arraycopyName, Cond.static arraycopyName]
def wsX7_order_r4 : List Cond := [Cond.initialized "java/lang/System", Cond.methodLink RX4 36 yX4_step, Cond.instanceMethod yX4_step, Cond.selects RX4 yX4_step yX4_step, Cond.code yX4_step cX4_step 5 (some .boolean), Cond.methodLink RX4 67 yX4_swap, Cond.instanceMethod yX4_swap, Cond.selects RX4 yX4_swap yX4_swap, Cond.code yX4_swap cX4_swap 4 none, Cond.methodLink RX7 191 yX4_answer, Cond.instanceMethod yX4_answer, Cond.selects RX4 yX4_answer yX4_answer, Cond.code yX4_answer cX4_answer 2 (some .int)]
def wsX7_order : List Cond := .code yX7_order cX7_order 4 (some .int) :: ((wsX7_order_r1 ++ (wsX7_order_r2 ++ (wsX7_order_r3 ++ wsX7_order_r4))) ++ wsX70 ++ wsX30 ++ wsX20 ++ wsX40 ++ wsX00)
def wsX7_drift_r1 : List Cond := [Cond.fieldLink RX7 51 "NineHands" "office" "LNineHands$Office;", Cond.fieldLink RX7 44 "NineHands" "orders" "LNineHands$Orders;", Cond.fieldLink RX7 19 "NineHands" "letter" "LNineHands$Letter;", Cond.methodLink RX7 181 yX3_hasAll, Cond.instanceMethod yX3_hasAll, Cond.selects RX3 yX3_hasAll yX3_hasAll, Cond.initialized RX3, Cond.code yX3_hasAll cX3_hasAll 2 (some .boolean), Cond.fieldLink RX3 21 "NineHands$Office" "count" "I", Cond.methodLink RX7 137 yX2_lastTone, Cond.instanceMethod yX2_lastTone, Cond.selects RX2 yX2_lastTone yX2_lastTone, Cond.initialized RX2, Cond.code yX2_lastTone cX2_lastTone 1 (some .int), Cond.fieldLink RX2 9 "NineHands$Letter" "tones" "[I", Cond.fieldLink RX2 21 "NineHands$Letter" "lines" "I", Cond.methodLink RX2 36 yX2_isBlank, Cond.instanceMethod yX2_isBlank, Cond.selects RX2 yX2_isBlank yX2_isBlank, Cond.code yX2_isBlank cX2_isBlank 1 (some .boolean), Cond.methodLink RX7 187 yX4_seek, Cond.instanceMethod yX4_seek, Cond.selects RX4 yX4_seek yX4_seek, Cond.initialized RX4]
def wsX7_drift_r2 : List Cond := [Cond.code yX4_seek cX4_seek 8 none, Cond.fieldLink RX4 22 "NineHands$Orders" "least" "I", Cond.methodLink RX4 25 yX4_lineUp, Cond.instanceMethod yX4_lineUp, Cond.selects RX4 yX4_lineUp yX4_lineUp, Cond.code yX4_lineUp cX4_lineUp 3 none, Cond.fieldLink RX4 18 "NineHands$Orders" "size" "I", Cond.fieldLink RX4 9 "NineHands$Orders" "row" "[I", Cond.methodLink RX4 29 yX4_stray, Cond.instanceMethod yX4_stray, Cond.selects RX4 yX4_stray yX4_stray, Cond.code yX4_stray cX4_stray 9 (some .int), Cond.methodLink RX4 58 Lib.Math.abs.name, Cond.static Lib.Math.abs.name, Cond.initialized "java/lang/Math", Cond.code Lib.Math.abs.name Lib.Math.abs.code 1 (some .int), Cond.methodLink RX4 63 Lib.Math.max.name, Cond.static Lib.Math.max.name, Cond.code Lib.Math.max.name Lib.Math.max.code 2 (some .int), Cond.methodLink RX4 46 yX3_find, Cond.instanceMethod yX3_find, Cond.selects RX3 yX3_find yX3_find, Cond.code yX3_find cX3_find 2 (some (.object "NineHands$Clerk")), Cond.fieldLink RX3 11 "NineHands$Office" "clerks" "[LNineHands$Clerk;"]
def wsX7_drift_r3 : List Cond := [Cond.methodLink RX4 52 yX0_toneBehind, Cond.instanceMethod yX0_toneBehind, Cond.selects RX0 yX0_toneBehind yX0_toneBehind, Cond.initialized RX0, Cond.code yX0_toneBehind cX0_toneBehind 2 (some .int), Cond.fieldLink RX0 9 "NineHands$Clerk" "lean" "I", Cond.static yX7_leant, Cond.initialized RX7, Cond.code yX7_leant cX7_leant 2 (some .int), Cond.methodLink RX7 262 Lib.Math.min.name, Cond.static Lib.Math.min.name, Cond.code Lib.Math.min.name Lib.Math.min.code 2 (some .int), Cond.methodLink RX7 267 Lib.Math.max.name, Cond.methodLink RX4 33 yX4_keepRow, Cond.instanceMethod yX4_keepRow, Cond.selects RX4 yX4_keepRow yX4_keepRow, Cond.code yX4_keepRow cX4_keepRow 1 none, Cond.fieldLink RX4 15 "NineHands$Orders" "best" "[I", Cond.methodLink RX4 40 arraycopyName, Cond.native arraycopyName, Cond.static arraycopyName, Cond.initialized "java/lang/System", Cond.methodLink RX4 36 yX4_step, Cond.instanceMethod yX4_step]
def wsX7_drift_r4 : List Cond := [Cond.selects RX4 yX4_step yX4_step, Cond.code yX4_step cX4_step 5 (some .boolean), Cond.methodLink RX4 67 yX4_swap, Cond.instanceMethod yX4_swap, Cond.selects RX4 yX4_swap yX4_swap, Cond.code yX4_swap cX4_swap 4 none, Cond.methodLink RX7 191 yX4_answer, Cond.instanceMethod yX4_answer, Cond.selects RX4 yX4_answer yX4_answer, Cond.code yX4_answer cX4_answer 2 (some .int)]
def wsX7_drift : List Cond := .code yX7_drift cX7_drift 3 (some .int) :: ((wsX7_drift_r1 ++ (wsX7_drift_r2 ++ (wsX7_drift_r3 ++ wsX7_drift_r4))) ++ wsX70 ++ wsX30 ++ wsX20 ++ wsX40 ++ wsX00)
def wsX7_sign : List Cond := .code yX7_sign cX7_sign 5 (some .int) :: ([.fieldLink RX7 30 "NineHands" "samples" "LNineHands$Samples;", .methodLink RX7 118 yX7_isLine, .static yX7_isLine, .initialized RX7, .code yX7_isLine cX7_isLine 2 (some .boolean), .methodLink RX7 184 yX7_isTone, .static yX7_isTone, .code yX7_isTone cX7_isTone 1 (some .boolean), .methodLink RX7 194 yX5_isFull, .instanceMethod yX5_isFull, .selects RX5 yX5_isFull yX5_isFull, .initialized RX5, .code yX5_isFull cX5_isFull 1 (some .boolean), .fieldLink RX5 24 "NineHands$Samples" "count" "I", .methodLink RX7 195 yX5_add, .instanceMethod yX5_add, .selects RX5 yX5_add yX5_add, .code yX5_add cX5_add 5 none, .fieldLink RX5 9 "NineHands$Samples" "tones" "[I", .fieldLink RX5 15 "NineHands$Samples" "marks" "[I", .fieldLink RX5 18 "NineHands$Samples" "thenTones" "[I", .fieldLink RX5 21 "NineHands$Samples" "thenMarks" "[I", .methodLink RX5 28 yX5_isFull] ++ wsX70 ++ wsX50)
def wsX7_learnt_r1 : List Cond := [Cond.fieldLink RX7 30 "NineHands" "samples" "LNineHands$Samples;", Cond.methodLink RX7 201 yX5_leastLean, Cond.instanceMethod yX5_leastLean, Cond.selects RX5 yX5_leastLean yX5_leastLean, Cond.initialized RX5, Cond.code yX5_leastLean cX5_leastLean 2 (some .int), Cond.methodLink RX5 32 yX5_leanFits, Cond.instanceMethod yX5_leanFits, Cond.selects RX5 yX5_leanFits yX5_leanFits, Cond.code yX5_leanFits cX5_leanFits 3 (some .boolean), Cond.fieldLink RX5 24 "NineHands$Samples" "count" "I", Cond.fieldLink RX5 9 "NineHands$Samples" "tones" "[I", Cond.fieldLink RX5 18 "NineHands$Samples" "thenTones" "[I", Cond.static yX7_leant, Cond.initialized RX7, Cond.code yX7_leant cX7_leant 2 (some .int), Cond.methodLink RX7 262 Lib.Math.min.name, Cond.static Lib.Math.min.name, Cond.initialized "java/lang/Math", Cond.code Lib.Math.min.name Lib.Math.min.code 2 (some .int), Cond.methodLink RX7 267 Lib.Math.max.name, Cond.static Lib.Math.max.name, Cond.code Lib.Math.max.name Lib.Math.max.code 2 (some .int), Cond.methodLink RX7 204 yX5_marksFit]
def wsX7_learnt_r2 : List Cond := [Cond.instanceMethod yX5_marksFit, Cond.selects RX5 yX5_marksFit yX5_marksFit, Cond.code yX5_marksFit cX5_marksFit 1 (some .boolean), Cond.methodLink RX5 40 yX5_maySet, Cond.instanceMethod yX5_maySet, Cond.selects RX5 yX5_maySet yX5_maySet, Cond.code yX5_maySet cX5_maySet 3 (some .int), Cond.fieldLink RX5 21 "NineHands$Samples" "thenMarks" "[I", Cond.methodLink RX5 44 yX5_mayDrop, Cond.instanceMethod yX5_mayDrop, Cond.selects RX5 yX5_mayDrop yX5_mayDrop, Cond.code yX5_mayDrop cX5_mayDrop 3 (some .int), Cond.methodLink RX5 47 yX5_mayLeave, Cond.instanceMethod yX5_mayLeave, Cond.selects RX5 yX5_mayLeave yX5_mayLeave, Cond.code yX5_mayLeave cX5_mayLeave 3 (some .int), Cond.fieldLink RX5 15 "NineHands$Samples" "marks" "[I", Cond.methodLink RX7 207 yX5_greatestLean, Cond.instanceMethod yX5_greatestLean, Cond.selects RX5 yX5_greatestLean yX5_greatestLean, Cond.code yX5_greatestLean cX5_greatestLean 2 (some .int), Cond.methodLink RX7 210 yX5_maySet, Cond.methodLink RX7 213 yX5_mayDrop, Cond.methodLink RX7 216 yX5_mayLeave]
def wsX7_learnt : List Cond := .code yX7_learnt cX7_learnt 2 (some .int) :: ((wsX7_learnt_r1 ++ wsX7_learnt_r2) ++ wsX70 ++ wsX50)
def wsX7_forget : List Cond := .code yX7_forget cX7_forget 2 (some .int) :: ([.fieldLink RX7 30 "NineHands" "samples" "LNineHands$Samples;"] ++ wsX70 ++ wsX50)
def wsX7_copy : List Cond := .code yX7_copy cX7_copy 2 (some .int) :: ([.fieldLink RX7 37 "NineHands" "copies" "LNineHands$Copies;", .methodLink RX7 219 yX1_isFull, .instanceMethod yX1_isFull, .selects RX1 yX1_isFull yX1_isFull, .initialized RX1, .code yX1_isFull cX1_isFull 1 (some .boolean), .fieldLink RX1 15 "NineHands$Copies" "count" "I", .methodLink RX7 220 yX1_add, .instanceMethod yX1_add, .selects RX1 yX1_add yX1_add, .code yX1_add cX1_add 2 none, .fieldLink RX1 9 "NineHands$Copies" "slips" "[I", .methodLink RX1 19 yX1_isFull] ++ wsX70 ++ wsX10)
def wsX7_came : List Cond := .code yX7_came cX7_came 3 (some .int) :: ([.fieldLink RX7 37 "NineHands" "copies" "LNineHands$Copies;", .methodLink RX7 227 yX1_originOf, .instanceMethod yX1_originOf, .selects RX1 yX1_originOf yX1_originOf, .initialized RX1, .code yX1_originOf cX1_originOf 5 (some .int), .fieldLink RX1 15 "NineHands$Copies" "count" "I", .fieldLink RX1 9 "NineHands$Copies" "slips" "[I", .methodLink RX1 23 yX1_canComeOf, .instanceMethod yX1_canComeOf, .selects RX1 yX1_canComeOf yX1_canComeOf, .code yX1_canComeOf cX1_canComeOf 3 (some .boolean), .methodLink RX1 27 yJ6_bitCount_0f7a4, .static yJ6_bitCount_0f7a4, .initialized RJ6, .code yJ6_bitCount_0f7a4 cJ6_bitCount_0f7a4 1 (some .int), .constant RJ6 265 (1431655765), .constant RJ6 266 (858993459), .constant RJ6 267 (252645135), .methodLink RX7 230 yX1_depthOf, .instanceMethod yX1_depthOf, .selects RX1 yX1_depthOf yX1_depthOf, .code yX1_depthOf cX1_depthOf 4 (some .int), .methodLink RX1 33 yX1_originOf] ++ wsX70 ++ wsX10)
def wsX7_firsts : List Cond := .code yX7_firsts cX7_firsts 3 (some .int) :: ([.fieldLink RX7 37 "NineHands" "copies" "LNineHands$Copies;", .methodLink RX7 227 yX1_originOf, .instanceMethod yX1_originOf, .selects RX1 yX1_originOf yX1_originOf, .initialized RX1, .code yX1_originOf cX1_originOf 5 (some .int), .fieldLink RX1 15 "NineHands$Copies" "count" "I", .fieldLink RX1 9 "NineHands$Copies" "slips" "[I", .methodLink RX1 23 yX1_canComeOf, .instanceMethod yX1_canComeOf, .selects RX1 yX1_canComeOf yX1_canComeOf, .code yX1_canComeOf cX1_canComeOf 3 (some .boolean), .methodLink RX1 27 yJ6_bitCount_0f7a4, .static yJ6_bitCount_0f7a4, .initialized RJ6, .code yJ6_bitCount_0f7a4 cJ6_bitCount_0f7a4 1 (some .int), .constant RJ6 265 (1431655765), .constant RJ6 266 (858993459), .constant RJ6 267 (252645135)] ++ wsX70 ++ wsX10)
def wsX7_burn : List Cond := .code yX7_burn cX7_burn 2 (some .int) :: ([.fieldLink RX7 37 "NineHands" "copies" "LNineHands$Copies;"] ++ wsX70 ++ wsX10)
def wsX7_asClerk : List Cond := .code yX7_asClerk cX7_asClerk 2 (some .int) :: ([.fieldLink RX7 58 "NineHands" "traced" "J"] ++ wsX70 ++ wsX00)
def wsX7_asTwin : List Cond := .code yX7_asTwin cX7_asTwin 2 (some .int) :: ([.fieldLink RX7 58 "NineHands" "traced" "J", .constantLong RX7 274 (10), .methodLink RX7 234 yX7_asClerk, .instanceMethod yX7_asClerk, .selects RX7 yX7_asClerk yX7_asClerk, .initialized RX7, .code yX7_asClerk cX7_asClerk 2 (some .int), .methodLink RX7 167 yJ6_bitCount_0f7a4, .static yJ6_bitCount_0f7a4, .initialized RJ6, .code yJ6_bitCount_0f7a4 cJ6_bitCount_0f7a4 1 (some .int), .constant RJ6 265 (1431655765), .constant RJ6 266 (858993459), .constant RJ6 267 (252645135)] ++ wsX70 ++ wsX00)
def wsX7_asMocker : List Cond := .code yX7_asMocker cX7_asMocker 2 (some .int) :: ([.fieldLink RX7 58 "NineHands" "traced" "J", .constantLong RX7 276 (100), .methodLink RX7 234 yX7_asClerk, .instanceMethod yX7_asClerk, .selects RX7 yX7_asClerk yX7_asClerk, .initialized RX7, .code yX7_asClerk cX7_asClerk 2 (some .int), .methodLink RX7 167 yJ6_bitCount_0f7a4, .static yJ6_bitCount_0f7a4, .initialized RJ6, .code yJ6_bitCount_0f7a4 cJ6_bitCount_0f7a4 1 (some .int), .constant RJ6 265 (1431655765), .constant RJ6 266 (858993459), .constant RJ6 267 (252645135)] ++ wsX70 ++ wsX00)
def wsX7_asConstant : List Cond := .code yX7_asConstant cX7_asConstant 2 (some .int) :: ([.fieldLink RX7 58 "NineHands" "traced" "J", .constantLong RX7 278 (1000), .methodLink RX7 238 yX7_asTwin, .instanceMethod yX7_asTwin, .selects RX7 yX7_asTwin yX7_asTwin, .initialized RX7, .code yX7_asTwin cX7_asTwin 2 (some .int), .constantLong RX7 274 (10), .methodLink RX7 234 yX7_asClerk, .instanceMethod yX7_asClerk, .selects RX7 yX7_asClerk yX7_asClerk, .code yX7_asClerk cX7_asClerk 2 (some .int), .methodLink RX7 167 yJ6_bitCount_0f7a4, .static yJ6_bitCount_0f7a4, .initialized RJ6, .code yJ6_bitCount_0f7a4 cJ6_bitCount_0f7a4 1 (some .int), .constant RJ6 265 (1431655765), .constant RJ6 266 (858993459), .constant RJ6 267 (252645135)] ++ wsX70 ++ wsX00)
def wsX7_asLeft : List Cond := .code yX7_asLeft cX7_asLeft 3 (some .int) :: ([.fieldLink RX7 58 "NineHands" "traced" "J", .constantLong RX7 280 (10000), .methodLink RX7 241 yX7_asMocker, .instanceMethod yX7_asMocker, .selects RX7 yX7_asMocker yX7_asMocker, .initialized RX7, .code yX7_asMocker cX7_asMocker 2 (some .int), .constantLong RX7 276 (100), .methodLink RX7 234 yX7_asClerk, .instanceMethod yX7_asClerk, .selects RX7 yX7_asClerk yX7_asClerk, .code yX7_asClerk cX7_asClerk 2 (some .int), .methodLink RX7 167 yJ6_bitCount_0f7a4, .static yJ6_bitCount_0f7a4, .initialized RJ6, .code yJ6_bitCount_0f7a4 cJ6_bitCount_0f7a4 1 (some .int), .constant RJ6 265 (1431655765), .constant RJ6 266 (858993459), .constant RJ6 267 (252645135)] ++ wsX70 ++ wsX00)
def wsX7_asHasty : List Cond := .code yX7_asHasty cX7_asHasty 2 (some .int) :: ([.fieldLink RX7 58 "NineHands" "traced" "J", .constantLong RX7 282 (100000), .methodLink RX7 234 yX7_asClerk, .instanceMethod yX7_asClerk, .selects RX7 yX7_asClerk yX7_asClerk, .initialized RX7, .code yX7_asClerk cX7_asClerk 2 (some .int)] ++ wsX70 ++ wsX00)
def wsX7_rate_r1 : List Cond := [Cond.fieldLink RX7 51 "NineHands" "office" "LNineHands$Office;", Cond.constant RX7 233 (-1000000), Cond.methodLink RX7 87 yX3_find, Cond.instanceMethod yX3_find, Cond.selects RX3 yX3_find yX3_find, Cond.initialized RX3, Cond.code yX3_find cX3_find 2 (some (.object "NineHands$Clerk")), Cond.fieldLink RX3 21 "NineHands$Office" "count" "I", Cond.fieldLink RX3 11 "NineHands$Office" "clerks" "[LNineHands$Clerk;", Cond.methodLink RX7 234 yX7_asClerk, Cond.instanceMethod yX7_asClerk, Cond.selects RX7 yX7_asClerk yX7_asClerk, Cond.initialized RX7, Cond.code yX7_asClerk cX7_asClerk 2 (some .int), Cond.fieldLink RX7 58 "NineHands" "traced" "J", Cond.methodLink RX7 238 yX7_asTwin, Cond.instanceMethod yX7_asTwin, Cond.selects RX7 yX7_asTwin yX7_asTwin, Cond.code yX7_asTwin cX7_asTwin 2 (some .int), Cond.constantLong RX7 274 (10), Cond.methodLink RX7 167 yJ6_bitCount_0f7a4, Cond.static yJ6_bitCount_0f7a4, Cond.initialized RJ6, Cond.code yJ6_bitCount_0f7a4 cJ6_bitCount_0f7a4 1 (some .int)]
def wsX7_rate_r2 : List Cond := [Cond.constant RJ6 265 (1431655765), Cond.constant RJ6 266 (858993459), Cond.constant RJ6 267 (252645135), Cond.methodLink RX7 241 yX7_asMocker, Cond.instanceMethod yX7_asMocker, Cond.selects RX7 yX7_asMocker yX7_asMocker, Cond.code yX7_asMocker cX7_asMocker 2 (some .int), Cond.constantLong RX7 276 (100), Cond.methodLink RX7 244 yX7_asConstant, Cond.instanceMethod yX7_asConstant, Cond.selects RX7 yX7_asConstant yX7_asConstant, Cond.code yX7_asConstant cX7_asConstant 2 (some .int), Cond.constantLong RX7 278 (1000), Cond.methodLink RX7 247 yX7_asLeft, Cond.instanceMethod yX7_asLeft, Cond.selects RX7 yX7_asLeft yX7_asLeft, Cond.code yX7_asLeft cX7_asLeft 3 (some .int), Cond.constantLong RX7 280 (10000), Cond.methodLink RX7 251 yX7_asHasty, Cond.instanceMethod yX7_asHasty, Cond.selects RX7 yX7_asHasty yX7_asHasty, Cond.code yX7_asHasty cX7_asHasty 2 (some .int), Cond.constantLong RX7 282 (100000)]
def wsX7_rate : List Cond := .code yX7_rate cX7_rate 4 (some .int) :: ((wsX7_rate_r1 ++ wsX7_rate_r2) ++ wsX70 ++ wsX30 ++ wsX00)
def wsX7_keep : List Cond := .code yX7_keep cX7_keep 2 (some .int) :: ([.fieldLink RX7 23 "NineHands" "images" "[LNineHands$Letter;", .fieldLink RX7 19 "NineHands" "letter" "LNineHands$Letter;", .methodLink RX7 254 yX2_become, .instanceMethod yX2_become, .selects RX2 yX2_become yX2_become, .initialized RX2, .code yX2_become cX2_become 2 none, .fieldLink RX2 9 "NineHands$Letter" "tones" "[I", .methodLink RX2 40 arraycopyName, .native arraycopyName, .static arraycopyName, .initialized "java/lang/System", .fieldLink RX2 15 "NineHands$Letter" "marks" "[I", .fieldLink RX2 18 "NineHands$Letter" "writers" "[I", .fieldLink RX2 21 "NineHands$Letter" "lines" "I", .fieldLink RX2 25 "NineHands$Letter" "luck" "I"] ++ wsX70 ++ wsX20)
def wsX7_back : List Cond := .code yX7_back cX7_back 2 (some .int) :: ([.fieldLink RX7 23 "NineHands" "images" "[LNineHands$Letter;", .fieldLink RX7 19 "NineHands" "letter" "LNineHands$Letter;", .methodLink RX7 258 yX2_isBlank, .instanceMethod yX2_isBlank, .selects RX2 yX2_isBlank yX2_isBlank, .initialized RX2, .code yX2_isBlank cX2_isBlank 1 (some .boolean), .fieldLink RX2 21 "NineHands$Letter" "lines" "I", .methodLink RX7 254 yX2_become, .instanceMethod yX2_become, .selects RX2 yX2_become yX2_become, .code yX2_become cX2_become 2 none, .fieldLink RX2 9 "NineHands$Letter" "tones" "[I", .methodLink RX2 40 arraycopyName, .native arraycopyName, .static arraycopyName, .initialized "java/lang/System", .fieldLink RX2 15 "NineHands$Letter" "marks" "[I", .fieldLink RX2 18 "NineHands$Letter" "writers" "[I", .fieldLink RX2 25 "NineHands$Letter" "luck" "I"] ++ wsX70 ++ wsX20)
def wsX7_count : List Cond := .code yX7_count cX7_count 2 (some .int) :: ([.fieldLink RX7 51 "NineHands" "office" "LNineHands$Office;", .fieldLink RX7 19 "NineHands" "letter" "LNineHands$Letter;", .fieldLink RX7 30 "NineHands" "samples" "LNineHands$Samples;", .fieldLink RX7 37 "NineHands" "copies" "LNineHands$Copies;", .fieldLink RX7 10 "NineHands" "text" "LNineHands$Text;"] ++ wsX70 ++ wsX30 ++ wsX20 ++ wsX50 ++ wsX10 ++ wsX60)
def wsX7_trace : List Cond := .code yX7_trace cX7_trace 1 (some .long) :: ([.fieldLink RX7 58 "NineHands" "traced" "J"] ++ wsX70)
def wsX8_begins : List Cond := .code yX8_begins cX8_begins 2 none :: ([.fieldLink RX8 16 "NineHandsModel" "s" "[I"] ++ wsX80)
def wsX8_init : List Cond := .code yX8_init cX8_init 1 none :: ([.methodLink RX8 1 objectInit, .instanceMethod objectInit, .code objectInit ⟨#[0xb1]⟩ 1 none, .arrayClass .int, .fieldLink RX8 7 "NineHandsModel" "text" "[I", .fieldLink RX8 13 "NineHandsModel" "clerk" "[I", .fieldLink RX8 16 "NineHandsModel" "s" "[I", .fieldLink RX8 19 "NineHandsModel" "kept" "[I", .arrayClass .boolean, .fieldLink RX8 22 "NineHandsModel" "isKept" "[Z", .fieldLink RX8 26 "NineHandsModel" "signed" "[I", .fieldLink RX8 29 "NineHandsModel" "slips" "[I", .fieldLink RX8 32 "NineHandsModel" "row" "[I", .fieldLink RX8 35 "NineHandsModel" "best" "[I", .methodLink RX8 38 yX8_begins, .instanceMethod yX8_begins, .selects RX8 yX8_begins yX8_begins, .initialized RX8, .code yX8_begins cX8_begins 2 none] ++ wsX80)
def wsX8_in : List Cond := .code yX8_in cX8_in 3 (some .boolean) :: ([])
def wsX8_size : List Cond := .code yX8_size cX8_size 1 (some .int) :: ([])
def wsX8_ones : List Cond := .code yX8_ones cX8_ones 3 (some .int) :: ([])
def wsX8_type : List Cond := .code yX8_type cX8_type 5 (some .int) :: ([.fieldLink RX8 42 "NineHandsModel" "thrown" "I", .fieldLink RX8 50 "NineHandsModel" "typed" "I", .fieldLink RX8 7 "NineHandsModel" "text" "[I", .constantLong RX8 53 (255), .methodLink RX8 46 yX8_in, .static yX8_in, .initialized RX8, .code yX8_in cX8_in 3 (some .boolean)] ++ wsX80)
def wsX8_clear : List Cond := .code yX8_clear cX8_clear 2 (some .int) :: ([.fieldLink RX8 42 "NineHandsModel" "thrown" "I", .fieldLink RX8 50 "NineHandsModel" "typed" "I"] ++ wsX80)
def wsX8_byteAt : List Cond := .code yX8_byteAt cX8_byteAt 2 (some .int) :: ([.fieldLink RX8 50 "NineHandsModel" "typed" "I", .fieldLink RX8 7 "NineHandsModel" "text" "[I"] ++ wsX80)
def wsX8_add : List Cond := .code yX8_add cX8_add 3 (some .long) :: ([.constantLong RX8 55 (256)])
def wsX8_named : List Cond := .code yX8_named cX8_named 6 (some .long) :: ([.methodLink RX8 57 yX8_add, .static yX8_add, .initialized RX8, .code yX8_add cX8_add 3 (some .long), .constantLong RX8 55 (256)])
def wsX8_wordOf : List Cond := .code yX8_wordOf cX8_wordOf 2 (some .int) :: ([.methodLink RX8 61 yX8_named, .static yX8_named, .initialized RX8, .code yX8_named cX8_named 6 (some .long), .methodLink RX8 57 yX8_add, .static yX8_add, .code yX8_add cX8_add 3 (some .long), .constantLong RX8 55 (256)])
def wsX8_advances : List Cond := .code yX8_advances cX8_advances 4 none :: ([.fieldLink RX8 65 "NineHandsModel" "next" "I", .fieldLink RX8 72 "NineHandsModel" "place" "I", .fieldLink RX8 75 "NineHandsModel" "token" "I", .fieldLink RX8 82 "NineHandsModel" "value" "I", .methodLink RX8 68 yX8_byteAt, .instanceMethod yX8_byteAt, .selects RX8 yX8_byteAt yX8_byteAt, .initialized RX8, .code yX8_byteAt cX8_byteAt 2 (some .int), .fieldLink RX8 50 "NineHandsModel" "typed" "I", .fieldLink RX8 7 "NineHandsModel" "text" "[I", .methodLink RX8 46 yX8_in, .static yX8_in, .code yX8_in cX8_in 3 (some .boolean), .methodLink RX8 57 yX8_add, .static yX8_add, .code yX8_add cX8_add 3 (some .long), .constantLong RX8 55 (256), .methodLink RX8 78 yX8_wordOf, .static yX8_wordOf, .code yX8_wordOf cX8_wordOf 2 (some .int), .methodLink RX8 61 yX8_named, .static yX8_named, .code yX8_named cX8_named 6 (some .long)] ++ wsX80)
def wsX8_isWell : List Cond := .code yX8_isWell cX8_isWell 1 (some .boolean) :: ([.fieldLink RX8 85 "NineHandsModel" "fault" "I"] ++ wsX80)
def wsX8_takes_r1 : List Cond := [Cond.fieldLink RX8 72 "NineHandsModel" "place" "I", Cond.fieldLink RX8 85 "NineHandsModel" "fault" "I", Cond.fieldLink RX8 82 "NineHandsModel" "value" "I", Cond.methodLink RX8 88 yX8_isWell, Cond.instanceMethod yX8_isWell, Cond.selects RX8 yX8_isWell yX8_isWell, Cond.initialized RX8, Cond.code yX8_isWell cX8_isWell 1 (some .boolean), Cond.methodLink RX8 92 yX8_advances, Cond.instanceMethod yX8_advances, Cond.selects RX8 yX8_advances yX8_advances, Cond.code yX8_advances cX8_advances 4 none, Cond.fieldLink RX8 65 "NineHandsModel" "next" "I", Cond.fieldLink RX8 75 "NineHandsModel" "token" "I", Cond.methodLink RX8 68 yX8_byteAt, Cond.instanceMethod yX8_byteAt, Cond.selects RX8 yX8_byteAt yX8_byteAt, Cond.code yX8_byteAt cX8_byteAt 2 (some .int), Cond.fieldLink RX8 50 "NineHandsModel" "typed" "I", Cond.fieldLink RX8 7 "NineHandsModel" "text" "[I", Cond.methodLink RX8 46 yX8_in, Cond.static yX8_in, Cond.code yX8_in cX8_in 3 (some .boolean), Cond.methodLink RX8 57 yX8_add]
def wsX8_takes_r2 : List Cond := [Cond.static yX8_add, Cond.code yX8_add cX8_add 3 (some .long), Cond.constantLong RX8 55 (256), Cond.methodLink RX8 78 yX8_wordOf, Cond.static yX8_wordOf, Cond.code yX8_wordOf cX8_wordOf 2 (some .int), Cond.methodLink RX8 61 yX8_named, Cond.static yX8_named, Cond.code yX8_named cX8_named 6 (some .long)]
def wsX8_takes : List Cond := .code yX8_takes cX8_takes 3 (some .int) :: ((wsX8_takes_r1 ++ wsX8_takes_r2) ++ wsX80)
def wsX8_number_r1 : List Cond := [Cond.fieldLink RX8 75 "NineHandsModel" "token" "I", Cond.fieldLink RX8 82 "NineHandsModel" "value" "I", Cond.methodLink RX8 46 yX8_in, Cond.static yX8_in, Cond.initialized RX8, Cond.code yX8_in cX8_in 3 (some .boolean), Cond.methodLink RX8 95 yX8_takes, Cond.instanceMethod yX8_takes, Cond.selects RX8 yX8_takes yX8_takes, Cond.code yX8_takes cX8_takes 3 (some .int), Cond.fieldLink RX8 72 "NineHandsModel" "place" "I", Cond.fieldLink RX8 85 "NineHandsModel" "fault" "I", Cond.methodLink RX8 88 yX8_isWell, Cond.instanceMethod yX8_isWell, Cond.selects RX8 yX8_isWell yX8_isWell, Cond.code yX8_isWell cX8_isWell 1 (some .boolean), Cond.methodLink RX8 92 yX8_advances, Cond.instanceMethod yX8_advances, Cond.selects RX8 yX8_advances yX8_advances, Cond.code yX8_advances cX8_advances 4 none, Cond.fieldLink RX8 65 "NineHandsModel" "next" "I", Cond.methodLink RX8 68 yX8_byteAt, Cond.instanceMethod yX8_byteAt, Cond.selects RX8 yX8_byteAt yX8_byteAt]
def wsX8_number_r2 : List Cond := [Cond.code yX8_byteAt cX8_byteAt 2 (some .int), Cond.fieldLink RX8 50 "NineHandsModel" "typed" "I", Cond.fieldLink RX8 7 "NineHandsModel" "text" "[I", Cond.methodLink RX8 57 yX8_add, Cond.static yX8_add, Cond.code yX8_add cX8_add 3 (some .long), Cond.constantLong RX8 55 (256), Cond.methodLink RX8 78 yX8_wordOf, Cond.static yX8_wordOf, Cond.code yX8_wordOf cX8_wordOf 2 (some .int), Cond.methodLink RX8 61 yX8_named, Cond.static yX8_named, Cond.code yX8_named cX8_named 6 (some .long)]
def wsX8_number : List Cond := .code yX8_number cX8_number 3 (some .int) :: ((wsX8_number_r1 ++ wsX8_number_r2) ++ wsX80)
def wsX8_readsItem_r1 : List Cond := [Cond.fieldLink RX8 99 "NineHandsModel" "draftClerks" "I", Cond.fieldLink RX8 13 "NineHandsModel" "clerk" "[I", Cond.fieldLink RX8 75 "NineHandsModel" "token" "I", Cond.fieldLink RX8 82 "NineHandsModel" "value" "I", Cond.fieldLink RX8 106 "NineHandsModel" "draftLine" "I", Cond.methodLink RX8 102 yX8_number, Cond.instanceMethod yX8_number, Cond.selects RX8 yX8_number yX8_number, Cond.initialized RX8, Cond.code yX8_number cX8_number 3 (some .int), Cond.methodLink RX8 46 yX8_in, Cond.static yX8_in, Cond.code yX8_in cX8_in 3 (some .boolean), Cond.methodLink RX8 95 yX8_takes, Cond.instanceMethod yX8_takes, Cond.selects RX8 yX8_takes yX8_takes, Cond.code yX8_takes cX8_takes 3 (some .int), Cond.fieldLink RX8 72 "NineHandsModel" "place" "I", Cond.fieldLink RX8 85 "NineHandsModel" "fault" "I", Cond.methodLink RX8 88 yX8_isWell, Cond.instanceMethod yX8_isWell, Cond.selects RX8 yX8_isWell yX8_isWell, Cond.code yX8_isWell cX8_isWell 1 (some .boolean), Cond.methodLink RX8 92 yX8_advances]
def wsX8_readsItem_r2 : List Cond := [Cond.instanceMethod yX8_advances, Cond.selects RX8 yX8_advances yX8_advances, Cond.code yX8_advances cX8_advances 4 none, Cond.fieldLink RX8 65 "NineHandsModel" "next" "I", Cond.methodLink RX8 68 yX8_byteAt, Cond.instanceMethod yX8_byteAt, Cond.selects RX8 yX8_byteAt yX8_byteAt, Cond.code yX8_byteAt cX8_byteAt 2 (some .int), Cond.fieldLink RX8 50 "NineHandsModel" "typed" "I", Cond.fieldLink RX8 7 "NineHandsModel" "text" "[I", Cond.methodLink RX8 57 yX8_add, Cond.static yX8_add, Cond.code yX8_add cX8_add 3 (some .long), Cond.constantLong RX8 55 (256), Cond.methodLink RX8 78 yX8_wordOf, Cond.static yX8_wordOf, Cond.code yX8_wordOf cX8_wordOf 2 (some .int), Cond.methodLink RX8 61 yX8_named, Cond.static yX8_named, Cond.code yX8_named cX8_named 6 (some .long)]
def wsX8_readsItem : List Cond := .code yX8_readsItem cX8_readsItem 4 none :: ((wsX8_readsItem_r1 ++ wsX8_readsItem_r2) ++ wsX80)
def wsX8_chancery_r1 : List Cond := [Cond.fieldLink RX8 42 "NineHandsModel" "thrown" "I", Cond.fieldLink RX8 85 "NineHandsModel" "fault" "I", Cond.fieldLink RX8 65 "NineHandsModel" "next" "I", Cond.fieldLink RX8 99 "NineHandsModel" "draftClerks" "I", Cond.fieldLink RX8 106 "NineHandsModel" "draftLine" "I", Cond.fieldLink RX8 75 "NineHandsModel" "token" "I", Cond.fieldLink RX8 82 "NineHandsModel" "value" "I", Cond.fieldLink RX8 112 "NineHandsModel" "clerks" "I", Cond.fieldLink RX8 13 "NineHandsModel" "clerk" "[I", Cond.fieldLink RX8 50 "NineHandsModel" "typed" "I", Cond.fieldLink RX8 115 "NineHandsModel" "signMany" "I", Cond.fieldLink RX8 118 "NineHandsModel" "copies" "I", Cond.fieldLink RX8 22 "NineHandsModel" "isKept" "[Z", Cond.methodLink RX8 92 yX8_advances, Cond.instanceMethod yX8_advances, Cond.selects RX8 yX8_advances yX8_advances, Cond.initialized RX8, Cond.code yX8_advances cX8_advances 4 none, Cond.fieldLink RX8 72 "NineHandsModel" "place" "I", Cond.methodLink RX8 68 yX8_byteAt, Cond.instanceMethod yX8_byteAt, Cond.selects RX8 yX8_byteAt yX8_byteAt, Cond.code yX8_byteAt cX8_byteAt 2 (some .int), Cond.fieldLink RX8 7 "NineHandsModel" "text" "[I"]
def wsX8_chancery_r2 : List Cond := [Cond.methodLink RX8 46 yX8_in, Cond.static yX8_in, Cond.code yX8_in cX8_in 3 (some .boolean), Cond.methodLink RX8 57 yX8_add, Cond.static yX8_add, Cond.code yX8_add cX8_add 3 (some .long), Cond.constantLong RX8 55 (256), Cond.methodLink RX8 78 yX8_wordOf, Cond.static yX8_wordOf, Cond.code yX8_wordOf cX8_wordOf 2 (some .int), Cond.methodLink RX8 61 yX8_named, Cond.static yX8_named, Cond.code yX8_named cX8_named 6 (some .long), Cond.methodLink RX8 88 yX8_isWell, Cond.instanceMethod yX8_isWell, Cond.selects RX8 yX8_isWell yX8_isWell, Cond.code yX8_isWell cX8_isWell 1 (some .boolean), Cond.methodLink RX8 95 yX8_takes, Cond.instanceMethod yX8_takes, Cond.selects RX8 yX8_takes yX8_takes, Cond.code yX8_takes cX8_takes 3 (some .int), Cond.methodLink RX8 109 yX8_readsItem, Cond.instanceMethod yX8_readsItem, Cond.selects RX8 yX8_readsItem yX8_readsItem]
def wsX8_chancery_r3 : List Cond := [Cond.code yX8_readsItem cX8_readsItem 4 none, Cond.methodLink RX8 102 yX8_number, Cond.instanceMethod yX8_number, Cond.selects RX8 yX8_number yX8_number, Cond.code yX8_number cX8_number 3 (some .int), Cond.methodLink RX8 38 yX8_begins, Cond.instanceMethod yX8_begins, Cond.selects RX8 yX8_begins yX8_begins, Cond.code yX8_begins cX8_begins 2 none, Cond.fieldLink RX8 16 "NineHandsModel" "s" "[I"]
def wsX8_chancery : List Cond := .code yX8_chancery cX8_chancery 3 (some .int) :: ((wsX8_chancery_r1 ++ (wsX8_chancery_r2 ++ wsX8_chancery_r3)) ++ wsX80)
def wsX8_isClerk : List Cond := .code yX8_isClerk cX8_isClerk 2 (some .boolean) :: ([.fieldLink RX8 112 "NineHandsModel" "clerks" "I", .methodLink RX8 46 yX8_in, .static yX8_in, .initialized RX8, .code yX8_in cX8_in 3 (some .boolean)] ++ wsX80)
def wsX8_clerk : List Cond := .code yX8_clerk cX8_clerk 3 (some .int) :: ([.fieldLink RX8 42 "NineHandsModel" "thrown" "I", .fieldLink RX8 13 "NineHandsModel" "clerk" "[I", .methodLink RX8 121 yX8_isClerk, .instanceMethod yX8_isClerk, .selects RX8 yX8_isClerk yX8_isClerk, .initialized RX8, .code yX8_isClerk cX8_isClerk 2 (some .boolean), .fieldLink RX8 112 "NineHandsModel" "clerks" "I", .methodLink RX8 46 yX8_in, .static yX8_in, .code yX8_in cX8_in 3 (some .boolean)] ++ wsX80)
def wsX8_line : List Cond := .code yX8_line cX8_line 3 (some .int) :: ([.fieldLink RX8 42 "NineHandsModel" "thrown" "I", .fieldLink RX8 16 "NineHandsModel" "s" "[I", .methodLink RX8 46 yX8_in, .static yX8_in, .initialized RX8, .code yX8_in cX8_in 3 (some .boolean)] ++ wsX80)
def wsX8_toneBy : List Cond := .code yX8_toneBy cX8_toneBy 4 (some .int) :: ([.fieldLink RX8 13 "NineHandsModel" "clerk" "[I"] ++ wsX80)
def wsX8_madeBy : List Cond := .code yX8_madeBy cX8_madeBy 4 (some .int) :: ([.fieldLink RX8 13 "NineHandsModel" "clerk" "[I", .methodLink RX8 125 yX8_toneBy, .instanceMethod yX8_toneBy, .selects RX8 yX8_toneBy yX8_toneBy, .initialized RX8, .code yX8_toneBy cX8_toneBy 4 (some .int)] ++ wsX80)
def wsX8_makes : List Cond := .code yX8_makes cX8_makes 4 (some .int) :: ([.fieldLink RX8 42 "NineHandsModel" "thrown" "I", .methodLink RX8 121 yX8_isClerk, .instanceMethod yX8_isClerk, .selects RX8 yX8_isClerk yX8_isClerk, .initialized RX8, .code yX8_isClerk cX8_isClerk 2 (some .boolean), .fieldLink RX8 112 "NineHandsModel" "clerks" "I", .methodLink RX8 46 yX8_in, .static yX8_in, .code yX8_in cX8_in 3 (some .boolean), .methodLink RX8 128 yX8_madeBy, .instanceMethod yX8_madeBy, .selects RX8 yX8_madeBy yX8_madeBy, .code yX8_madeBy cX8_madeBy 4 (some .int), .fieldLink RX8 13 "NineHandsModel" "clerk" "[I", .methodLink RX8 125 yX8_toneBy, .instanceMethod yX8_toneBy, .selects RX8 yX8_toneBy yX8_toneBy, .code yX8_toneBy cX8_toneBy 4 (some .int)] ++ wsX80)
def wsX8_last : List Cond := .code yX8_last cX8_last 1 (some .int) :: ([.fieldLink RX8 16 "NineHandsModel" "s" "[I"] ++ wsX80)
def wsX8_puts : List Cond := .code yX8_puts cX8_puts 3 none :: ([.fieldLink RX8 16 "NineHandsModel" "s" "[I"] ++ wsX80)
def wsX8_write_r1 : List Cond := [Cond.fieldLink RX8 42 "NineHandsModel" "thrown" "I", Cond.fieldLink RX8 16 "NineHandsModel" "s" "[I", Cond.constant RX8 131 (1103515245), Cond.constant RX8 132 (65535), Cond.fieldLink RX8 13 "NineHandsModel" "clerk" "[I", Cond.methodLink RX8 121 yX8_isClerk, Cond.instanceMethod yX8_isClerk, Cond.selects RX8 yX8_isClerk yX8_isClerk, Cond.initialized RX8, Cond.code yX8_isClerk cX8_isClerk 2 (some .boolean), Cond.fieldLink RX8 112 "NineHandsModel" "clerks" "I", Cond.methodLink RX8 46 yX8_in, Cond.static yX8_in, Cond.code yX8_in cX8_in 3 (some .boolean), Cond.methodLink RX8 133 yX8_last, Cond.instanceMethod yX8_last, Cond.selects RX8 yX8_last yX8_last, Cond.code yX8_last cX8_last 1 (some .int), Cond.methodLink RX8 128 yX8_madeBy, Cond.instanceMethod yX8_madeBy, Cond.selects RX8 yX8_madeBy yX8_madeBy, Cond.code yX8_madeBy cX8_madeBy 4 (some .int), Cond.methodLink RX8 125 yX8_toneBy, Cond.instanceMethod yX8_toneBy]
def wsX8_write_r2 : List Cond := [Cond.selects RX8 yX8_toneBy yX8_toneBy, Cond.code yX8_toneBy cX8_toneBy 4 (some .int), Cond.methodLink RX8 137 yX8_puts, Cond.instanceMethod yX8_puts, Cond.selects RX8 yX8_puts yX8_puts, Cond.code yX8_puts cX8_puts 3 none]
def wsX8_write : List Cond := .code yX8_write cX8_write 3 (some .int) :: ((wsX8_write_r1 ++ wsX8_write_r2) ++ wsX80)
def wsX8_forge : List Cond := .code yX8_forge cX8_forge 3 (some .int) :: ([.fieldLink RX8 42 "NineHandsModel" "thrown" "I", .fieldLink RX8 16 "NineHandsModel" "s" "[I", .methodLink RX8 46 yX8_in, .static yX8_in, .initialized RX8, .code yX8_in cX8_in 3 (some .boolean), .methodLink RX8 137 yX8_puts, .instanceMethod yX8_puts, .selects RX8 yX8_puts yX8_puts, .code yX8_puts cX8_puts 3 none] ++ wsX80)
def wsX8_undo : List Cond := .code yX8_undo cX8_undo 1 (some .int) :: ([.fieldLink RX8 42 "NineHandsModel" "thrown" "I", .fieldLink RX8 16 "NineHandsModel" "s" "[I"] ++ wsX80)
def wsX8_lot : List Cond := .code yX8_lot cX8_lot 3 (some .int) :: ([.fieldLink RX8 42 "NineHandsModel" "thrown" "I", .fieldLink RX8 16 "NineHandsModel" "s" "[I"] ++ wsX80)
def wsX8_turned : List Cond := .code yX8_turned cX8_turned 3 (some .int) :: ([.fieldLink RX8 42 "NineHandsModel" "thrown" "I", .fieldLink RX8 16 "NineHandsModel" "s" "[I"] ++ wsX80)
def wsX8_waysOf : List Cond := .code yX8_waysOf cX8_waysOf 6 (some .int) :: ([.fieldLink RX8 16 "NineHandsModel" "s" "[I", .fieldLink RX8 13 "NineHandsModel" "clerk" "[I", .methodLink RX8 128 yX8_madeBy, .instanceMethod yX8_madeBy, .selects RX8 yX8_madeBy yX8_madeBy, .initialized RX8, .code yX8_madeBy cX8_madeBy 4 (some .int), .methodLink RX8 125 yX8_toneBy, .instanceMethod yX8_toneBy, .selects RX8 yX8_toneBy yX8_toneBy, .code yX8_toneBy cX8_toneBy 4 (some .int)] ++ wsX80)
def wsX8_whoOf : List Cond := .code yX8_whoOf cX8_whoOf 4 (some .int) :: ([.fieldLink RX8 112 "NineHandsModel" "clerks" "I", .methodLink RX8 141 yX8_waysOf, .instanceMethod yX8_waysOf, .selects RX8 yX8_waysOf yX8_waysOf, .initialized RX8, .code yX8_waysOf cX8_waysOf 6 (some .int), .fieldLink RX8 16 "NineHandsModel" "s" "[I", .fieldLink RX8 13 "NineHandsModel" "clerk" "[I", .methodLink RX8 128 yX8_madeBy, .instanceMethod yX8_madeBy, .selects RX8 yX8_madeBy yX8_madeBy, .code yX8_madeBy cX8_madeBy 4 (some .int), .methodLink RX8 125 yX8_toneBy, .instanceMethod yX8_toneBy, .selects RX8 yX8_toneBy yX8_toneBy, .code yX8_toneBy cX8_toneBy 4 (some .int)] ++ wsX80)
def wsX8_who : List Cond := .code yX8_who cX8_who 6 (some .int) :: ([.fieldLink RX8 42 "NineHandsModel" "thrown" "I", .fieldLink RX8 16 "NineHandsModel" "s" "[I", .fieldLink RX8 112 "NineHandsModel" "clerks" "I", .methodLink RX8 46 yX8_in, .static yX8_in, .initialized RX8, .code yX8_in cX8_in 3 (some .boolean), .methodLink RX8 144 yX8_whoOf, .instanceMethod yX8_whoOf, .selects RX8 yX8_whoOf yX8_whoOf, .code yX8_whoOf cX8_whoOf 4 (some .int), .methodLink RX8 141 yX8_waysOf, .instanceMethod yX8_waysOf, .selects RX8 yX8_waysOf yX8_waysOf, .code yX8_waysOf cX8_waysOf 6 (some .int), .fieldLink RX8 13 "NineHandsModel" "clerk" "[I", .methodLink RX8 128 yX8_madeBy, .instanceMethod yX8_madeBy, .selects RX8 yX8_madeBy yX8_madeBy, .code yX8_madeBy cX8_madeBy 4 (some .int), .methodLink RX8 125 yX8_toneBy, .instanceMethod yX8_toneBy, .selects RX8 yX8_toneBy yX8_toneBy, .code yX8_toneBy cX8_toneBy 4 (some .int)] ++ wsX80)
def wsX8_rows : List Cond := .code yX8_rows cX8_rows 3 (some .int) :: ([.fieldLink RX8 42 "NineHandsModel" "thrown" "I", .fieldLink RX8 16 "NineHandsModel" "s" "[I", .methodLink RX8 144 yX8_whoOf, .instanceMethod yX8_whoOf, .selects RX8 yX8_whoOf yX8_whoOf, .initialized RX8, .code yX8_whoOf cX8_whoOf 4 (some .int), .fieldLink RX8 112 "NineHandsModel" "clerks" "I", .methodLink RX8 141 yX8_waysOf, .instanceMethod yX8_waysOf, .selects RX8 yX8_waysOf yX8_waysOf, .code yX8_waysOf cX8_waysOf 6 (some .int), .fieldLink RX8 13 "NineHandsModel" "clerk" "[I", .methodLink RX8 128 yX8_madeBy, .instanceMethod yX8_madeBy, .selects RX8 yX8_madeBy yX8_madeBy, .code yX8_madeBy cX8_madeBy 4 (some .int), .methodLink RX8 125 yX8_toneBy, .instanceMethod yX8_toneBy, .selects RX8 yX8_toneBy yX8_toneBy, .code yX8_toneBy cX8_toneBy 4 (some .int), .methodLink RX8 147 yX8_ones, .static yX8_ones, .code yX8_ones cX8_ones 3 (some .int)] ++ wsX80)
def wsX8_gcd : List Cond := .code yX8_gcd cX8_gcd 5 (some .int) :: ([])
def wsX8_odds_r1 : List Cond := [Cond.fieldLink RX8 42 "NineHandsModel" "thrown" "I", Cond.fieldLink RX8 16 "NineHandsModel" "s" "[I", Cond.fieldLink RX8 112 "NineHandsModel" "clerks" "I", Cond.methodLink RX8 121 yX8_isClerk, Cond.instanceMethod yX8_isClerk, Cond.selects RX8 yX8_isClerk yX8_isClerk, Cond.initialized RX8, Cond.code yX8_isClerk cX8_isClerk 2 (some .boolean), Cond.methodLink RX8 46 yX8_in, Cond.static yX8_in, Cond.code yX8_in cX8_in 3 (some .boolean), Cond.methodLink RX8 141 yX8_waysOf, Cond.instanceMethod yX8_waysOf, Cond.selects RX8 yX8_waysOf yX8_waysOf, Cond.code yX8_waysOf cX8_waysOf 6 (some .int), Cond.fieldLink RX8 13 "NineHandsModel" "clerk" "[I", Cond.methodLink RX8 128 yX8_madeBy, Cond.instanceMethod yX8_madeBy, Cond.selects RX8 yX8_madeBy yX8_madeBy, Cond.code yX8_madeBy cX8_madeBy 4 (some .int), Cond.methodLink RX8 125 yX8_toneBy, Cond.instanceMethod yX8_toneBy, Cond.selects RX8 yX8_toneBy yX8_toneBy, Cond.code yX8_toneBy cX8_toneBy 4 (some .int)]
def wsX8_odds_r2 : List Cond := [Cond.methodLink RX8 150 yX8_gcd, Cond.static yX8_gcd, Cond.code yX8_gcd cX8_gcd 5 (some .int)]
def wsX8_odds : List Cond := .code yX8_odds cX8_odds 6 (some .int) :: ((wsX8_odds_r1 ++ wsX8_odds_r2) ++ wsX80)
def wsX8_changes : List Cond := .code yX8_changes cX8_changes 4 none :: ([.fieldLink RX8 32 "NineHandsModel" "row" "[I"] ++ wsX80)
def wsX8_steps : List Cond := .code yX8_steps cX8_steps 5 (some .boolean) :: ([.fieldLink RX8 153 "NineHandsModel" "rowMany" "I", .fieldLink RX8 32 "NineHandsModel" "row" "[I", .methodLink RX8 156 yX8_changes, .instanceMethod yX8_changes, .selects RX8 yX8_changes yX8_changes, .initialized RX8, .code yX8_changes cX8_changes 4 none] ++ wsX80)
def wsX8_farBy : List Cond := .code yX8_farBy cX8_farBy 6 (some .int) :: ([.fieldLink RX8 153 "NineHandsModel" "rowMany" "I", .fieldLink RX8 32 "NineHandsModel" "row" "[I", .methodLink RX8 133 yX8_last, .instanceMethod yX8_last, .selects RX8 yX8_last yX8_last, .initialized RX8, .code yX8_last cX8_last 1 (some .int), .fieldLink RX8 16 "NineHandsModel" "s" "[I", .methodLink RX8 125 yX8_toneBy, .instanceMethod yX8_toneBy, .selects RX8 yX8_toneBy yX8_toneBy, .code yX8_toneBy cX8_toneBy 4 (some .int), .fieldLink RX8 13 "NineHandsModel" "clerk" "[I", .methodLink RX8 159 yX8_size, .static yX8_size, .code yX8_size cX8_size 1 (some .int)] ++ wsX80)
def wsX8_bestRow_r1 : List Cond := [Cond.fieldLink RX8 153 "NineHandsModel" "rowMany" "I", Cond.fieldLink RX8 112 "NineHandsModel" "clerks" "I", Cond.fieldLink RX8 32 "NineHandsModel" "row" "[I", Cond.fieldLink RX8 35 "NineHandsModel" "best" "[I", Cond.methodLink RX8 162 yX8_farBy, Cond.instanceMethod yX8_farBy, Cond.selects RX8 yX8_farBy yX8_farBy, Cond.initialized RX8, Cond.code yX8_farBy cX8_farBy 6 (some .int), Cond.methodLink RX8 133 yX8_last, Cond.instanceMethod yX8_last, Cond.selects RX8 yX8_last yX8_last, Cond.code yX8_last cX8_last 1 (some .int), Cond.fieldLink RX8 16 "NineHandsModel" "s" "[I", Cond.methodLink RX8 125 yX8_toneBy, Cond.instanceMethod yX8_toneBy, Cond.selects RX8 yX8_toneBy yX8_toneBy, Cond.code yX8_toneBy cX8_toneBy 4 (some .int), Cond.fieldLink RX8 13 "NineHandsModel" "clerk" "[I", Cond.methodLink RX8 159 yX8_size, Cond.static yX8_size, Cond.code yX8_size cX8_size 1 (some .int), Cond.methodLink RX8 165 yX8_steps, Cond.instanceMethod yX8_steps]
def wsX8_bestRow_r2 : List Cond := [Cond.selects RX8 yX8_steps yX8_steps, Cond.code yX8_steps cX8_steps 5 (some .boolean), Cond.methodLink RX8 156 yX8_changes, Cond.instanceMethod yX8_changes, Cond.selects RX8 yX8_changes yX8_changes, Cond.code yX8_changes cX8_changes 4 none]
def wsX8_bestRow : List Cond := .code yX8_bestRow cX8_bestRow 7 (some .int) :: ((wsX8_bestRow_r1 ++ wsX8_bestRow_r2) ++ wsX80)
def wsX8_told_r1 : List Cond := [Cond.fieldLink RX8 153 "NineHandsModel" "rowMany" "I", Cond.fieldLink RX8 35 "NineHandsModel" "best" "[I", Cond.methodLink RX8 168 yX8_bestRow, Cond.instanceMethod yX8_bestRow, Cond.selects RX8 yX8_bestRow yX8_bestRow, Cond.initialized RX8, Cond.code yX8_bestRow cX8_bestRow 7 (some .int), Cond.fieldLink RX8 112 "NineHandsModel" "clerks" "I", Cond.fieldLink RX8 32 "NineHandsModel" "row" "[I", Cond.methodLink RX8 162 yX8_farBy, Cond.instanceMethod yX8_farBy, Cond.selects RX8 yX8_farBy yX8_farBy, Cond.code yX8_farBy cX8_farBy 6 (some .int), Cond.methodLink RX8 133 yX8_last, Cond.instanceMethod yX8_last, Cond.selects RX8 yX8_last yX8_last, Cond.code yX8_last cX8_last 1 (some .int), Cond.fieldLink RX8 16 "NineHandsModel" "s" "[I", Cond.methodLink RX8 125 yX8_toneBy, Cond.instanceMethod yX8_toneBy, Cond.selects RX8 yX8_toneBy yX8_toneBy, Cond.code yX8_toneBy cX8_toneBy 4 (some .int), Cond.fieldLink RX8 13 "NineHandsModel" "clerk" "[I", Cond.methodLink RX8 159 yX8_size]
def wsX8_told_r2 : List Cond := [Cond.static yX8_size, Cond.code yX8_size cX8_size 1 (some .int), Cond.methodLink RX8 165 yX8_steps, Cond.instanceMethod yX8_steps, Cond.selects RX8 yX8_steps yX8_steps, Cond.code yX8_steps cX8_steps 5 (some .boolean), Cond.methodLink RX8 156 yX8_changes, Cond.instanceMethod yX8_changes, Cond.selects RX8 yX8_changes yX8_changes, Cond.code yX8_changes cX8_changes 4 none]
def wsX8_told : List Cond := .code yX8_told cX8_told 5 (some .int) :: ((wsX8_told_r1 ++ wsX8_told_r2) ++ wsX80)
def wsX8_areClerks : List Cond := .code yX8_areClerks cX8_areClerks 2 (some .boolean) :: ([.fieldLink RX8 112 "NineHandsModel" "clerks" "I", .methodLink RX8 46 yX8_in, .static yX8_in, .initialized RX8, .code yX8_in cX8_in 3 (some .boolean)] ++ wsX80)
def wsX8_order_r1 : List Cond := [Cond.fieldLink RX8 42 "NineHandsModel" "thrown" "I", Cond.methodLink RX8 171 yX8_areClerks, Cond.instanceMethod yX8_areClerks, Cond.selects RX8 yX8_areClerks yX8_areClerks, Cond.initialized RX8, Cond.code yX8_areClerks cX8_areClerks 2 (some .boolean), Cond.fieldLink RX8 112 "NineHandsModel" "clerks" "I", Cond.methodLink RX8 46 yX8_in, Cond.static yX8_in, Cond.code yX8_in cX8_in 3 (some .boolean), Cond.methodLink RX8 174 yX8_told, Cond.instanceMethod yX8_told, Cond.selects RX8 yX8_told yX8_told, Cond.code yX8_told cX8_told 5 (some .int), Cond.fieldLink RX8 153 "NineHandsModel" "rowMany" "I", Cond.fieldLink RX8 35 "NineHandsModel" "best" "[I", Cond.methodLink RX8 168 yX8_bestRow, Cond.instanceMethod yX8_bestRow, Cond.selects RX8 yX8_bestRow yX8_bestRow, Cond.code yX8_bestRow cX8_bestRow 7 (some .int), Cond.fieldLink RX8 32 "NineHandsModel" "row" "[I", Cond.methodLink RX8 162 yX8_farBy, Cond.instanceMethod yX8_farBy, Cond.selects RX8 yX8_farBy yX8_farBy]
def wsX8_order_r2 : List Cond := [Cond.code yX8_farBy cX8_farBy 6 (some .int), Cond.methodLink RX8 133 yX8_last, Cond.instanceMethod yX8_last, Cond.selects RX8 yX8_last yX8_last, Cond.code yX8_last cX8_last 1 (some .int), Cond.fieldLink RX8 16 "NineHandsModel" "s" "[I", Cond.methodLink RX8 125 yX8_toneBy, Cond.instanceMethod yX8_toneBy, Cond.selects RX8 yX8_toneBy yX8_toneBy, Cond.code yX8_toneBy cX8_toneBy 4 (some .int), Cond.fieldLink RX8 13 "NineHandsModel" "clerk" "[I", Cond.methodLink RX8 159 yX8_size, Cond.static yX8_size, Cond.code yX8_size cX8_size 1 (some .int), Cond.methodLink RX8 165 yX8_steps, Cond.instanceMethod yX8_steps, Cond.selects RX8 yX8_steps yX8_steps, Cond.code yX8_steps cX8_steps 5 (some .boolean), Cond.methodLink RX8 156 yX8_changes, Cond.instanceMethod yX8_changes, Cond.selects RX8 yX8_changes yX8_changes, Cond.code yX8_changes cX8_changes 4 none]
def wsX8_order : List Cond := .code yX8_order cX8_order 4 (some .int) :: ((wsX8_order_r1 ++ wsX8_order_r2) ++ wsX80)
def wsX8_drift_r1 : List Cond := [Cond.fieldLink RX8 42 "NineHandsModel" "thrown" "I", Cond.methodLink RX8 171 yX8_areClerks, Cond.instanceMethod yX8_areClerks, Cond.selects RX8 yX8_areClerks yX8_areClerks, Cond.initialized RX8, Cond.code yX8_areClerks cX8_areClerks 2 (some .boolean), Cond.fieldLink RX8 112 "NineHandsModel" "clerks" "I", Cond.methodLink RX8 46 yX8_in, Cond.static yX8_in, Cond.code yX8_in cX8_in 3 (some .boolean), Cond.methodLink RX8 174 yX8_told, Cond.instanceMethod yX8_told, Cond.selects RX8 yX8_told yX8_told, Cond.code yX8_told cX8_told 5 (some .int), Cond.fieldLink RX8 153 "NineHandsModel" "rowMany" "I", Cond.fieldLink RX8 35 "NineHandsModel" "best" "[I", Cond.methodLink RX8 168 yX8_bestRow, Cond.instanceMethod yX8_bestRow, Cond.selects RX8 yX8_bestRow yX8_bestRow, Cond.code yX8_bestRow cX8_bestRow 7 (some .int), Cond.fieldLink RX8 32 "NineHandsModel" "row" "[I", Cond.methodLink RX8 162 yX8_farBy, Cond.instanceMethod yX8_farBy, Cond.selects RX8 yX8_farBy yX8_farBy]
def wsX8_drift_r2 : List Cond := [Cond.code yX8_farBy cX8_farBy 6 (some .int), Cond.methodLink RX8 133 yX8_last, Cond.instanceMethod yX8_last, Cond.selects RX8 yX8_last yX8_last, Cond.code yX8_last cX8_last 1 (some .int), Cond.fieldLink RX8 16 "NineHandsModel" "s" "[I", Cond.methodLink RX8 125 yX8_toneBy, Cond.instanceMethod yX8_toneBy, Cond.selects RX8 yX8_toneBy yX8_toneBy, Cond.code yX8_toneBy cX8_toneBy 4 (some .int), Cond.fieldLink RX8 13 "NineHandsModel" "clerk" "[I", Cond.methodLink RX8 159 yX8_size, Cond.static yX8_size, Cond.code yX8_size cX8_size 1 (some .int), Cond.methodLink RX8 165 yX8_steps, Cond.instanceMethod yX8_steps, Cond.selects RX8 yX8_steps yX8_steps, Cond.code yX8_steps cX8_steps 5 (some .boolean), Cond.methodLink RX8 156 yX8_changes, Cond.instanceMethod yX8_changes, Cond.selects RX8 yX8_changes yX8_changes, Cond.code yX8_changes cX8_changes 4 none]
def wsX8_drift : List Cond := .code yX8_drift cX8_drift 3 (some .int) :: ((wsX8_drift_r1 ++ wsX8_drift_r2) ++ wsX80)
def wsX8_sign : List Cond := .code yX8_sign cX8_sign 5 (some .int) :: ([.fieldLink RX8 42 "NineHandsModel" "thrown" "I", .fieldLink RX8 115 "NineHandsModel" "signMany" "I", .fieldLink RX8 26 "NineHandsModel" "signed" "[I", .methodLink RX8 46 yX8_in, .static yX8_in, .initialized RX8, .code yX8_in cX8_in 3 (some .boolean)] ++ wsX80)
def wsX8_fitsLean : List Cond := .code yX8_fitsLean cX8_fitsLean 5 (some .boolean) :: ([.fieldLink RX8 115 "NineHandsModel" "signMany" "I", .fieldLink RX8 26 "NineHandsModel" "signed" "[I"] ++ wsX80)
def wsX8_marksBy : List Cond := .code yX8_marksBy cX8_marksBy 6 (some .int) :: ([.fieldLink RX8 115 "NineHandsModel" "signMany" "I", .fieldLink RX8 26 "NineHandsModel" "signed" "[I"] ++ wsX80)
def wsX8_learnt : List Cond := .code yX8_learnt cX8_learnt 7 (some .int) :: ([.fieldLink RX8 42 "NineHandsModel" "thrown" "I", .methodLink RX8 46 yX8_in, .static yX8_in, .initialized RX8, .code yX8_in cX8_in 3 (some .boolean), .methodLink RX8 178 yX8_fitsLean, .instanceMethod yX8_fitsLean, .selects RX8 yX8_fitsLean yX8_fitsLean, .code yX8_fitsLean cX8_fitsLean 5 (some .boolean), .fieldLink RX8 115 "NineHandsModel" "signMany" "I", .fieldLink RX8 26 "NineHandsModel" "signed" "[I", .methodLink RX8 181 yX8_marksBy, .instanceMethod yX8_marksBy, .selects RX8 yX8_marksBy yX8_marksBy, .code yX8_marksBy cX8_marksBy 6 (some .int)] ++ wsX80)
def wsX8_forget : List Cond := .code yX8_forget cX8_forget 2 (some .int) :: ([.fieldLink RX8 42 "NineHandsModel" "thrown" "I", .fieldLink RX8 115 "NineHandsModel" "signMany" "I"] ++ wsX80)
def wsX8_copy : List Cond := .code yX8_copy cX8_copy 2 (some .int) :: ([.fieldLink RX8 42 "NineHandsModel" "thrown" "I", .fieldLink RX8 118 "NineHandsModel" "copies" "I", .fieldLink RX8 29 "NineHandsModel" "slips" "[I", .methodLink RX8 46 yX8_in, .static yX8_in, .initialized RX8, .code yX8_in cX8_in 3 (some .boolean)] ++ wsX80)
def wsX8_cameOf : List Cond := .code yX8_cameOf cX8_cameOf 5 (some .int) :: ([.fieldLink RX8 118 "NineHandsModel" "copies" "I", .fieldLink RX8 29 "NineHandsModel" "slips" "[I", .methodLink RX8 147 yX8_ones, .static yX8_ones, .initialized RX8, .code yX8_ones cX8_ones 3 (some .int)] ++ wsX80)
def wsX8_came : List Cond := .code yX8_came cX8_came 5 (some .int) :: ([.fieldLink RX8 42 "NineHandsModel" "thrown" "I", .fieldLink RX8 118 "NineHandsModel" "copies" "I", .fieldLink RX8 29 "NineHandsModel" "slips" "[I", .methodLink RX8 46 yX8_in, .static yX8_in, .initialized RX8, .code yX8_in cX8_in 3 (some .boolean), .methodLink RX8 184 yX8_cameOf, .instanceMethod yX8_cameOf, .selects RX8 yX8_cameOf yX8_cameOf, .code yX8_cameOf cX8_cameOf 5 (some .int), .methodLink RX8 147 yX8_ones, .static yX8_ones, .code yX8_ones cX8_ones 3 (some .int)] ++ wsX80)
def wsX8_firsts : List Cond := .code yX8_firsts cX8_firsts 3 (some .int) :: ([.fieldLink RX8 42 "NineHandsModel" "thrown" "I", .fieldLink RX8 118 "NineHandsModel" "copies" "I", .methodLink RX8 184 yX8_cameOf, .instanceMethod yX8_cameOf, .selects RX8 yX8_cameOf yX8_cameOf, .initialized RX8, .code yX8_cameOf cX8_cameOf 5 (some .int), .fieldLink RX8 29 "NineHandsModel" "slips" "[I", .methodLink RX8 147 yX8_ones, .static yX8_ones, .code yX8_ones cX8_ones 3 (some .int)] ++ wsX80)
def wsX8_burn : List Cond := .code yX8_burn cX8_burn 2 (some .int) :: ([.fieldLink RX8 42 "NineHandsModel" "thrown" "I", .fieldLink RX8 118 "NineHandsModel" "copies" "I"] ++ wsX80)
def wsX8_rate : List Cond := .code yX8_rate cX8_rate 6 (some .int) :: ([.fieldLink RX8 42 "NineHandsModel" "thrown" "I", .constant RX8 187 (-1000000), .fieldLink RX8 13 "NineHandsModel" "clerk" "[I", .fieldLink RX8 188 "NineHandsModel" "trace" "J", .constantLong RX8 192 (11), .constantLong RX8 194 (101), .constantLong RX8 196 (1011), .constantLong RX8 198 (10101), .constantLong RX8 200 (100001), .methodLink RX8 46 yX8_in, .static yX8_in, .initialized RX8, .code yX8_in cX8_in 3 (some .boolean), .methodLink RX8 121 yX8_isClerk, .instanceMethod yX8_isClerk, .selects RX8 yX8_isClerk yX8_isClerk, .code yX8_isClerk cX8_isClerk 2 (some .boolean), .fieldLink RX8 112 "NineHandsModel" "clerks" "I", .methodLink RX8 147 yX8_ones, .static yX8_ones, .code yX8_ones cX8_ones 3 (some .int)] ++ wsX80)
def wsX8_keep : List Cond := .code yX8_keep cX8_keep 3 (some .int) :: ([.fieldLink RX8 42 "NineHandsModel" "thrown" "I", .fieldLink RX8 19 "NineHandsModel" "kept" "[I", .fieldLink RX8 16 "NineHandsModel" "s" "[I", .fieldLink RX8 22 "NineHandsModel" "isKept" "[Z", .methodLink RX8 46 yX8_in, .static yX8_in, .initialized RX8, .code yX8_in cX8_in 3 (some .boolean)] ++ wsX80)
def wsX8_back : List Cond := .code yX8_back cX8_back 3 (some .int) :: ([.fieldLink RX8 42 "NineHandsModel" "thrown" "I", .fieldLink RX8 22 "NineHandsModel" "isKept" "[Z", .fieldLink RX8 16 "NineHandsModel" "s" "[I", .fieldLink RX8 19 "NineHandsModel" "kept" "[I", .methodLink RX8 46 yX8_in, .static yX8_in, .initialized RX8, .code yX8_in cX8_in 3 (some .boolean)] ++ wsX80)
def wsX8_count : List Cond := .code yX8_count cX8_count 2 (some .int) :: ([.fieldLink RX8 42 "NineHandsModel" "thrown" "I", .fieldLink RX8 112 "NineHandsModel" "clerks" "I", .fieldLink RX8 16 "NineHandsModel" "s" "[I", .fieldLink RX8 115 "NineHandsModel" "signMany" "I", .fieldLink RX8 118 "NineHandsModel" "copies" "I", .fieldLink RX8 50 "NineHandsModel" "typed" "I"] ++ wsX80)
def wsX8_trace : List Cond := .code yX8_trace cX8_trace 1 (some .long) :: ([.fieldLink RX8 42 "NineHandsModel" "thrown" "I", .fieldLink RX8 188 "NineHandsModel" "trace" "J"] ++ wsX80)
def wsJ9_abs_0f7a4 : List Cond := .code yJ9_abs_0f7a4 cJ9_abs_0f7a4 1 (some .int) :: ([])
def wsJ9_max_7cf53 : List Cond := .code yJ9_max_7cf53 cJ9_max_7cf53 2 (some .int) :: ([])
def wsJ9_min_7cf53 : List Cond := .code yJ9_min_7cf53 cJ9_min_7cf53 2 (some .int) :: ([])
def wsL_law_r1 : List Cond := [Cond.classLink RL 7 RX7, Cond.instantiable RX7 9, Cond.initialized RX7, Cond.classLink RL 10 RX8, Cond.instantiable RX8 23, Cond.initialized RX8, Cond.constantLong RL 13 (4294967295), Cond.methodLink RL 9 yX7_init, Cond.instanceMethod yX7_init, Cond.code yX7_init cX7_init 1 none, Cond.methodLink RX7 1 objectInit, Cond.instanceMethod objectInit, Cond.code objectInit ⟨#[0xb1]⟩ 1 none, Cond.classLink RX7 7 RX6, Cond.instantiable RX6 5, Cond.initialized RX6, Cond.fieldLink RX7 10 "NineHands" "text" "LNineHands$Text;", Cond.classLink RX7 16 RX2, Cond.instantiable RX2 5, Cond.initialized RX2, Cond.fieldLink RX7 19 "NineHands" "letter" "LNineHands$Letter;", Cond.fieldLink RX7 23 "NineHands" "images" "[LNineHands$Letter;", Cond.classLink RX7 27 RX5, Cond.instantiable RX5 5]
def wsL_law_r2 : List Cond := [Cond.initialized RX5, Cond.fieldLink RX7 30 "NineHands" "samples" "LNineHands$Samples;", Cond.classLink RX7 34 RX1, Cond.instantiable RX1 2, Cond.initialized RX1, Cond.fieldLink RX7 37 "NineHands" "copies" "LNineHands$Copies;", Cond.classLink RX7 41 RX4, Cond.instantiable RX4 4, Cond.initialized RX4, Cond.fieldLink RX7 44 "NineHands" "orders" "LNineHands$Orders;", Cond.classLink RX7 48 RX3, Cond.instantiable RX3 5, Cond.initialized RX3, Cond.fieldLink RX7 51 "NineHands" "office" "LNineHands$Office;", Cond.fieldLink RX7 55 "NineHands" "draft" "LNineHands$Office;", Cond.fieldLink RX7 58 "NineHands" "traced" "J", Cond.instanceMethod yX6_init, Cond.code yX6_init cX6_init 1 none, Cond.methodLink RX6 3 objectInit, Cond.arrayClass .byte, Cond.fieldLink RX6 9 "NineHands$Text" "bytes" "[B", Cond.fieldLink RX6 15 "NineHands$Text" "length" "I", Cond.fieldLink RX6 19 "NineHands$Text" "next" "I", Cond.fieldLink RX6 22 "NineHands$Text" "start" "I"]
def wsL_law_r3 : List Cond := [Cond.fieldLink RX6 25 "NineHands$Text" "number" "I", Cond.instanceMethod yX2_init, Cond.code yX2_init cX2_init 1 none, Cond.methodLink RX2 3 objectInit, Cond.arrayClass .int, Cond.fieldLink RX2 9 "NineHands$Letter" "tones" "[I", Cond.fieldLink RX2 15 "NineHands$Letter" "marks" "[I", Cond.fieldLink RX2 18 "NineHands$Letter" "writers" "[I", Cond.fieldLink RX2 21 "NineHands$Letter" "lines" "I", Cond.fieldLink RX2 25 "NineHands$Letter" "luck" "I", Cond.instanceMethod yX5_init, Cond.code yX5_init cX5_init 1 none, Cond.methodLink RX5 3 objectInit, Cond.fieldLink RX5 9 "NineHands$Samples" "tones" "[I", Cond.fieldLink RX5 15 "NineHands$Samples" "marks" "[I", Cond.fieldLink RX5 18 "NineHands$Samples" "thenTones" "[I", Cond.fieldLink RX5 21 "NineHands$Samples" "thenMarks" "[I", Cond.fieldLink RX5 24 "NineHands$Samples" "count" "I", Cond.instanceMethod yX1_init, Cond.code yX1_init cX1_init 1 none, Cond.methodLink RX1 3 objectInit, Cond.fieldLink RX1 9 "NineHands$Copies" "slips" "[I", Cond.fieldLink RX1 15 "NineHands$Copies" "count" "I", Cond.instanceMethod yX4_init]
def wsL_law_r4 : List Cond := [Cond.code yX4_init cX4_init 1 none, Cond.methodLink RX4 3 objectInit, Cond.fieldLink RX4 9 "NineHands$Orders" "row" "[I", Cond.fieldLink RX4 15 "NineHands$Orders" "best" "[I", Cond.fieldLink RX4 18 "NineHands$Orders" "size" "I", Cond.fieldLink RX4 22 "NineHands$Orders" "least" "I", Cond.methodLink RX7 50 yX3_init, Cond.instanceMethod yX3_init, Cond.code yX3_init cX3_init 2 none, Cond.methodLink RX3 3 objectInit, Cond.classLink RX3 9 RX0, Cond.fieldLink RX3 11 "NineHands$Office" "clerks" "[LNineHands$Clerk;", Cond.instantiable RX0 4, Cond.initialized RX0, Cond.instanceMethod yX0_init, Cond.code yX0_init cX0_init 1 none, Cond.methodLink RX0 3 objectInit, Cond.methodLink RX3 18 yX3_begin, Cond.instanceMethod yX3_begin, Cond.selects RX3 yX3_begin yX3_begin, Cond.code yX3_begin cX3_begin 1 none, Cond.fieldLink RX3 21 "NineHands$Office" "count" "I", Cond.fieldLink RX3 25 "NineHands$Office" "letterTold" "Z", Cond.fieldLink RX3 29 "NineHands$Office" "firstTone" "I"]
def wsL_law_r5 : List Cond := [Cond.fieldLink RX3 32 "NineHands$Office" "firstMarks" "I", Cond.methodLink RX7 69 yX2_begin, Cond.instanceMethod yX2_begin, Cond.selects RX2 yX2_begin yX2_begin, Cond.code yX2_begin cX2_begin 3 none, Cond.methodLink RX2 28 yX2_add, Cond.instanceMethod yX2_add, Cond.selects RX2 yX2_add yX2_add, Cond.code yX2_add cX2_add 4 none, Cond.methodLink RX2 32 yX2_isFull, Cond.instanceMethod yX2_isFull, Cond.selects RX2 yX2_isFull yX2_isFull, Cond.code yX2_isFull cX2_isFull 1 (some .boolean), Cond.methodLink RL 12 yX8_init, Cond.instanceMethod yX8_init, Cond.code yX8_init cX8_init 1 none, Cond.methodLink RX8 1 objectInit, Cond.fieldLink RX8 7 "NineHandsModel" "text" "[I", Cond.fieldLink RX8 13 "NineHandsModel" "clerk" "[I", Cond.fieldLink RX8 16 "NineHandsModel" "s" "[I", Cond.fieldLink RX8 19 "NineHandsModel" "kept" "[I", Cond.arrayClass .boolean, Cond.fieldLink RX8 22 "NineHandsModel" "isKept" "[Z", Cond.fieldLink RX8 26 "NineHandsModel" "signed" "[I"]
def wsL_law_r6 : List Cond := [Cond.fieldLink RX8 29 "NineHandsModel" "slips" "[I", Cond.fieldLink RX8 32 "NineHandsModel" "row" "[I", Cond.fieldLink RX8 35 "NineHandsModel" "best" "[I", Cond.methodLink RX8 38 yX8_begins, Cond.instanceMethod yX8_begins, Cond.selects RX8 yX8_begins yX8_begins, Cond.code yX8_begins cX8_begins 2 none, Cond.methodLink RL 15 yX7_type, Cond.instanceMethod yX7_type, Cond.selects RX7 yX7_type yX7_type, Cond.code yX7_type cX7_type 4 (some .int), Cond.methodLink RX7 76 yX6_append, Cond.instanceMethod yX6_append, Cond.selects RX6 yX6_append yX6_append, Cond.code yX6_append cX6_append 5 none, Cond.methodLink RL 19 yX8_type, Cond.instanceMethod yX8_type, Cond.selects RX8 yX8_type yX8_type, Cond.code yX8_type cX8_type 5 (some .int), Cond.fieldLink RX8 42 "NineHandsModel" "thrown" "I", Cond.fieldLink RX8 50 "NineHandsModel" "typed" "I", Cond.constantLong RX8 53 (255), Cond.methodLink RX8 46 yX8_in, Cond.static yX8_in]
def wsL_law_r7 : List Cond := [Cond.code yX8_in cX8_in 3 (some .boolean), Cond.methodLink RL 20 yX7_clear, Cond.instanceMethod yX7_clear, Cond.selects RX7 yX7_clear yX7_clear, Cond.code yX7_clear cX7_clear 2 (some .int), Cond.methodLink RL 24 yX8_clear, Cond.instanceMethod yX8_clear, Cond.selects RX8 yX8_clear yX8_clear, Cond.code yX8_clear cX8_clear 2 (some .int), Cond.methodLink RL 25 yX7_chancery, Cond.instanceMethod yX7_chancery, Cond.selects RX7 yX7_chancery yX7_chancery, Cond.code yX7_chancery cX7_chancery 3 (some .int), Cond.methodLink RX7 80 yX6_readInto, Cond.instanceMethod yX6_readInto, Cond.selects RX6 yX6_readInto yX6_readInto, Cond.code yX6_readInto cX6_readInto 4 (some .int), Cond.methodLink RX6 33 yX6_take, Cond.instanceMethod yX6_take, Cond.selects RX6 yX6_take yX6_take, Cond.code yX6_take cX6_take 2 (some .int), Cond.methodLink RX6 77 yX6_sortOf, Cond.static yX6_sortOf, Cond.code yX6_sortOf cX6_sortOf 1 (some .int)]
def wsL_law_r8 : List Cond := [Cond.methodLink RX6 37 yX6_readItem, Cond.instanceMethod yX6_readItem, Cond.selects RX6 yX6_readItem yX6_readItem, Cond.code yX6_readItem cX6_readItem 2 (some .boolean), Cond.methodLink RX6 43 yX6_tookWord, Cond.instanceMethod yX6_tookWord, Cond.selects RX6 yX6_tookWord yX6_tookWord, Cond.code yX6_tookWord cX6_tookWord 3 (some .boolean), Cond.methodLink RX6 81 yJ0_length_8abf5, Cond.instanceMethod yJ0_length_8abf5, Cond.selects RJ0 yJ0_length_8abf5 yJ0_length_8abf5, Cond.initialized RJ0, Cond.code yJ0_length_8abf5 cJ0_length_8abf5 1 (some .int), Cond.fieldLink RJ0 9 "java/lang/String" "value" "[B", Cond.methodLink RJ0 335 yJ0_coder_7d493, Cond.instanceMethod yJ0_coder_7d493, Cond.selects RJ0 yJ0_coder_7d493 yJ0_coder_7d493, Cond.code yJ0_coder_7d493 cJ0_coder_7d493 1 (some .byte), Cond.fieldLink RJ0 38 "java/lang/String" "COMPACT_STRINGS" "Z", Cond.fieldLink RJ0 15 "java/lang/String" "coder" "B", Cond.methodLink RX6 85 yJ0_charAt_5068e, Cond.instanceMethod yJ0_charAt_5068e, Cond.selects RJ0 yJ0_charAt_5068e yJ0_charAt_5068e, Cond.code yJ0_charAt_5068e cJ0_charAt_5068e 2 (some .char)]
def wsL_law_r9 : List Cond := [Cond.methodLink RJ0 492 yJ0_isLatin1_aae02, Cond.instanceMethod yJ0_isLatin1_aae02, Cond.selects RJ0 yJ0_isLatin1_aae02 yJ0_isLatin1_aae02, Cond.code yJ0_isLatin1_aae02 cJ0_isLatin1_aae02 1 (some .boolean), Cond.methodLink RJ0 495 yJ1_charAt_3b067, Cond.static yJ1_charAt_3b067, Cond.initialized RJ1, Cond.code yJ1_charAt_3b067 cJ1_charAt_3b067 2 (some .char), Cond.methodLink RJ1 9 yJ0_checkIndex_df160, Cond.static yJ0_checkIndex_df160, Cond.code yJ0_checkIndex_df160 cJ0_checkIndex_df160 2 none, Cond.fieldLink RJ0 1053 "jdk/internal/util/Preconditions" "SIOOBE_FORMATTER" "Ljava/util/function/BiFunction;", Cond.methodLink RJ0 1059 yJ3_checkIndex_8e157, Cond.static yJ3_checkIndex_8e157, Cond.initialized RJ3, Cond.code yJ3_checkIndex_8e157 cJ3_checkIndex_8e157 3 (some .int), Cond.methodLink RJ0 498 yJ2_charAt_3b067, Cond.static yJ2_charAt_3b067, Cond.initialized RJ2, Cond.code yJ2_charAt_3b067 cJ2_charAt_3b067 2 (some .char), Cond.methodLink RJ2 67 yJ2_checkIndex_2214a, Cond.static yJ2_checkIndex_2214a, Cond.code yJ2_checkIndex_2214a cJ2_checkIndex_2214a 2 none, Cond.methodLink RJ2 48 yJ2_length_9d52b]
def wsL_law_r10 : List Cond := [Cond.static yJ2_length_9d52b, Cond.code yJ2_length_9d52b cJ2_length_9d52b 1 (some .int), Cond.methodLink RJ2 414 yJ0_checkIndex_df160, Cond.methodLink RJ2 71 yJ2_getChar_3b067, Cond.static yJ2_getChar_3b067, Cond.code yJ2_getChar_3b067 cJ2_getChar_3b067 2 (some .char), Cond.fieldLink RJ2 44 "java/lang/StringUTF16" "$assertionsDisabled" "Z", Cond.fieldLink RJ2 59 "java/lang/StringUTF16" "HI_BYTE_SHIFT" "I", Cond.fieldLink RJ2 63 "java/lang/StringUTF16" "LO_BYTE_SHIFT" "I", Cond.methodLink RX6 47 yX3_isFull, Cond.instanceMethod yX3_isFull, Cond.selects RX3 yX3_isFull yX3_isFull, Cond.code yX3_isFull cX3_isFull 1 (some .boolean), Cond.methodLink RX6 51 yX6_readClerk, Cond.instanceMethod yX6_readClerk, Cond.selects RX6 yX6_readClerk yX6_readClerk, Cond.code yX6_readClerk cX6_readClerk 5 (some .boolean), Cond.methodLink RX6 63 yX6_takeNumber, Cond.instanceMethod yX6_takeNumber, Cond.selects RX6 yX6_takeNumber yX6_takeNumber, Cond.code yX6_takeNumber cX6_takeNumber 3 (some .boolean), Cond.methodLink RX6 67 yX3_add, Cond.instanceMethod yX3_add, Cond.selects RX3 yX3_add yX3_add]
def wsL_law_r11 : List Cond := [Cond.code yX3_add cX3_add 6 none, Cond.methodLink RX3 35 yX3_isFull, Cond.methodLink RX6 60 yX6_readFirstLine, Cond.instanceMethod yX6_readFirstLine, Cond.selects RX6 yX6_readFirstLine yX6_readFirstLine, Cond.code yX6_readFirstLine cX6_readFirstLine 2 (some .boolean), Cond.methodLink RX7 84 yX7_beginAnew, Cond.instanceMethod yX7_beginAnew, Cond.selects RX7 yX7_beginAnew yX7_beginAnew, Cond.code yX7_beginAnew cX7_beginAnew 2 none, Cond.methodLink RL 28 yX8_chancery, Cond.instanceMethod yX8_chancery, Cond.selects RX8 yX8_chancery yX8_chancery, Cond.code yX8_chancery cX8_chancery 3 (some .int), Cond.fieldLink RX8 85 "NineHandsModel" "fault" "I", Cond.fieldLink RX8 65 "NineHandsModel" "next" "I", Cond.fieldLink RX8 99 "NineHandsModel" "draftClerks" "I", Cond.fieldLink RX8 106 "NineHandsModel" "draftLine" "I", Cond.fieldLink RX8 75 "NineHandsModel" "token" "I", Cond.fieldLink RX8 82 "NineHandsModel" "value" "I", Cond.fieldLink RX8 112 "NineHandsModel" "clerks" "I", Cond.fieldLink RX8 115 "NineHandsModel" "signMany" "I", Cond.fieldLink RX8 118 "NineHandsModel" "copies" "I", Cond.methodLink RX8 92 yX8_advances]
def wsL_law_r12 : List Cond := [Cond.instanceMethod yX8_advances, Cond.selects RX8 yX8_advances yX8_advances, Cond.code yX8_advances cX8_advances 4 none, Cond.fieldLink RX8 72 "NineHandsModel" "place" "I", Cond.methodLink RX8 68 yX8_byteAt, Cond.instanceMethod yX8_byteAt, Cond.selects RX8 yX8_byteAt yX8_byteAt, Cond.code yX8_byteAt cX8_byteAt 2 (some .int), Cond.methodLink RX8 57 yX8_add, Cond.static yX8_add, Cond.code yX8_add cX8_add 3 (some .long), Cond.constantLong RX8 55 (256), Cond.methodLink RX8 78 yX8_wordOf, Cond.static yX8_wordOf, Cond.code yX8_wordOf cX8_wordOf 2 (some .int), Cond.methodLink RX8 61 yX8_named, Cond.static yX8_named, Cond.code yX8_named cX8_named 6 (some .long), Cond.methodLink RX8 88 yX8_isWell, Cond.instanceMethod yX8_isWell, Cond.selects RX8 yX8_isWell yX8_isWell, Cond.code yX8_isWell cX8_isWell 1 (some .boolean), Cond.methodLink RX8 95 yX8_takes, Cond.instanceMethod yX8_takes]
def wsL_law_r13 : List Cond := [Cond.selects RX8 yX8_takes yX8_takes, Cond.code yX8_takes cX8_takes 3 (some .int), Cond.methodLink RX8 109 yX8_readsItem, Cond.instanceMethod yX8_readsItem, Cond.selects RX8 yX8_readsItem yX8_readsItem, Cond.code yX8_readsItem cX8_readsItem 4 none, Cond.methodLink RX8 102 yX8_number, Cond.instanceMethod yX8_number, Cond.selects RX8 yX8_number yX8_number, Cond.code yX8_number cX8_number 3 (some .int), Cond.methodLink RL 29 yX7_clerk, Cond.instanceMethod yX7_clerk, Cond.selects RX7 yX7_clerk yX7_clerk, Cond.code yX7_clerk cX7_clerk 4 (some .int), Cond.methodLink RX7 87 yX3_find, Cond.instanceMethod yX3_find, Cond.selects RX3 yX3_find yX3_find, Cond.code yX3_find cX3_find 2 (some (.object "NineHands$Clerk")), Cond.methodLink RL 33 yX8_clerk, Cond.instanceMethod yX8_clerk, Cond.selects RX8 yX8_clerk yX8_clerk, Cond.code yX8_clerk cX8_clerk 3 (some .int), Cond.methodLink RX8 121 yX8_isClerk, Cond.instanceMethod yX8_isClerk]
def wsL_law_r14 : List Cond := [Cond.selects RX8 yX8_isClerk yX8_isClerk, Cond.code yX8_isClerk cX8_isClerk 2 (some .boolean), Cond.methodLink RL 34 yX7_line, Cond.instanceMethod yX7_line, Cond.selects RX7 yX7_line yX7_line, Cond.code yX7_line cX7_line 3 (some .int), Cond.methodLink RL 37 yX8_line, Cond.instanceMethod yX8_line, Cond.selects RX8 yX8_line yX8_line, Cond.code yX8_line cX8_line 3 (some .int), Cond.methodLink RL 38 yX7_makes, Cond.instanceMethod yX7_makes, Cond.selects RX7 yX7_makes yX7_makes, Cond.code yX7_makes cX7_makes 5 (some .int), Cond.methodLink RX7 118 yX7_isLine, Cond.static yX7_isLine, Cond.code yX7_isLine cX7_isLine 2 (some .boolean), Cond.methodLink RX7 184 yX7_isTone, Cond.static yX7_isTone, Cond.code yX7_isTone cX7_isTone 1 (some .boolean), Cond.methodLink RX7 122 yX0_toneBehind, Cond.instanceMethod yX0_toneBehind, Cond.selects RX0 yX0_toneBehind yX0_toneBehind, Cond.code yX0_toneBehind cX0_toneBehind 2 (some .int)]
def wsL_law_r15 : List Cond := [Cond.fieldLink RX0 9 "NineHands$Clerk" "lean" "I", Cond.static yX7_leant, Cond.code yX7_leant cX7_leant 2 (some .int), Cond.methodLink RX7 262 Lib.Math.min.name, Cond.static Lib.Math.min.name, Cond.initialized "java/lang/Math", Cond.code Lib.Math.min.name Lib.Math.min.code 2 (some .int), Cond.methodLink RX7 267 Lib.Math.max.name, Cond.static Lib.Math.max.name, Cond.code Lib.Math.max.name Lib.Math.max.code 2 (some .int), Cond.methodLink RX7 126 yX0_marksBehind, Cond.instanceMethod yX0_marksBehind, Cond.selects RX0 yX0_marksBehind yX0_marksBehind, Cond.code yX0_marksBehind cX0_marksBehind 2 (some .int), Cond.fieldLink RX0 19 "NineHands$Clerk" "sets" "I", Cond.fieldLink RX0 22 "NineHands$Clerk" "drops" "I", Cond.methodLink RX7 129 yX7_told, Cond.static yX7_told, Cond.code yX7_told cX7_told 2 (some .int), Cond.methodLink RL 42 yX8_makes, Cond.instanceMethod yX8_makes, Cond.selects RX8 yX8_makes yX8_makes, Cond.code yX8_makes cX8_makes 4 (some .int), Cond.methodLink RX8 128 yX8_madeBy]
def wsL_law_r16 : List Cond := [Cond.instanceMethod yX8_madeBy, Cond.selects RX8 yX8_madeBy yX8_madeBy, Cond.code yX8_madeBy cX8_madeBy 4 (some .int), Cond.methodLink RX8 125 yX8_toneBy, Cond.instanceMethod yX8_toneBy, Cond.selects RX8 yX8_toneBy yX8_toneBy, Cond.code yX8_toneBy cX8_toneBy 4 (some .int), Cond.methodLink RL 43 yX7_write, Cond.instanceMethod yX7_write, Cond.selects RX7 yX7_write yX7_write, Cond.code yX7_write cX7_write 5 (some .int), Cond.methodLink RX7 133 yX2_isFull, Cond.methodLink RX7 137 yX2_lastTone, Cond.instanceMethod yX2_lastTone, Cond.selects RX2 yX2_lastTone yX2_lastTone, Cond.code yX2_lastTone cX2_lastTone 1 (some .int), Cond.methodLink RX2 36 yX2_isBlank, Cond.instanceMethod yX2_isBlank, Cond.selects RX2 yX2_isBlank yX2_isBlank, Cond.code yX2_isBlank cX2_isBlank 1 (some .boolean), Cond.methodLink RX7 141 yX2_lastMarks, Cond.instanceMethod yX2_lastMarks, Cond.selects RX2 yX2_lastMarks yX2_lastMarks, Cond.code yX2_lastMarks cX2_lastMarks 1 (some .int)]
def wsL_law_r17 : List Cond := [Cond.methodLink RX7 144 yX2_draw, Cond.instanceMethod yX2_draw, Cond.selects RX2 yX2_draw yX2_draw, Cond.code yX2_draw cX2_draw 1 (some .int), Cond.constant RX2 39 (1103515245), Cond.methodLink RX7 147 yX2_add, Cond.methodLink RL 47 yX8_write, Cond.instanceMethod yX8_write, Cond.selects RX8 yX8_write yX8_write, Cond.code yX8_write cX8_write 3 (some .int), Cond.constant RX8 131 (1103515245), Cond.constant RX8 132 (65535), Cond.methodLink RX8 133 yX8_last, Cond.instanceMethod yX8_last, Cond.selects RX8 yX8_last yX8_last, Cond.code yX8_last cX8_last 1 (some .int), Cond.methodLink RX8 137 yX8_puts, Cond.instanceMethod yX8_puts, Cond.selects RX8 yX8_puts yX8_puts, Cond.code yX8_puts cX8_puts 3 none, Cond.methodLink RL 48 yX7_forge, Cond.instanceMethod yX7_forge, Cond.selects RX7 yX7_forge yX7_forge, Cond.code yX7_forge cX7_forge 3 (some .int)]
def wsL_law_r18 : List Cond := [Cond.methodLink RL 51 yX8_forge, Cond.instanceMethod yX8_forge, Cond.selects RX8 yX8_forge yX8_forge, Cond.code yX8_forge cX8_forge 3 (some .int), Cond.methodLink RL 52 yX7_undo, Cond.instanceMethod yX7_undo, Cond.selects RX7 yX7_undo yX7_undo, Cond.code yX7_undo cX7_undo 1 (some .int), Cond.methodLink RL 55 yX8_undo, Cond.instanceMethod yX8_undo, Cond.selects RX8 yX8_undo yX8_undo, Cond.code yX8_undo cX8_undo 1 (some .int), Cond.methodLink RL 56 yX7_lot, Cond.instanceMethod yX7_lot, Cond.selects RX7 yX7_lot yX7_lot, Cond.code yX7_lot cX7_lot 3 (some .int), Cond.methodLink RL 59 yX8_lot, Cond.instanceMethod yX8_lot, Cond.selects RX8 yX8_lot yX8_lot, Cond.code yX8_lot cX8_lot 3 (some .int), Cond.methodLink RL 60 yX7_turned, Cond.instanceMethod yX7_turned, Cond.selects RX7 yX7_turned yX7_turned, Cond.code yX7_turned cX7_turned 3 (some .int)]
def wsL_law_r19 : List Cond := [Cond.methodLink RX7 154 yX7_isWarm, Cond.static yX7_isWarm, Cond.code yX7_isWarm cX7_isWarm 1 (some .boolean), Cond.methodLink RL 63 yX8_turned, Cond.instanceMethod yX8_turned, Cond.selects RX8 yX8_turned yX8_turned, Cond.code yX8_turned cX8_turned 3 (some .int), Cond.methodLink RL 64 yX7_who, Cond.instanceMethod yX7_who, Cond.selects RX7 yX7_who yX7_who, Cond.code yX7_who cX7_who 3 (some .int), Cond.methodLink RX7 158 yX7_hasLineAhead, Cond.instanceMethod yX7_hasLineAhead, Cond.selects RX7 yX7_hasLineAhead yX7_hasLineAhead, Cond.code yX7_hasLineAhead cX7_hasLineAhead 2 (some .boolean), Cond.methodLink RX7 161 yX7_writersOf, Cond.instanceMethod yX7_writersOf, Cond.selects RX7 yX7_writersOf yX7_writersOf, Cond.code yX7_writersOf cX7_writersOf 4 (some .int), Cond.methodLink RX7 175 yX7_waysOf, Cond.instanceMethod yX7_waysOf, Cond.selects RX7 yX7_waysOf yX7_waysOf, Cond.code yX7_waysOf cX7_waysOf 6 (some .int), Cond.methodLink RX7 270 yX0_waysTo]
def wsL_law_r20 : List Cond := [Cond.instanceMethod yX0_waysTo, Cond.selects RX0 yX0_waysTo yX0_waysTo, Cond.code yX0_waysTo cX0_waysTo 6 (some .int), Cond.fieldLink RX0 32 "NineHands$Clerk" "keeps" "I", Cond.methodLink RX0 25 yX0_toneBehind, Cond.methodLink RX0 29 yX0_marksBehind, Cond.methodLink RX7 164 yX7_likeliestOf, Cond.instanceMethod yX7_likeliestOf, Cond.selects RX7 yX7_likeliestOf yX7_likeliestOf, Cond.code yX7_likeliestOf cX7_likeliestOf 6 (some .int), Cond.methodLink RL 67 yX8_who, Cond.instanceMethod yX8_who, Cond.selects RX8 yX8_who yX8_who, Cond.code yX8_who cX8_who 6 (some .int), Cond.methodLink RX8 144 yX8_whoOf, Cond.instanceMethod yX8_whoOf, Cond.selects RX8 yX8_whoOf yX8_whoOf, Cond.code yX8_whoOf cX8_whoOf 4 (some .int), Cond.methodLink RX8 141 yX8_waysOf, Cond.instanceMethod yX8_waysOf, Cond.selects RX8 yX8_waysOf yX8_waysOf, Cond.code yX8_waysOf cX8_waysOf 6 (some .int), Cond.methodLink RL 68 yX7_rows, Cond.instanceMethod yX7_rows]
def wsL_law_r21 : List Cond := [Cond.selects RX7 yX7_rows yX7_rows, Cond.code yX7_rows cX7_rows 3 (some .int), Cond.methodLink RX7 167 yJ6_bitCount_0f7a4, Cond.static yJ6_bitCount_0f7a4, Cond.initialized RJ6, Cond.code yJ6_bitCount_0f7a4 cJ6_bitCount_0f7a4 1 (some .int), Cond.constant RJ6 265 (1431655765), Cond.constant RJ6 266 (858993459), Cond.constant RJ6 267 (252645135), Cond.methodLink RL 71 yX8_rows, Cond.instanceMethod yX8_rows, Cond.selects RX8 yX8_rows yX8_rows, Cond.code yX8_rows cX8_rows 3 (some .int), Cond.methodLink RX8 147 yX8_ones, Cond.static yX8_ones, Cond.code yX8_ones cX8_ones 3 (some .int), Cond.methodLink RL 72 yX7_odds, Cond.instanceMethod yX7_odds, Cond.selects RX7 yX7_odds yX7_odds, Cond.code yX7_odds cX7_odds 7 (some .int), Cond.methodLink RX7 172 yX7_waysOfAll, Cond.instanceMethod yX7_waysOfAll, Cond.selects RX7 yX7_waysOfAll yX7_waysOfAll, Cond.code yX7_waysOfAll cX7_waysOfAll 4 (some .int)]
def wsL_law_r22 : List Cond := [Cond.methodLink RX7 178 yX7_sharedDivisor, Cond.static yX7_sharedDivisor, Cond.code yX7_sharedDivisor cX7_sharedDivisor 4 (some .int), Cond.methodLink RL 75 yX8_odds, Cond.instanceMethod yX8_odds, Cond.selects RX8 yX8_odds yX8_odds, Cond.code yX8_odds cX8_odds 6 (some .int), Cond.methodLink RX8 150 yX8_gcd, Cond.static yX8_gcd, Cond.code yX8_gcd cX8_gcd 5 (some .int), Cond.methodLink RL 76 yX7_order, Cond.instanceMethod yX7_order, Cond.selects RX7 yX7_order yX7_order, Cond.code yX7_order cX7_order 4 (some .int), Cond.methodLink RX7 181 yX3_hasAll, Cond.instanceMethod yX3_hasAll, Cond.selects RX3 yX3_hasAll yX3_hasAll, Cond.code yX3_hasAll cX3_hasAll 2 (some .boolean), Cond.methodLink RX7 187 yX4_seek, Cond.instanceMethod yX4_seek, Cond.selects RX4 yX4_seek yX4_seek, Cond.code yX4_seek cX4_seek 8 none, Cond.methodLink RX4 25 yX4_lineUp, Cond.instanceMethod yX4_lineUp]
def wsL_law_r23 : List Cond := [Cond.selects RX4 yX4_lineUp yX4_lineUp, Cond.code yX4_lineUp cX4_lineUp 3 none, Cond.methodLink RX4 29 yX4_stray, Cond.instanceMethod yX4_stray, Cond.selects RX4 yX4_stray yX4_stray, Cond.code yX4_stray cX4_stray 9 (some .int), Cond.methodLink RX4 58 Lib.Math.abs.name, Cond.static Lib.Math.abs.name, Cond.code Lib.Math.abs.name Lib.Math.abs.code 1 (some .int), Cond.methodLink RX4 63 Lib.Math.max.name, Cond.methodLink RX4 46 yX3_find, Cond.methodLink RX4 52 yX0_toneBehind, Cond.methodLink RX4 33 yX4_keepRow, Cond.instanceMethod yX4_keepRow, Cond.selects RX4 yX4_keepRow yX4_keepRow, Cond.code yX4_keepRow cX4_keepRow 1 none, Cond.methodLink RX4 40 arraycopyName, Cond.native arraycopyName, Cond.static arraycopyName, Cond.initialized "java/lang/System", Cond.methodLink RX4 36 yX4_step, Cond.instanceMethod yX4_step, Cond.selects RX4 yX4_step yX4_step, Cond.code yX4_step cX4_step 5 (some .boolean)]
def wsL_law_r24 : List Cond := [Cond.methodLink RX4 67 yX4_swap, Cond.instanceMethod yX4_swap, Cond.selects RX4 yX4_swap yX4_swap, Cond.code yX4_swap cX4_swap 4 none, Cond.methodLink RX7 191 yX4_answer, Cond.instanceMethod yX4_answer, Cond.selects RX4 yX4_answer yX4_answer, Cond.code yX4_answer cX4_answer 2 (some .int), Cond.methodLink RL 79 yX8_order, Cond.instanceMethod yX8_order, Cond.selects RX8 yX8_order yX8_order, Cond.code yX8_order cX8_order 4 (some .int), Cond.methodLink RX8 171 yX8_areClerks, Cond.instanceMethod yX8_areClerks, Cond.selects RX8 yX8_areClerks yX8_areClerks, Cond.code yX8_areClerks cX8_areClerks 2 (some .boolean), Cond.methodLink RX8 174 yX8_told, Cond.instanceMethod yX8_told, Cond.selects RX8 yX8_told yX8_told, Cond.code yX8_told cX8_told 5 (some .int), Cond.fieldLink RX8 153 "NineHandsModel" "rowMany" "I", Cond.methodLink RX8 168 yX8_bestRow, Cond.instanceMethod yX8_bestRow, Cond.selects RX8 yX8_bestRow yX8_bestRow]
def wsL_law_r25 : List Cond := [Cond.code yX8_bestRow cX8_bestRow 7 (some .int), Cond.methodLink RX8 162 yX8_farBy, Cond.instanceMethod yX8_farBy, Cond.selects RX8 yX8_farBy yX8_farBy, Cond.code yX8_farBy cX8_farBy 6 (some .int), Cond.methodLink RX8 159 yX8_size, Cond.static yX8_size, Cond.code yX8_size cX8_size 1 (some .int), Cond.methodLink RX8 165 yX8_steps, Cond.instanceMethod yX8_steps, Cond.selects RX8 yX8_steps yX8_steps, Cond.code yX8_steps cX8_steps 5 (some .boolean), Cond.methodLink RX8 156 yX8_changes, Cond.instanceMethod yX8_changes, Cond.selects RX8 yX8_changes yX8_changes, Cond.code yX8_changes cX8_changes 4 none, Cond.methodLink RL 80 yX7_drift, Cond.instanceMethod yX7_drift, Cond.selects RX7 yX7_drift yX7_drift, Cond.code yX7_drift cX7_drift 3 (some .int), Cond.methodLink RL 83 yX8_drift, Cond.instanceMethod yX8_drift, Cond.selects RX8 yX8_drift yX8_drift, Cond.code yX8_drift cX8_drift 3 (some .int)]
def wsL_law_r26 : List Cond := [Cond.methodLink RL 84 yX7_sign, Cond.instanceMethod yX7_sign, Cond.selects RX7 yX7_sign yX7_sign, Cond.code yX7_sign cX7_sign 5 (some .int), Cond.methodLink RX7 194 yX5_isFull, Cond.instanceMethod yX5_isFull, Cond.selects RX5 yX5_isFull yX5_isFull, Cond.code yX5_isFull cX5_isFull 1 (some .boolean), Cond.methodLink RX7 195 yX5_add, Cond.instanceMethod yX5_add, Cond.selects RX5 yX5_add yX5_add, Cond.code yX5_add cX5_add 5 none, Cond.methodLink RX5 28 yX5_isFull, Cond.methodLink RL 88 yX8_sign, Cond.instanceMethod yX8_sign, Cond.selects RX8 yX8_sign yX8_sign, Cond.code yX8_sign cX8_sign 5 (some .int), Cond.methodLink RL 89 yX7_learnt, Cond.instanceMethod yX7_learnt, Cond.selects RX7 yX7_learnt yX7_learnt, Cond.code yX7_learnt cX7_learnt 2 (some .int), Cond.methodLink RX7 201 yX5_leastLean, Cond.instanceMethod yX5_leastLean, Cond.selects RX5 yX5_leastLean yX5_leastLean]
def wsL_law_r27 : List Cond := [Cond.code yX5_leastLean cX5_leastLean 2 (some .int), Cond.methodLink RX5 32 yX5_leanFits, Cond.instanceMethod yX5_leanFits, Cond.selects RX5 yX5_leanFits yX5_leanFits, Cond.code yX5_leanFits cX5_leanFits 3 (some .boolean), Cond.methodLink RX7 204 yX5_marksFit, Cond.instanceMethod yX5_marksFit, Cond.selects RX5 yX5_marksFit yX5_marksFit, Cond.code yX5_marksFit cX5_marksFit 1 (some .boolean), Cond.methodLink RX5 40 yX5_maySet, Cond.instanceMethod yX5_maySet, Cond.selects RX5 yX5_maySet yX5_maySet, Cond.code yX5_maySet cX5_maySet 3 (some .int), Cond.methodLink RX5 44 yX5_mayDrop, Cond.instanceMethod yX5_mayDrop, Cond.selects RX5 yX5_mayDrop yX5_mayDrop, Cond.code yX5_mayDrop cX5_mayDrop 3 (some .int), Cond.methodLink RX5 47 yX5_mayLeave, Cond.instanceMethod yX5_mayLeave, Cond.selects RX5 yX5_mayLeave yX5_mayLeave, Cond.code yX5_mayLeave cX5_mayLeave 3 (some .int), Cond.methodLink RX7 207 yX5_greatestLean, Cond.instanceMethod yX5_greatestLean, Cond.selects RX5 yX5_greatestLean yX5_greatestLean]
def wsL_law_r28 : List Cond := [Cond.code yX5_greatestLean cX5_greatestLean 2 (some .int), Cond.methodLink RX7 210 yX5_maySet, Cond.methodLink RX7 213 yX5_mayDrop, Cond.methodLink RX7 216 yX5_mayLeave, Cond.methodLink RL 92 yX8_learnt, Cond.instanceMethod yX8_learnt, Cond.selects RX8 yX8_learnt yX8_learnt, Cond.code yX8_learnt cX8_learnt 7 (some .int), Cond.methodLink RX8 178 yX8_fitsLean, Cond.instanceMethod yX8_fitsLean, Cond.selects RX8 yX8_fitsLean yX8_fitsLean, Cond.code yX8_fitsLean cX8_fitsLean 5 (some .boolean), Cond.methodLink RX8 181 yX8_marksBy, Cond.instanceMethod yX8_marksBy, Cond.selects RX8 yX8_marksBy yX8_marksBy, Cond.code yX8_marksBy cX8_marksBy 6 (some .int), Cond.methodLink RL 93 yX7_forget, Cond.instanceMethod yX7_forget, Cond.selects RX7 yX7_forget yX7_forget, Cond.code yX7_forget cX7_forget 2 (some .int), Cond.methodLink RL 96 yX8_forget, Cond.instanceMethod yX8_forget, Cond.selects RX8 yX8_forget yX8_forget, Cond.code yX8_forget cX8_forget 2 (some .int)]
def wsL_law_r29 : List Cond := [Cond.methodLink RL 97 yX7_copy, Cond.instanceMethod yX7_copy, Cond.selects RX7 yX7_copy yX7_copy, Cond.code yX7_copy cX7_copy 2 (some .int), Cond.methodLink RX7 219 yX1_isFull, Cond.instanceMethod yX1_isFull, Cond.selects RX1 yX1_isFull yX1_isFull, Cond.code yX1_isFull cX1_isFull 1 (some .boolean), Cond.methodLink RX7 220 yX1_add, Cond.instanceMethod yX1_add, Cond.selects RX1 yX1_add yX1_add, Cond.code yX1_add cX1_add 2 none, Cond.methodLink RX1 19 yX1_isFull, Cond.methodLink RL 100 yX8_copy, Cond.instanceMethod yX8_copy, Cond.selects RX8 yX8_copy yX8_copy, Cond.code yX8_copy cX8_copy 2 (some .int), Cond.methodLink RL 101 yX7_came, Cond.instanceMethod yX7_came, Cond.selects RX7 yX7_came yX7_came, Cond.code yX7_came cX7_came 3 (some .int), Cond.methodLink RX7 227 yX1_originOf, Cond.instanceMethod yX1_originOf, Cond.selects RX1 yX1_originOf yX1_originOf]
def wsL_law_r30 : List Cond := [Cond.code yX1_originOf cX1_originOf 5 (some .int), Cond.methodLink RX1 23 yX1_canComeOf, Cond.instanceMethod yX1_canComeOf, Cond.selects RX1 yX1_canComeOf yX1_canComeOf, Cond.code yX1_canComeOf cX1_canComeOf 3 (some .boolean), Cond.methodLink RX1 27 yJ6_bitCount_0f7a4, Cond.methodLink RX7 230 yX1_depthOf, Cond.instanceMethod yX1_depthOf, Cond.selects RX1 yX1_depthOf yX1_depthOf, Cond.code yX1_depthOf cX1_depthOf 4 (some .int), Cond.methodLink RX1 33 yX1_originOf, Cond.methodLink RL 104 yX8_came, Cond.instanceMethod yX8_came, Cond.selects RX8 yX8_came yX8_came, Cond.code yX8_came cX8_came 5 (some .int), Cond.methodLink RX8 184 yX8_cameOf, Cond.instanceMethod yX8_cameOf, Cond.selects RX8 yX8_cameOf yX8_cameOf, Cond.code yX8_cameOf cX8_cameOf 5 (some .int), Cond.methodLink RL 105 yX7_firsts, Cond.instanceMethod yX7_firsts, Cond.selects RX7 yX7_firsts yX7_firsts, Cond.code yX7_firsts cX7_firsts 3 (some .int), Cond.methodLink RL 108 yX8_firsts]
def wsL_law_r31 : List Cond := [Cond.instanceMethod yX8_firsts, Cond.selects RX8 yX8_firsts yX8_firsts, Cond.code yX8_firsts cX8_firsts 3 (some .int), Cond.methodLink RL 109 yX7_burn, Cond.instanceMethod yX7_burn, Cond.selects RX7 yX7_burn yX7_burn, Cond.code yX7_burn cX7_burn 2 (some .int), Cond.methodLink RL 112 yX8_burn, Cond.instanceMethod yX8_burn, Cond.selects RX8 yX8_burn yX8_burn, Cond.code yX8_burn cX8_burn 2 (some .int), Cond.methodLink RL 113 yX7_rate, Cond.instanceMethod yX7_rate, Cond.selects RX7 yX7_rate yX7_rate, Cond.code yX7_rate cX7_rate 4 (some .int), Cond.constant RX7 233 (-1000000), Cond.methodLink RX7 234 yX7_asClerk, Cond.instanceMethod yX7_asClerk, Cond.selects RX7 yX7_asClerk yX7_asClerk, Cond.code yX7_asClerk cX7_asClerk 2 (some .int), Cond.methodLink RX7 238 yX7_asTwin, Cond.instanceMethod yX7_asTwin, Cond.selects RX7 yX7_asTwin yX7_asTwin, Cond.code yX7_asTwin cX7_asTwin 2 (some .int)]
def wsL_law_r32 : List Cond := [Cond.constantLong RX7 274 (10), Cond.methodLink RX7 241 yX7_asMocker, Cond.instanceMethod yX7_asMocker, Cond.selects RX7 yX7_asMocker yX7_asMocker, Cond.code yX7_asMocker cX7_asMocker 2 (some .int), Cond.constantLong RX7 276 (100), Cond.methodLink RX7 244 yX7_asConstant, Cond.instanceMethod yX7_asConstant, Cond.selects RX7 yX7_asConstant yX7_asConstant, Cond.code yX7_asConstant cX7_asConstant 2 (some .int), Cond.constantLong RX7 278 (1000), Cond.methodLink RX7 247 yX7_asLeft, Cond.instanceMethod yX7_asLeft, Cond.selects RX7 yX7_asLeft yX7_asLeft, Cond.code yX7_asLeft cX7_asLeft 3 (some .int), Cond.constantLong RX7 280 (10000), Cond.methodLink RX7 251 yX7_asHasty, Cond.instanceMethod yX7_asHasty, Cond.selects RX7 yX7_asHasty yX7_asHasty, Cond.code yX7_asHasty cX7_asHasty 2 (some .int), Cond.constantLong RX7 282 (100000), Cond.methodLink RL 116 yX8_rate, Cond.instanceMethod yX8_rate, Cond.selects RX8 yX8_rate yX8_rate]
def wsL_law_r33 : List Cond := [Cond.code yX8_rate cX8_rate 6 (some .int), Cond.constant RX8 187 (-1000000), Cond.fieldLink RX8 188 "NineHandsModel" "trace" "J", Cond.constantLong RX8 192 (11), Cond.constantLong RX8 194 (101), Cond.constantLong RX8 196 (1011), Cond.constantLong RX8 198 (10101), Cond.constantLong RX8 200 (100001), Cond.methodLink RL 117 yX7_keep, Cond.instanceMethod yX7_keep, Cond.selects RX7 yX7_keep yX7_keep, Cond.code yX7_keep cX7_keep 2 (some .int), Cond.methodLink RX7 254 yX2_become, Cond.instanceMethod yX2_become, Cond.selects RX2 yX2_become yX2_become, Cond.code yX2_become cX2_become 2 none, Cond.methodLink RX2 40 arraycopyName, Cond.methodLink RL 120 yX8_keep, Cond.instanceMethod yX8_keep, Cond.selects RX8 yX8_keep yX8_keep, Cond.code yX8_keep cX8_keep 3 (some .int), Cond.methodLink RL 121 yX7_back, Cond.instanceMethod yX7_back, Cond.selects RX7 yX7_back yX7_back]
def wsL_law_r34 : List Cond := [Cond.code yX7_back cX7_back 2 (some .int), Cond.methodLink RX7 258 yX2_isBlank, Cond.methodLink RL 124 yX8_back, Cond.instanceMethod yX8_back, Cond.selects RX8 yX8_back yX8_back, Cond.code yX8_back cX8_back 3 (some .int), Cond.methodLink RL 125 yX7_count, Cond.instanceMethod yX7_count, Cond.selects RX7 yX7_count yX7_count, Cond.code yX7_count cX7_count 2 (some .int), Cond.methodLink RL 128 yX8_count, Cond.instanceMethod yX8_count, Cond.selects RX8 yX8_count yX8_count, Cond.code yX8_count cX8_count 2 (some .int), Cond.methodLink RL 129 yX7_trace, Cond.instanceMethod yX7_trace, Cond.selects RX7 yX7_trace yX7_trace, Cond.code yX7_trace cX7_trace 1 (some .long), Cond.methodLink RL 133 yX8_trace, Cond.instanceMethod yX8_trace, Cond.selects RX8 yX8_trace yX8_trace, Cond.code yX8_trace cX8_trace 1 (some .long)]
def wsL_law : List Cond := (wsL_law_r1 ++ (wsL_law_r2 ++ (wsL_law_r3 ++ (wsL_law_r4 ++ (wsL_law_r5 ++ (wsL_law_r6 ++ (wsL_law_r7 ++ (wsL_law_r8 ++ (wsL_law_r9 ++ (wsL_law_r10 ++ (wsL_law_r11 ++ (wsL_law_r12 ++ (wsL_law_r13 ++ (wsL_law_r14 ++ (wsL_law_r15 ++ (wsL_law_r16 ++ (wsL_law_r17 ++ (wsL_law_r18 ++ (wsL_law_r19 ++ (wsL_law_r20 ++ (wsL_law_r21 ++ (wsL_law_r22 ++ (wsL_law_r23 ++ (wsL_law_r24 ++ (wsL_law_r25 ++ (wsL_law_r26 ++ (wsL_law_r27 ++ (wsL_law_r28 ++ (wsL_law_r29 ++ (wsL_law_r30 ++ (wsL_law_r31 ++ (wsL_law_r32 ++ (wsL_law_r33 ++ wsL_law_r34))))))))))))))))))))))))))))))))) ++ wsX70 ++ wsX80 ++ wsX60 ++ wsX20 ++ wsX50 ++ wsX10 ++ wsX40 ++ wsX30 ++ wsX00 ++ ([] : List Cond)
set_option maxRecDepth 20000 in
theorem zi_wsL_law_r1 : ∀ w ∈ wsL_law_r1, w ∈ lw_tbl := fun w h => (goodIn_p wsL_law_r1 [70, 73] (by decide +kernel) (by decide +kernel) w h).1
set_option maxRecDepth 20000 in
theorem zi_wsL_law_r2 : ∀ w ∈ wsL_law_r2, w ∈ lw_tbl := fun w h => (goodIn_p wsL_law_r2 [78] (by decide +kernel) (by decide +kernel) w h).1
set_option maxRecDepth 20000 in
theorem zi_wsL_law_r3 : ∀ w ∈ wsL_law_r3, w ∈ lw_tbl := fun w h => (goodIn_p wsL_law_r3 [102, 131, 154] (by decide +kernel) (by decide +kernel) w h).1
set_option maxRecDepth 20000 in
theorem zi_wsL_law_r4 : ∀ w ∈ wsL_law_r4, w ∈ lw_tbl := fun w h => (goodIn_p wsL_law_r4 [169, 188, 195, 221] (by decide +kernel) (by decide +kernel) w h).1
set_option maxRecDepth 20000 in
theorem zi_wsL_law_r5 : ∀ w ∈ wsL_law_r5, w ∈ lw_tbl := fun w h => (goodIn_p wsL_law_r5 [247, 251, 255, 727] (by decide +kernel) (by decide +kernel) w h).1
set_option maxRecDepth 20000 in
theorem zi_wsL_law_r6 : ∀ w ∈ wsL_law_r6, w ∈ lw_tbl := fun w h => (goodIn_p wsL_law_r6 [732, 287, 291, 807] (by decide +kernel) (by decide +kernel) w h).1
set_option maxRecDepth 20000 in
theorem zi_wsL_law_r7 : ∀ w ∈ wsL_law_r7, w ∈ lw_tbl := fun w h => (goodIn_p wsL_law_r7 [810, 295, 815, 299, 303, 308, 311] (by decide +kernel) (by decide +kernel) w h).1
set_option maxRecDepth 20000 in
theorem zi_wsL_law_r8 : ∀ w ∈ wsL_law_r8, w ∈ lw_tbl := fun w h => (goodIn_p wsL_law_r8 [315, 320, 324, 328, 334] (by decide +kernel) (by decide +kernel) w h).1
set_option maxRecDepth 20000 in
theorem zi_wsL_law_r9 : ∀ w ∈ wsL_law_r9, w ∈ lw_tbl := fun w h => (goodIn_p wsL_law_r9 [338, 341, 344, 349, 352, 355] (by decide +kernel) (by decide +kernel) w h).1
set_option maxRecDepth 20000 in
theorem zi_wsL_law_r10 : ∀ w ∈ wsL_law_r10, w ∈ lw_tbl := fun w h => (goodIn_p wsL_law_r10 [358, 362, 372, 376, 380] (by decide +kernel) (by decide +kernel) w h).1
set_option maxRecDepth 20000 in
theorem zi_wsL_law_r11 : ∀ w ∈ wsL_law_r11, w ∈ lw_tbl := fun w h => (goodIn_p wsL_law_r11 [384, 390, 394, 819] (by decide +kernel) (by decide +kernel) w h).1
set_option maxRecDepth 20000 in
theorem zi_wsL_law_r12 : ∀ w ∈ wsL_law_r12, w ∈ lw_tbl := fun w h => (goodIn_p wsL_law_r12 [823, 827, 830, 834, 837, 841] (by decide +kernel) (by decide +kernel) w h).1
set_option maxRecDepth 20000 in
theorem zi_wsL_law_r13 : ∀ w ∈ wsL_law_r13, w ∈ lw_tbl := fun w h => (goodIn_p wsL_law_r13 [845, 849, 853, 398, 402, 857] (by decide +kernel) (by decide +kernel) w h).1
set_option maxRecDepth 20000 in
theorem zi_wsL_law_r14 : ∀ w ∈ wsL_law_r14, w ∈ lw_tbl := fun w h => (goodIn_p wsL_law_r14 [861, 406, 865, 410, 413, 416, 420] (by decide +kernel) (by decide +kernel) w h).1
set_option maxRecDepth 20000 in
theorem zi_wsL_law_r15 : ∀ w ∈ wsL_law_r15, w ∈ lw_tbl := fun w h => (goodIn_p wsL_law_r15 [423, 426, 429, 433, 436, 869] (by decide +kernel) (by decide +kernel) w h).1
set_option maxRecDepth 20000 in
theorem zi_wsL_law_r16 : ∀ w ∈ wsL_law_r16, w ∈ lw_tbl := fun w h => (goodIn_p wsL_law_r16 [873, 877, 440, 445, 449, 453] (by decide +kernel) (by decide +kernel) w h).1
set_option maxRecDepth 20000 in
theorem zi_wsL_law_r17 : ∀ w ∈ wsL_law_r17, w ∈ lw_tbl := fun w h => (goodIn_p wsL_law_r17 [457, 881, 887, 891, 463] (by decide +kernel) (by decide +kernel) w h).1
set_option maxRecDepth 20000 in
theorem zi_wsL_law_r18 : ∀ w ∈ wsL_law_r18, w ∈ lw_tbl := fun w h => (goodIn_p wsL_law_r18 [895, 467, 899, 471, 903, 475] (by decide +kernel) (by decide +kernel) w h).1
set_option maxRecDepth 20000 in
theorem zi_wsL_law_r19 : ∀ w ∈ wsL_law_r19, w ∈ lw_tbl := fun w h => (goodIn_p wsL_law_r19 [478, 907, 482, 486, 490, 494] (by decide +kernel) (by decide +kernel) w h).1
set_option maxRecDepth 20000 in
theorem zi_wsL_law_r20 : ∀ w ∈ wsL_law_r20, w ∈ lw_tbl := fun w h => (goodIn_p wsL_law_r20 [498, 504, 911, 915, 919] (by decide +kernel) (by decide +kernel) w h).1
set_option maxRecDepth 20000 in
theorem zi_wsL_law_r21 : ∀ w ∈ wsL_law_r21, w ∈ lw_tbl := fun w h => (goodIn_p wsL_law_r21 [508, 511, 923, 926, 518, 522] (by decide +kernel) (by decide +kernel) w h).1
set_option maxRecDepth 20000 in
theorem zi_wsL_law_r22 : ∀ w ∈ wsL_law_r22, w ∈ lw_tbl := fun w h => (goodIn_p wsL_law_r22 [525, 930, 933, 529, 533, 537] (by decide +kernel) (by decide +kernel) w h).1
set_option maxRecDepth 20000 in
theorem zi_wsL_law_r23 : ∀ w ∈ wsL_law_r23, w ∈ lw_tbl := fun w h => (goodIn_p wsL_law_r23 [541, 545, 550, 555, 562] (by decide +kernel) (by decide +kernel) w h).1
set_option maxRecDepth 20000 in
theorem zi_wsL_law_r24 : ∀ w ∈ wsL_law_r24, w ∈ lw_tbl := fun w h => (goodIn_p wsL_law_r24 [566, 570, 937, 941, 945] (by decide +kernel) (by decide +kernel) w h).1
set_option maxRecDepth 20000 in
theorem zi_wsL_law_r25 : ∀ w ∈ wsL_law_r25, w ∈ lw_tbl := fun w h => (goodIn_p wsL_law_r25 [949, 953, 956, 960, 964, 574, 968] (by decide +kernel) (by decide +kernel) w h).1
set_option maxRecDepth 20000 in
theorem zi_wsL_law_r26 : ∀ w ∈ wsL_law_r26, w ∈ lw_tbl := fun w h => (goodIn_p wsL_law_r26 [578, 582, 586, 972, 591] (by decide +kernel) (by decide +kernel) w h).1
set_option maxRecDepth 20000 in
theorem zi_wsL_law_r27 : ∀ w ∈ wsL_law_r27, w ∈ lw_tbl := fun w h => (goodIn_p wsL_law_r27 [595, 599, 604, 608, 612, 616] (by decide +kernel) (by decide +kernel) w h).1
set_option maxRecDepth 20000 in
theorem zi_wsL_law_r28 : ∀ w ∈ wsL_law_r28, w ∈ lw_tbl := fun w h => (goodIn_p wsL_law_r28 [620, 976, 980, 984, 627, 988] (by decide +kernel) (by decide +kernel) w h).1
set_option maxRecDepth 20000 in
theorem zi_wsL_law_r29 : ∀ w ∈ wsL_law_r29, w ∈ lw_tbl := fun w h => (goodIn_p wsL_law_r29 [631, 635, 639, 992, 644] (by decide +kernel) (by decide +kernel) w h).1
set_option maxRecDepth 20000 in
theorem zi_wsL_law_r30 : ∀ w ∈ wsL_law_r30, w ∈ lw_tbl := fun w h => (goodIn_p wsL_law_r30 [648, 652, 657, 996, 1000, 662] (by decide +kernel) (by decide +kernel) w h).1
set_option maxRecDepth 20000 in
theorem zi_wsL_law_r31 : ∀ w ∈ wsL_law_r31, w ∈ lw_tbl := fun w h => (goodIn_p wsL_law_r31 [1004, 666, 1008, 670, 675, 679] (by decide +kernel) (by decide +kernel) w h).1
set_option maxRecDepth 20000 in
theorem zi_wsL_law_r32 : ∀ w ∈ wsL_law_r32, w ∈ lw_tbl := fun w h => (goodIn_p wsL_law_r32 [684, 689, 694, 699] (by decide +kernel) (by decide +kernel) w h).1
set_option maxRecDepth 20000 in
theorem zi_wsL_law_r33 : ∀ w ∈ wsL_law_r33, w ∈ lw_tbl := fun w h => (goodIn_p wsL_law_r33 [1012, 704, 708, 1022] (by decide +kernel) (by decide +kernel) w h).1
set_option maxRecDepth 20000 in
theorem zi_wsL_law_r34 : ∀ w ∈ wsL_law_r34, w ∈ lw_tbl := fun w h => (goodIn_p wsL_law_r34 [713, 1026, 718, 1030, 722, 1034] (by decide +kernel) (by decide +kernel) w h).1
set_option maxRecDepth 20000 in
theorem zi_wsX70 : ∀ w ∈ wsX70, w ∈ lw_tbl := fun w h => (goodIn_p wsX70 [] (by decide +kernel) (by decide +kernel) w h).1
set_option maxRecDepth 20000 in
theorem zi_wsX80 : ∀ w ∈ wsX80, w ∈ lw_tbl := fun w h => (goodIn_p wsX80 [] (by decide +kernel) (by decide +kernel) w h).1
set_option maxRecDepth 20000 in
theorem zi_wsX60 : ∀ w ∈ wsX60, w ∈ lw_tbl := fun w h => (goodIn_p wsX60 [] (by decide +kernel) (by decide +kernel) w h).1
set_option maxRecDepth 20000 in
theorem zi_wsX20 : ∀ w ∈ wsX20, w ∈ lw_tbl := fun w h => (goodIn_p wsX20 [] (by decide +kernel) (by decide +kernel) w h).1
set_option maxRecDepth 20000 in
theorem zi_wsX50 : ∀ w ∈ wsX50, w ∈ lw_tbl := fun w h => (goodIn_p wsX50 [] (by decide +kernel) (by decide +kernel) w h).1
set_option maxRecDepth 20000 in
theorem zi_wsX10 : ∀ w ∈ wsX10, w ∈ lw_tbl := fun w h => (goodIn_p wsX10 [] (by decide +kernel) (by decide +kernel) w h).1
set_option maxRecDepth 20000 in
theorem zi_wsX40 : ∀ w ∈ wsX40, w ∈ lw_tbl := fun w h => (goodIn_p wsX40 [] (by decide +kernel) (by decide +kernel) w h).1
set_option maxRecDepth 20000 in
theorem zi_wsX30 : ∀ w ∈ wsX30, w ∈ lw_tbl := fun w h => (goodIn_p wsX30 [] (by decide +kernel) (by decide +kernel) w h).1
set_option maxRecDepth 20000 in
theorem zi_wsX00 : ∀ w ∈ wsX00, w ∈ lw_tbl := fun w h => (goodIn_p wsX00 [] (by decide +kernel) (by decide +kernel) w h).1
theorem wsL_law_in : ∀ w ∈ wsL_law, w ∈ lw_tbl := (List.forall_mem_append.mpr ⟨(List.forall_mem_append.mpr ⟨(List.forall_mem_append.mpr ⟨(List.forall_mem_append.mpr ⟨(List.forall_mem_append.mpr ⟨(List.forall_mem_append.mpr ⟨(List.forall_mem_append.mpr ⟨(List.forall_mem_append.mpr ⟨(List.forall_mem_append.mpr ⟨(List.forall_mem_append.mpr ⟨(List.forall_mem_append.mpr ⟨zi_wsL_law_r1, (List.forall_mem_append.mpr ⟨zi_wsL_law_r2, (List.forall_mem_append.mpr ⟨zi_wsL_law_r3, (List.forall_mem_append.mpr ⟨zi_wsL_law_r4, (List.forall_mem_append.mpr ⟨zi_wsL_law_r5, (List.forall_mem_append.mpr ⟨zi_wsL_law_r6, (List.forall_mem_append.mpr ⟨zi_wsL_law_r7, (List.forall_mem_append.mpr ⟨zi_wsL_law_r8, (List.forall_mem_append.mpr ⟨zi_wsL_law_r9, (List.forall_mem_append.mpr ⟨zi_wsL_law_r10, (List.forall_mem_append.mpr ⟨zi_wsL_law_r11, (List.forall_mem_append.mpr ⟨zi_wsL_law_r12, (List.forall_mem_append.mpr ⟨zi_wsL_law_r13, (List.forall_mem_append.mpr ⟨zi_wsL_law_r14, (List.forall_mem_append.mpr ⟨zi_wsL_law_r15, (List.forall_mem_append.mpr ⟨zi_wsL_law_r16, (List.forall_mem_append.mpr ⟨zi_wsL_law_r17, (List.forall_mem_append.mpr ⟨zi_wsL_law_r18, (List.forall_mem_append.mpr ⟨zi_wsL_law_r19, (List.forall_mem_append.mpr ⟨zi_wsL_law_r20, (List.forall_mem_append.mpr ⟨zi_wsL_law_r21, (List.forall_mem_append.mpr ⟨zi_wsL_law_r22, (List.forall_mem_append.mpr ⟨zi_wsL_law_r23, (List.forall_mem_append.mpr ⟨zi_wsL_law_r24, (List.forall_mem_append.mpr ⟨zi_wsL_law_r25, (List.forall_mem_append.mpr ⟨zi_wsL_law_r26, (List.forall_mem_append.mpr ⟨zi_wsL_law_r27, (List.forall_mem_append.mpr ⟨zi_wsL_law_r28, (List.forall_mem_append.mpr ⟨zi_wsL_law_r29, (List.forall_mem_append.mpr ⟨zi_wsL_law_r30, (List.forall_mem_append.mpr ⟨zi_wsL_law_r31, (List.forall_mem_append.mpr ⟨zi_wsL_law_r32, (List.forall_mem_append.mpr ⟨zi_wsL_law_r33, zi_wsL_law_r34⟩)⟩)⟩)⟩)⟩)⟩)⟩)⟩)⟩)⟩)⟩)⟩)⟩)⟩)⟩)⟩)⟩)⟩)⟩)⟩)⟩)⟩)⟩)⟩)⟩)⟩)⟩)⟩)⟩)⟩)⟩)⟩)⟩), zi_wsX70⟩), zi_wsX80⟩), zi_wsX60⟩), zi_wsX20⟩), zi_wsX50⟩), zi_wsX10⟩), zi_wsX40⟩), zi_wsX30⟩), zi_wsX00⟩), fun _ h => absurd h List.not_mem_nil⟩)
theorem inlX0 : ∀ w ∈ wsX00, w ∈ wsL_law := fun _ h => List.mem_append_left _ (List.mem_append_right _ h)
theorem inX0 : ∀ w ∈ wsX00, w ∈ lw_tbl := fun w h => wsL_law_in w (inlX0 w h)
theorem inlX1 : ∀ w ∈ wsX10, w ∈ wsL_law := fun _ h => List.mem_append_left _ (List.mem_append_left _ (List.mem_append_left _ (List.mem_append_left _ (List.mem_append_right _ h))))
theorem inX1 : ∀ w ∈ wsX10, w ∈ lw_tbl := fun w h => wsL_law_in w (inlX1 w h)
theorem inlX2 : ∀ w ∈ wsX20, w ∈ wsL_law := fun _ h => List.mem_append_left _ (List.mem_append_left _ (List.mem_append_left _ (List.mem_append_left _ (List.mem_append_left _ (List.mem_append_left _ (List.mem_append_right _ h))))))
theorem inX2 : ∀ w ∈ wsX20, w ∈ lw_tbl := fun w h => wsL_law_in w (inlX2 w h)
theorem inlX3 : ∀ w ∈ wsX30, w ∈ wsL_law := fun _ h => List.mem_append_left _ (List.mem_append_left _ (List.mem_append_right _ h))
theorem inX3 : ∀ w ∈ wsX30, w ∈ lw_tbl := fun w h => wsL_law_in w (inlX3 w h)
theorem inlX4 : ∀ w ∈ wsX40, w ∈ wsL_law := fun _ h => List.mem_append_left _ (List.mem_append_left _ (List.mem_append_left _ (List.mem_append_right _ h)))
theorem inX4 : ∀ w ∈ wsX40, w ∈ lw_tbl := fun w h => wsL_law_in w (inlX4 w h)
theorem inlX5 : ∀ w ∈ wsX50, w ∈ wsL_law := fun _ h => List.mem_append_left _ (List.mem_append_left _ (List.mem_append_left _ (List.mem_append_left _ (List.mem_append_left _ (List.mem_append_right _ h)))))
theorem inX5 : ∀ w ∈ wsX50, w ∈ lw_tbl := fun w h => wsL_law_in w (inlX5 w h)
theorem inlX6 : ∀ w ∈ wsX60, w ∈ wsL_law := fun _ h => List.mem_append_left _ (List.mem_append_left _ (List.mem_append_left _ (List.mem_append_left _ (List.mem_append_left _ (List.mem_append_left _ (List.mem_append_left _ (List.mem_append_right _ h)))))))
theorem inX6 : ∀ w ∈ wsX60, w ∈ lw_tbl := fun w h => wsL_law_in w (inlX6 w h)
theorem inlX7 : ∀ w ∈ wsX70, w ∈ wsL_law := fun _ h => List.mem_append_left _ (List.mem_append_left _ (List.mem_append_left _ (List.mem_append_left _ (List.mem_append_left _ (List.mem_append_left _ (List.mem_append_left _ (List.mem_append_left _ (List.mem_append_left _ (List.mem_append_right _ h)))))))))
theorem inX7 : ∀ w ∈ wsX70, w ∈ lw_tbl := fun w h => wsL_law_in w (inlX7 w h)
theorem inlX8 : ∀ w ∈ wsX80, w ∈ wsL_law := fun _ h => List.mem_append_left _ (List.mem_append_left _ (List.mem_append_left _ (List.mem_append_left _ (List.mem_append_left _ (List.mem_append_left _ (List.mem_append_left _ (List.mem_append_left _ (List.mem_append_right _ h))))))))
theorem inX8 : ∀ w ∈ wsX80, w ∈ lw_tbl := fun w h => wsL_law_in w (inlX8 w h)
theorem inJ6 : ∀ w ∈ wsJ60, w ∈ lw_tbl := by decide +kernel
theorem inJ9 : ∀ w ∈ wsJ90, w ∈ lw_tbl := by decide +kernel
theorem inJ0 : ∀ w ∈ wsJ00, w ∈ lw_tbl := by decide +kernel
theorem inJ1 : ∀ w ∈ wsJ10, w ∈ lw_tbl := by decide +kernel
theorem inJ2 : ∀ w ∈ wsJ20, w ∈ lw_tbl := by decide +kernel
theorem inJ10 : ∀ w ∈ wsJ100, w ∈ lw_tbl := by decide +kernel
theorem inJ3 : ∀ w ∈ wsJ30, w ∈ lw_tbl := by decide +kernel
abbrev vwCl : List vw_C := [(RX0, TX0, 4), (RX1, TX1, 2), (RX2, TX2, 5), (RX3, TX3, 5), (RX4, TX4, 4), (RX5, TX5, 5), (RX6, TX6, 5), (RX7, TX7, 9), (RX8, TX8, 23)]
end
section
theorem dX0_init_0 : decode cX0_init 0 = .ok (.aload_n 0, 1) := by decide +kernel
theorem dX0_init_1 : decode cX0_init 1 = .ok (.invokespecial 3, 3) := by decide +kernel
theorem dX0_init_4 : decode cX0_init 4 = .ok (.return_, 1) := by decide +kernel
set_option maxRecDepth 20000 in
theorem ggX0_toneBehind_X7_leant : GoodIn wsX0_toneBehind wsX7_leant := goodIn_r _ [4, 5, 6, 7, 8, 9, 10, 11] (by decide +kernel) (by decide +kernel)
set_option maxRecDepth 20000 in
theorem gX0_toneBehind_X7_leant_n15 : GoodIn wsX0_toneBehind (wsX7_leant) := ggX0_toneBehind_X7_leant
theorem dX0_toneBehind_0 : decode cX0_toneBehind 0 = .ok (.iload_n 1, 1) := by decide +kernel
theorem dX0_toneBehind_1 : decode cX0_toneBehind 1 = .ok (.aload_n 0, 1) := by decide +kernel
theorem dX0_toneBehind_2 : decode cX0_toneBehind 2 = .ok (.getfield 9, 3) := by decide +kernel
theorem dX0_toneBehind_5 : decode cX0_toneBehind 5 = .ok (.invokestatic 15, 3) := by decide +kernel
theorem dX0_toneBehind_8 : decode cX0_toneBehind 8 = .ok (.ireturn, 1) := by decide +kernel
theorem dX0_marksBehind_0 : decode cX0_marksBehind 0 = .ok (.iload_n 1, 1) := by decide +kernel
theorem dX0_marksBehind_1 : decode cX0_marksBehind 1 = .ok (.aload_n 0, 1) := by decide +kernel
theorem dX0_marksBehind_2 : decode cX0_marksBehind 2 = .ok (.getfield 19, 3) := by decide +kernel
theorem dX0_marksBehind_5 : decode cX0_marksBehind 5 = .ok (.ior, 1) := by decide +kernel
theorem dX0_marksBehind_6 : decode cX0_marksBehind 6 = .ok (.aload_n 0, 1) := by decide +kernel
theorem dX0_marksBehind_7 : decode cX0_marksBehind 7 = .ok (.getfield 22, 3) := by decide +kernel
theorem dX0_marksBehind_10 : decode cX0_marksBehind 10 = .ok (.iconst (-1), 1) := by decide +kernel
theorem dX0_marksBehind_11 : decode cX0_marksBehind 11 = .ok (.ixor, 1) := by decide +kernel
theorem dX0_marksBehind_12 : decode cX0_marksBehind 12 = .ok (.iand, 1) := by decide +kernel
theorem dX0_marksBehind_13 : decode cX0_marksBehind 13 = .ok (.ireturn, 1) := by decide +kernel
set_option maxRecDepth 20000 in
theorem ggX0_waysTo_X0_toneBehind : GoodIn wsX0_waysTo wsX0_toneBehind := goodIn_r _ [6, 7, 8, 9, 10, 11, 12, 13, 14, 15, 16, 17, 24, 25, 26, 27] (by decide +kernel) (by decide +kernel)
set_option maxRecDepth 20000 in
theorem gX0_waysTo_X0_toneBehind : GoodIn wsX0_waysTo (wsV RX0 25 RX0 yX0_toneBehind wsX0_toneBehind) := goodIn_app (goodIn_of _ (by decide +kernel)) ggX0_waysTo_X0_toneBehind
set_option maxRecDepth 20000 in
theorem ggX0_waysTo_X0_marksBehind : GoodIn wsX0_waysTo wsX0_marksBehind := goodIn_r _ [21, 22, 23, 24, 25, 26, 27] (by decide +kernel) (by decide +kernel)
set_option maxRecDepth 20000 in
theorem gX0_waysTo_X0_marksBehind : GoodIn wsX0_waysTo (wsV RX0 29 RX0 yX0_marksBehind wsX0_marksBehind) := goodIn_app (goodIn_of _ (by decide +kernel)) ggX0_waysTo_X0_marksBehind
theorem dX0_waysTo_0 : decode cX0_waysTo 0 = .ok (.iconst 0, 1) := by decide +kernel
theorem dX0_waysTo_1 : decode cX0_waysTo 1 = .ok (.istore 5, 2) := by decide +kernel
theorem dX0_waysTo_3 : decode cX0_waysTo 3 = .ok (.aload_n 0, 1) := by decide +kernel
theorem dX0_waysTo_4 : decode cX0_waysTo 4 = .ok (.iload_n 1, 1) := by decide +kernel
theorem dX0_waysTo_5 : decode cX0_waysTo 5 = .ok (.invokevirtual 25, 3) := by decide +kernel
theorem dX0_waysTo_8 : decode cX0_waysTo 8 = .ok (.iload_n 3, 1) := by decide +kernel
theorem dX0_waysTo_9 : decode cX0_waysTo 9 = .ok (.if_icmp .ne 22, 3) := by decide +kernel
theorem dX0_waysTo_12 : decode cX0_waysTo 12 = .ok (.aload_n 0, 1) := by decide +kernel
theorem dX0_waysTo_13 : decode cX0_waysTo 13 = .ok (.iload_n 2, 1) := by decide +kernel
theorem dX0_waysTo_14 : decode cX0_waysTo 14 = .ok (.invokevirtual 29, 3) := by decide +kernel
theorem dX0_waysTo_17 : decode cX0_waysTo 17 = .ok (.iload 4, 2) := by decide +kernel
theorem dX0_waysTo_19 : decode cX0_waysTo 19 = .ok (.if_icmp .ne 12, 3) := by decide +kernel
theorem dX0_waysTo_22 : decode cX0_waysTo 22 = .ok (.iload 5, 2) := by decide +kernel
theorem dX0_waysTo_24 : decode cX0_waysTo 24 = .ok (.aload_n 0, 1) := by decide +kernel
theorem dX0_waysTo_25 : decode cX0_waysTo 25 = .ok (.getfield 32, 3) := by decide +kernel
theorem dX0_waysTo_28 : decode cX0_waysTo 28 = .ok (.iadd, 1) := by decide +kernel
theorem dX0_waysTo_29 : decode cX0_waysTo 29 = .ok (.istore 5, 2) := by decide +kernel
theorem dX0_waysTo_31 : decode cX0_waysTo 31 = .ok (.iload_n 1, 1) := by decide +kernel
theorem dX0_waysTo_32 : decode cX0_waysTo 32 = .ok (.iload_n 3, 1) := by decide +kernel
theorem dX0_waysTo_33 : decode cX0_waysTo 33 = .ok (.if_icmp .ne 21, 3) := by decide +kernel
theorem dX0_waysTo_36 : decode cX0_waysTo 36 = .ok (.iload_n 2, 1) := by decide +kernel
theorem dX0_waysTo_37 : decode cX0_waysTo 37 = .ok (.iload 4, 2) := by decide +kernel
theorem dX0_waysTo_39 : decode cX0_waysTo 39 = .ok (.if_icmp .ne 15, 3) := by decide +kernel
theorem dX0_waysTo_42 : decode cX0_waysTo 42 = .ok (.iload 5, 2) := by decide +kernel
theorem dX0_waysTo_44 : decode cX0_waysTo 44 = .ok (.bipush 10, 2) := by decide +kernel
theorem dX0_waysTo_46 : decode cX0_waysTo 46 = .ok (.aload_n 0, 1) := by decide +kernel
theorem dX0_waysTo_47 : decode cX0_waysTo 47 = .ok (.getfield 32, 3) := by decide +kernel
theorem dX0_waysTo_50 : decode cX0_waysTo 50 = .ok (.isub, 1) := by decide +kernel
theorem dX0_waysTo_51 : decode cX0_waysTo 51 = .ok (.iadd, 1) := by decide +kernel
theorem dX0_waysTo_52 : decode cX0_waysTo 52 = .ok (.istore 5, 2) := by decide +kernel
theorem dX0_waysTo_54 : decode cX0_waysTo 54 = .ok (.iload 5, 2) := by decide +kernel
theorem dX0_waysTo_56 : decode cX0_waysTo 56 = .ok (.ireturn, 1) := by decide +kernel
theorem dX1_init_0 : decode cX1_init 0 = .ok (.aload_n 0, 1) := by decide +kernel
theorem dX1_init_1 : decode cX1_init 1 = .ok (.invokespecial 3, 3) := by decide +kernel
theorem dX1_init_4 : decode cX1_init 4 = .ok (.aload_n 0, 1) := by decide +kernel
theorem dX1_init_5 : decode cX1_init 5 = .ok (.bipush 8, 2) := by decide +kernel
theorem dX1_init_7 : decode cX1_init 7 = .ok (.newarray .int, 2) := by decide +kernel
theorem dX1_init_9 : decode cX1_init 9 = .ok (.putfield 9, 3) := by decide +kernel
theorem dX1_init_12 : decode cX1_init 12 = .ok (.aload_n 0, 1) := by decide +kernel
theorem dX1_init_13 : decode cX1_init 13 = .ok (.iconst 0, 1) := by decide +kernel
theorem dX1_init_14 : decode cX1_init 14 = .ok (.putfield 15, 3) := by decide +kernel
theorem dX1_init_17 : decode cX1_init 17 = .ok (.return_, 1) := by decide +kernel
theorem dX1_isFull_0 : decode cX1_isFull 0 = .ok (.aload_n 0, 1) := by decide +kernel
theorem dX1_isFull_1 : decode cX1_isFull 1 = .ok (.getfield 15, 3) := by decide +kernel
theorem dX1_isFull_4 : decode cX1_isFull 4 = .ok (.bipush 8, 2) := by decide +kernel
theorem dX1_isFull_6 : decode cX1_isFull 6 = .ok (.if_icmp .lt 7, 3) := by decide +kernel
theorem dX1_isFull_9 : decode cX1_isFull 9 = .ok (.iconst 1, 1) := by decide +kernel
theorem dX1_isFull_10 : decode cX1_isFull 10 = .ok (.goto 4, 3) := by decide +kernel
theorem dX1_isFull_13 : decode cX1_isFull 13 = .ok (.iconst 0, 1) := by decide +kernel
theorem dX1_isFull_14 : decode cX1_isFull 14 = .ok (.ireturn, 1) := by decide +kernel
set_option maxRecDepth 20000 in
theorem ggX1_add_X1_isFull : GoodIn wsX1_add wsX1_isFull := goodIn_r _ [7, 2, 8, 9] (by decide +kernel) (by decide +kernel)
set_option maxRecDepth 20000 in
theorem gX1_add_X1_isFull : GoodIn wsX1_add (wsV RX1 19 RX1 yX1_isFull wsX1_isFull) := goodIn_app (goodIn_of _ (by decide +kernel)) ggX1_add_X1_isFull
theorem dX1_add_0 : decode cX1_add 0 = .ok (.aload_n 0, 1) := by decide +kernel
theorem dX1_add_1 : decode cX1_add 1 = .ok (.invokevirtual 19, 3) := by decide +kernel
theorem dX1_add_4 : decode cX1_add 4 = .ok (.ifCond .eq 4, 3) := by decide +kernel
theorem dX1_add_7 : decode cX1_add 7 = .ok (.return_, 1) := by decide +kernel
theorem dX1_add_8 : decode cX1_add 8 = .ok (.aload_n 0, 1) := by decide +kernel
theorem dX1_add_9 : decode cX1_add 9 = .ok (.getfield 9, 3) := by decide +kernel
theorem dX1_add_12 : decode cX1_add 12 = .ok (.aload_n 0, 1) := by decide +kernel
theorem dX1_add_13 : decode cX1_add 13 = .ok (.getfield 15, 3) := by decide +kernel
theorem dX1_add_16 : decode cX1_add 16 = .ok (.iload_n 1, 1) := by decide +kernel
theorem dX1_add_17 : decode cX1_add 17 = .ok (.iastore, 1) := by decide +kernel
theorem dX1_add_18 : decode cX1_add 18 = .ok (.aload_n 0, 1) := by decide +kernel
theorem dX1_add_19 : decode cX1_add 19 = .ok (.dup, 1) := by decide +kernel
theorem dX1_add_20 : decode cX1_add 20 = .ok (.getfield 15, 3) := by decide +kernel
theorem dX1_add_23 : decode cX1_add 23 = .ok (.iconst 1, 1) := by decide +kernel
theorem dX1_add_24 : decode cX1_add 24 = .ok (.iadd, 1) := by decide +kernel
theorem dX1_add_25 : decode cX1_add 25 = .ok (.putfield 15, 3) := by decide +kernel
theorem dX1_add_28 : decode cX1_add 28 = .ok (.return_, 1) := by decide +kernel
set_option maxRecDepth 20000 in
theorem ggX1_originOf_X1_canComeOf : GoodIn wsX1_originOf wsX1_canComeOf := goodIn_r _ [7, 2, 15, 16] (by decide +kernel) (by decide +kernel)
set_option maxRecDepth 20000 in
theorem gX1_originOf_X1_canComeOf : GoodIn wsX1_originOf (wsV RX1 23 RX1 yX1_canComeOf wsX1_canComeOf) := goodIn_app (goodIn_of _ (by decide +kernel)) ggX1_originOf_X1_canComeOf
set_option maxRecDepth 20000 in
theorem ggX1_originOf_J6_bitCount_0f7a4 : GoodIn wsX1_originOf wsJ6_bitCount_0f7a4 := goodIn_r _ [11, 12, 13, 14] (by decide +kernel) (by decide +kernel)
set_option maxRecDepth 20000 in
theorem gX1_originOf_J6_bitCount_0f7a4 : GoodIn wsX1_originOf (va_wsS RX1 27 yJ6_bitCount_0f7a4 wsJ6_bitCount_0f7a4) := goodIn_app (goodIn_of _ (by decide +kernel)) ggX1_originOf_J6_bitCount_0f7a4
theorem dX1_originOf_0 : decode cX1_originOf 0 = .ok (.bipush (-9), 2) := by decide +kernel
theorem dX1_originOf_2 : decode cX1_originOf 2 = .ok (.istore_n 2, 1) := by decide +kernel
theorem dX1_originOf_3 : decode cX1_originOf 3 = .ok (.iconst (-1), 1) := by decide +kernel
theorem dX1_originOf_4 : decode cX1_originOf 4 = .ok (.istore_n 3, 1) := by decide +kernel
theorem dX1_originOf_5 : decode cX1_originOf 5 = .ok (.iconst 0, 1) := by decide +kernel
theorem dX1_originOf_6 : decode cX1_originOf 6 = .ok (.istore 4, 2) := by decide +kernel
theorem dX1_originOf_8 : decode cX1_originOf 8 = .ok (.iload 4, 2) := by decide +kernel
theorem dX1_originOf_10 : decode cX1_originOf 10 = .ok (.aload_n 0, 1) := by decide +kernel
theorem dX1_originOf_11 : decode cX1_originOf 11 = .ok (.getfield 15, 3) := by decide +kernel
theorem dX1_originOf_14 : decode cX1_originOf 14 = .ok (.if_icmp .ge 47, 3) := by decide +kernel
theorem dX1_originOf_17 : decode cX1_originOf 17 = .ok (.aload_n 0, 1) := by decide +kernel
theorem dX1_originOf_18 : decode cX1_originOf 18 = .ok (.iload_n 1, 1) := by decide +kernel
theorem dX1_originOf_19 : decode cX1_originOf 19 = .ok (.iload 4, 2) := by decide +kernel
theorem dX1_originOf_21 : decode cX1_originOf 21 = .ok (.invokevirtual 23, 3) := by decide +kernel
theorem dX1_originOf_24 : decode cX1_originOf 24 = .ok (.ifCond .eq 31, 3) := by decide +kernel
theorem dX1_originOf_27 : decode cX1_originOf 27 = .ok (.aload_n 0, 1) := by decide +kernel
theorem dX1_originOf_28 : decode cX1_originOf 28 = .ok (.getfield 9, 3) := by decide +kernel
theorem dX1_originOf_31 : decode cX1_originOf 31 = .ok (.iload 4, 2) := by decide +kernel
theorem dX1_originOf_33 : decode cX1_originOf 33 = .ok (.iaload, 1) := by decide +kernel
theorem dX1_originOf_34 : decode cX1_originOf 34 = .ok (.invokestatic 27, 3) := by decide +kernel
theorem dX1_originOf_37 : decode cX1_originOf 37 = .ok (.iload_n 3, 1) := by decide +kernel
theorem dX1_originOf_38 : decode cX1_originOf 38 = .ok (.if_icmp .le 17, 3) := by decide +kernel
theorem dX1_originOf_41 : decode cX1_originOf 41 = .ok (.aload_n 0, 1) := by decide +kernel
theorem dX1_originOf_42 : decode cX1_originOf 42 = .ok (.getfield 9, 3) := by decide +kernel
theorem dX1_originOf_45 : decode cX1_originOf 45 = .ok (.iload 4, 2) := by decide +kernel
theorem dX1_originOf_47 : decode cX1_originOf 47 = .ok (.iaload, 1) := by decide +kernel
theorem dX1_originOf_48 : decode cX1_originOf 48 = .ok (.invokestatic 27, 3) := by decide +kernel
theorem dX1_originOf_51 : decode cX1_originOf 51 = .ok (.istore_n 3, 1) := by decide +kernel
theorem dX1_originOf_52 : decode cX1_originOf 52 = .ok (.iload 4, 2) := by decide +kernel
theorem dX1_originOf_54 : decode cX1_originOf 54 = .ok (.istore_n 2, 1) := by decide +kernel
theorem dX1_originOf_55 : decode cX1_originOf 55 = .ok (.iinc 4 1, 3) := by decide +kernel
theorem dX1_originOf_58 : decode cX1_originOf 58 = .ok (.goto (-50), 3) := by decide +kernel
theorem dX1_originOf_61 : decode cX1_originOf 61 = .ok (.iload_n 2, 1) := by decide +kernel
theorem dX1_originOf_62 : decode cX1_originOf 62 = .ok (.ireturn, 1) := by decide +kernel
set_option maxRecDepth 20000 in
theorem ggX1_depthOf_X1_originOf : GoodIn wsX1_depthOf wsX1_originOf := goodIn_r _ [5, 6, 7, 8, 9, 10, 4, 11, 12, 13, 14, 15, 16, 17, 18, 19, 20] (by decide +kernel) (by decide +kernel)
set_option maxRecDepth 20000 in
theorem gX1_depthOf_X1_originOf : GoodIn wsX1_depthOf (wsV RX1 33 RX1 yX1_originOf wsX1_originOf) := goodIn_app (goodIn_of _ (by decide +kernel)) ggX1_depthOf_X1_originOf
theorem dX1_depthOf_0 : decode cX1_depthOf 0 = .ok (.iconst 0, 1) := by decide +kernel
theorem dX1_depthOf_1 : decode cX1_depthOf 1 = .ok (.istore_n 2, 1) := by decide +kernel
theorem dX1_depthOf_2 : decode cX1_depthOf 2 = .ok (.aload_n 0, 1) := by decide +kernel
theorem dX1_depthOf_3 : decode cX1_depthOf 3 = .ok (.iload_n 1, 1) := by decide +kernel
theorem dX1_depthOf_4 : decode cX1_depthOf 4 = .ok (.invokevirtual 33, 3) := by decide +kernel
theorem dX1_depthOf_7 : decode cX1_depthOf 7 = .ok (.istore_n 3, 1) := by decide +kernel
theorem dX1_depthOf_8 : decode cX1_depthOf 8 = .ok (.iload_n 3, 1) := by decide +kernel
theorem dX1_depthOf_9 : decode cX1_depthOf 9 = .ok (.bipush (-9), 2) := by decide +kernel
theorem dX1_depthOf_11 : decode cX1_depthOf 11 = .ok (.if_icmp .eq 21, 3) := by decide +kernel
theorem dX1_depthOf_14 : decode cX1_depthOf 14 = .ok (.iload_n 2, 1) := by decide +kernel
theorem dX1_depthOf_15 : decode cX1_depthOf 15 = .ok (.bipush 8, 2) := by decide +kernel
theorem dX1_depthOf_17 : decode cX1_depthOf 17 = .ok (.if_icmp .ge 15, 3) := by decide +kernel
theorem dX1_depthOf_20 : decode cX1_depthOf 20 = .ok (.iinc 2 1, 3) := by decide +kernel
theorem dX1_depthOf_23 : decode cX1_depthOf 23 = .ok (.aload_n 0, 1) := by decide +kernel
theorem dX1_depthOf_24 : decode cX1_depthOf 24 = .ok (.iload_n 3, 1) := by decide +kernel
theorem dX1_depthOf_25 : decode cX1_depthOf 25 = .ok (.invokevirtual 33, 3) := by decide +kernel
theorem dX1_depthOf_28 : decode cX1_depthOf 28 = .ok (.istore_n 3, 1) := by decide +kernel
theorem dX1_depthOf_29 : decode cX1_depthOf 29 = .ok (.goto (-21), 3) := by decide +kernel
theorem dX1_depthOf_32 : decode cX1_depthOf 32 = .ok (.iload_n 2, 1) := by decide +kernel
theorem dX1_depthOf_33 : decode cX1_depthOf 33 = .ok (.ireturn, 1) := by decide +kernel
theorem dX1_canComeOf_0 : decode cX1_canComeOf 0 = .ok (.iload_n 2, 1) := by decide +kernel
theorem dX1_canComeOf_1 : decode cX1_canComeOf 1 = .ok (.iload_n 1, 1) := by decide +kernel
theorem dX1_canComeOf_2 : decode cX1_canComeOf 2 = .ok (.if_icmp .eq 21, 3) := by decide +kernel
theorem dX1_canComeOf_5 : decode cX1_canComeOf 5 = .ok (.aload_n 0, 1) := by decide +kernel
theorem dX1_canComeOf_6 : decode cX1_canComeOf 6 = .ok (.getfield 9, 3) := by decide +kernel
theorem dX1_canComeOf_9 : decode cX1_canComeOf 9 = .ok (.iload_n 2, 1) := by decide +kernel
theorem dX1_canComeOf_10 : decode cX1_canComeOf 10 = .ok (.iaload, 1) := by decide +kernel
theorem dX1_canComeOf_11 : decode cX1_canComeOf 11 = .ok (.aload_n 0, 1) := by decide +kernel
theorem dX1_canComeOf_12 : decode cX1_canComeOf 12 = .ok (.getfield 9, 3) := by decide +kernel
theorem dX1_canComeOf_15 : decode cX1_canComeOf 15 = .ok (.iload_n 1, 1) := by decide +kernel
theorem dX1_canComeOf_16 : decode cX1_canComeOf 16 = .ok (.iaload, 1) := by decide +kernel
theorem dX1_canComeOf_17 : decode cX1_canComeOf 17 = .ok (.iconst (-1), 1) := by decide +kernel
theorem dX1_canComeOf_18 : decode cX1_canComeOf 18 = .ok (.ixor, 1) := by decide +kernel
theorem dX1_canComeOf_19 : decode cX1_canComeOf 19 = .ok (.iand, 1) := by decide +kernel
theorem dX1_canComeOf_20 : decode cX1_canComeOf 20 = .ok (.ifCond .eq 5, 3) := by decide +kernel
theorem dX1_canComeOf_23 : decode cX1_canComeOf 23 = .ok (.iconst 0, 1) := by decide +kernel
theorem dX1_canComeOf_24 : decode cX1_canComeOf 24 = .ok (.ireturn, 1) := by decide +kernel
theorem dX1_canComeOf_25 : decode cX1_canComeOf 25 = .ok (.aload_n 0, 1) := by decide +kernel
theorem dX1_canComeOf_26 : decode cX1_canComeOf 26 = .ok (.getfield 9, 3) := by decide +kernel
theorem dX1_canComeOf_29 : decode cX1_canComeOf 29 = .ok (.iload_n 2, 1) := by decide +kernel
theorem dX1_canComeOf_30 : decode cX1_canComeOf 30 = .ok (.iaload, 1) := by decide +kernel
theorem dX1_canComeOf_31 : decode cX1_canComeOf 31 = .ok (.aload_n 0, 1) := by decide +kernel
theorem dX1_canComeOf_32 : decode cX1_canComeOf 32 = .ok (.getfield 9, 3) := by decide +kernel
theorem dX1_canComeOf_35 : decode cX1_canComeOf 35 = .ok (.iload_n 1, 1) := by decide +kernel
theorem dX1_canComeOf_36 : decode cX1_canComeOf 36 = .ok (.iaload, 1) := by decide +kernel
theorem dX1_canComeOf_37 : decode cX1_canComeOf 37 = .ok (.if_icmp .ne 8, 3) := by decide +kernel
theorem dX1_canComeOf_40 : decode cX1_canComeOf 40 = .ok (.iload_n 2, 1) := by decide +kernel
theorem dX1_canComeOf_41 : decode cX1_canComeOf 41 = .ok (.iload_n 1, 1) := by decide +kernel
theorem dX1_canComeOf_42 : decode cX1_canComeOf 42 = .ok (.if_icmp .ge 7, 3) := by decide +kernel
theorem dX1_canComeOf_45 : decode cX1_canComeOf 45 = .ok (.iconst 1, 1) := by decide +kernel
theorem dX1_canComeOf_46 : decode cX1_canComeOf 46 = .ok (.goto 4, 3) := by decide +kernel
theorem dX1_canComeOf_49 : decode cX1_canComeOf 49 = .ok (.iconst 0, 1) := by decide +kernel
theorem dX1_canComeOf_50 : decode cX1_canComeOf 50 = .ok (.ireturn, 1) := by decide +kernel
theorem dX2_init_0 : decode cX2_init 0 = .ok (.aload_n 0, 1) := by decide +kernel
theorem dX2_init_1 : decode cX2_init 1 = .ok (.invokespecial 3, 3) := by decide +kernel
theorem dX2_init_4 : decode cX2_init 4 = .ok (.aload_n 0, 1) := by decide +kernel
theorem dX2_init_5 : decode cX2_init 5 = .ok (.bipush 10, 2) := by decide +kernel
theorem dX2_init_7 : decode cX2_init 7 = .ok (.newarray .int, 2) := by decide +kernel
theorem dX2_init_9 : decode cX2_init 9 = .ok (.putfield 9, 3) := by decide +kernel
theorem dX2_init_12 : decode cX2_init 12 = .ok (.aload_n 0, 1) := by decide +kernel
theorem dX2_init_13 : decode cX2_init 13 = .ok (.bipush 10, 2) := by decide +kernel
theorem dX2_init_15 : decode cX2_init 15 = .ok (.newarray .int, 2) := by decide +kernel
theorem dX2_init_17 : decode cX2_init 17 = .ok (.putfield 15, 3) := by decide +kernel
theorem dX2_init_20 : decode cX2_init 20 = .ok (.aload_n 0, 1) := by decide +kernel
theorem dX2_init_21 : decode cX2_init 21 = .ok (.bipush 10, 2) := by decide +kernel
theorem dX2_init_23 : decode cX2_init 23 = .ok (.newarray .int, 2) := by decide +kernel
theorem dX2_init_25 : decode cX2_init 25 = .ok (.putfield 18, 3) := by decide +kernel
theorem dX2_init_28 : decode cX2_init 28 = .ok (.aload_n 0, 1) := by decide +kernel
theorem dX2_init_29 : decode cX2_init 29 = .ok (.iconst 0, 1) := by decide +kernel
theorem dX2_init_30 : decode cX2_init 30 = .ok (.putfield 21, 3) := by decide +kernel
theorem dX2_init_33 : decode cX2_init 33 = .ok (.aload_n 0, 1) := by decide +kernel
theorem dX2_init_34 : decode cX2_init 34 = .ok (.iconst 1, 1) := by decide +kernel
theorem dX2_init_35 : decode cX2_init 35 = .ok (.putfield 25, 3) := by decide +kernel
theorem dX2_init_38 : decode cX2_init 38 = .ok (.return_, 1) := by decide +kernel
set_option maxRecDepth 20000 in
theorem ggX2_begin_X2_add : GoodIn wsX2_begin wsX2_add := goodIn_r _ [6, 7, 1, 8, 9, 10, 11, 12, 5, 13, 14, 15, 16, 17, 18] (by decide +kernel) (by decide +kernel)
set_option maxRecDepth 20000 in
theorem gX2_begin_X2_add : GoodIn wsX2_begin (wsV RX2 28 RX2 yX2_add wsX2_add) := goodIn_app (goodIn_of _ (by decide +kernel)) ggX2_begin_X2_add
theorem dX2_begin_0 : decode cX2_begin 0 = .ok (.aload_n 0, 1) := by decide +kernel
theorem dX2_begin_1 : decode cX2_begin 1 = .ok (.iconst 0, 1) := by decide +kernel
theorem dX2_begin_2 : decode cX2_begin 2 = .ok (.putfield 21, 3) := by decide +kernel
theorem dX2_begin_5 : decode cX2_begin 5 = .ok (.aload_n 0, 1) := by decide +kernel
theorem dX2_begin_6 : decode cX2_begin 6 = .ok (.iload_n 1, 1) := by decide +kernel
theorem dX2_begin_7 : decode cX2_begin 7 = .ok (.iload_n 2, 1) := by decide +kernel
theorem dX2_begin_8 : decode cX2_begin 8 = .ok (.bipush (-9), 2) := by decide +kernel
theorem dX2_begin_10 : decode cX2_begin 10 = .ok (.invokevirtual 28, 3) := by decide +kernel
theorem dX2_begin_13 : decode cX2_begin 13 = .ok (.return_, 1) := by decide +kernel
set_option maxRecDepth 20000 in
theorem ggX2_add_X2_isFull : GoodIn wsX2_add wsX2_isFull := goodIn_r _ [9, 2, 10, 11, 12, 13, 14] (by decide +kernel) (by decide +kernel)
set_option maxRecDepth 20000 in
theorem gX2_add_X2_isFull : GoodIn wsX2_add (wsV RX2 32 RX2 yX2_isFull wsX2_isFull) := goodIn_app (goodIn_of _ (by decide +kernel)) ggX2_add_X2_isFull
theorem dX2_add_0 : decode cX2_add 0 = .ok (.aload_n 0, 1) := by decide +kernel
theorem dX2_add_1 : decode cX2_add 1 = .ok (.invokevirtual 32, 3) := by decide +kernel
theorem dX2_add_4 : decode cX2_add 4 = .ok (.ifCond .eq 4, 3) := by decide +kernel
theorem dX2_add_7 : decode cX2_add 7 = .ok (.return_, 1) := by decide +kernel
theorem dX2_add_8 : decode cX2_add 8 = .ok (.aload_n 0, 1) := by decide +kernel
theorem dX2_add_9 : decode cX2_add 9 = .ok (.getfield 9, 3) := by decide +kernel
theorem dX2_add_12 : decode cX2_add 12 = .ok (.aload_n 0, 1) := by decide +kernel
theorem dX2_add_13 : decode cX2_add 13 = .ok (.getfield 21, 3) := by decide +kernel
theorem dX2_add_16 : decode cX2_add 16 = .ok (.iload_n 1, 1) := by decide +kernel
theorem dX2_add_17 : decode cX2_add 17 = .ok (.iastore, 1) := by decide +kernel
theorem dX2_add_18 : decode cX2_add 18 = .ok (.aload_n 0, 1) := by decide +kernel
theorem dX2_add_19 : decode cX2_add 19 = .ok (.getfield 15, 3) := by decide +kernel
theorem dX2_add_22 : decode cX2_add 22 = .ok (.aload_n 0, 1) := by decide +kernel
theorem dX2_add_23 : decode cX2_add 23 = .ok (.getfield 21, 3) := by decide +kernel
theorem dX2_add_26 : decode cX2_add 26 = .ok (.iload_n 2, 1) := by decide +kernel
theorem dX2_add_27 : decode cX2_add 27 = .ok (.iastore, 1) := by decide +kernel
theorem dX2_add_28 : decode cX2_add 28 = .ok (.aload_n 0, 1) := by decide +kernel
theorem dX2_add_29 : decode cX2_add 29 = .ok (.getfield 18, 3) := by decide +kernel
theorem dX2_add_32 : decode cX2_add 32 = .ok (.aload_n 0, 1) := by decide +kernel
theorem dX2_add_33 : decode cX2_add 33 = .ok (.getfield 21, 3) := by decide +kernel
theorem dX2_add_36 : decode cX2_add 36 = .ok (.iload_n 3, 1) := by decide +kernel
theorem dX2_add_37 : decode cX2_add 37 = .ok (.iastore, 1) := by decide +kernel
theorem dX2_add_38 : decode cX2_add 38 = .ok (.aload_n 0, 1) := by decide +kernel
theorem dX2_add_39 : decode cX2_add 39 = .ok (.dup, 1) := by decide +kernel
theorem dX2_add_40 : decode cX2_add 40 = .ok (.getfield 21, 3) := by decide +kernel
theorem dX2_add_43 : decode cX2_add 43 = .ok (.iconst 1, 1) := by decide +kernel
theorem dX2_add_44 : decode cX2_add 44 = .ok (.iadd, 1) := by decide +kernel
theorem dX2_add_45 : decode cX2_add 45 = .ok (.putfield 21, 3) := by decide +kernel
theorem dX2_add_48 : decode cX2_add 48 = .ok (.return_, 1) := by decide +kernel
theorem dX2_isBlank_0 : decode cX2_isBlank 0 = .ok (.aload_n 0, 1) := by decide +kernel
theorem dX2_isBlank_1 : decode cX2_isBlank 1 = .ok (.getfield 21, 3) := by decide +kernel
theorem dX2_isBlank_4 : decode cX2_isBlank 4 = .ok (.ifCond .gt 7, 3) := by decide +kernel
theorem dX2_isBlank_7 : decode cX2_isBlank 7 = .ok (.iconst 1, 1) := by decide +kernel
theorem dX2_isBlank_8 : decode cX2_isBlank 8 = .ok (.goto 4, 3) := by decide +kernel
theorem dX2_isBlank_11 : decode cX2_isBlank 11 = .ok (.iconst 0, 1) := by decide +kernel
theorem dX2_isBlank_12 : decode cX2_isBlank 12 = .ok (.ireturn, 1) := by decide +kernel
theorem dX2_isFull_0 : decode cX2_isFull 0 = .ok (.aload_n 0, 1) := by decide +kernel
theorem dX2_isFull_1 : decode cX2_isFull 1 = .ok (.getfield 21, 3) := by decide +kernel
theorem dX2_isFull_4 : decode cX2_isFull 4 = .ok (.bipush 10, 2) := by decide +kernel
theorem dX2_isFull_6 : decode cX2_isFull 6 = .ok (.if_icmp .lt 7, 3) := by decide +kernel
theorem dX2_isFull_9 : decode cX2_isFull 9 = .ok (.iconst 1, 1) := by decide +kernel
theorem dX2_isFull_10 : decode cX2_isFull 10 = .ok (.goto 4, 3) := by decide +kernel
theorem dX2_isFull_13 : decode cX2_isFull 13 = .ok (.iconst 0, 1) := by decide +kernel
theorem dX2_isFull_14 : decode cX2_isFull 14 = .ok (.ireturn, 1) := by decide +kernel
set_option maxRecDepth 20000 in
theorem ggX2_lastTone_X2_isBlank : GoodIn wsX2_lastTone wsX2_isBlank := goodIn_r _ [7, 2, 8, 9, 10, 11, 12] (by decide +kernel) (by decide +kernel)
set_option maxRecDepth 20000 in
theorem gX2_lastTone_X2_isBlank : GoodIn wsX2_lastTone (wsV RX2 36 RX2 yX2_isBlank wsX2_isBlank) := goodIn_app (goodIn_of _ (by decide +kernel)) ggX2_lastTone_X2_isBlank
theorem dX2_lastTone_0 : decode cX2_lastTone 0 = .ok (.aload_n 0, 1) := by decide +kernel
theorem dX2_lastTone_1 : decode cX2_lastTone 1 = .ok (.invokevirtual 36, 3) := by decide +kernel
theorem dX2_lastTone_4 : decode cX2_lastTone 4 = .ok (.ifCond .eq 7, 3) := by decide +kernel
theorem dX2_lastTone_7 : decode cX2_lastTone 7 = .ok (.iconst 0, 1) := by decide +kernel
theorem dX2_lastTone_8 : decode cX2_lastTone 8 = .ok (.goto 14, 3) := by decide +kernel
theorem dX2_lastTone_11 : decode cX2_lastTone 11 = .ok (.aload_n 0, 1) := by decide +kernel
theorem dX2_lastTone_12 : decode cX2_lastTone 12 = .ok (.getfield 9, 3) := by decide +kernel
theorem dX2_lastTone_15 : decode cX2_lastTone 15 = .ok (.aload_n 0, 1) := by decide +kernel
theorem dX2_lastTone_16 : decode cX2_lastTone 16 = .ok (.getfield 21, 3) := by decide +kernel
theorem dX2_lastTone_19 : decode cX2_lastTone 19 = .ok (.iconst 1, 1) := by decide +kernel
theorem dX2_lastTone_20 : decode cX2_lastTone 20 = .ok (.isub, 1) := by decide +kernel
theorem dX2_lastTone_21 : decode cX2_lastTone 21 = .ok (.iaload, 1) := by decide +kernel
theorem dX2_lastTone_22 : decode cX2_lastTone 22 = .ok (.ireturn, 1) := by decide +kernel
set_option maxRecDepth 20000 in
theorem ggX2_lastMarks_X2_isBlank : GoodIn wsX2_lastMarks wsX2_isBlank := goodIn_r _ [7, 2, 8, 9, 10, 11, 12] (by decide +kernel) (by decide +kernel)
set_option maxRecDepth 20000 in
theorem gX2_lastMarks_X2_isBlank : GoodIn wsX2_lastMarks (wsV RX2 36 RX2 yX2_isBlank wsX2_isBlank) := goodIn_app (goodIn_of _ (by decide +kernel)) ggX2_lastMarks_X2_isBlank
theorem dX2_lastMarks_0 : decode cX2_lastMarks 0 = .ok (.aload_n 0, 1) := by decide +kernel
theorem dX2_lastMarks_1 : decode cX2_lastMarks 1 = .ok (.invokevirtual 36, 3) := by decide +kernel
theorem dX2_lastMarks_4 : decode cX2_lastMarks 4 = .ok (.ifCond .eq 7, 3) := by decide +kernel
theorem dX2_lastMarks_7 : decode cX2_lastMarks 7 = .ok (.iconst 0, 1) := by decide +kernel
theorem dX2_lastMarks_8 : decode cX2_lastMarks 8 = .ok (.goto 14, 3) := by decide +kernel
theorem dX2_lastMarks_11 : decode cX2_lastMarks 11 = .ok (.aload_n 0, 1) := by decide +kernel
theorem dX2_lastMarks_12 : decode cX2_lastMarks 12 = .ok (.getfield 15, 3) := by decide +kernel
theorem dX2_lastMarks_15 : decode cX2_lastMarks 15 = .ok (.aload_n 0, 1) := by decide +kernel
theorem dX2_lastMarks_16 : decode cX2_lastMarks 16 = .ok (.getfield 21, 3) := by decide +kernel
theorem dX2_lastMarks_19 : decode cX2_lastMarks 19 = .ok (.iconst 1, 1) := by decide +kernel
theorem dX2_lastMarks_20 : decode cX2_lastMarks 20 = .ok (.isub, 1) := by decide +kernel
theorem dX2_lastMarks_21 : decode cX2_lastMarks 21 = .ok (.iaload, 1) := by decide +kernel
theorem dX2_lastMarks_22 : decode cX2_lastMarks 22 = .ok (.ireturn, 1) := by decide +kernel
theorem dX2_draw_0 : decode cX2_draw 0 = .ok (.aload_n 0, 1) := by decide +kernel
theorem dX2_draw_1 : decode cX2_draw 1 = .ok (.aload_n 0, 1) := by decide +kernel
theorem dX2_draw_2 : decode cX2_draw 2 = .ok (.getfield 25, 3) := by decide +kernel
theorem dX2_draw_5 : decode cX2_draw 5 = .ok (.ldc 39, 2) := by decide +kernel
theorem dX2_draw_7 : decode cX2_draw 7 = .ok (.imul, 1) := by decide +kernel
theorem dX2_draw_8 : decode cX2_draw 8 = .ok (.sipush 12345, 3) := by decide +kernel
theorem dX2_draw_11 : decode cX2_draw 11 = .ok (.iadd, 1) := by decide +kernel
theorem dX2_draw_12 : decode cX2_draw 12 = .ok (.putfield 25, 3) := by decide +kernel
theorem dX2_draw_15 : decode cX2_draw 15 = .ok (.aload_n 0, 1) := by decide +kernel
theorem dX2_draw_16 : decode cX2_draw 16 = .ok (.getfield 25, 3) := by decide +kernel
theorem dX2_draw_19 : decode cX2_draw 19 = .ok (.bipush 16, 2) := by decide +kernel
theorem dX2_draw_21 : decode cX2_draw 21 = .ok (.iushr, 1) := by decide +kernel
theorem dX2_draw_22 : decode cX2_draw 22 = .ok (.bipush 10, 2) := by decide +kernel
theorem dX2_draw_24 : decode cX2_draw 24 = .ok (.irem, 1) := by decide +kernel
theorem dX2_draw_25 : decode cX2_draw 25 = .ok (.ireturn, 1) := by decide +kernel
theorem dX2_become_0 : decode cX2_become 0 = .ok (.aload_n 1, 1) := by decide +kernel
theorem dX2_become_1 : decode cX2_become 1 = .ok (.getfield 9, 3) := by decide +kernel
theorem dX2_become_4 : decode cX2_become 4 = .ok (.iconst 0, 1) := by decide +kernel
theorem dX2_become_5 : decode cX2_become 5 = .ok (.aload_n 0, 1) := by decide +kernel
theorem dX2_become_6 : decode cX2_become 6 = .ok (.getfield 9, 3) := by decide +kernel
theorem dX2_become_9 : decode cX2_become 9 = .ok (.iconst 0, 1) := by decide +kernel
theorem dX2_become_10 : decode cX2_become 10 = .ok (.bipush 10, 2) := by decide +kernel
theorem dX2_become_12 : decode cX2_become 12 = .ok (.invokestatic 40, 3) := by decide +kernel
theorem dX2_become_15 : decode cX2_become 15 = .ok (.aload_n 1, 1) := by decide +kernel
theorem dX2_become_16 : decode cX2_become 16 = .ok (.getfield 15, 3) := by decide +kernel
theorem dX2_become_19 : decode cX2_become 19 = .ok (.iconst 0, 1) := by decide +kernel
theorem dX2_become_20 : decode cX2_become 20 = .ok (.aload_n 0, 1) := by decide +kernel
theorem dX2_become_21 : decode cX2_become 21 = .ok (.getfield 15, 3) := by decide +kernel
theorem dX2_become_24 : decode cX2_become 24 = .ok (.iconst 0, 1) := by decide +kernel
theorem dX2_become_25 : decode cX2_become 25 = .ok (.bipush 10, 2) := by decide +kernel
theorem dX2_become_27 : decode cX2_become 27 = .ok (.invokestatic 40, 3) := by decide +kernel
theorem dX2_become_30 : decode cX2_become 30 = .ok (.aload_n 1, 1) := by decide +kernel
theorem dX2_become_31 : decode cX2_become 31 = .ok (.getfield 18, 3) := by decide +kernel
theorem dX2_become_34 : decode cX2_become 34 = .ok (.iconst 0, 1) := by decide +kernel
theorem dX2_become_35 : decode cX2_become 35 = .ok (.aload_n 0, 1) := by decide +kernel
theorem dX2_become_36 : decode cX2_become 36 = .ok (.getfield 18, 3) := by decide +kernel
theorem dX2_become_39 : decode cX2_become 39 = .ok (.iconst 0, 1) := by decide +kernel
theorem dX2_become_40 : decode cX2_become 40 = .ok (.bipush 10, 2) := by decide +kernel
theorem dX2_become_42 : decode cX2_become 42 = .ok (.invokestatic 40, 3) := by decide +kernel
theorem dX2_become_45 : decode cX2_become 45 = .ok (.aload_n 0, 1) := by decide +kernel
theorem dX2_become_46 : decode cX2_become 46 = .ok (.aload_n 1, 1) := by decide +kernel
theorem dX2_become_47 : decode cX2_become 47 = .ok (.getfield 21, 3) := by decide +kernel
theorem dX2_become_50 : decode cX2_become 50 = .ok (.putfield 21, 3) := by decide +kernel
theorem dX2_become_53 : decode cX2_become 53 = .ok (.aload_n 0, 1) := by decide +kernel
theorem dX2_become_54 : decode cX2_become 54 = .ok (.aload_n 1, 1) := by decide +kernel
theorem dX2_become_55 : decode cX2_become 55 = .ok (.getfield 25, 3) := by decide +kernel
theorem dX2_become_58 : decode cX2_become 58 = .ok (.putfield 25, 3) := by decide +kernel
theorem dX2_become_61 : decode cX2_become 61 = .ok (.return_, 1) := by decide +kernel
set_option maxRecDepth 20000 in
theorem ggX3_init_X0_init : GoodIn wsX3_init wsX0_init := goodIn_r _ [9, 10, 2, 3] (by decide +kernel) (by decide +kernel)
set_option maxRecDepth 20000 in
theorem gX3_init_X0_init_n17 : GoodIn wsX3_init (wsX0_init) := ggX3_init_X0_init
set_option maxRecDepth 20000 in
theorem ggX3_init_X3_begin : GoodIn wsX3_init wsX3_begin := goodIn_r _ [15, 16, 17, 18, 19, 20, 21, 22, 23, 24] (by decide +kernel) (by decide +kernel)
set_option maxRecDepth 20000 in
theorem gX3_init_X3_begin : GoodIn wsX3_init (wsV RX3 18 RX3 yX3_begin wsX3_begin) := goodIn_app (goodIn_of _ (by decide +kernel)) ggX3_init_X3_begin
theorem dX3_init_0 : decode cX3_init 0 = .ok (.aload_n 0, 1) := by decide +kernel
theorem dX3_init_1 : decode cX3_init 1 = .ok (.invokespecial 3, 3) := by decide +kernel
theorem dX3_init_4 : decode cX3_init 4 = .ok (.aload_n 0, 1) := by decide +kernel
theorem dX3_init_5 : decode cX3_init 5 = .ok (.bipush 6, 2) := by decide +kernel
theorem dX3_init_7 : decode cX3_init 7 = .ok (.anewarray 9, 3) := by decide +kernel
theorem dX3_init_10 : decode cX3_init 10 = .ok (.putfield 11, 3) := by decide +kernel
theorem dX3_init_13 : decode cX3_init 13 = .ok (.iconst 0, 1) := by decide +kernel
theorem dX3_init_14 : decode cX3_init 14 = .ok (.istore_n 1, 1) := by decide +kernel
theorem dX3_init_15 : decode cX3_init 15 = .ok (.iload_n 1, 1) := by decide +kernel
theorem dX3_init_16 : decode cX3_init 16 = .ok (.bipush 6, 2) := by decide +kernel
theorem dX3_init_18 : decode cX3_init 18 = .ok (.if_icmp .ge 22, 3) := by decide +kernel
theorem dX3_init_21 : decode cX3_init 21 = .ok (.aload_n 0, 1) := by decide +kernel
theorem dX3_init_22 : decode cX3_init 22 = .ok (.getfield 11, 3) := by decide +kernel
theorem dX3_init_25 : decode cX3_init 25 = .ok (.iload_n 1, 1) := by decide +kernel
theorem dX3_init_26 : decode cX3_init 26 = .ok (.new 9, 3) := by decide +kernel
theorem dX3_init_29 : decode cX3_init 29 = .ok (.dup, 1) := by decide +kernel
theorem dX3_init_30 : decode cX3_init 30 = .ok (.invokespecial 17, 3) := by decide +kernel
theorem dX3_init_33 : decode cX3_init 33 = .ok (.aastore, 1) := by decide +kernel
theorem dX3_init_34 : decode cX3_init 34 = .ok (.iinc 1 1, 3) := by decide +kernel
theorem dX3_init_37 : decode cX3_init 37 = .ok (.goto (-22), 3) := by decide +kernel
theorem dX3_init_40 : decode cX3_init 40 = .ok (.aload_n 0, 1) := by decide +kernel
theorem dX3_init_41 : decode cX3_init 41 = .ok (.invokevirtual 18, 3) := by decide +kernel
theorem dX3_init_44 : decode cX3_init 44 = .ok (.return_, 1) := by decide +kernel
theorem dX3_begin_0 : decode cX3_begin 0 = .ok (.aload_n 0, 1) := by decide +kernel
theorem dX3_begin_1 : decode cX3_begin 1 = .ok (.iconst 0, 1) := by decide +kernel
theorem dX3_begin_2 : decode cX3_begin 2 = .ok (.putfield 21, 3) := by decide +kernel
theorem dX3_begin_5 : decode cX3_begin 5 = .ok (.aload_n 0, 1) := by decide +kernel
theorem dX3_begin_6 : decode cX3_begin 6 = .ok (.iconst 0, 1) := by decide +kernel
theorem dX3_begin_7 : decode cX3_begin 7 = .ok (.putfield 25, 3) := by decide +kernel
theorem dX3_begin_10 : decode cX3_begin 10 = .ok (.aload_n 0, 1) := by decide +kernel
theorem dX3_begin_11 : decode cX3_begin 11 = .ok (.iconst 5, 1) := by decide +kernel
theorem dX3_begin_12 : decode cX3_begin 12 = .ok (.putfield 29, 3) := by decide +kernel
theorem dX3_begin_15 : decode cX3_begin 15 = .ok (.aload_n 0, 1) := by decide +kernel
theorem dX3_begin_16 : decode cX3_begin 16 = .ok (.iconst 0, 1) := by decide +kernel
theorem dX3_begin_17 : decode cX3_begin 17 = .ok (.putfield 32, 3) := by decide +kernel
theorem dX3_begin_20 : decode cX3_begin 20 = .ok (.return_, 1) := by decide +kernel
theorem dX3_find_0 : decode cX3_find 0 = .ok (.iload_n 1, 1) := by decide +kernel
theorem dX3_find_1 : decode cX3_find 1 = .ok (.ifCond .lt 20, 3) := by decide +kernel
theorem dX3_find_4 : decode cX3_find 4 = .ok (.iload_n 1, 1) := by decide +kernel
theorem dX3_find_5 : decode cX3_find 5 = .ok (.aload_n 0, 1) := by decide +kernel
theorem dX3_find_6 : decode cX3_find 6 = .ok (.getfield 21, 3) := by decide +kernel
theorem dX3_find_9 : decode cX3_find 9 = .ok (.if_icmp .ge 12, 3) := by decide +kernel
theorem dX3_find_12 : decode cX3_find 12 = .ok (.aload_n 0, 1) := by decide +kernel
theorem dX3_find_13 : decode cX3_find 13 = .ok (.getfield 11, 3) := by decide +kernel
theorem dX3_find_16 : decode cX3_find 16 = .ok (.iload_n 1, 1) := by decide +kernel
theorem dX3_find_17 : decode cX3_find 17 = .ok (.aaload, 1) := by decide +kernel
theorem dX3_find_18 : decode cX3_find 18 = .ok (.goto 4, 3) := by decide +kernel
theorem dX3_find_21 : decode cX3_find 21 = .ok (.aconst_null, 1) := by decide +kernel
theorem dX3_find_22 : decode cX3_find 22 = .ok (.areturn, 1) := by decide +kernel
theorem dX3_hasAll_0 : decode cX3_hasAll 0 = .ok (.iload_n 1, 1) := by decide +kernel
theorem dX3_hasAll_1 : decode cX3_hasAll 1 = .ok (.ifCond .lt 17, 3) := by decide +kernel
theorem dX3_hasAll_4 : decode cX3_hasAll 4 = .ok (.iload_n 1, 1) := by decide +kernel
theorem dX3_hasAll_5 : decode cX3_hasAll 5 = .ok (.iconst 1, 1) := by decide +kernel
theorem dX3_hasAll_6 : decode cX3_hasAll 6 = .ok (.aload_n 0, 1) := by decide +kernel
theorem dX3_hasAll_7 : decode cX3_hasAll 7 = .ok (.getfield 21, 3) := by decide +kernel
theorem dX3_hasAll_10 : decode cX3_hasAll 10 = .ok (.ishl, 1) := by decide +kernel
theorem dX3_hasAll_11 : decode cX3_hasAll 11 = .ok (.if_icmp .ge 7, 3) := by decide +kernel
theorem dX3_hasAll_14 : decode cX3_hasAll 14 = .ok (.iconst 1, 1) := by decide +kernel
theorem dX3_hasAll_15 : decode cX3_hasAll 15 = .ok (.goto 4, 3) := by decide +kernel
theorem dX3_hasAll_18 : decode cX3_hasAll 18 = .ok (.iconst 0, 1) := by decide +kernel
theorem dX3_hasAll_19 : decode cX3_hasAll 19 = .ok (.ireturn, 1) := by decide +kernel
theorem dX3_isFull_0 : decode cX3_isFull 0 = .ok (.aload_n 0, 1) := by decide +kernel
theorem dX3_isFull_1 : decode cX3_isFull 1 = .ok (.getfield 21, 3) := by decide +kernel
theorem dX3_isFull_4 : decode cX3_isFull 4 = .ok (.bipush 6, 2) := by decide +kernel
theorem dX3_isFull_6 : decode cX3_isFull 6 = .ok (.if_icmp .lt 7, 3) := by decide +kernel
theorem dX3_isFull_9 : decode cX3_isFull 9 = .ok (.iconst 1, 1) := by decide +kernel
theorem dX3_isFull_10 : decode cX3_isFull 10 = .ok (.goto 4, 3) := by decide +kernel
theorem dX3_isFull_13 : decode cX3_isFull 13 = .ok (.iconst 0, 1) := by decide +kernel
theorem dX3_isFull_14 : decode cX3_isFull 14 = .ok (.ireturn, 1) := by decide +kernel
set_option maxRecDepth 20000 in
theorem ggX3_add_X3_isFull : GoodIn wsX3_add wsX3_isFull := goodIn_r _ [7, 2, 8, 9, 10, 11, 12] (by decide +kernel) (by decide +kernel)
set_option maxRecDepth 20000 in
theorem gX3_add_X3_isFull : GoodIn wsX3_add (wsV RX3 35 RX3 yX3_isFull wsX3_isFull) := goodIn_app (goodIn_of _ (by decide +kernel)) ggX3_add_X3_isFull
theorem dX3_add_0 : decode cX3_add 0 = .ok (.aload_n 0, 1) := by decide +kernel
theorem dX3_add_1 : decode cX3_add 1 = .ok (.invokevirtual 35, 3) := by decide +kernel
theorem dX3_add_4 : decode cX3_add 4 = .ok (.ifCond .eq 4, 3) := by decide +kernel
theorem dX3_add_7 : decode cX3_add 7 = .ok (.return_, 1) := by decide +kernel
theorem dX3_add_8 : decode cX3_add 8 = .ok (.aload_n 0, 1) := by decide +kernel
theorem dX3_add_9 : decode cX3_add 9 = .ok (.getfield 11, 3) := by decide +kernel
theorem dX3_add_12 : decode cX3_add 12 = .ok (.aload_n 0, 1) := by decide +kernel
theorem dX3_add_13 : decode cX3_add 13 = .ok (.getfield 21, 3) := by decide +kernel
theorem dX3_add_16 : decode cX3_add 16 = .ok (.aaload, 1) := by decide +kernel
theorem dX3_add_17 : decode cX3_add 17 = .ok (.astore 5, 2) := by decide +kernel
theorem dX3_add_19 : decode cX3_add 19 = .ok (.aload 5, 2) := by decide +kernel
theorem dX3_add_21 : decode cX3_add 21 = .ok (.iload_n 1, 1) := by decide +kernel
theorem dX3_add_22 : decode cX3_add 22 = .ok (.putfield 39, 3) := by decide +kernel
theorem dX3_add_25 : decode cX3_add 25 = .ok (.aload 5, 2) := by decide +kernel
theorem dX3_add_27 : decode cX3_add 27 = .ok (.iload_n 2, 1) := by decide +kernel
theorem dX3_add_28 : decode cX3_add 28 = .ok (.putfield 42, 3) := by decide +kernel
theorem dX3_add_31 : decode cX3_add 31 = .ok (.aload 5, 2) := by decide +kernel
theorem dX3_add_33 : decode cX3_add 33 = .ok (.iload_n 3, 1) := by decide +kernel
theorem dX3_add_34 : decode cX3_add 34 = .ok (.putfield 45, 3) := by decide +kernel
theorem dX3_add_37 : decode cX3_add 37 = .ok (.aload 5, 2) := by decide +kernel
theorem dX3_add_39 : decode cX3_add 39 = .ok (.iload 4, 2) := by decide +kernel
theorem dX3_add_41 : decode cX3_add 41 = .ok (.putfield 48, 3) := by decide +kernel
theorem dX3_add_44 : decode cX3_add 44 = .ok (.aload_n 0, 1) := by decide +kernel
theorem dX3_add_45 : decode cX3_add 45 = .ok (.dup, 1) := by decide +kernel
theorem dX3_add_46 : decode cX3_add 46 = .ok (.getfield 21, 3) := by decide +kernel
theorem dX3_add_49 : decode cX3_add 49 = .ok (.iconst 1, 1) := by decide +kernel
theorem dX3_add_50 : decode cX3_add 50 = .ok (.iadd, 1) := by decide +kernel
theorem dX3_add_51 : decode cX3_add 51 = .ok (.putfield 21, 3) := by decide +kernel
theorem dX3_add_54 : decode cX3_add 54 = .ok (.return_, 1) := by decide +kernel
theorem dX4_init_0 : decode cX4_init 0 = .ok (.aload_n 0, 1) := by decide +kernel
theorem dX4_init_1 : decode cX4_init 1 = .ok (.invokespecial 3, 3) := by decide +kernel
theorem dX4_init_4 : decode cX4_init 4 = .ok (.aload_n 0, 1) := by decide +kernel
theorem dX4_init_5 : decode cX4_init 5 = .ok (.bipush 6, 2) := by decide +kernel
theorem dX4_init_7 : decode cX4_init 7 = .ok (.newarray .int, 2) := by decide +kernel
theorem dX4_init_9 : decode cX4_init 9 = .ok (.putfield 9, 3) := by decide +kernel
theorem dX4_init_12 : decode cX4_init 12 = .ok (.aload_n 0, 1) := by decide +kernel
theorem dX4_init_13 : decode cX4_init 13 = .ok (.bipush 6, 2) := by decide +kernel
theorem dX4_init_15 : decode cX4_init 15 = .ok (.newarray .int, 2) := by decide +kernel
theorem dX4_init_17 : decode cX4_init 17 = .ok (.putfield 15, 3) := by decide +kernel
theorem dX4_init_20 : decode cX4_init 20 = .ok (.aload_n 0, 1) := by decide +kernel
theorem dX4_init_21 : decode cX4_init 21 = .ok (.iconst 0, 1) := by decide +kernel
theorem dX4_init_22 : decode cX4_init 22 = .ok (.putfield 18, 3) := by decide +kernel
theorem dX4_init_25 : decode cX4_init 25 = .ok (.aload_n 0, 1) := by decide +kernel
theorem dX4_init_26 : decode cX4_init 26 = .ok (.iconst 0, 1) := by decide +kernel
theorem dX4_init_27 : decode cX4_init 27 = .ok (.putfield 22, 3) := by decide +kernel
theorem dX4_init_30 : decode cX4_init 30 = .ok (.return_, 1) := by decide +kernel
set_option maxRecDepth 20000 in
theorem ggX4_seek_X4_lineUp : GoodIn wsX4_seek wsX4_lineUp := goodIn_r _ [6, 7, 8, 57, 58, 59, 60] (by decide +kernel) (by decide +kernel)
set_option maxRecDepth 20000 in
theorem gX4_seek_X4_lineUp : GoodIn wsX4_seek (wsV RX4 25 RX4 yX4_lineUp wsX4_lineUp) := goodIn_app (goodIn_of _ (by decide +kernel)) ggX4_seek_X4_lineUp
set_option maxRecDepth 20000 in
theorem ggX4_seek_X4_stray : GoodIn wsX4_seek wsX4_stray := goodIn_r _ [12, 7, 8, 13, 14, 15, 16, 17, 18, 19, 20, 21, 22, 23, 24, 25, 26, 27, 28, 29, 30, 31, 32, 33, 34, 35, 36, 37, 38, 39, 57, 58, 59, 60, 61, 62, 63, 64, 65, 66, 67, 68, 69] (by decide +kernel) (by decide +kernel)
set_option maxRecDepth 20000 in
theorem gX4_seek_X4_stray : GoodIn wsX4_seek (wsV RX4 29 RX4 yX4_stray wsX4_stray) := goodIn_app (goodIn_of _ (by decide +kernel)) ggX4_seek_X4_stray
set_option maxRecDepth 20000 in
theorem ggX4_seek_X4_keepRow : GoodIn wsX4_seek wsX4_keepRow := goodIn_r _ [43, 8, 44, 7, 45, 46, 47, 48, 57, 58, 59, 60] (by decide +kernel) (by decide +kernel)
set_option maxRecDepth 20000 in
theorem gX4_seek_X4_keepRow : GoodIn wsX4_seek (wsV RX4 33 RX4 yX4_keepRow wsX4_keepRow) := goodIn_app (goodIn_of _ (by decide +kernel)) ggX4_seek_X4_keepRow
set_option maxRecDepth 20000 in
theorem ggX4_seek_X4_step : GoodIn wsX4_seek wsX4_step := goodIn_r _ [52, 7, 8, 53, 54, 55, 5, 56, 57, 58, 59, 60] (by decide +kernel) (by decide +kernel)
set_option maxRecDepth 20000 in
theorem gX4_seek_X4_step : GoodIn wsX4_seek (wsV RX4 36 RX4 yX4_step wsX4_step) := goodIn_app (goodIn_of _ (by decide +kernel)) ggX4_seek_X4_step
theorem dX4_seek_0 : decode cX4_seek 0 = .ok (.aload_n 0, 1) := by decide +kernel
theorem dX4_seek_1 : decode cX4_seek 1 = .ok (.iload_n 2, 1) := by decide +kernel
theorem dX4_seek_2 : decode cX4_seek 2 = .ok (.invokevirtual 25, 3) := by decide +kernel
theorem dX4_seek_5 : decode cX4_seek 5 = .ok (.aload_n 0, 1) := by decide +kernel
theorem dX4_seek_6 : decode cX4_seek 6 = .ok (.aload_n 0, 1) := by decide +kernel
theorem dX4_seek_7 : decode cX4_seek 7 = .ok (.aload_n 1, 1) := by decide +kernel
theorem dX4_seek_8 : decode cX4_seek 8 = .ok (.iload_n 3, 1) := by decide +kernel
theorem dX4_seek_9 : decode cX4_seek 9 = .ok (.iload 4, 2) := by decide +kernel
theorem dX4_seek_11 : decode cX4_seek 11 = .ok (.iload 5, 2) := by decide +kernel
theorem dX4_seek_13 : decode cX4_seek 13 = .ok (.invokevirtual 29, 3) := by decide +kernel
theorem dX4_seek_16 : decode cX4_seek 16 = .ok (.putfield 22, 3) := by decide +kernel
theorem dX4_seek_19 : decode cX4_seek 19 = .ok (.aload_n 0, 1) := by decide +kernel
theorem dX4_seek_20 : decode cX4_seek 20 = .ok (.invokevirtual 33, 3) := by decide +kernel
theorem dX4_seek_23 : decode cX4_seek 23 = .ok (.iconst 1, 1) := by decide +kernel
theorem dX4_seek_24 : decode cX4_seek 24 = .ok (.istore 6, 2) := by decide +kernel
theorem dX4_seek_26 : decode cX4_seek 26 = .ok (.iload 6, 2) := by decide +kernel
theorem dX4_seek_28 : decode cX4_seek 28 = .ok (.sipush 720, 3) := by decide +kernel
theorem dX4_seek_31 : decode cX4_seek 31 = .ok (.if_icmp .ge 54, 3) := by decide +kernel
theorem dX4_seek_34 : decode cX4_seek 34 = .ok (.aload_n 0, 1) := by decide +kernel
theorem dX4_seek_35 : decode cX4_seek 35 = .ok (.getfield 22, 3) := by decide +kernel
theorem dX4_seek_38 : decode cX4_seek 38 = .ok (.ifCond .le 47, 3) := by decide +kernel
theorem dX4_seek_41 : decode cX4_seek 41 = .ok (.aload_n 0, 1) := by decide +kernel
theorem dX4_seek_42 : decode cX4_seek 42 = .ok (.invokevirtual 36, 3) := by decide +kernel
theorem dX4_seek_45 : decode cX4_seek 45 = .ok (.ifCond .eq 40, 3) := by decide +kernel
theorem dX4_seek_48 : decode cX4_seek 48 = .ok (.aload_n 0, 1) := by decide +kernel
theorem dX4_seek_49 : decode cX4_seek 49 = .ok (.aload_n 1, 1) := by decide +kernel
theorem dX4_seek_50 : decode cX4_seek 50 = .ok (.iload_n 3, 1) := by decide +kernel
theorem dX4_seek_51 : decode cX4_seek 51 = .ok (.iload 4, 2) := by decide +kernel
theorem dX4_seek_53 : decode cX4_seek 53 = .ok (.iload 5, 2) := by decide +kernel
theorem dX4_seek_55 : decode cX4_seek 55 = .ok (.invokevirtual 29, 3) := by decide +kernel
theorem dX4_seek_58 : decode cX4_seek 58 = .ok (.istore 7, 2) := by decide +kernel
theorem dX4_seek_60 : decode cX4_seek 60 = .ok (.iload 7, 2) := by decide +kernel
theorem dX4_seek_62 : decode cX4_seek 62 = .ok (.aload_n 0, 1) := by decide +kernel
theorem dX4_seek_63 : decode cX4_seek 63 = .ok (.getfield 22, 3) := by decide +kernel
theorem dX4_seek_66 : decode cX4_seek 66 = .ok (.if_icmp .ge 13, 3) := by decide +kernel
theorem dX4_seek_69 : decode cX4_seek 69 = .ok (.aload_n 0, 1) := by decide +kernel
theorem dX4_seek_70 : decode cX4_seek 70 = .ok (.iload 7, 2) := by decide +kernel
theorem dX4_seek_72 : decode cX4_seek 72 = .ok (.putfield 22, 3) := by decide +kernel
theorem dX4_seek_75 : decode cX4_seek 75 = .ok (.aload_n 0, 1) := by decide +kernel
theorem dX4_seek_76 : decode cX4_seek 76 = .ok (.invokevirtual 33, 3) := by decide +kernel
theorem dX4_seek_79 : decode cX4_seek 79 = .ok (.iinc 6 1, 3) := by decide +kernel
theorem dX4_seek_82 : decode cX4_seek 82 = .ok (.goto (-56), 3) := by decide +kernel
theorem dX4_seek_85 : decode cX4_seek 85 = .ok (.return_, 1) := by decide +kernel
theorem dX4_answer_0 : decode cX4_answer 0 = .ok (.iload_n 1, 1) := by decide +kernel
theorem dX4_answer_1 : decode cX4_answer 1 = .ok (.ifCond .ge 8, 3) := by decide +kernel
theorem dX4_answer_4 : decode cX4_answer 4 = .ok (.aload_n 0, 1) := by decide +kernel
theorem dX4_answer_5 : decode cX4_answer 5 = .ok (.getfield 22, 3) := by decide +kernel
theorem dX4_answer_8 : decode cX4_answer 8 = .ok (.ireturn, 1) := by decide +kernel
theorem dX4_answer_9 : decode cX4_answer 9 = .ok (.iload_n 1, 1) := by decide +kernel
theorem dX4_answer_10 : decode cX4_answer 10 = .ok (.aload_n 0, 1) := by decide +kernel
theorem dX4_answer_11 : decode cX4_answer 11 = .ok (.getfield 18, 3) := by decide +kernel
theorem dX4_answer_14 : decode cX4_answer 14 = .ok (.if_icmp .ge 12, 3) := by decide +kernel
theorem dX4_answer_17 : decode cX4_answer 17 = .ok (.aload_n 0, 1) := by decide +kernel
theorem dX4_answer_18 : decode cX4_answer 18 = .ok (.getfield 15, 3) := by decide +kernel
theorem dX4_answer_21 : decode cX4_answer 21 = .ok (.iload_n 1, 1) := by decide +kernel
theorem dX4_answer_22 : decode cX4_answer 22 = .ok (.iaload, 1) := by decide +kernel
theorem dX4_answer_23 : decode cX4_answer 23 = .ok (.goto 5, 3) := by decide +kernel
theorem dX4_answer_26 : decode cX4_answer 26 = .ok (.bipush (-5), 2) := by decide +kernel
theorem dX4_answer_28 : decode cX4_answer 28 = .ok (.ireturn, 1) := by decide +kernel
theorem dX4_lineUp_0 : decode cX4_lineUp 0 = .ok (.aload_n 0, 1) := by decide +kernel
theorem dX4_lineUp_1 : decode cX4_lineUp 1 = .ok (.iconst 0, 1) := by decide +kernel
theorem dX4_lineUp_2 : decode cX4_lineUp 2 = .ok (.putfield 18, 3) := by decide +kernel
theorem dX4_lineUp_5 : decode cX4_lineUp 5 = .ok (.iconst 0, 1) := by decide +kernel
theorem dX4_lineUp_6 : decode cX4_lineUp 6 = .ok (.istore_n 2, 1) := by decide +kernel
theorem dX4_lineUp_7 : decode cX4_lineUp 7 = .ok (.iload_n 2, 1) := by decide +kernel
theorem dX4_lineUp_8 : decode cX4_lineUp 8 = .ok (.bipush 6, 2) := by decide +kernel
theorem dX4_lineUp_10 : decode cX4_lineUp 10 = .ok (.if_icmp .ge 37, 3) := by decide +kernel
theorem dX4_lineUp_13 : decode cX4_lineUp 13 = .ok (.iload_n 1, 1) := by decide +kernel
theorem dX4_lineUp_14 : decode cX4_lineUp 14 = .ok (.iload_n 2, 1) := by decide +kernel
theorem dX4_lineUp_15 : decode cX4_lineUp 15 = .ok (.ishr, 1) := by decide +kernel
theorem dX4_lineUp_16 : decode cX4_lineUp 16 = .ok (.iconst 1, 1) := by decide +kernel
theorem dX4_lineUp_17 : decode cX4_lineUp 17 = .ok (.iand, 1) := by decide +kernel
theorem dX4_lineUp_18 : decode cX4_lineUp 18 = .ok (.ifCond .eq 23, 3) := by decide +kernel
theorem dX4_lineUp_21 : decode cX4_lineUp 21 = .ok (.aload_n 0, 1) := by decide +kernel
theorem dX4_lineUp_22 : decode cX4_lineUp 22 = .ok (.getfield 9, 3) := by decide +kernel
theorem dX4_lineUp_25 : decode cX4_lineUp 25 = .ok (.aload_n 0, 1) := by decide +kernel
theorem dX4_lineUp_26 : decode cX4_lineUp 26 = .ok (.getfield 18, 3) := by decide +kernel
theorem dX4_lineUp_29 : decode cX4_lineUp 29 = .ok (.iload_n 2, 1) := by decide +kernel
theorem dX4_lineUp_30 : decode cX4_lineUp 30 = .ok (.iastore, 1) := by decide +kernel
theorem dX4_lineUp_31 : decode cX4_lineUp 31 = .ok (.aload_n 0, 1) := by decide +kernel
theorem dX4_lineUp_32 : decode cX4_lineUp 32 = .ok (.dup, 1) := by decide +kernel
theorem dX4_lineUp_33 : decode cX4_lineUp 33 = .ok (.getfield 18, 3) := by decide +kernel
theorem dX4_lineUp_36 : decode cX4_lineUp 36 = .ok (.iconst 1, 1) := by decide +kernel
theorem dX4_lineUp_37 : decode cX4_lineUp 37 = .ok (.iadd, 1) := by decide +kernel
theorem dX4_lineUp_38 : decode cX4_lineUp 38 = .ok (.putfield 18, 3) := by decide +kernel
theorem dX4_lineUp_41 : decode cX4_lineUp 41 = .ok (.iinc 2 1, 3) := by decide +kernel
theorem dX4_lineUp_44 : decode cX4_lineUp 44 = .ok (.goto (-37), 3) := by decide +kernel
theorem dX4_lineUp_47 : decode cX4_lineUp 47 = .ok (.return_, 1) := by decide +kernel
theorem dX4_keepRow_0 : decode cX4_keepRow 0 = .ok (.aload_n 0, 1) := by decide +kernel
theorem dX4_keepRow_1 : decode cX4_keepRow 1 = .ok (.getfield 9, 3) := by decide +kernel
theorem dX4_keepRow_4 : decode cX4_keepRow 4 = .ok (.iconst 0, 1) := by decide +kernel
theorem dX4_keepRow_5 : decode cX4_keepRow 5 = .ok (.aload_n 0, 1) := by decide +kernel
theorem dX4_keepRow_6 : decode cX4_keepRow 6 = .ok (.getfield 15, 3) := by decide +kernel
theorem dX4_keepRow_9 : decode cX4_keepRow 9 = .ok (.iconst 0, 1) := by decide +kernel
theorem dX4_keepRow_10 : decode cX4_keepRow 10 = .ok (.aload_n 0, 1) := by decide +kernel
theorem dX4_keepRow_11 : decode cX4_keepRow 11 = .ok (.getfield 18, 3) := by decide +kernel
theorem dX4_keepRow_14 : decode cX4_keepRow 14 = .ok (.invokestatic 40, 3) := by decide +kernel
theorem dX4_keepRow_17 : decode cX4_keepRow 17 = .ok (.return_, 1) := by decide +kernel
set_option maxRecDepth 20000 in
theorem ggX4_stray_X3_find : GoodIn wsX4_stray wsX3_find := goodIn_r _ [14, 15, 16, 34, 35, 36, 37, 38] (by decide +kernel) (by decide +kernel)
set_option maxRecDepth 20000 in
theorem gX4_stray_X3_find : GoodIn wsX4_stray (wsV RX4 46 RX3 yX3_find wsX3_find) := goodIn_app (goodIn_of _ (by decide +kernel)) ggX4_stray_X3_find
set_option maxRecDepth 20000 in
theorem ggX4_stray_X0_toneBehind : GoodIn wsX4_stray wsX0_toneBehind := goodIn_r _ [21, 22, 23, 24, 25, 26, 27, 5, 28, 29, 8, 9, 39, 40, 41, 42] (by decide +kernel) (by decide +kernel)
set_option maxRecDepth 20000 in
theorem gX4_stray_X0_toneBehind : GoodIn wsX4_stray (wsV RX4 52 RX0 yX0_toneBehind wsX0_toneBehind) := goodIn_app (goodIn_of _ (by decide +kernel)) ggX4_stray_X0_toneBehind
theorem dX4_stray_0 : decode cX4_stray 0 = .ok (.iload_n 2, 1) := by decide +kernel
theorem dX4_stray_1 : decode cX4_stray 1 = .ok (.istore 5, 2) := by decide +kernel
theorem dX4_stray_3 : decode cX4_stray 3 = .ok (.iconst 0, 1) := by decide +kernel
theorem dX4_stray_4 : decode cX4_stray 4 = .ok (.istore 6, 2) := by decide +kernel
theorem dX4_stray_6 : decode cX4_stray 6 = .ok (.iconst 0, 1) := by decide +kernel
theorem dX4_stray_7 : decode cX4_stray 7 = .ok (.istore 7, 2) := by decide +kernel
theorem dX4_stray_9 : decode cX4_stray 9 = .ok (.iload 7, 2) := by decide +kernel
theorem dX4_stray_11 : decode cX4_stray 11 = .ok (.aload_n 0, 1) := by decide +kernel
theorem dX4_stray_12 : decode cX4_stray 12 = .ok (.getfield 18, 3) := by decide +kernel
theorem dX4_stray_15 : decode cX4_stray 15 = .ok (.if_icmp .ge 50, 3) := by decide +kernel
theorem dX4_stray_18 : decode cX4_stray 18 = .ok (.aload_n 1, 1) := by decide +kernel
theorem dX4_stray_19 : decode cX4_stray 19 = .ok (.aload_n 0, 1) := by decide +kernel
theorem dX4_stray_20 : decode cX4_stray 20 = .ok (.getfield 9, 3) := by decide +kernel
theorem dX4_stray_23 : decode cX4_stray 23 = .ok (.iload 7, 2) := by decide +kernel
theorem dX4_stray_25 : decode cX4_stray 25 = .ok (.iaload, 1) := by decide +kernel
theorem dX4_stray_26 : decode cX4_stray 26 = .ok (.invokevirtual 46, 3) := by decide +kernel
theorem dX4_stray_29 : decode cX4_stray 29 = .ok (.astore 8, 2) := by decide +kernel
theorem dX4_stray_31 : decode cX4_stray 31 = .ok (.aload 8, 2) := by decide +kernel
theorem dX4_stray_33 : decode cX4_stray 33 = .ok (.ifnull 12, 3) := by decide +kernel
theorem dX4_stray_36 : decode cX4_stray 36 = .ok (.aload 8, 2) := by decide +kernel
theorem dX4_stray_38 : decode cX4_stray 38 = .ok (.iload 5, 2) := by decide +kernel
theorem dX4_stray_40 : decode cX4_stray 40 = .ok (.invokevirtual 52, 3) := by decide +kernel
theorem dX4_stray_43 : decode cX4_stray 43 = .ok (.istore 5, 2) := by decide +kernel
theorem dX4_stray_45 : decode cX4_stray 45 = .ok (.iload 6, 2) := by decide +kernel
theorem dX4_stray_47 : decode cX4_stray 47 = .ok (.iload 5, 2) := by decide +kernel
theorem dX4_stray_49 : decode cX4_stray 49 = .ok (.iload_n 3, 1) := by decide +kernel
theorem dX4_stray_50 : decode cX4_stray 50 = .ok (.isub, 1) := by decide +kernel
theorem dX4_stray_51 : decode cX4_stray 51 = .ok (.invokestatic 58, 3) := by decide +kernel
theorem dX4_stray_54 : decode cX4_stray 54 = .ok (.invokestatic 63, 3) := by decide +kernel
theorem dX4_stray_57 : decode cX4_stray 57 = .ok (.istore 6, 2) := by decide +kernel
theorem dX4_stray_59 : decode cX4_stray 59 = .ok (.iinc 7 1, 3) := by decide +kernel
theorem dX4_stray_62 : decode cX4_stray 62 = .ok (.goto (-53), 3) := by decide +kernel
theorem dX4_stray_65 : decode cX4_stray 65 = .ok (.iload 4, 2) := by decide +kernel
theorem dX4_stray_67 : decode cX4_stray 67 = .ok (.ifCond .eq 8, 3) := by decide +kernel
theorem dX4_stray_70 : decode cX4_stray 70 = .ok (.iload 6, 2) := by decide +kernel
theorem dX4_stray_72 : decode cX4_stray 72 = .ok (.goto 10, 3) := by decide +kernel
theorem dX4_stray_75 : decode cX4_stray 75 = .ok (.iload 5, 2) := by decide +kernel
theorem dX4_stray_77 : decode cX4_stray 77 = .ok (.iload_n 3, 1) := by decide +kernel
theorem dX4_stray_78 : decode cX4_stray 78 = .ok (.isub, 1) := by decide +kernel
theorem dX4_stray_79 : decode cX4_stray 79 = .ok (.invokestatic 58, 3) := by decide +kernel
theorem dX4_stray_82 : decode cX4_stray 82 = .ok (.ireturn, 1) := by decide +kernel
set_option maxRecDepth 20000 in
theorem ggX4_step_X4_swap : GoodIn wsX4_step wsX4_swap := goodIn_r _ [7, 2, 8, 9, 10, 11] (by decide +kernel) (by decide +kernel)
set_option maxRecDepth 20000 in
theorem gX4_step_X4_swap : GoodIn wsX4_step (wsV RX4 67 RX4 yX4_swap wsX4_swap) := goodIn_app (goodIn_of _ (by decide +kernel)) ggX4_step_X4_swap
theorem dX4_step_0 : decode cX4_step 0 = .ok (.aload_n 0, 1) := by decide +kernel
theorem dX4_step_1 : decode cX4_step 1 = .ok (.getfield 18, 3) := by decide +kernel
theorem dX4_step_4 : decode cX4_step 4 = .ok (.iconst 2, 1) := by decide +kernel
theorem dX4_step_5 : decode cX4_step 5 = .ok (.isub, 1) := by decide +kernel
theorem dX4_step_6 : decode cX4_step 6 = .ok (.istore_n 1, 1) := by decide +kernel
theorem dX4_step_7 : decode cX4_step 7 = .ok (.iload_n 1, 1) := by decide +kernel
theorem dX4_step_8 : decode cX4_step 8 = .ok (.ifCond .lt 26, 3) := by decide +kernel
theorem dX4_step_11 : decode cX4_step 11 = .ok (.aload_n 0, 1) := by decide +kernel
theorem dX4_step_12 : decode cX4_step 12 = .ok (.getfield 9, 3) := by decide +kernel
theorem dX4_step_15 : decode cX4_step 15 = .ok (.iload_n 1, 1) := by decide +kernel
theorem dX4_step_16 : decode cX4_step 16 = .ok (.iaload, 1) := by decide +kernel
theorem dX4_step_17 : decode cX4_step 17 = .ok (.aload_n 0, 1) := by decide +kernel
theorem dX4_step_18 : decode cX4_step 18 = .ok (.getfield 9, 3) := by decide +kernel
theorem dX4_step_21 : decode cX4_step 21 = .ok (.iload_n 1, 1) := by decide +kernel
theorem dX4_step_22 : decode cX4_step 22 = .ok (.iconst 1, 1) := by decide +kernel
theorem dX4_step_23 : decode cX4_step 23 = .ok (.iadd, 1) := by decide +kernel
theorem dX4_step_24 : decode cX4_step 24 = .ok (.iaload, 1) := by decide +kernel
theorem dX4_step_25 : decode cX4_step 25 = .ok (.if_icmp .le 9, 3) := by decide +kernel
theorem dX4_step_28 : decode cX4_step 28 = .ok (.iinc 1 (-1), 3) := by decide +kernel
theorem dX4_step_31 : decode cX4_step 31 = .ok (.goto (-24), 3) := by decide +kernel
theorem dX4_step_34 : decode cX4_step 34 = .ok (.iload_n 1, 1) := by decide +kernel
theorem dX4_step_35 : decode cX4_step 35 = .ok (.ifCond .ge 5, 3) := by decide +kernel
theorem dX4_step_38 : decode cX4_step 38 = .ok (.iconst 0, 1) := by decide +kernel
theorem dX4_step_39 : decode cX4_step 39 = .ok (.ireturn, 1) := by decide +kernel
theorem dX4_step_40 : decode cX4_step 40 = .ok (.aload_n 0, 1) := by decide +kernel
theorem dX4_step_41 : decode cX4_step 41 = .ok (.getfield 18, 3) := by decide +kernel
theorem dX4_step_44 : decode cX4_step 44 = .ok (.iconst 1, 1) := by decide +kernel
theorem dX4_step_45 : decode cX4_step 45 = .ok (.isub, 1) := by decide +kernel
theorem dX4_step_46 : decode cX4_step 46 = .ok (.istore_n 2, 1) := by decide +kernel
theorem dX4_step_47 : decode cX4_step 47 = .ok (.iload_n 2, 1) := by decide +kernel
theorem dX4_step_48 : decode cX4_step 48 = .ok (.iload_n 1, 1) := by decide +kernel
theorem dX4_step_49 : decode cX4_step 49 = .ok (.if_icmp .le 24, 3) := by decide +kernel
theorem dX4_step_52 : decode cX4_step 52 = .ok (.aload_n 0, 1) := by decide +kernel
theorem dX4_step_53 : decode cX4_step 53 = .ok (.getfield 9, 3) := by decide +kernel
theorem dX4_step_56 : decode cX4_step 56 = .ok (.iload_n 2, 1) := by decide +kernel
theorem dX4_step_57 : decode cX4_step 57 = .ok (.iaload, 1) := by decide +kernel
theorem dX4_step_58 : decode cX4_step 58 = .ok (.aload_n 0, 1) := by decide +kernel
theorem dX4_step_59 : decode cX4_step 59 = .ok (.getfield 9, 3) := by decide +kernel
theorem dX4_step_62 : decode cX4_step 62 = .ok (.iload_n 1, 1) := by decide +kernel
theorem dX4_step_63 : decode cX4_step 63 = .ok (.iaload, 1) := by decide +kernel
theorem dX4_step_64 : decode cX4_step 64 = .ok (.if_icmp .ge 9, 3) := by decide +kernel
theorem dX4_step_67 : decode cX4_step 67 = .ok (.iinc 2 (-1), 3) := by decide +kernel
theorem dX4_step_70 : decode cX4_step 70 = .ok (.goto (-23), 3) := by decide +kernel
theorem dX4_step_73 : decode cX4_step 73 = .ok (.aload_n 0, 1) := by decide +kernel
theorem dX4_step_74 : decode cX4_step 74 = .ok (.iload_n 1, 1) := by decide +kernel
theorem dX4_step_75 : decode cX4_step 75 = .ok (.iload_n 2, 1) := by decide +kernel
theorem dX4_step_76 : decode cX4_step 76 = .ok (.invokevirtual 67, 3) := by decide +kernel
theorem dX4_step_79 : decode cX4_step 79 = .ok (.iload_n 1, 1) := by decide +kernel
theorem dX4_step_80 : decode cX4_step 80 = .ok (.iconst 1, 1) := by decide +kernel
theorem dX4_step_81 : decode cX4_step 81 = .ok (.iadd, 1) := by decide +kernel
theorem dX4_step_82 : decode cX4_step 82 = .ok (.istore_n 3, 1) := by decide +kernel
theorem dX4_step_83 : decode cX4_step 83 = .ok (.aload_n 0, 1) := by decide +kernel
theorem dX4_step_84 : decode cX4_step 84 = .ok (.getfield 18, 3) := by decide +kernel
theorem dX4_step_87 : decode cX4_step 87 = .ok (.iconst 1, 1) := by decide +kernel
theorem dX4_step_88 : decode cX4_step 88 = .ok (.isub, 1) := by decide +kernel
theorem dX4_step_89 : decode cX4_step 89 = .ok (.istore 4, 2) := by decide +kernel
theorem dX4_step_91 : decode cX4_step 91 = .ok (.iload_n 3, 1) := by decide +kernel
theorem dX4_step_92 : decode cX4_step 92 = .ok (.iload 4, 2) := by decide +kernel
theorem dX4_step_94 : decode cX4_step 94 = .ok (.if_icmp .ge 19, 3) := by decide +kernel
theorem dX4_step_97 : decode cX4_step 97 = .ok (.aload_n 0, 1) := by decide +kernel
theorem dX4_step_98 : decode cX4_step 98 = .ok (.iload_n 3, 1) := by decide +kernel
theorem dX4_step_99 : decode cX4_step 99 = .ok (.iload 4, 2) := by decide +kernel
theorem dX4_step_101 : decode cX4_step 101 = .ok (.invokevirtual 67, 3) := by decide +kernel
theorem dX4_step_104 : decode cX4_step 104 = .ok (.iinc 3 1, 3) := by decide +kernel
theorem dX4_step_107 : decode cX4_step 107 = .ok (.iinc 4 (-1), 3) := by decide +kernel
theorem dX4_step_110 : decode cX4_step 110 = .ok (.goto (-19), 3) := by decide +kernel
theorem dX4_step_113 : decode cX4_step 113 = .ok (.iconst 1, 1) := by decide +kernel
theorem dX4_step_114 : decode cX4_step 114 = .ok (.ireturn, 1) := by decide +kernel
theorem dX4_swap_0 : decode cX4_swap 0 = .ok (.aload_n 0, 1) := by decide +kernel
theorem dX4_swap_1 : decode cX4_swap 1 = .ok (.getfield 9, 3) := by decide +kernel
theorem dX4_swap_4 : decode cX4_swap 4 = .ok (.iload_n 1, 1) := by decide +kernel
theorem dX4_swap_5 : decode cX4_swap 5 = .ok (.iaload, 1) := by decide +kernel
theorem dX4_swap_6 : decode cX4_swap 6 = .ok (.istore_n 3, 1) := by decide +kernel
theorem dX4_swap_7 : decode cX4_swap 7 = .ok (.aload_n 0, 1) := by decide +kernel
theorem dX4_swap_8 : decode cX4_swap 8 = .ok (.getfield 9, 3) := by decide +kernel
theorem dX4_swap_11 : decode cX4_swap 11 = .ok (.iload_n 1, 1) := by decide +kernel
theorem dX4_swap_12 : decode cX4_swap 12 = .ok (.aload_n 0, 1) := by decide +kernel
theorem dX4_swap_13 : decode cX4_swap 13 = .ok (.getfield 9, 3) := by decide +kernel
theorem dX4_swap_16 : decode cX4_swap 16 = .ok (.iload_n 2, 1) := by decide +kernel
theorem dX4_swap_17 : decode cX4_swap 17 = .ok (.iaload, 1) := by decide +kernel
theorem dX4_swap_18 : decode cX4_swap 18 = .ok (.iastore, 1) := by decide +kernel
theorem dX4_swap_19 : decode cX4_swap 19 = .ok (.aload_n 0, 1) := by decide +kernel
theorem dX4_swap_20 : decode cX4_swap 20 = .ok (.getfield 9, 3) := by decide +kernel
theorem dX4_swap_23 : decode cX4_swap 23 = .ok (.iload_n 2, 1) := by decide +kernel
theorem dX4_swap_24 : decode cX4_swap 24 = .ok (.iload_n 3, 1) := by decide +kernel
theorem dX4_swap_25 : decode cX4_swap 25 = .ok (.iastore, 1) := by decide +kernel
theorem dX4_swap_26 : decode cX4_swap 26 = .ok (.return_, 1) := by decide +kernel
theorem dX5_init_0 : decode cX5_init 0 = .ok (.aload_n 0, 1) := by decide +kernel
theorem dX5_init_1 : decode cX5_init 1 = .ok (.invokespecial 3, 3) := by decide +kernel
theorem dX5_init_4 : decode cX5_init 4 = .ok (.aload_n 0, 1) := by decide +kernel
theorem dX5_init_5 : decode cX5_init 5 = .ok (.bipush 8, 2) := by decide +kernel
theorem dX5_init_7 : decode cX5_init 7 = .ok (.newarray .int, 2) := by decide +kernel
theorem dX5_init_9 : decode cX5_init 9 = .ok (.putfield 9, 3) := by decide +kernel
theorem dX5_init_12 : decode cX5_init 12 = .ok (.aload_n 0, 1) := by decide +kernel
theorem dX5_init_13 : decode cX5_init 13 = .ok (.bipush 8, 2) := by decide +kernel
theorem dX5_init_15 : decode cX5_init 15 = .ok (.newarray .int, 2) := by decide +kernel
theorem dX5_init_17 : decode cX5_init 17 = .ok (.putfield 15, 3) := by decide +kernel
theorem dX5_init_20 : decode cX5_init 20 = .ok (.aload_n 0, 1) := by decide +kernel
theorem dX5_init_21 : decode cX5_init 21 = .ok (.bipush 8, 2) := by decide +kernel
theorem dX5_init_23 : decode cX5_init 23 = .ok (.newarray .int, 2) := by decide +kernel
theorem dX5_init_25 : decode cX5_init 25 = .ok (.putfield 18, 3) := by decide +kernel
theorem dX5_init_28 : decode cX5_init 28 = .ok (.aload_n 0, 1) := by decide +kernel
theorem dX5_init_29 : decode cX5_init 29 = .ok (.bipush 8, 2) := by decide +kernel
theorem dX5_init_31 : decode cX5_init 31 = .ok (.newarray .int, 2) := by decide +kernel
theorem dX5_init_33 : decode cX5_init 33 = .ok (.putfield 21, 3) := by decide +kernel
theorem dX5_init_36 : decode cX5_init 36 = .ok (.aload_n 0, 1) := by decide +kernel
theorem dX5_init_37 : decode cX5_init 37 = .ok (.iconst 0, 1) := by decide +kernel
theorem dX5_init_38 : decode cX5_init 38 = .ok (.putfield 24, 3) := by decide +kernel
theorem dX5_init_41 : decode cX5_init 41 = .ok (.return_, 1) := by decide +kernel
theorem dX5_isFull_0 : decode cX5_isFull 0 = .ok (.aload_n 0, 1) := by decide +kernel
theorem dX5_isFull_1 : decode cX5_isFull 1 = .ok (.getfield 24, 3) := by decide +kernel
theorem dX5_isFull_4 : decode cX5_isFull 4 = .ok (.bipush 8, 2) := by decide +kernel
theorem dX5_isFull_6 : decode cX5_isFull 6 = .ok (.if_icmp .lt 7, 3) := by decide +kernel
theorem dX5_isFull_9 : decode cX5_isFull 9 = .ok (.iconst 1, 1) := by decide +kernel
theorem dX5_isFull_10 : decode cX5_isFull 10 = .ok (.goto 4, 3) := by decide +kernel
theorem dX5_isFull_13 : decode cX5_isFull 13 = .ok (.iconst 0, 1) := by decide +kernel
theorem dX5_isFull_14 : decode cX5_isFull 14 = .ok (.ireturn, 1) := by decide +kernel
set_option maxRecDepth 20000 in
theorem ggX5_add_X5_isFull : GoodIn wsX5_add wsX5_isFull := goodIn_r _ [10, 2, 11, 12, 13, 14, 15] (by decide +kernel) (by decide +kernel)
set_option maxRecDepth 20000 in
theorem gX5_add_X5_isFull : GoodIn wsX5_add (wsV RX5 28 RX5 yX5_isFull wsX5_isFull) := goodIn_app (goodIn_of _ (by decide +kernel)) ggX5_add_X5_isFull
theorem dX5_add_0 : decode cX5_add 0 = .ok (.aload_n 0, 1) := by decide +kernel
theorem dX5_add_1 : decode cX5_add 1 = .ok (.invokevirtual 28, 3) := by decide +kernel
theorem dX5_add_4 : decode cX5_add 4 = .ok (.ifCond .eq 4, 3) := by decide +kernel
theorem dX5_add_7 : decode cX5_add 7 = .ok (.return_, 1) := by decide +kernel
theorem dX5_add_8 : decode cX5_add 8 = .ok (.aload_n 0, 1) := by decide +kernel
theorem dX5_add_9 : decode cX5_add 9 = .ok (.getfield 9, 3) := by decide +kernel
theorem dX5_add_12 : decode cX5_add 12 = .ok (.aload_n 0, 1) := by decide +kernel
theorem dX5_add_13 : decode cX5_add 13 = .ok (.getfield 24, 3) := by decide +kernel
theorem dX5_add_16 : decode cX5_add 16 = .ok (.iload_n 1, 1) := by decide +kernel
theorem dX5_add_17 : decode cX5_add 17 = .ok (.iastore, 1) := by decide +kernel
theorem dX5_add_18 : decode cX5_add 18 = .ok (.aload_n 0, 1) := by decide +kernel
theorem dX5_add_19 : decode cX5_add 19 = .ok (.getfield 15, 3) := by decide +kernel
theorem dX5_add_22 : decode cX5_add 22 = .ok (.aload_n 0, 1) := by decide +kernel
theorem dX5_add_23 : decode cX5_add 23 = .ok (.getfield 24, 3) := by decide +kernel
theorem dX5_add_26 : decode cX5_add 26 = .ok (.iload_n 2, 1) := by decide +kernel
theorem dX5_add_27 : decode cX5_add 27 = .ok (.iastore, 1) := by decide +kernel
theorem dX5_add_28 : decode cX5_add 28 = .ok (.aload_n 0, 1) := by decide +kernel
theorem dX5_add_29 : decode cX5_add 29 = .ok (.getfield 18, 3) := by decide +kernel
theorem dX5_add_32 : decode cX5_add 32 = .ok (.aload_n 0, 1) := by decide +kernel
theorem dX5_add_33 : decode cX5_add 33 = .ok (.getfield 24, 3) := by decide +kernel
theorem dX5_add_36 : decode cX5_add 36 = .ok (.iload_n 3, 1) := by decide +kernel
theorem dX5_add_37 : decode cX5_add 37 = .ok (.iastore, 1) := by decide +kernel
theorem dX5_add_38 : decode cX5_add 38 = .ok (.aload_n 0, 1) := by decide +kernel
theorem dX5_add_39 : decode cX5_add 39 = .ok (.getfield 21, 3) := by decide +kernel
theorem dX5_add_42 : decode cX5_add 42 = .ok (.aload_n 0, 1) := by decide +kernel
theorem dX5_add_43 : decode cX5_add 43 = .ok (.getfield 24, 3) := by decide +kernel
theorem dX5_add_46 : decode cX5_add 46 = .ok (.iload 4, 2) := by decide +kernel
theorem dX5_add_48 : decode cX5_add 48 = .ok (.iastore, 1) := by decide +kernel
theorem dX5_add_49 : decode cX5_add 49 = .ok (.aload_n 0, 1) := by decide +kernel
theorem dX5_add_50 : decode cX5_add 50 = .ok (.dup, 1) := by decide +kernel
theorem dX5_add_51 : decode cX5_add 51 = .ok (.getfield 24, 3) := by decide +kernel
theorem dX5_add_54 : decode cX5_add 54 = .ok (.iconst 1, 1) := by decide +kernel
theorem dX5_add_55 : decode cX5_add 55 = .ok (.iadd, 1) := by decide +kernel
theorem dX5_add_56 : decode cX5_add 56 = .ok (.putfield 24, 3) := by decide +kernel
theorem dX5_add_59 : decode cX5_add 59 = .ok (.return_, 1) := by decide +kernel
set_option maxRecDepth 20000 in
theorem ggX5_leastLean_X5_leanFits : GoodIn wsX5_leastLean wsX5_leanFits := goodIn_r _ [5, 6, 7, 8, 9, 10, 11, 12, 13, 14, 15, 16, 17, 18, 19, 20, 21, 22, 23] (by decide +kernel) (by decide +kernel)
set_option maxRecDepth 20000 in
theorem gX5_leastLean_X5_leanFits : GoodIn wsX5_leastLean (wsV RX5 32 RX5 yX5_leanFits wsX5_leanFits) := goodIn_app (goodIn_of _ (by decide +kernel)) ggX5_leastLean_X5_leanFits
theorem dX5_leastLean_0 : decode cX5_leastLean 0 = .ok (.iconst 0, 1) := by decide +kernel
theorem dX5_leastLean_1 : decode cX5_leastLean 1 = .ok (.istore_n 1, 1) := by decide +kernel
theorem dX5_leastLean_2 : decode cX5_leastLean 2 = .ok (.iload_n 1, 1) := by decide +kernel
theorem dX5_leastLean_3 : decode cX5_leastLean 3 = .ok (.bipush 8, 2) := by decide +kernel
theorem dX5_leastLean_5 : decode cX5_leastLean 5 = .ok (.if_icmp .gt 19, 3) := by decide +kernel
theorem dX5_leastLean_8 : decode cX5_leastLean 8 = .ok (.aload_n 0, 1) := by decide +kernel
theorem dX5_leastLean_9 : decode cX5_leastLean 9 = .ok (.iload_n 1, 1) := by decide +kernel
theorem dX5_leastLean_10 : decode cX5_leastLean 10 = .ok (.invokevirtual 32, 3) := by decide +kernel
theorem dX5_leastLean_13 : decode cX5_leastLean 13 = .ok (.ifCond .eq 5, 3) := by decide +kernel
theorem dX5_leastLean_16 : decode cX5_leastLean 16 = .ok (.iload_n 1, 1) := by decide +kernel
theorem dX5_leastLean_17 : decode cX5_leastLean 17 = .ok (.ireturn, 1) := by decide +kernel
theorem dX5_leastLean_18 : decode cX5_leastLean 18 = .ok (.iinc 1 1, 3) := by decide +kernel
theorem dX5_leastLean_21 : decode cX5_leastLean 21 = .ok (.goto (-19), 3) := by decide +kernel
theorem dX5_leastLean_24 : decode cX5_leastLean 24 = .ok (.bipush (-9), 2) := by decide +kernel
theorem dX5_leastLean_26 : decode cX5_leastLean 26 = .ok (.ireturn, 1) := by decide +kernel
set_option maxRecDepth 20000 in
theorem ggX5_greatestLean_X5_leanFits : GoodIn wsX5_greatestLean wsX5_leanFits := goodIn_r _ [5, 6, 7, 8, 9, 10, 11, 12, 13, 14, 15, 16, 17, 18, 19, 20, 21, 22, 23] (by decide +kernel) (by decide +kernel)
set_option maxRecDepth 20000 in
theorem gX5_greatestLean_X5_leanFits : GoodIn wsX5_greatestLean (wsV RX5 32 RX5 yX5_leanFits wsX5_leanFits) := goodIn_app (goodIn_of _ (by decide +kernel)) ggX5_greatestLean_X5_leanFits
theorem dX5_greatestLean_0 : decode cX5_greatestLean 0 = .ok (.bipush 8, 2) := by decide +kernel
theorem dX5_greatestLean_2 : decode cX5_greatestLean 2 = .ok (.istore_n 1, 1) := by decide +kernel
theorem dX5_greatestLean_3 : decode cX5_greatestLean 3 = .ok (.iload_n 1, 1) := by decide +kernel
theorem dX5_greatestLean_4 : decode cX5_greatestLean 4 = .ok (.ifCond .lt 19, 3) := by decide +kernel
theorem dX5_greatestLean_7 : decode cX5_greatestLean 7 = .ok (.aload_n 0, 1) := by decide +kernel
theorem dX5_greatestLean_8 : decode cX5_greatestLean 8 = .ok (.iload_n 1, 1) := by decide +kernel
theorem dX5_greatestLean_9 : decode cX5_greatestLean 9 = .ok (.invokevirtual 32, 3) := by decide +kernel
theorem dX5_greatestLean_12 : decode cX5_greatestLean 12 = .ok (.ifCond .eq 5, 3) := by decide +kernel
theorem dX5_greatestLean_15 : decode cX5_greatestLean 15 = .ok (.iload_n 1, 1) := by decide +kernel
theorem dX5_greatestLean_16 : decode cX5_greatestLean 16 = .ok (.ireturn, 1) := by decide +kernel
theorem dX5_greatestLean_17 : decode cX5_greatestLean 17 = .ok (.iinc 1 (-1), 3) := by decide +kernel
theorem dX5_greatestLean_20 : decode cX5_greatestLean 20 = .ok (.goto (-17), 3) := by decide +kernel
theorem dX5_greatestLean_23 : decode cX5_greatestLean 23 = .ok (.bipush (-9), 2) := by decide +kernel
theorem dX5_greatestLean_25 : decode cX5_greatestLean 25 = .ok (.ireturn, 1) := by decide +kernel
set_option maxRecDepth 20000 in
theorem ggX5_leanFits_X7_leant : GoodIn wsX5_leanFits wsX7_leant := goodIn_r _ [6, 7, 8, 9, 10, 11, 12, 13] (by decide +kernel) (by decide +kernel)
set_option maxRecDepth 20000 in
theorem gX5_leanFits_X7_leant_n36 : GoodIn wsX5_leanFits (wsX7_leant) := ggX5_leanFits_X7_leant
theorem dX5_leanFits_0 : decode cX5_leanFits 0 = .ok (.iconst 0, 1) := by decide +kernel
theorem dX5_leanFits_1 : decode cX5_leanFits 1 = .ok (.istore_n 2, 1) := by decide +kernel
theorem dX5_leanFits_2 : decode cX5_leanFits 2 = .ok (.iload_n 2, 1) := by decide +kernel
theorem dX5_leanFits_3 : decode cX5_leanFits 3 = .ok (.aload_n 0, 1) := by decide +kernel
theorem dX5_leanFits_4 : decode cX5_leanFits 4 = .ok (.getfield 24, 3) := by decide +kernel
theorem dX5_leanFits_7 : decode cX5_leanFits 7 = .ok (.if_icmp .ge 30, 3) := by decide +kernel
theorem dX5_leanFits_10 : decode cX5_leanFits 10 = .ok (.aload_n 0, 1) := by decide +kernel
theorem dX5_leanFits_11 : decode cX5_leanFits 11 = .ok (.getfield 9, 3) := by decide +kernel
theorem dX5_leanFits_14 : decode cX5_leanFits 14 = .ok (.iload_n 2, 1) := by decide +kernel
theorem dX5_leanFits_15 : decode cX5_leanFits 15 = .ok (.iaload, 1) := by decide +kernel
theorem dX5_leanFits_16 : decode cX5_leanFits 16 = .ok (.iload_n 1, 1) := by decide +kernel
theorem dX5_leanFits_17 : decode cX5_leanFits 17 = .ok (.invokestatic 36, 3) := by decide +kernel
theorem dX5_leanFits_20 : decode cX5_leanFits 20 = .ok (.aload_n 0, 1) := by decide +kernel
theorem dX5_leanFits_21 : decode cX5_leanFits 21 = .ok (.getfield 18, 3) := by decide +kernel
theorem dX5_leanFits_24 : decode cX5_leanFits 24 = .ok (.iload_n 2, 1) := by decide +kernel
theorem dX5_leanFits_25 : decode cX5_leanFits 25 = .ok (.iaload, 1) := by decide +kernel
theorem dX5_leanFits_26 : decode cX5_leanFits 26 = .ok (.if_icmp .eq 5, 3) := by decide +kernel
theorem dX5_leanFits_29 : decode cX5_leanFits 29 = .ok (.iconst 0, 1) := by decide +kernel
theorem dX5_leanFits_30 : decode cX5_leanFits 30 = .ok (.ireturn, 1) := by decide +kernel
theorem dX5_leanFits_31 : decode cX5_leanFits 31 = .ok (.iinc 2 1, 3) := by decide +kernel
theorem dX5_leanFits_34 : decode cX5_leanFits 34 = .ok (.goto (-32), 3) := by decide +kernel
theorem dX5_leanFits_37 : decode cX5_leanFits 37 = .ok (.iconst 1, 1) := by decide +kernel
theorem dX5_leanFits_38 : decode cX5_leanFits 38 = .ok (.ireturn, 1) := by decide +kernel
set_option maxRecDepth 20000 in
theorem ggX5_marksFit_X5_maySet : GoodIn wsX5_marksFit wsX5_maySet := goodIn_r _ [5, 6, 7, 17, 18, 19, 20, 21] (by decide +kernel) (by decide +kernel)
set_option maxRecDepth 20000 in
theorem gX5_marksFit_X5_maySet : GoodIn wsX5_marksFit (wsV RX5 40 RX5 yX5_maySet wsX5_maySet) := goodIn_app (goodIn_of _ (by decide +kernel)) ggX5_marksFit_X5_maySet
set_option maxRecDepth 20000 in
theorem ggX5_marksFit_X5_mayDrop : GoodIn wsX5_marksFit wsX5_mayDrop := goodIn_r _ [11, 6, 7, 17, 18, 19, 20, 21] (by decide +kernel) (by decide +kernel)
set_option maxRecDepth 20000 in
theorem gX5_marksFit_X5_mayDrop : GoodIn wsX5_marksFit (wsV RX5 44 RX5 yX5_mayDrop wsX5_mayDrop) := goodIn_app (goodIn_of _ (by decide +kernel)) ggX5_marksFit_X5_mayDrop
set_option maxRecDepth 20000 in
theorem ggX5_marksFit_X5_mayLeave : GoodIn wsX5_marksFit wsX5_mayLeave := goodIn_r _ [15, 6, 16, 7, 17, 18, 19, 20, 21] (by decide +kernel) (by decide +kernel)
set_option maxRecDepth 20000 in
theorem gX5_marksFit_X5_mayLeave : GoodIn wsX5_marksFit (wsV RX5 47 RX5 yX5_mayLeave wsX5_mayLeave) := goodIn_app (goodIn_of _ (by decide +kernel)) ggX5_marksFit_X5_mayLeave
theorem dX5_marksFit_0 : decode cX5_marksFit 0 = .ok (.aload_n 0, 1) := by decide +kernel
theorem dX5_marksFit_1 : decode cX5_marksFit 1 = .ok (.invokevirtual 40, 3) := by decide +kernel
theorem dX5_marksFit_4 : decode cX5_marksFit 4 = .ok (.aload_n 0, 1) := by decide +kernel
theorem dX5_marksFit_5 : decode cX5_marksFit 5 = .ok (.invokevirtual 44, 3) := by decide +kernel
theorem dX5_marksFit_8 : decode cX5_marksFit 8 = .ok (.ior, 1) := by decide +kernel
theorem dX5_marksFit_9 : decode cX5_marksFit 9 = .ok (.aload_n 0, 1) := by decide +kernel
theorem dX5_marksFit_10 : decode cX5_marksFit 10 = .ok (.invokevirtual 47, 3) := by decide +kernel
theorem dX5_marksFit_13 : decode cX5_marksFit 13 = .ok (.ior, 1) := by decide +kernel
theorem dX5_marksFit_14 : decode cX5_marksFit 14 = .ok (.bipush 7, 2) := by decide +kernel
theorem dX5_marksFit_16 : decode cX5_marksFit 16 = .ok (.if_icmp .ne 7, 3) := by decide +kernel
theorem dX5_marksFit_19 : decode cX5_marksFit 19 = .ok (.iconst 1, 1) := by decide +kernel
theorem dX5_marksFit_20 : decode cX5_marksFit 20 = .ok (.goto 4, 3) := by decide +kernel
theorem dX5_marksFit_23 : decode cX5_marksFit 23 = .ok (.iconst 0, 1) := by decide +kernel
theorem dX5_marksFit_24 : decode cX5_marksFit 24 = .ok (.ireturn, 1) := by decide +kernel
theorem dX5_maySet_0 : decode cX5_maySet 0 = .ok (.bipush 7, 2) := by decide +kernel
theorem dX5_maySet_2 : decode cX5_maySet 2 = .ok (.istore_n 1, 1) := by decide +kernel
theorem dX5_maySet_3 : decode cX5_maySet 3 = .ok (.iconst 0, 1) := by decide +kernel
theorem dX5_maySet_4 : decode cX5_maySet 4 = .ok (.istore_n 2, 1) := by decide +kernel
theorem dX5_maySet_5 : decode cX5_maySet 5 = .ok (.iload_n 2, 1) := by decide +kernel
theorem dX5_maySet_6 : decode cX5_maySet 6 = .ok (.aload_n 0, 1) := by decide +kernel
theorem dX5_maySet_7 : decode cX5_maySet 7 = .ok (.getfield 24, 3) := by decide +kernel
theorem dX5_maySet_10 : decode cX5_maySet 10 = .ok (.if_icmp .ge 18, 3) := by decide +kernel
theorem dX5_maySet_13 : decode cX5_maySet 13 = .ok (.iload_n 1, 1) := by decide +kernel
theorem dX5_maySet_14 : decode cX5_maySet 14 = .ok (.aload_n 0, 1) := by decide +kernel
theorem dX5_maySet_15 : decode cX5_maySet 15 = .ok (.getfield 21, 3) := by decide +kernel
theorem dX5_maySet_18 : decode cX5_maySet 18 = .ok (.iload_n 2, 1) := by decide +kernel
theorem dX5_maySet_19 : decode cX5_maySet 19 = .ok (.iaload, 1) := by decide +kernel
theorem dX5_maySet_20 : decode cX5_maySet 20 = .ok (.iand, 1) := by decide +kernel
theorem dX5_maySet_21 : decode cX5_maySet 21 = .ok (.istore_n 1, 1) := by decide +kernel
theorem dX5_maySet_22 : decode cX5_maySet 22 = .ok (.iinc 2 1, 3) := by decide +kernel
theorem dX5_maySet_25 : decode cX5_maySet 25 = .ok (.goto (-20), 3) := by decide +kernel
theorem dX5_maySet_28 : decode cX5_maySet 28 = .ok (.iload_n 1, 1) := by decide +kernel
theorem dX5_maySet_29 : decode cX5_maySet 29 = .ok (.ireturn, 1) := by decide +kernel
theorem dX5_mayDrop_0 : decode cX5_mayDrop 0 = .ok (.bipush 7, 2) := by decide +kernel
theorem dX5_mayDrop_2 : decode cX5_mayDrop 2 = .ok (.istore_n 1, 1) := by decide +kernel
theorem dX5_mayDrop_3 : decode cX5_mayDrop 3 = .ok (.iconst 0, 1) := by decide +kernel
theorem dX5_mayDrop_4 : decode cX5_mayDrop 4 = .ok (.istore_n 2, 1) := by decide +kernel
theorem dX5_mayDrop_5 : decode cX5_mayDrop 5 = .ok (.iload_n 2, 1) := by decide +kernel
theorem dX5_mayDrop_6 : decode cX5_mayDrop 6 = .ok (.aload_n 0, 1) := by decide +kernel
theorem dX5_mayDrop_7 : decode cX5_mayDrop 7 = .ok (.getfield 24, 3) := by decide +kernel
theorem dX5_mayDrop_10 : decode cX5_mayDrop 10 = .ok (.if_icmp .ge 20, 3) := by decide +kernel
theorem dX5_mayDrop_13 : decode cX5_mayDrop 13 = .ok (.iload_n 1, 1) := by decide +kernel
theorem dX5_mayDrop_14 : decode cX5_mayDrop 14 = .ok (.aload_n 0, 1) := by decide +kernel
theorem dX5_mayDrop_15 : decode cX5_mayDrop 15 = .ok (.getfield 21, 3) := by decide +kernel
theorem dX5_mayDrop_18 : decode cX5_mayDrop 18 = .ok (.iload_n 2, 1) := by decide +kernel
theorem dX5_mayDrop_19 : decode cX5_mayDrop 19 = .ok (.iaload, 1) := by decide +kernel
theorem dX5_mayDrop_20 : decode cX5_mayDrop 20 = .ok (.iconst (-1), 1) := by decide +kernel
theorem dX5_mayDrop_21 : decode cX5_mayDrop 21 = .ok (.ixor, 1) := by decide +kernel
theorem dX5_mayDrop_22 : decode cX5_mayDrop 22 = .ok (.iand, 1) := by decide +kernel
theorem dX5_mayDrop_23 : decode cX5_mayDrop 23 = .ok (.istore_n 1, 1) := by decide +kernel
theorem dX5_mayDrop_24 : decode cX5_mayDrop 24 = .ok (.iinc 2 1, 3) := by decide +kernel
theorem dX5_mayDrop_27 : decode cX5_mayDrop 27 = .ok (.goto (-22), 3) := by decide +kernel
theorem dX5_mayDrop_30 : decode cX5_mayDrop 30 = .ok (.iload_n 1, 1) := by decide +kernel
theorem dX5_mayDrop_31 : decode cX5_mayDrop 31 = .ok (.ireturn, 1) := by decide +kernel
theorem dX5_mayLeave_0 : decode cX5_mayLeave 0 = .ok (.bipush 7, 2) := by decide +kernel
theorem dX5_mayLeave_2 : decode cX5_mayLeave 2 = .ok (.istore_n 1, 1) := by decide +kernel
theorem dX5_mayLeave_3 : decode cX5_mayLeave 3 = .ok (.iconst 0, 1) := by decide +kernel
theorem dX5_mayLeave_4 : decode cX5_mayLeave 4 = .ok (.istore_n 2, 1) := by decide +kernel
theorem dX5_mayLeave_5 : decode cX5_mayLeave 5 = .ok (.iload_n 2, 1) := by decide +kernel
theorem dX5_mayLeave_6 : decode cX5_mayLeave 6 = .ok (.aload_n 0, 1) := by decide +kernel
theorem dX5_mayLeave_7 : decode cX5_mayLeave 7 = .ok (.getfield 24, 3) := by decide +kernel
theorem dX5_mayLeave_10 : decode cX5_mayLeave 10 = .ok (.if_icmp .ge 27, 3) := by decide +kernel
theorem dX5_mayLeave_13 : decode cX5_mayLeave 13 = .ok (.iload_n 1, 1) := by decide +kernel
theorem dX5_mayLeave_14 : decode cX5_mayLeave 14 = .ok (.aload_n 0, 1) := by decide +kernel
theorem dX5_mayLeave_15 : decode cX5_mayLeave 15 = .ok (.getfield 15, 3) := by decide +kernel
theorem dX5_mayLeave_18 : decode cX5_mayLeave 18 = .ok (.iload_n 2, 1) := by decide +kernel
theorem dX5_mayLeave_19 : decode cX5_mayLeave 19 = .ok (.iaload, 1) := by decide +kernel
theorem dX5_mayLeave_20 : decode cX5_mayLeave 20 = .ok (.aload_n 0, 1) := by decide +kernel
theorem dX5_mayLeave_21 : decode cX5_mayLeave 21 = .ok (.getfield 21, 3) := by decide +kernel
theorem dX5_mayLeave_24 : decode cX5_mayLeave 24 = .ok (.iload_n 2, 1) := by decide +kernel
theorem dX5_mayLeave_25 : decode cX5_mayLeave 25 = .ok (.iaload, 1) := by decide +kernel
theorem dX5_mayLeave_26 : decode cX5_mayLeave 26 = .ok (.ixor, 1) := by decide +kernel
theorem dX5_mayLeave_27 : decode cX5_mayLeave 27 = .ok (.iconst (-1), 1) := by decide +kernel
theorem dX5_mayLeave_28 : decode cX5_mayLeave 28 = .ok (.ixor, 1) := by decide +kernel
theorem dX5_mayLeave_29 : decode cX5_mayLeave 29 = .ok (.iand, 1) := by decide +kernel
theorem dX5_mayLeave_30 : decode cX5_mayLeave 30 = .ok (.istore_n 1, 1) := by decide +kernel
theorem dX5_mayLeave_31 : decode cX5_mayLeave 31 = .ok (.iinc 2 1, 3) := by decide +kernel
theorem dX5_mayLeave_34 : decode cX5_mayLeave 34 = .ok (.goto (-29), 3) := by decide +kernel
theorem dX5_mayLeave_37 : decode cX5_mayLeave 37 = .ok (.iload_n 1, 1) := by decide +kernel
theorem dX5_mayLeave_38 : decode cX5_mayLeave 38 = .ok (.ireturn, 1) := by decide +kernel
theorem dX6_init_0 : decode cX6_init 0 = .ok (.aload_n 0, 1) := by decide +kernel
theorem dX6_init_1 : decode cX6_init 1 = .ok (.invokespecial 3, 3) := by decide +kernel
theorem dX6_init_4 : decode cX6_init 4 = .ok (.aload_n 0, 1) := by decide +kernel
theorem dX6_init_5 : decode cX6_init 5 = .ok (.sipush 200, 3) := by decide +kernel
theorem dX6_init_8 : decode cX6_init 8 = .ok (.newarray .byte, 2) := by decide +kernel
theorem dX6_init_10 : decode cX6_init 10 = .ok (.putfield 9, 3) := by decide +kernel
theorem dX6_init_13 : decode cX6_init 13 = .ok (.aload_n 0, 1) := by decide +kernel
theorem dX6_init_14 : decode cX6_init 14 = .ok (.iconst 0, 1) := by decide +kernel
theorem dX6_init_15 : decode cX6_init 15 = .ok (.putfield 15, 3) := by decide +kernel
theorem dX6_init_18 : decode cX6_init 18 = .ok (.aload_n 0, 1) := by decide +kernel
theorem dX6_init_19 : decode cX6_init 19 = .ok (.iconst 0, 1) := by decide +kernel
theorem dX6_init_20 : decode cX6_init 20 = .ok (.putfield 19, 3) := by decide +kernel
theorem dX6_init_23 : decode cX6_init 23 = .ok (.aload_n 0, 1) := by decide +kernel
theorem dX6_init_24 : decode cX6_init 24 = .ok (.iconst 0, 1) := by decide +kernel
theorem dX6_init_25 : decode cX6_init 25 = .ok (.putfield 22, 3) := by decide +kernel
theorem dX6_init_28 : decode cX6_init 28 = .ok (.aload_n 0, 1) := by decide +kernel
theorem dX6_init_29 : decode cX6_init 29 = .ok (.iconst 0, 1) := by decide +kernel
theorem dX6_init_30 : decode cX6_init 30 = .ok (.putfield 25, 3) := by decide +kernel
theorem dX6_init_33 : decode cX6_init 33 = .ok (.return_, 1) := by decide +kernel
theorem dX6_append_0 : decode cX6_append 0 = .ok (.iload_n 3, 1) := by decide +kernel
theorem dX6_append_1 : decode cX6_append 1 = .ok (.iconst 1, 1) := by decide +kernel
theorem dX6_append_2 : decode cX6_append 2 = .ok (.isub, 1) := by decide +kernel
theorem dX6_append_3 : decode cX6_append 3 = .ok (.istore 4, 2) := by decide +kernel
theorem dX6_append_5 : decode cX6_append 5 = .ok (.iload 4, 2) := by decide +kernel
theorem dX6_append_7 : decode cX6_append 7 = .ok (.ifCond .lt 47, 3) := by decide +kernel
theorem dX6_append_10 : decode cX6_append 10 = .ok (.aload_n 0, 1) := by decide +kernel
theorem dX6_append_11 : decode cX6_append 11 = .ok (.getfield 15, 3) := by decide +kernel
theorem dX6_append_14 : decode cX6_append 14 = .ok (.sipush 200, 3) := by decide +kernel
theorem dX6_append_17 : decode cX6_append 17 = .ok (.if_icmp .ge 37, 3) := by decide +kernel
theorem dX6_append_20 : decode cX6_append 20 = .ok (.aload_n 0, 1) := by decide +kernel
theorem dX6_append_21 : decode cX6_append 21 = .ok (.getfield 9, 3) := by decide +kernel
theorem dX6_append_24 : decode cX6_append 24 = .ok (.aload_n 0, 1) := by decide +kernel
theorem dX6_append_25 : decode cX6_append 25 = .ok (.getfield 15, 3) := by decide +kernel
theorem dX6_append_28 : decode cX6_append 28 = .ok (.lload_n 1, 1) := by decide +kernel
theorem dX6_append_29 : decode cX6_append 29 = .ok (.bipush 8, 2) := by decide +kernel
theorem dX6_append_31 : decode cX6_append 31 = .ok (.iload 4, 2) := by decide +kernel
theorem dX6_append_33 : decode cX6_append 33 = .ok (.imul, 1) := by decide +kernel
theorem dX6_append_34 : decode cX6_append 34 = .ok (.lushr, 1) := by decide +kernel
theorem dX6_append_35 : decode cX6_append 35 = .ok (.l2i, 1) := by decide +kernel
theorem dX6_append_36 : decode cX6_append 36 = .ok (.i2b, 1) := by decide +kernel
theorem dX6_append_37 : decode cX6_append 37 = .ok (.bastore, 1) := by decide +kernel
theorem dX6_append_38 : decode cX6_append 38 = .ok (.aload_n 0, 1) := by decide +kernel
theorem dX6_append_39 : decode cX6_append 39 = .ok (.dup, 1) := by decide +kernel
theorem dX6_append_40 : decode cX6_append 40 = .ok (.getfield 15, 3) := by decide +kernel
theorem dX6_append_43 : decode cX6_append 43 = .ok (.iconst 1, 1) := by decide +kernel
theorem dX6_append_44 : decode cX6_append 44 = .ok (.iadd, 1) := by decide +kernel
theorem dX6_append_45 : decode cX6_append 45 = .ok (.putfield 15, 3) := by decide +kernel
theorem dX6_append_48 : decode cX6_append 48 = .ok (.iinc 4 (-1), 3) := by decide +kernel
theorem dX6_append_51 : decode cX6_append 51 = .ok (.goto (-46), 3) := by decide +kernel
theorem dX6_append_54 : decode cX6_append 54 = .ok (.return_, 1) := by decide +kernel
set_option maxRecDepth 20000 in
theorem ggX6_readInto_X3_begin : GoodIn wsX6_readInto wsX3_begin := goodIn_r _ [6, 7, 8, 9, 10, 106, 107, 108, 109, 110] (by decide +kernel) (by decide +kernel)
set_option maxRecDepth 20000 in
theorem gX6_readInto_X3_begin_n28 : GoodIn wsX6_readInto (wsX3_begin) := ggX6_readInto_X3_begin
set_option maxRecDepth 20000 in
theorem ggX6_readInto_X6_take : GoodIn wsX6_readInto wsX6_take := goodIn_r _ [15, 1, 16, 17, 2, 18, 19, 14, 20, 101, 102, 103, 104, 105] (by decide +kernel) (by decide +kernel)
set_option maxRecDepth 20000 in
theorem gX6_readInto_X6_take : GoodIn wsX6_readInto (wsV RX6 33 RX6 yX6_take wsX6_take) := goodIn_app (goodIn_of _ (by decide +kernel)) ggX6_readInto_X6_take
set_option maxRecDepth 20000 in
theorem ggX6_readInto_X6_readItem : GoodIn wsX6_readInto wsX6_readItem := goodIn_r _ [24, 25, 26, 27, 14, 28, 1, 2, 17, 29, 30, 31, 32, 33, 34, 35, 36, 37, 38, 39, 40, 41, 42, 43, 44, 45, 46, 47, 48, 49, 50, 51, 52, 53, 54, 55, 56, 57, 58, 59, 60, 61, 62, 63, 64, 65, 66, 67, 68, 69, 70, 71, 72, 73, 74, 75, 76, 77, 78, 79, 80, 4, 81, 7, 82, 83, 84, 85, 86, 87, 88, 89, 90, 11, 12, 13, 15, 16, 18, 19, 20, 91, 92, 93, 94, 95, 96, 97, 98, 99, 100, 106, 107, 108, 109, 110, 101, 102, 103, 104, 105, 111, 112, 113, 114] (by decide +kernel) (by decide +kernel)
set_option maxRecDepth 20000 in
theorem gX6_readInto_X6_readItem : GoodIn wsX6_readInto (wsV RX6 37 RX6 yX6_readItem wsX6_readItem) := goodIn_app (goodIn_of _ (by decide +kernel)) ggX6_readInto_X6_readItem
theorem dX6_readInto_0 : decode cX6_readInto 0 = .ok (.aload_n 1, 1) := by decide +kernel
theorem dX6_readInto_1 : decode cX6_readInto 1 = .ok (.invokevirtual 28, 3) := by decide +kernel
theorem dX6_readInto_4 : decode cX6_readInto 4 = .ok (.aload_n 0, 1) := by decide +kernel
theorem dX6_readInto_5 : decode cX6_readInto 5 = .ok (.iconst 0, 1) := by decide +kernel
theorem dX6_readInto_6 : decode cX6_readInto 6 = .ok (.putfield 19, 3) := by decide +kernel
theorem dX6_readInto_9 : decode cX6_readInto 9 = .ok (.iconst 0, 1) := by decide +kernel
theorem dX6_readInto_10 : decode cX6_readInto 10 = .ok (.istore_n 2, 1) := by decide +kernel
theorem dX6_readInto_11 : decode cX6_readInto 11 = .ok (.aload_n 0, 1) := by decide +kernel
theorem dX6_readInto_12 : decode cX6_readInto 12 = .ok (.invokevirtual 33, 3) := by decide +kernel
theorem dX6_readInto_15 : decode cX6_readInto 15 = .ok (.istore_n 3, 1) := by decide +kernel
theorem dX6_readInto_16 : decode cX6_readInto 16 = .ok (.iload_n 3, 1) := by decide +kernel
theorem dX6_readInto_17 : decode cX6_readInto 17 = .ok (.ifCond .eq 42, 3) := by decide +kernel
theorem dX6_readInto_20 : decode cX6_readInto 20 = .ok (.iload_n 2, 1) := by decide +kernel
theorem dX6_readInto_21 : decode cX6_readInto 21 = .ok (.sipush 200, 3) := by decide +kernel
theorem dX6_readInto_24 : decode cX6_readInto 24 = .ok (.if_icmp .ge 35, 3) := by decide +kernel
theorem dX6_readInto_27 : decode cX6_readInto 27 = .ok (.iload_n 3, 1) := by decide +kernel
theorem dX6_readInto_28 : decode cX6_readInto 28 = .ok (.iconst 1, 1) := by decide +kernel
theorem dX6_readInto_29 : decode cX6_readInto 29 = .ok (.if_icmp .ne 11, 3) := by decide +kernel
theorem dX6_readInto_32 : decode cX6_readInto 32 = .ok (.aload_n 0, 1) := by decide +kernel
theorem dX6_readInto_33 : decode cX6_readInto 33 = .ok (.aload_n 1, 1) := by decide +kernel
theorem dX6_readInto_34 : decode cX6_readInto 34 = .ok (.invokevirtual 37, 3) := by decide +kernel
theorem dX6_readInto_37 : decode cX6_readInto 37 = .ok (.ifCond .ne 11, 3) := by decide +kernel
theorem dX6_readInto_40 : decode cX6_readInto 40 = .ok (.bipush (-10), 2) := by decide +kernel
theorem dX6_readInto_42 : decode cX6_readInto 42 = .ok (.aload_n 0, 1) := by decide +kernel
theorem dX6_readInto_43 : decode cX6_readInto 43 = .ok (.getfield 22, 3) := by decide +kernel
theorem dX6_readInto_46 : decode cX6_readInto 46 = .ok (.isub, 1) := by decide +kernel
theorem dX6_readInto_47 : decode cX6_readInto 47 = .ok (.ireturn, 1) := by decide +kernel
theorem dX6_readInto_48 : decode cX6_readInto 48 = .ok (.iinc 2 1, 3) := by decide +kernel
theorem dX6_readInto_51 : decode cX6_readInto 51 = .ok (.aload_n 0, 1) := by decide +kernel
theorem dX6_readInto_52 : decode cX6_readInto 52 = .ok (.invokevirtual 33, 3) := by decide +kernel
theorem dX6_readInto_55 : decode cX6_readInto 55 = .ok (.istore_n 3, 1) := by decide +kernel
theorem dX6_readInto_56 : decode cX6_readInto 56 = .ok (.goto (-40), 3) := by decide +kernel
theorem dX6_readInto_59 : decode cX6_readInto 59 = .ok (.iload_n 2, 1) := by decide +kernel
theorem dX6_readInto_60 : decode cX6_readInto 60 = .ok (.ireturn, 1) := by decide +kernel
set_option maxRecDepth 20000 in
theorem ggX6_readItem_X6_tookWord : GoodIn wsX6_readItem wsX6_tookWord := goodIn_r _ [5, 6, 7, 8, 9, 10, 11, 12, 13, 14, 15, 16, 17, 18, 19, 20, 21, 22, 23, 24, 25, 26, 27, 28, 29, 30, 31, 32, 33, 34, 35, 36, 37, 38, 39, 40, 41, 42, 43, 44, 45, 46, 47, 48, 49, 50, 51, 52, 53, 54, 55, 56, 57, 96, 97, 98, 99, 100] (by decide +kernel) (by decide +kernel)
set_option maxRecDepth 20000 in
theorem gX6_readItem_X6_tookWord : GoodIn wsX6_readItem (wsV RX6 43 RX6 yX6_tookWord wsX6_tookWord) := goodIn_app (goodIn_of _ (by decide +kernel)) ggX6_readItem_X6_tookWord
set_option maxRecDepth 20000 in
theorem ggX6_readItem_X3_isFull : GoodIn wsX6_readItem wsX3_isFull := goodIn_r _ [62, 63, 91, 92, 93, 94, 95] (by decide +kernel) (by decide +kernel)
set_option maxRecDepth 20000 in
theorem gX6_readItem_X3_isFull : GoodIn wsX6_readItem (wsV RX6 47 RX3 yX3_isFull wsX3_isFull) := goodIn_app (goodIn_of _ (by decide +kernel)) ggX6_readItem_X3_isFull
set_option maxRecDepth 20000 in
theorem ggX6_readItem_X6_readClerk : GoodIn wsX6_readItem wsX6_readClerk := goodIn_r _ [67, 68, 69, 70, 71, 4, 72, 6, 7, 8, 73, 74, 75, 76, 77, 78, 79, 80, 81, 82, 83, 61, 84, 85, 63, 86, 59, 60, 62, 96, 97, 98, 99, 100, 91, 92, 93, 94, 95, 101, 102, 103, 104] (by decide +kernel) (by decide +kernel)
set_option maxRecDepth 20000 in
theorem gX6_readItem_X6_readClerk : GoodIn wsX6_readItem (wsV RX6 51 RX6 yX6_readClerk wsX6_readClerk) := goodIn_app (goodIn_of _ (by decide +kernel)) ggX6_readItem_X6_readClerk
set_option maxRecDepth 20000 in
theorem ggX6_readItem_X6_readFirstLine : GoodIn wsX6_readItem wsX6_readFirstLine := goodIn_r _ [90, 68, 69, 70, 71, 4, 72, 6, 7, 8, 73, 74, 75, 76, 77, 78, 79, 80, 96, 97, 98, 99, 100, 91, 92, 93, 94, 95] (by decide +kernel) (by decide +kernel)
set_option maxRecDepth 20000 in
theorem gX6_readItem_X6_readFirstLine : GoodIn wsX6_readItem (wsV RX6 60 RX6 yX6_readFirstLine wsX6_readFirstLine) := goodIn_app (goodIn_of _ (by decide +kernel)) ggX6_readItem_X6_readFirstLine
theorem dX6_readItem_0 : decode cX6_readItem 0 = .ok (.aload_n 0, 1) := by decide +kernel
theorem dX6_readItem_1 : decode cX6_readItem 1 = .ok (.ldc 41, 2) := by decide +kernel
theorem dX6_readItem_3 : decode cX6_readItem 3 = .ok (.invokevirtual 43, 3) := by decide +kernel
theorem dX6_readItem_6 : decode cX6_readItem 6 = .ok (.ifCond .eq 24, 3) := by decide +kernel
theorem dX6_readItem_9 : decode cX6_readItem 9 = .ok (.aload_n 1, 1) := by decide +kernel
theorem dX6_readItem_10 : decode cX6_readItem 10 = .ok (.invokevirtual 47, 3) := by decide +kernel
theorem dX6_readItem_13 : decode cX6_readItem 13 = .ok (.ifCond .ne 15, 3) := by decide +kernel
theorem dX6_readItem_16 : decode cX6_readItem 16 = .ok (.aload_n 0, 1) := by decide +kernel
theorem dX6_readItem_17 : decode cX6_readItem 17 = .ok (.aload_n 1, 1) := by decide +kernel
theorem dX6_readItem_18 : decode cX6_readItem 18 = .ok (.invokevirtual 51, 3) := by decide +kernel
theorem dX6_readItem_21 : decode cX6_readItem 21 = .ok (.ifCond .eq 7, 3) := by decide +kernel
theorem dX6_readItem_24 : decode cX6_readItem 24 = .ok (.iconst 1, 1) := by decide +kernel
theorem dX6_readItem_25 : decode cX6_readItem 25 = .ok (.goto 4, 3) := by decide +kernel
theorem dX6_readItem_28 : decode cX6_readItem 28 = .ok (.iconst 0, 1) := by decide +kernel
theorem dX6_readItem_29 : decode cX6_readItem 29 = .ok (.ireturn, 1) := by decide +kernel
theorem dX6_readItem_30 : decode cX6_readItem 30 = .ok (.aload_n 0, 1) := by decide +kernel
theorem dX6_readItem_31 : decode cX6_readItem 31 = .ok (.ldc 54, 2) := by decide +kernel
theorem dX6_readItem_33 : decode cX6_readItem 33 = .ok (.invokevirtual 43, 3) := by decide +kernel
theorem dX6_readItem_36 : decode cX6_readItem 36 = .ok (.ifCond .eq 22, 3) := by decide +kernel
theorem dX6_readItem_39 : decode cX6_readItem 39 = .ok (.aload_n 1, 1) := by decide +kernel
theorem dX6_readItem_40 : decode cX6_readItem 40 = .ok (.getfield 56, 3) := by decide +kernel
theorem dX6_readItem_43 : decode cX6_readItem 43 = .ok (.ifCond .ne 15, 3) := by decide +kernel
theorem dX6_readItem_46 : decode cX6_readItem 46 = .ok (.aload_n 0, 1) := by decide +kernel
theorem dX6_readItem_47 : decode cX6_readItem 47 = .ok (.aload_n 1, 1) := by decide +kernel
theorem dX6_readItem_48 : decode cX6_readItem 48 = .ok (.invokevirtual 60, 3) := by decide +kernel
theorem dX6_readItem_51 : decode cX6_readItem 51 = .ok (.ifCond .eq 7, 3) := by decide +kernel
theorem dX6_readItem_54 : decode cX6_readItem 54 = .ok (.iconst 1, 1) := by decide +kernel
theorem dX6_readItem_55 : decode cX6_readItem 55 = .ok (.goto 4, 3) := by decide +kernel
theorem dX6_readItem_58 : decode cX6_readItem 58 = .ok (.iconst 0, 1) := by decide +kernel
theorem dX6_readItem_59 : decode cX6_readItem 59 = .ok (.ireturn, 1) := by decide +kernel
set_option maxRecDepth 20000 in
theorem ggX6_readClerk_X6_takeNumber : GoodIn wsX6_readClerk wsX6_takeNumber := goodIn_r _ [6, 7, 8, 1, 9, 10, 11, 12, 5, 13, 14, 15, 16, 17, 29, 30, 31, 32, 33] (by decide +kernel) (by decide +kernel)
set_option maxRecDepth 20000 in
theorem gX6_readClerk_X6_takeNumber : GoodIn wsX6_readClerk (wsV RX6 63 RX6 yX6_takeNumber wsX6_takeNumber) := goodIn_app (goodIn_of _ (by decide +kernel)) ggX6_readClerk_X6_takeNumber
set_option maxRecDepth 20000 in
theorem ggX6_readClerk_X3_add : GoodIn wsX6_readClerk wsX3_add := goodIn_r _ [22, 23, 24, 25, 26, 27, 21, 28, 34, 35, 36, 37, 38, 39, 40, 41, 42] (by decide +kernel) (by decide +kernel)
set_option maxRecDepth 20000 in
theorem gX6_readClerk_X3_add : GoodIn wsX6_readClerk (wsV RX6 67 RX3 yX3_add wsX3_add) := goodIn_app (goodIn_of _ (by decide +kernel)) ggX6_readClerk_X3_add
set_option maxRecDepth 20000 in
theorem ggX6_readClerk_X6_take : GoodIn wsX6_readClerk wsX6_take := goodIn_r _ [13, 7, 14, 9, 8, 15, 16, 5, 17, 29, 30, 31, 32, 33] (by decide +kernel) (by decide +kernel)
set_option maxRecDepth 20000 in
theorem gX6_readClerk_X6_take : GoodIn wsX6_readClerk (wsV RX6 33 RX6 yX6_take wsX6_take) := goodIn_app (goodIn_of _ (by decide +kernel)) ggX6_readClerk_X6_take
theorem dX6_readClerk_0 : decode cX6_readClerk 0 = .ok (.aload_n 0, 1) := by decide +kernel
theorem dX6_readClerk_1 : decode cX6_readClerk 1 = .ok (.bipush 8, 2) := by decide +kernel
theorem dX6_readClerk_3 : decode cX6_readClerk 3 = .ok (.invokevirtual 63, 3) := by decide +kernel
theorem dX6_readClerk_6 : decode cX6_readClerk 6 = .ok (.ifCond .ne 5, 3) := by decide +kernel
theorem dX6_readClerk_9 : decode cX6_readClerk 9 = .ok (.iconst 0, 1) := by decide +kernel
theorem dX6_readClerk_10 : decode cX6_readClerk 10 = .ok (.ireturn, 1) := by decide +kernel
theorem dX6_readClerk_11 : decode cX6_readClerk 11 = .ok (.aload_n 0, 1) := by decide +kernel
theorem dX6_readClerk_12 : decode cX6_readClerk 12 = .ok (.getfield 25, 3) := by decide +kernel
theorem dX6_readClerk_15 : decode cX6_readClerk 15 = .ok (.istore_n 2, 1) := by decide +kernel
theorem dX6_readClerk_16 : decode cX6_readClerk 16 = .ok (.aload_n 0, 1) := by decide +kernel
theorem dX6_readClerk_17 : decode cX6_readClerk 17 = .ok (.bipush 7, 2) := by decide +kernel
theorem dX6_readClerk_19 : decode cX6_readClerk 19 = .ok (.invokevirtual 63, 3) := by decide +kernel
theorem dX6_readClerk_22 : decode cX6_readClerk 22 = .ok (.ifCond .ne 5, 3) := by decide +kernel
theorem dX6_readClerk_25 : decode cX6_readClerk 25 = .ok (.iconst 0, 1) := by decide +kernel
theorem dX6_readClerk_26 : decode cX6_readClerk 26 = .ok (.ireturn, 1) := by decide +kernel
theorem dX6_readClerk_27 : decode cX6_readClerk 27 = .ok (.aload_n 0, 1) := by decide +kernel
theorem dX6_readClerk_28 : decode cX6_readClerk 28 = .ok (.getfield 25, 3) := by decide +kernel
theorem dX6_readClerk_31 : decode cX6_readClerk 31 = .ok (.istore_n 3, 1) := by decide +kernel
theorem dX6_readClerk_32 : decode cX6_readClerk 32 = .ok (.aload_n 0, 1) := by decide +kernel
theorem dX6_readClerk_33 : decode cX6_readClerk 33 = .ok (.bipush 7, 2) := by decide +kernel
theorem dX6_readClerk_35 : decode cX6_readClerk 35 = .ok (.invokevirtual 63, 3) := by decide +kernel
theorem dX6_readClerk_38 : decode cX6_readClerk 38 = .ok (.ifCond .eq 12, 3) := by decide +kernel
theorem dX6_readClerk_41 : decode cX6_readClerk 41 = .ok (.aload_n 0, 1) := by decide +kernel
theorem dX6_readClerk_42 : decode cX6_readClerk 42 = .ok (.getfield 25, 3) := by decide +kernel
theorem dX6_readClerk_45 : decode cX6_readClerk 45 = .ok (.iload_n 3, 1) := by decide +kernel
theorem dX6_readClerk_46 : decode cX6_readClerk 46 = .ok (.iand, 1) := by decide +kernel
theorem dX6_readClerk_47 : decode cX6_readClerk 47 = .ok (.ifCond .eq 5, 3) := by decide +kernel
theorem dX6_readClerk_50 : decode cX6_readClerk 50 = .ok (.iconst 0, 1) := by decide +kernel
theorem dX6_readClerk_51 : decode cX6_readClerk 51 = .ok (.ireturn, 1) := by decide +kernel
theorem dX6_readClerk_52 : decode cX6_readClerk 52 = .ok (.aload_n 0, 1) := by decide +kernel
theorem dX6_readClerk_53 : decode cX6_readClerk 53 = .ok (.getfield 25, 3) := by decide +kernel
theorem dX6_readClerk_56 : decode cX6_readClerk 56 = .ok (.istore 4, 2) := by decide +kernel
theorem dX6_readClerk_58 : decode cX6_readClerk 58 = .ok (.aload_n 0, 1) := by decide +kernel
theorem dX6_readClerk_59 : decode cX6_readClerk 59 = .ok (.bipush 10, 2) := by decide +kernel
theorem dX6_readClerk_61 : decode cX6_readClerk 61 = .ok (.invokevirtual 63, 3) := by decide +kernel
theorem dX6_readClerk_64 : decode cX6_readClerk 64 = .ok (.ifCond .ne 5, 3) := by decide +kernel
theorem dX6_readClerk_67 : decode cX6_readClerk 67 = .ok (.iconst 0, 1) := by decide +kernel
theorem dX6_readClerk_68 : decode cX6_readClerk 68 = .ok (.ireturn, 1) := by decide +kernel
theorem dX6_readClerk_69 : decode cX6_readClerk 69 = .ok (.aload_n 1, 1) := by decide +kernel
theorem dX6_readClerk_70 : decode cX6_readClerk 70 = .ok (.iload_n 2, 1) := by decide +kernel
theorem dX6_readClerk_71 : decode cX6_readClerk 71 = .ok (.iload_n 3, 1) := by decide +kernel
theorem dX6_readClerk_72 : decode cX6_readClerk 72 = .ok (.iload 4, 2) := by decide +kernel
theorem dX6_readClerk_74 : decode cX6_readClerk 74 = .ok (.aload_n 0, 1) := by decide +kernel
theorem dX6_readClerk_75 : decode cX6_readClerk 75 = .ok (.getfield 25, 3) := by decide +kernel
theorem dX6_readClerk_78 : decode cX6_readClerk 78 = .ok (.invokevirtual 67, 3) := by decide +kernel
theorem dX6_readClerk_81 : decode cX6_readClerk 81 = .ok (.aload_n 0, 1) := by decide +kernel
theorem dX6_readClerk_82 : decode cX6_readClerk 82 = .ok (.invokevirtual 33, 3) := by decide +kernel
theorem dX6_readClerk_85 : decode cX6_readClerk 85 = .ok (.iconst 3, 1) := by decide +kernel
theorem dX6_readClerk_86 : decode cX6_readClerk 86 = .ok (.if_icmp .ne 7, 3) := by decide +kernel
theorem dX6_readClerk_89 : decode cX6_readClerk 89 = .ok (.iconst 1, 1) := by decide +kernel
theorem dX6_readClerk_90 : decode cX6_readClerk 90 = .ok (.goto 4, 3) := by decide +kernel
theorem dX6_readClerk_93 : decode cX6_readClerk 93 = .ok (.iconst 0, 1) := by decide +kernel
theorem dX6_readClerk_94 : decode cX6_readClerk 94 = .ok (.ireturn, 1) := by decide +kernel
set_option maxRecDepth 20000 in
theorem ggX6_readFirstLine_X6_takeNumber : GoodIn wsX6_readFirstLine wsX6_takeNumber := goodIn_r _ [6, 7, 8, 1, 9, 10, 11, 12, 5, 13, 14, 15, 16, 17, 18, 19, 20, 21, 22] (by decide +kernel) (by decide +kernel)
set_option maxRecDepth 20000 in
theorem gX6_readFirstLine_X6_takeNumber : GoodIn wsX6_readFirstLine (wsV RX6 63 RX6 yX6_takeNumber wsX6_takeNumber) := goodIn_app (goodIn_of _ (by decide +kernel)) ggX6_readFirstLine_X6_takeNumber
set_option maxRecDepth 20000 in
theorem ggX6_readFirstLine_X6_take : GoodIn wsX6_readFirstLine wsX6_take := goodIn_r _ [13, 7, 14, 9, 8, 15, 16, 5, 17, 18, 19, 20, 21, 22] (by decide +kernel) (by decide +kernel)
set_option maxRecDepth 20000 in
theorem gX6_readFirstLine_X6_take : GoodIn wsX6_readFirstLine (wsV RX6 33 RX6 yX6_take wsX6_take) := goodIn_app (goodIn_of _ (by decide +kernel)) ggX6_readFirstLine_X6_take
theorem dX6_readFirstLine_0 : decode cX6_readFirstLine 0 = .ok (.aload_n 0, 1) := by decide +kernel
theorem dX6_readFirstLine_1 : decode cX6_readFirstLine 1 = .ok (.bipush 9, 2) := by decide +kernel
theorem dX6_readFirstLine_3 : decode cX6_readFirstLine 3 = .ok (.invokevirtual 63, 3) := by decide +kernel
theorem dX6_readFirstLine_6 : decode cX6_readFirstLine 6 = .ok (.ifCond .ne 5, 3) := by decide +kernel
theorem dX6_readFirstLine_9 : decode cX6_readFirstLine 9 = .ok (.iconst 0, 1) := by decide +kernel
theorem dX6_readFirstLine_10 : decode cX6_readFirstLine 10 = .ok (.ireturn, 1) := by decide +kernel
theorem dX6_readFirstLine_11 : decode cX6_readFirstLine 11 = .ok (.aload_n 1, 1) := by decide +kernel
theorem dX6_readFirstLine_12 : decode cX6_readFirstLine 12 = .ok (.aload_n 0, 1) := by decide +kernel
theorem dX6_readFirstLine_13 : decode cX6_readFirstLine 13 = .ok (.getfield 25, 3) := by decide +kernel
theorem dX6_readFirstLine_16 : decode cX6_readFirstLine 16 = .ok (.putfield 71, 3) := by decide +kernel
theorem dX6_readFirstLine_19 : decode cX6_readFirstLine 19 = .ok (.aload_n 0, 1) := by decide +kernel
theorem dX6_readFirstLine_20 : decode cX6_readFirstLine 20 = .ok (.bipush 7, 2) := by decide +kernel
theorem dX6_readFirstLine_22 : decode cX6_readFirstLine 22 = .ok (.invokevirtual 63, 3) := by decide +kernel
theorem dX6_readFirstLine_25 : decode cX6_readFirstLine 25 = .ok (.ifCond .ne 5, 3) := by decide +kernel
theorem dX6_readFirstLine_28 : decode cX6_readFirstLine 28 = .ok (.iconst 0, 1) := by decide +kernel
theorem dX6_readFirstLine_29 : decode cX6_readFirstLine 29 = .ok (.ireturn, 1) := by decide +kernel
theorem dX6_readFirstLine_30 : decode cX6_readFirstLine 30 = .ok (.aload_n 1, 1) := by decide +kernel
theorem dX6_readFirstLine_31 : decode cX6_readFirstLine 31 = .ok (.aload_n 0, 1) := by decide +kernel
theorem dX6_readFirstLine_32 : decode cX6_readFirstLine 32 = .ok (.getfield 25, 3) := by decide +kernel
theorem dX6_readFirstLine_35 : decode cX6_readFirstLine 35 = .ok (.putfield 74, 3) := by decide +kernel
theorem dX6_readFirstLine_38 : decode cX6_readFirstLine 38 = .ok (.aload_n 1, 1) := by decide +kernel
theorem dX6_readFirstLine_39 : decode cX6_readFirstLine 39 = .ok (.iconst 1, 1) := by decide +kernel
theorem dX6_readFirstLine_40 : decode cX6_readFirstLine 40 = .ok (.putfield 56, 3) := by decide +kernel
theorem dX6_readFirstLine_43 : decode cX6_readFirstLine 43 = .ok (.aload_n 0, 1) := by decide +kernel
theorem dX6_readFirstLine_44 : decode cX6_readFirstLine 44 = .ok (.invokevirtual 33, 3) := by decide +kernel
theorem dX6_readFirstLine_47 : decode cX6_readFirstLine 47 = .ok (.iconst 3, 1) := by decide +kernel
theorem dX6_readFirstLine_48 : decode cX6_readFirstLine 48 = .ok (.if_icmp .ne 7, 3) := by decide +kernel
theorem dX6_readFirstLine_51 : decode cX6_readFirstLine 51 = .ok (.iconst 1, 1) := by decide +kernel
theorem dX6_readFirstLine_52 : decode cX6_readFirstLine 52 = .ok (.goto 4, 3) := by decide +kernel
theorem dX6_readFirstLine_55 : decode cX6_readFirstLine 55 = .ok (.iconst 0, 1) := by decide +kernel
theorem dX6_readFirstLine_56 : decode cX6_readFirstLine 56 = .ok (.ireturn, 1) := by decide +kernel
set_option maxRecDepth 20000 in
theorem ggX6_takeNumber_X6_take : GoodIn wsX6_takeNumber wsX6_take := goodIn_r _ [9, 1, 10, 4, 2, 11, 12, 8, 13, 14, 15, 16, 17, 18] (by decide +kernel) (by decide +kernel)
set_option maxRecDepth 20000 in
theorem gX6_takeNumber_X6_take : GoodIn wsX6_takeNumber (wsV RX6 33 RX6 yX6_take wsX6_take) := goodIn_app (goodIn_of _ (by decide +kernel)) ggX6_takeNumber_X6_take
theorem dX6_takeNumber_0 : decode cX6_takeNumber 0 = .ok (.aload_n 0, 1) := by decide +kernel
theorem dX6_takeNumber_1 : decode cX6_takeNumber 1 = .ok (.invokevirtual 33, 3) := by decide +kernel
theorem dX6_takeNumber_4 : decode cX6_takeNumber 4 = .ok (.iconst 2, 1) := by decide +kernel
theorem dX6_takeNumber_5 : decode cX6_takeNumber 5 = .ok (.if_icmp .ne 16, 3) := by decide +kernel
theorem dX6_takeNumber_8 : decode cX6_takeNumber 8 = .ok (.aload_n 0, 1) := by decide +kernel
theorem dX6_takeNumber_9 : decode cX6_takeNumber 9 = .ok (.getfield 19, 3) := by decide +kernel
theorem dX6_takeNumber_12 : decode cX6_takeNumber 12 = .ok (.aload_n 0, 1) := by decide +kernel
theorem dX6_takeNumber_13 : decode cX6_takeNumber 13 = .ok (.getfield 22, 3) := by decide +kernel
theorem dX6_takeNumber_16 : decode cX6_takeNumber 16 = .ok (.isub, 1) := by decide +kernel
theorem dX6_takeNumber_17 : decode cX6_takeNumber 17 = .ok (.iconst 2, 1) := by decide +kernel
theorem dX6_takeNumber_18 : decode cX6_takeNumber 18 = .ok (.if_icmp .le 5, 3) := by decide +kernel
theorem dX6_takeNumber_21 : decode cX6_takeNumber 21 = .ok (.iconst 0, 1) := by decide +kernel
theorem dX6_takeNumber_22 : decode cX6_takeNumber 22 = .ok (.ireturn, 1) := by decide +kernel
theorem dX6_takeNumber_23 : decode cX6_takeNumber 23 = .ok (.aload_n 0, 1) := by decide +kernel
theorem dX6_takeNumber_24 : decode cX6_takeNumber 24 = .ok (.iconst 0, 1) := by decide +kernel
theorem dX6_takeNumber_25 : decode cX6_takeNumber 25 = .ok (.putfield 25, 3) := by decide +kernel
theorem dX6_takeNumber_28 : decode cX6_takeNumber 28 = .ok (.aload_n 0, 1) := by decide +kernel
theorem dX6_takeNumber_29 : decode cX6_takeNumber 29 = .ok (.getfield 22, 3) := by decide +kernel
theorem dX6_takeNumber_32 : decode cX6_takeNumber 32 = .ok (.istore_n 2, 1) := by decide +kernel
theorem dX6_takeNumber_33 : decode cX6_takeNumber 33 = .ok (.iload_n 2, 1) := by decide +kernel
theorem dX6_takeNumber_34 : decode cX6_takeNumber 34 = .ok (.aload_n 0, 1) := by decide +kernel
theorem dX6_takeNumber_35 : decode cX6_takeNumber 35 = .ok (.getfield 19, 3) := by decide +kernel
theorem dX6_takeNumber_38 : decode cX6_takeNumber 38 = .ok (.if_icmp .ge 30, 3) := by decide +kernel
theorem dX6_takeNumber_41 : decode cX6_takeNumber 41 = .ok (.aload_n 0, 1) := by decide +kernel
theorem dX6_takeNumber_42 : decode cX6_takeNumber 42 = .ok (.bipush 10, 2) := by decide +kernel
theorem dX6_takeNumber_44 : decode cX6_takeNumber 44 = .ok (.aload_n 0, 1) := by decide +kernel
theorem dX6_takeNumber_45 : decode cX6_takeNumber 45 = .ok (.getfield 25, 3) := by decide +kernel
theorem dX6_takeNumber_48 : decode cX6_takeNumber 48 = .ok (.imul, 1) := by decide +kernel
theorem dX6_takeNumber_49 : decode cX6_takeNumber 49 = .ok (.aload_n 0, 1) := by decide +kernel
theorem dX6_takeNumber_50 : decode cX6_takeNumber 50 = .ok (.getfield 9, 3) := by decide +kernel
theorem dX6_takeNumber_53 : decode cX6_takeNumber 53 = .ok (.iload_n 2, 1) := by decide +kernel
theorem dX6_takeNumber_54 : decode cX6_takeNumber 54 = .ok (.baload, 1) := by decide +kernel
theorem dX6_takeNumber_55 : decode cX6_takeNumber 55 = .ok (.iadd, 1) := by decide +kernel
theorem dX6_takeNumber_56 : decode cX6_takeNumber 56 = .ok (.bipush 48, 2) := by decide +kernel
theorem dX6_takeNumber_58 : decode cX6_takeNumber 58 = .ok (.isub, 1) := by decide +kernel
theorem dX6_takeNumber_59 : decode cX6_takeNumber 59 = .ok (.putfield 25, 3) := by decide +kernel
theorem dX6_takeNumber_62 : decode cX6_takeNumber 62 = .ok (.iinc 2 1, 3) := by decide +kernel
theorem dX6_takeNumber_65 : decode cX6_takeNumber 65 = .ok (.goto (-32), 3) := by decide +kernel
theorem dX6_takeNumber_68 : decode cX6_takeNumber 68 = .ok (.aload_n 0, 1) := by decide +kernel
theorem dX6_takeNumber_69 : decode cX6_takeNumber 69 = .ok (.getfield 19, 3) := by decide +kernel
theorem dX6_takeNumber_72 : decode cX6_takeNumber 72 = .ok (.aload_n 0, 1) := by decide +kernel
theorem dX6_takeNumber_73 : decode cX6_takeNumber 73 = .ok (.getfield 22, 3) := by decide +kernel
theorem dX6_takeNumber_76 : decode cX6_takeNumber 76 = .ok (.isub, 1) := by decide +kernel
theorem dX6_takeNumber_77 : decode cX6_takeNumber 77 = .ok (.iconst 2, 1) := by decide +kernel
theorem dX6_takeNumber_78 : decode cX6_takeNumber 78 = .ok (.if_icmp .ne 16, 3) := by decide +kernel
theorem dX6_takeNumber_81 : decode cX6_takeNumber 81 = .ok (.aload_n 0, 1) := by decide +kernel
theorem dX6_takeNumber_82 : decode cX6_takeNumber 82 = .ok (.getfield 25, 3) := by decide +kernel
theorem dX6_takeNumber_85 : decode cX6_takeNumber 85 = .ok (.bipush 10, 2) := by decide +kernel
theorem dX6_takeNumber_87 : decode cX6_takeNumber 87 = .ok (.if_icmp .ge 7, 3) := by decide +kernel
theorem dX6_takeNumber_90 : decode cX6_takeNumber 90 = .ok (.iconst 1, 1) := by decide +kernel
theorem dX6_takeNumber_91 : decode cX6_takeNumber 91 = .ok (.goto 4, 3) := by decide +kernel
theorem dX6_takeNumber_94 : decode cX6_takeNumber 94 = .ok (.iconst 0, 1) := by decide +kernel
theorem dX6_takeNumber_95 : decode cX6_takeNumber 95 = .ok (.istore_n 2, 1) := by decide +kernel
theorem dX6_takeNumber_96 : decode cX6_takeNumber 96 = .ok (.iload_n 2, 1) := by decide +kernel
theorem dX6_takeNumber_97 : decode cX6_takeNumber 97 = .ok (.ifCond .ne 15, 3) := by decide +kernel
theorem dX6_takeNumber_100 : decode cX6_takeNumber 100 = .ok (.aload_n 0, 1) := by decide +kernel
theorem dX6_takeNumber_101 : decode cX6_takeNumber 101 = .ok (.getfield 25, 3) := by decide +kernel
theorem dX6_takeNumber_104 : decode cX6_takeNumber 104 = .ok (.iload_n 1, 1) := by decide +kernel
theorem dX6_takeNumber_105 : decode cX6_takeNumber 105 = .ok (.if_icmp .gt 7, 3) := by decide +kernel
theorem dX6_takeNumber_108 : decode cX6_takeNumber 108 = .ok (.iconst 1, 1) := by decide +kernel
theorem dX6_takeNumber_109 : decode cX6_takeNumber 109 = .ok (.goto 4, 3) := by decide +kernel
theorem dX6_takeNumber_112 : decode cX6_takeNumber 112 = .ok (.iconst 0, 1) := by decide +kernel
theorem dX6_takeNumber_113 : decode cX6_takeNumber 113 = .ok (.ireturn, 1) := by decide +kernel
set_option maxRecDepth 20000 in
theorem ggX6_take_X6_sortOf : GoodIn wsX6_take wsX6_sortOf := goodIn_r _ [8] (by decide +kernel) (by decide +kernel)
set_option maxRecDepth 20000 in
theorem gX6_take_X6_sortOf : GoodIn wsX6_take (va_wsS RX6 77 yX6_sortOf wsX6_sortOf) := goodIn_app (goodIn_of _ (by decide +kernel)) ggX6_take_X6_sortOf
theorem dX6_take_0 : decode cX6_take 0 = .ok (.aload_n 0, 1) := by decide +kernel
theorem dX6_take_1 : decode cX6_take 1 = .ok (.getfield 19, 3) := by decide +kernel
theorem dX6_take_4 : decode cX6_take 4 = .ok (.aload_n 0, 1) := by decide +kernel
theorem dX6_take_5 : decode cX6_take 5 = .ok (.getfield 15, 3) := by decide +kernel
theorem dX6_take_8 : decode cX6_take 8 = .ok (.if_icmp .ge 30, 3) := by decide +kernel
theorem dX6_take_11 : decode cX6_take 11 = .ok (.aload_n 0, 1) := by decide +kernel
theorem dX6_take_12 : decode cX6_take 12 = .ok (.getfield 9, 3) := by decide +kernel
theorem dX6_take_15 : decode cX6_take 15 = .ok (.aload_n 0, 1) := by decide +kernel
theorem dX6_take_16 : decode cX6_take 16 = .ok (.getfield 19, 3) := by decide +kernel
theorem dX6_take_19 : decode cX6_take 19 = .ok (.baload, 1) := by decide +kernel
theorem dX6_take_20 : decode cX6_take 20 = .ok (.bipush 32, 2) := by decide +kernel
theorem dX6_take_22 : decode cX6_take 22 = .ok (.if_icmp .ne 16, 3) := by decide +kernel
theorem dX6_take_25 : decode cX6_take 25 = .ok (.aload_n 0, 1) := by decide +kernel
theorem dX6_take_26 : decode cX6_take 26 = .ok (.dup, 1) := by decide +kernel
theorem dX6_take_27 : decode cX6_take 27 = .ok (.getfield 19, 3) := by decide +kernel
theorem dX6_take_30 : decode cX6_take 30 = .ok (.iconst 1, 1) := by decide +kernel
theorem dX6_take_31 : decode cX6_take 31 = .ok (.iadd, 1) := by decide +kernel
theorem dX6_take_32 : decode cX6_take 32 = .ok (.putfield 19, 3) := by decide +kernel
theorem dX6_take_35 : decode cX6_take 35 = .ok (.goto (-35), 3) := by decide +kernel
theorem dX6_take_38 : decode cX6_take 38 = .ok (.aload_n 0, 1) := by decide +kernel
theorem dX6_take_39 : decode cX6_take 39 = .ok (.aload_n 0, 1) := by decide +kernel
theorem dX6_take_40 : decode cX6_take 40 = .ok (.getfield 19, 3) := by decide +kernel
theorem dX6_take_43 : decode cX6_take 43 = .ok (.putfield 22, 3) := by decide +kernel
theorem dX6_take_46 : decode cX6_take 46 = .ok (.aload_n 0, 1) := by decide +kernel
theorem dX6_take_47 : decode cX6_take 47 = .ok (.getfield 19, 3) := by decide +kernel
theorem dX6_take_50 : decode cX6_take 50 = .ok (.aload_n 0, 1) := by decide +kernel
theorem dX6_take_51 : decode cX6_take 51 = .ok (.getfield 15, 3) := by decide +kernel
theorem dX6_take_54 : decode cX6_take 54 = .ok (.if_icmp .lt 5, 3) := by decide +kernel
theorem dX6_take_57 : decode cX6_take 57 = .ok (.iconst 0, 1) := by decide +kernel
theorem dX6_take_58 : decode cX6_take 58 = .ok (.ireturn, 1) := by decide +kernel
theorem dX6_take_59 : decode cX6_take 59 = .ok (.aload_n 0, 1) := by decide +kernel
theorem dX6_take_60 : decode cX6_take 60 = .ok (.getfield 9, 3) := by decide +kernel
theorem dX6_take_63 : decode cX6_take 63 = .ok (.aload_n 0, 1) := by decide +kernel
theorem dX6_take_64 : decode cX6_take 64 = .ok (.getfield 19, 3) := by decide +kernel
theorem dX6_take_67 : decode cX6_take 67 = .ok (.baload, 1) := by decide +kernel
theorem dX6_take_68 : decode cX6_take 68 = .ok (.invokestatic 77, 3) := by decide +kernel
theorem dX6_take_71 : decode cX6_take 71 = .ok (.istore_n 1, 1) := by decide +kernel
theorem dX6_take_72 : decode cX6_take 72 = .ok (.aload_n 0, 1) := by decide +kernel
theorem dX6_take_73 : decode cX6_take 73 = .ok (.dup, 1) := by decide +kernel
theorem dX6_take_74 : decode cX6_take 74 = .ok (.getfield 19, 3) := by decide +kernel
theorem dX6_take_77 : decode cX6_take 77 = .ok (.iconst 1, 1) := by decide +kernel
theorem dX6_take_78 : decode cX6_take 78 = .ok (.iadd, 1) := by decide +kernel
theorem dX6_take_79 : decode cX6_take 79 = .ok (.putfield 19, 3) := by decide +kernel
theorem dX6_take_82 : decode cX6_take 82 = .ok (.iload_n 1, 1) := by decide +kernel
theorem dX6_take_83 : decode cX6_take 83 = .ok (.iconst 1, 1) := by decide +kernel
theorem dX6_take_84 : decode cX6_take 84 = .ok (.if_icmp .eq 8, 3) := by decide +kernel
theorem dX6_take_87 : decode cX6_take 87 = .ok (.iload_n 1, 1) := by decide +kernel
theorem dX6_take_88 : decode cX6_take 88 = .ok (.iconst 2, 1) := by decide +kernel
theorem dX6_take_89 : decode cX6_take 89 = .ok (.if_icmp .ne 43, 3) := by decide +kernel
theorem dX6_take_92 : decode cX6_take 92 = .ok (.aload_n 0, 1) := by decide +kernel
theorem dX6_take_93 : decode cX6_take 93 = .ok (.getfield 19, 3) := by decide +kernel
theorem dX6_take_96 : decode cX6_take 96 = .ok (.aload_n 0, 1) := by decide +kernel
theorem dX6_take_97 : decode cX6_take 97 = .ok (.getfield 15, 3) := by decide +kernel
theorem dX6_take_100 : decode cX6_take 100 = .ok (.if_icmp .ge 32, 3) := by decide +kernel
theorem dX6_take_103 : decode cX6_take 103 = .ok (.aload_n 0, 1) := by decide +kernel
theorem dX6_take_104 : decode cX6_take 104 = .ok (.getfield 9, 3) := by decide +kernel
theorem dX6_take_107 : decode cX6_take 107 = .ok (.aload_n 0, 1) := by decide +kernel
theorem dX6_take_108 : decode cX6_take 108 = .ok (.getfield 19, 3) := by decide +kernel
theorem dX6_take_111 : decode cX6_take 111 = .ok (.baload, 1) := by decide +kernel
theorem dX6_take_112 : decode cX6_take 112 = .ok (.invokestatic 77, 3) := by decide +kernel
theorem dX6_take_115 : decode cX6_take 115 = .ok (.iload_n 1, 1) := by decide +kernel
theorem dX6_take_116 : decode cX6_take 116 = .ok (.if_icmp .ne 16, 3) := by decide +kernel
theorem dX6_take_119 : decode cX6_take 119 = .ok (.aload_n 0, 1) := by decide +kernel
theorem dX6_take_120 : decode cX6_take 120 = .ok (.dup, 1) := by decide +kernel
theorem dX6_take_121 : decode cX6_take 121 = .ok (.getfield 19, 3) := by decide +kernel
theorem dX6_take_124 : decode cX6_take 124 = .ok (.iconst 1, 1) := by decide +kernel
theorem dX6_take_125 : decode cX6_take 125 = .ok (.iadd, 1) := by decide +kernel
theorem dX6_take_126 : decode cX6_take 126 = .ok (.putfield 19, 3) := by decide +kernel
theorem dX6_take_129 : decode cX6_take 129 = .ok (.goto (-37), 3) := by decide +kernel
theorem dX6_take_132 : decode cX6_take 132 = .ok (.iload_n 1, 1) := by decide +kernel
theorem dX6_take_133 : decode cX6_take 133 = .ok (.ireturn, 1) := by decide +kernel
theorem dX6_sortOf_0 : decode cX6_sortOf 0 = .ok (.iload_n 0, 1) := by decide +kernel
theorem dX6_sortOf_1 : decode cX6_sortOf 1 = .ok (.bipush 97, 2) := by decide +kernel
theorem dX6_sortOf_3 : decode cX6_sortOf 3 = .ok (.if_icmp .lt 11, 3) := by decide +kernel
theorem dX6_sortOf_6 : decode cX6_sortOf 6 = .ok (.iload_n 0, 1) := by decide +kernel
theorem dX6_sortOf_7 : decode cX6_sortOf 7 = .ok (.bipush 122, 2) := by decide +kernel
theorem dX6_sortOf_9 : decode cX6_sortOf 9 = .ok (.if_icmp .gt 5, 3) := by decide +kernel
theorem dX6_sortOf_12 : decode cX6_sortOf 12 = .ok (.iconst 1, 1) := by decide +kernel
theorem dX6_sortOf_13 : decode cX6_sortOf 13 = .ok (.ireturn, 1) := by decide +kernel
theorem dX6_sortOf_14 : decode cX6_sortOf 14 = .ok (.iload_n 0, 1) := by decide +kernel
theorem dX6_sortOf_15 : decode cX6_sortOf 15 = .ok (.bipush 48, 2) := by decide +kernel
theorem dX6_sortOf_17 : decode cX6_sortOf 17 = .ok (.if_icmp .lt 11, 3) := by decide +kernel
theorem dX6_sortOf_20 : decode cX6_sortOf 20 = .ok (.iload_n 0, 1) := by decide +kernel
theorem dX6_sortOf_21 : decode cX6_sortOf 21 = .ok (.bipush 57, 2) := by decide +kernel
theorem dX6_sortOf_23 : decode cX6_sortOf 23 = .ok (.if_icmp .gt 5, 3) := by decide +kernel
theorem dX6_sortOf_26 : decode cX6_sortOf 26 = .ok (.iconst 2, 1) := by decide +kernel
theorem dX6_sortOf_27 : decode cX6_sortOf 27 = .ok (.ireturn, 1) := by decide +kernel
theorem dX6_sortOf_28 : decode cX6_sortOf 28 = .ok (.iload_n 0, 1) := by decide +kernel
theorem dX6_sortOf_29 : decode cX6_sortOf 29 = .ok (.bipush 59, 2) := by decide +kernel
theorem dX6_sortOf_31 : decode cX6_sortOf 31 = .ok (.if_icmp .ne 7, 3) := by decide +kernel
theorem dX6_sortOf_34 : decode cX6_sortOf 34 = .ok (.iconst 3, 1) := by decide +kernel
theorem dX6_sortOf_35 : decode cX6_sortOf 35 = .ok (.goto 4, 3) := by decide +kernel
theorem dX6_sortOf_38 : decode cX6_sortOf 38 = .ok (.iconst 4, 1) := by decide +kernel
theorem dX6_sortOf_39 : decode cX6_sortOf 39 = .ok (.ireturn, 1) := by decide +kernel
set_option maxRecDepth 20000 in
theorem ggX6_tookWord_J0_length_8abf5 : GoodIn wsX6_tookWord wsJ0_length_8abf5 := goodIn_r _ [8, 9, 10, 11, 12, 7, 13, 14, 15] (by decide +kernel) (by decide +kernel)
set_option maxRecDepth 20000 in
theorem gX6_tookWord_J0_length_8abf5 : GoodIn wsX6_tookWord (wsV RX6 81 RJ0 yJ0_length_8abf5 wsJ0_length_8abf5) := goodIn_app (goodIn_of _ (by decide +kernel)) ggX6_tookWord_J0_length_8abf5
set_option maxRecDepth 20000 in
theorem ggX6_tookWord_J0_charAt_5068e : GoodIn wsX6_tookWord wsJ0_charAt_5068e := goodIn_r _ [19, 9, 20, 21, 22, 7, 23, 14, 15, 24, 25, 26, 27, 28, 29, 30, 31, 32, 33, 34, 35, 36, 37, 38, 39, 40, 41, 42, 43, 44, 45, 46, 47, 48, 49, 50, 51, 52] (by decide +kernel) (by decide +kernel)
set_option maxRecDepth 20000 in
theorem gX6_tookWord_J0_charAt_5068e : GoodIn wsX6_tookWord (wsV RX6 85 RJ0 yJ0_charAt_5068e wsJ0_charAt_5068e) := goodIn_app (goodIn_of _ (by decide +kernel)) ggX6_tookWord_J0_charAt_5068e
theorem dX6_tookWord_0 : decode cX6_tookWord 0 = .ok (.aload_n 0, 1) := by decide +kernel
theorem dX6_tookWord_1 : decode cX6_tookWord 1 = .ok (.getfield 19, 3) := by decide +kernel
theorem dX6_tookWord_4 : decode cX6_tookWord 4 = .ok (.aload_n 0, 1) := by decide +kernel
theorem dX6_tookWord_5 : decode cX6_tookWord 5 = .ok (.getfield 22, 3) := by decide +kernel
theorem dX6_tookWord_8 : decode cX6_tookWord 8 = .ok (.isub, 1) := by decide +kernel
theorem dX6_tookWord_9 : decode cX6_tookWord 9 = .ok (.aload_n 1, 1) := by decide +kernel
theorem dX6_tookWord_10 : decode cX6_tookWord 10 = .ok (.invokevirtual 81, 3) := by decide +kernel
theorem dX6_tookWord_13 : decode cX6_tookWord 13 = .ok (.if_icmp .eq 5, 3) := by decide +kernel
theorem dX6_tookWord_16 : decode cX6_tookWord 16 = .ok (.iconst 0, 1) := by decide +kernel
theorem dX6_tookWord_17 : decode cX6_tookWord 17 = .ok (.ireturn, 1) := by decide +kernel
theorem dX6_tookWord_18 : decode cX6_tookWord 18 = .ok (.iconst 0, 1) := by decide +kernel
theorem dX6_tookWord_19 : decode cX6_tookWord 19 = .ok (.istore_n 2, 1) := by decide +kernel
theorem dX6_tookWord_20 : decode cX6_tookWord 20 = .ok (.iload_n 2, 1) := by decide +kernel
theorem dX6_tookWord_21 : decode cX6_tookWord 21 = .ok (.aload_n 1, 1) := by decide +kernel
theorem dX6_tookWord_22 : decode cX6_tookWord 22 = .ok (.invokevirtual 81, 3) := by decide +kernel
theorem dX6_tookWord_25 : decode cX6_tookWord 25 = .ok (.if_icmp .ge 30, 3) := by decide +kernel
theorem dX6_tookWord_28 : decode cX6_tookWord 28 = .ok (.aload_n 0, 1) := by decide +kernel
theorem dX6_tookWord_29 : decode cX6_tookWord 29 = .ok (.getfield 9, 3) := by decide +kernel
theorem dX6_tookWord_32 : decode cX6_tookWord 32 = .ok (.aload_n 0, 1) := by decide +kernel
theorem dX6_tookWord_33 : decode cX6_tookWord 33 = .ok (.getfield 22, 3) := by decide +kernel
theorem dX6_tookWord_36 : decode cX6_tookWord 36 = .ok (.iload_n 2, 1) := by decide +kernel
theorem dX6_tookWord_37 : decode cX6_tookWord 37 = .ok (.iadd, 1) := by decide +kernel
theorem dX6_tookWord_38 : decode cX6_tookWord 38 = .ok (.baload, 1) := by decide +kernel
theorem dX6_tookWord_39 : decode cX6_tookWord 39 = .ok (.aload_n 1, 1) := by decide +kernel
theorem dX6_tookWord_40 : decode cX6_tookWord 40 = .ok (.iload_n 2, 1) := by decide +kernel
theorem dX6_tookWord_41 : decode cX6_tookWord 41 = .ok (.invokevirtual 85, 3) := by decide +kernel
theorem dX6_tookWord_44 : decode cX6_tookWord 44 = .ok (.if_icmp .eq 5, 3) := by decide +kernel
theorem dX6_tookWord_47 : decode cX6_tookWord 47 = .ok (.iconst 0, 1) := by decide +kernel
theorem dX6_tookWord_48 : decode cX6_tookWord 48 = .ok (.ireturn, 1) := by decide +kernel
theorem dX6_tookWord_49 : decode cX6_tookWord 49 = .ok (.iinc 2 1, 3) := by decide +kernel
theorem dX6_tookWord_52 : decode cX6_tookWord 52 = .ok (.goto (-32), 3) := by decide +kernel
theorem dX6_tookWord_55 : decode cX6_tookWord 55 = .ok (.iconst 1, 1) := by decide +kernel
theorem dX6_tookWord_56 : decode cX6_tookWord 56 = .ok (.ireturn, 1) := by decide +kernel
set_option maxRecDepth 20000 in
theorem ggX7_init_X6_init : GoodIn wsX7_init wsX6_init := goodIn_r _ [32, 33, 2, 3, 34, 35, 36, 37, 38, 39, 100, 101, 102, 103, 104] (by decide +kernel) (by decide +kernel)
set_option maxRecDepth 20000 in
theorem gX7_init_X6_init_n9 : GoodIn wsX7_init (wsX6_init) := ggX7_init_X6_init
set_option maxRecDepth 20000 in
theorem ggX7_init_X2_init : GoodIn wsX7_init wsX2_init := goodIn_r _ [41, 42, 2, 3, 43, 44, 45, 46, 47, 48, 114, 115, 116, 117, 118] (by decide +kernel) (by decide +kernel)
set_option maxRecDepth 20000 in
theorem gX7_init_X2_init_n18 : GoodIn wsX7_init (wsX2_init) := ggX7_init_X2_init
set_option maxRecDepth 20000 in
theorem ggX7_init_X5_init : GoodIn wsX7_init wsX5_init := goodIn_r _ [50, 51, 2, 3, 43, 52, 53, 54, 55, 56, 119, 120, 121, 122, 123] (by decide +kernel) (by decide +kernel)
set_option maxRecDepth 20000 in
theorem gX7_init_X5_init_n29 : GoodIn wsX7_init (wsX5_init) := ggX7_init_X5_init
set_option maxRecDepth 20000 in
theorem ggX7_init_X1_init : GoodIn wsX7_init wsX1_init := goodIn_r _ [58, 59, 2, 3, 43, 60, 61, 124, 125] (by decide +kernel) (by decide +kernel)
set_option maxRecDepth 20000 in
theorem gX7_init_X1_init_n36 : GoodIn wsX7_init (wsX1_init) := ggX7_init_X1_init
set_option maxRecDepth 20000 in
theorem ggX7_init_X4_init : GoodIn wsX7_init wsX4_init := goodIn_r _ [63, 64, 2, 3, 43, 65, 66, 67, 68, 126, 127, 128, 129] (by decide +kernel) (by decide +kernel)
set_option maxRecDepth 20000 in
theorem gX7_init_X4_init_n43 : GoodIn wsX7_init (wsX4_init) := ggX7_init_X4_init
set_option maxRecDepth 20000 in
theorem ggX7_init_X3_init : GoodIn wsX7_init wsX3_init := goodIn_r _ [71, 72, 2, 3, 73, 74, 75, 76, 77, 78, 79, 80, 81, 82, 27, 83, 84, 85, 86, 87, 130, 131, 132, 133, 134, 135, 136, 137, 138] (by decide +kernel) (by decide +kernel)
set_option maxRecDepth 20000 in
theorem gX7_init_X3_init : GoodIn wsX7_init (wsX3_init) := ggX7_init_X3_init
set_option maxRecDepth 20000 in
theorem ggX7_init_X2_begin : GoodIn wsX7_init wsX2_begin := goodIn_r _ [91, 47, 92, 93, 94, 10, 95, 44, 45, 46, 96, 97, 98, 99, 114, 115, 116, 117, 118] (by decide +kernel) (by decide +kernel)
set_option maxRecDepth 20000 in
theorem gX7_init_X2_begin : GoodIn wsX7_init (wsV RX7 69 RX2 yX2_begin wsX2_begin) := goodIn_app (goodIn_of _ (by decide +kernel)) ggX7_init_X2_begin
theorem dX7_init_0 : decode cX7_init 0 = .ok (.aload_n 0, 1) := by decide +kernel
theorem dX7_init_1 : decode cX7_init 1 = .ok (.invokespecial 1, 3) := by decide +kernel
theorem dX7_init_4 : decode cX7_init 4 = .ok (.aload_n 0, 1) := by decide +kernel
theorem dX7_init_5 : decode cX7_init 5 = .ok (.new 7, 3) := by decide +kernel
theorem dX7_init_8 : decode cX7_init 8 = .ok (.dup, 1) := by decide +kernel
theorem dX7_init_9 : decode cX7_init 9 = .ok (.invokespecial 9, 3) := by decide +kernel
theorem dX7_init_12 : decode cX7_init 12 = .ok (.putfield 10, 3) := by decide +kernel
theorem dX7_init_15 : decode cX7_init 15 = .ok (.aload_n 0, 1) := by decide +kernel
theorem dX7_init_16 : decode cX7_init 16 = .ok (.new 16, 3) := by decide +kernel
theorem dX7_init_19 : decode cX7_init 19 = .ok (.dup, 1) := by decide +kernel
theorem dX7_init_20 : decode cX7_init 20 = .ok (.invokespecial 18, 3) := by decide +kernel
theorem dX7_init_23 : decode cX7_init 23 = .ok (.putfield 19, 3) := by decide +kernel
theorem dX7_init_26 : decode cX7_init 26 = .ok (.aload_n 0, 1) := by decide +kernel
theorem dX7_init_27 : decode cX7_init 27 = .ok (.iconst 2, 1) := by decide +kernel
theorem dX7_init_28 : decode cX7_init 28 = .ok (.anewarray 16, 3) := by decide +kernel
theorem dX7_init_31 : decode cX7_init 31 = .ok (.dup, 1) := by decide +kernel
theorem dX7_init_32 : decode cX7_init 32 = .ok (.iconst 0, 1) := by decide +kernel
theorem dX7_init_33 : decode cX7_init 33 = .ok (.new 16, 3) := by decide +kernel
theorem dX7_init_36 : decode cX7_init 36 = .ok (.dup, 1) := by decide +kernel
theorem dX7_init_37 : decode cX7_init 37 = .ok (.invokespecial 18, 3) := by decide +kernel
theorem dX7_init_40 : decode cX7_init 40 = .ok (.aastore, 1) := by decide +kernel
theorem dX7_init_41 : decode cX7_init 41 = .ok (.dup, 1) := by decide +kernel
theorem dX7_init_42 : decode cX7_init 42 = .ok (.iconst 1, 1) := by decide +kernel
theorem dX7_init_43 : decode cX7_init 43 = .ok (.new 16, 3) := by decide +kernel
theorem dX7_init_46 : decode cX7_init 46 = .ok (.dup, 1) := by decide +kernel
theorem dX7_init_47 : decode cX7_init 47 = .ok (.invokespecial 18, 3) := by decide +kernel
theorem dX7_init_50 : decode cX7_init 50 = .ok (.aastore, 1) := by decide +kernel
theorem dX7_init_51 : decode cX7_init 51 = .ok (.putfield 23, 3) := by decide +kernel
theorem dX7_init_54 : decode cX7_init 54 = .ok (.aload_n 0, 1) := by decide +kernel
theorem dX7_init_55 : decode cX7_init 55 = .ok (.new 27, 3) := by decide +kernel
theorem dX7_init_58 : decode cX7_init 58 = .ok (.dup, 1) := by decide +kernel
theorem dX7_init_59 : decode cX7_init 59 = .ok (.invokespecial 29, 3) := by decide +kernel
theorem dX7_init_62 : decode cX7_init 62 = .ok (.putfield 30, 3) := by decide +kernel
theorem dX7_init_65 : decode cX7_init 65 = .ok (.aload_n 0, 1) := by decide +kernel
theorem dX7_init_66 : decode cX7_init 66 = .ok (.new 34, 3) := by decide +kernel
theorem dX7_init_69 : decode cX7_init 69 = .ok (.dup, 1) := by decide +kernel
theorem dX7_init_70 : decode cX7_init 70 = .ok (.invokespecial 36, 3) := by decide +kernel
theorem dX7_init_73 : decode cX7_init 73 = .ok (.putfield 37, 3) := by decide +kernel
theorem dX7_init_76 : decode cX7_init 76 = .ok (.aload_n 0, 1) := by decide +kernel
theorem dX7_init_77 : decode cX7_init 77 = .ok (.new 41, 3) := by decide +kernel
theorem dX7_init_80 : decode cX7_init 80 = .ok (.dup, 1) := by decide +kernel
theorem dX7_init_81 : decode cX7_init 81 = .ok (.invokespecial 43, 3) := by decide +kernel
theorem dX7_init_84 : decode cX7_init 84 = .ok (.putfield 44, 3) := by decide +kernel
theorem dX7_init_87 : decode cX7_init 87 = .ok (.aload_n 0, 1) := by decide +kernel
theorem dX7_init_88 : decode cX7_init 88 = .ok (.new 48, 3) := by decide +kernel
theorem dX7_init_91 : decode cX7_init 91 = .ok (.dup, 1) := by decide +kernel
theorem dX7_init_92 : decode cX7_init 92 = .ok (.invokespecial 50, 3) := by decide +kernel
theorem dX7_init_95 : decode cX7_init 95 = .ok (.putfield 51, 3) := by decide +kernel
theorem dX7_init_98 : decode cX7_init 98 = .ok (.aload_n 0, 1) := by decide +kernel
theorem dX7_init_99 : decode cX7_init 99 = .ok (.new 48, 3) := by decide +kernel
theorem dX7_init_102 : decode cX7_init 102 = .ok (.dup, 1) := by decide +kernel
theorem dX7_init_103 : decode cX7_init 103 = .ok (.invokespecial 50, 3) := by decide +kernel
theorem dX7_init_106 : decode cX7_init 106 = .ok (.putfield 55, 3) := by decide +kernel
theorem dX7_init_109 : decode cX7_init 109 = .ok (.aload_n 0, 1) := by decide +kernel
theorem dX7_init_110 : decode cX7_init 110 = .ok (.lconst 0, 1) := by decide +kernel
theorem dX7_init_111 : decode cX7_init 111 = .ok (.putfield 58, 3) := by decide +kernel
theorem dX7_init_114 : decode cX7_init 114 = .ok (.aload_n 0, 1) := by decide +kernel
theorem dX7_init_115 : decode cX7_init 115 = .ok (.getfield 19, 3) := by decide +kernel
theorem dX7_init_118 : decode cX7_init 118 = .ok (.aload_n 0, 1) := by decide +kernel
theorem dX7_init_119 : decode cX7_init 119 = .ok (.getfield 51, 3) := by decide +kernel
theorem dX7_init_122 : decode cX7_init 122 = .ok (.getfield 62, 3) := by decide +kernel
theorem dX7_init_125 : decode cX7_init 125 = .ok (.aload_n 0, 1) := by decide +kernel
theorem dX7_init_126 : decode cX7_init 126 = .ok (.getfield 51, 3) := by decide +kernel
theorem dX7_init_129 : decode cX7_init 129 = .ok (.getfield 66, 3) := by decide +kernel
theorem dX7_init_132 : decode cX7_init 132 = .ok (.invokevirtual 69, 3) := by decide +kernel
theorem dX7_init_135 : decode cX7_init 135 = .ok (.return_, 1) := by decide +kernel
set_option maxRecDepth 20000 in
theorem ggX7_type_X6_append : GoodIn wsX7_type wsX6_append := goodIn_r _ [6, 7, 8, 18, 19, 20, 21, 22] (by decide +kernel) (by decide +kernel)
set_option maxRecDepth 20000 in
theorem gX7_type_X6_append : GoodIn wsX7_type (wsV RX7 76 RX6 yX6_append wsX6_append) := goodIn_app (goodIn_of _ (by decide +kernel)) ggX7_type_X6_append
theorem dX7_type_0 : decode cX7_type 0 = .ok (.iload_n 3, 1) := by decide +kernel
theorem dX7_type_1 : decode cX7_type 1 = .ok (.iconst 1, 1) := by decide +kernel
theorem dX7_type_2 : decode cX7_type 2 = .ok (.if_icmp .lt 9, 3) := by decide +kernel
theorem dX7_type_5 : decode cX7_type 5 = .ok (.iload_n 3, 1) := by decide +kernel
theorem dX7_type_6 : decode cX7_type 6 = .ok (.bipush 8, 2) := by decide +kernel
theorem dX7_type_8 : decode cX7_type 8 = .ok (.if_icmp .le 5, 3) := by decide +kernel
theorem dX7_type_11 : decode cX7_type 11 = .ok (.iconst (-1), 1) := by decide +kernel
theorem dX7_type_12 : decode cX7_type 12 = .ok (.ireturn, 1) := by decide +kernel
theorem dX7_type_13 : decode cX7_type 13 = .ok (.iload_n 3, 1) := by decide +kernel
theorem dX7_type_14 : decode cX7_type 14 = .ok (.sipush 200, 3) := by decide +kernel
theorem dX7_type_17 : decode cX7_type 17 = .ok (.aload_n 0, 1) := by decide +kernel
theorem dX7_type_18 : decode cX7_type 18 = .ok (.getfield 10, 3) := by decide +kernel
theorem dX7_type_21 : decode cX7_type 21 = .ok (.getfield 73, 3) := by decide +kernel
theorem dX7_type_24 : decode cX7_type 24 = .ok (.isub, 1) := by decide +kernel
theorem dX7_type_25 : decode cX7_type 25 = .ok (.if_icmp .le 6, 3) := by decide +kernel
theorem dX7_type_28 : decode cX7_type 28 = .ok (.bipush (-3), 2) := by decide +kernel
theorem dX7_type_30 : decode cX7_type 30 = .ok (.ireturn, 1) := by decide +kernel
theorem dX7_type_31 : decode cX7_type 31 = .ok (.aload_n 0, 1) := by decide +kernel
theorem dX7_type_32 : decode cX7_type 32 = .ok (.getfield 10, 3) := by decide +kernel
theorem dX7_type_35 : decode cX7_type 35 = .ok (.lload_n 1, 1) := by decide +kernel
theorem dX7_type_36 : decode cX7_type 36 = .ok (.iload_n 3, 1) := by decide +kernel
theorem dX7_type_37 : decode cX7_type 37 = .ok (.invokevirtual 76, 3) := by decide +kernel
theorem dX7_type_40 : decode cX7_type 40 = .ok (.aload_n 0, 1) := by decide +kernel
theorem dX7_type_41 : decode cX7_type 41 = .ok (.getfield 10, 3) := by decide +kernel
theorem dX7_type_44 : decode cX7_type 44 = .ok (.getfield 73, 3) := by decide +kernel
theorem dX7_type_47 : decode cX7_type 47 = .ok (.ireturn, 1) := by decide +kernel
theorem dX7_clear_0 : decode cX7_clear 0 = .ok (.aload_n 0, 1) := by decide +kernel
theorem dX7_clear_1 : decode cX7_clear 1 = .ok (.getfield 10, 3) := by decide +kernel
theorem dX7_clear_4 : decode cX7_clear 4 = .ok (.getfield 73, 3) := by decide +kernel
theorem dX7_clear_7 : decode cX7_clear 7 = .ok (.istore_n 1, 1) := by decide +kernel
theorem dX7_clear_8 : decode cX7_clear 8 = .ok (.aload_n 0, 1) := by decide +kernel
theorem dX7_clear_9 : decode cX7_clear 9 = .ok (.getfield 10, 3) := by decide +kernel
theorem dX7_clear_12 : decode cX7_clear 12 = .ok (.iconst 0, 1) := by decide +kernel
theorem dX7_clear_13 : decode cX7_clear 13 = .ok (.putfield 73, 3) := by decide +kernel
theorem dX7_clear_16 : decode cX7_clear 16 = .ok (.iload_n 1, 1) := by decide +kernel
theorem dX7_clear_17 : decode cX7_clear 17 = .ok (.ireturn, 1) := by decide +kernel
set_option maxRecDepth 20000 in
theorem ggX7_chancery_X6_readInto : GoodIn wsX7_chancery wsX6_readInto := goodIn_r _ [8, 9, 10, 11, 12, 13, 14, 15, 16, 17, 18, 19, 20, 21, 7, 22, 23, 24, 25, 26, 27, 28, 29, 30, 31, 32, 33, 34, 35, 36, 37, 38, 39, 40, 41, 42, 43, 44, 45, 46, 47, 48, 49, 50, 51, 52, 53, 54, 55, 56, 57, 58, 59, 60, 61, 62, 63, 64, 65, 66, 67, 68, 69, 70, 71, 72, 73, 74, 75, 76, 77, 78, 79, 80, 81, 82, 83, 84, 85, 86, 87, 88, 89, 90, 91, 92, 93, 94, 95, 96, 97, 98, 99, 100, 101, 102, 103, 104, 105, 106, 107, 143, 144, 145, 146, 147, 148, 149, 150, 151, 152, 153, 154, 155, 156] (by decide +kernel) (by decide +kernel)
set_option maxRecDepth 20000 in
theorem gX7_chancery_X6_readInto : GoodIn wsX7_chancery (wsV RX7 80 RX6 yX6_readInto wsX6_readInto) := goodIn_app (goodIn_of _ (by decide +kernel)) ggX7_chancery_X6_readInto
set_option maxRecDepth 20000 in
theorem ggX7_chancery_X7_beginAnew : GoodIn wsX7_chancery wsX7_beginAnew := goodIn_r _ [112, 1, 113, 3, 114, 115, 116, 117, 118, 119, 120, 121, 122, 123, 124, 125, 126, 127, 128, 129, 130, 131, 132, 133, 134, 135, 136, 137, 138, 139, 140, 141, 142, 143, 144, 145, 146, 147, 148, 149, 150, 151, 152, 157, 158, 159, 160, 161, 162, 163, 164, 165, 166, 167, 168] (by decide +kernel) (by decide +kernel)
set_option maxRecDepth 20000 in
theorem gX7_chancery_X7_beginAnew : GoodIn wsX7_chancery (wsV RX7 84 RX7 yX7_beginAnew wsX7_beginAnew) := goodIn_app (goodIn_of _ (by decide +kernel)) ggX7_chancery_X7_beginAnew
theorem dX7_chancery_0 : decode cX7_chancery 0 = .ok (.aload_n 0, 1) := by decide +kernel
theorem dX7_chancery_1 : decode cX7_chancery 1 = .ok (.getfield 10, 3) := by decide +kernel
theorem dX7_chancery_4 : decode cX7_chancery 4 = .ok (.aload_n 0, 1) := by decide +kernel
theorem dX7_chancery_5 : decode cX7_chancery 5 = .ok (.getfield 55, 3) := by decide +kernel
theorem dX7_chancery_8 : decode cX7_chancery 8 = .ok (.invokevirtual 80, 3) := by decide +kernel
theorem dX7_chancery_11 : decode cX7_chancery 11 = .ok (.istore_n 1, 1) := by decide +kernel
theorem dX7_chancery_12 : decode cX7_chancery 12 = .ok (.iload_n 1, 1) := by decide +kernel
theorem dX7_chancery_13 : decode cX7_chancery 13 = .ok (.ifCond .ge 5, 3) := by decide +kernel
theorem dX7_chancery_16 : decode cX7_chancery 16 = .ok (.iload_n 1, 1) := by decide +kernel
theorem dX7_chancery_17 : decode cX7_chancery 17 = .ok (.ireturn, 1) := by decide +kernel
theorem dX7_chancery_18 : decode cX7_chancery 18 = .ok (.aload_n 0, 1) := by decide +kernel
theorem dX7_chancery_19 : decode cX7_chancery 19 = .ok (.getfield 51, 3) := by decide +kernel
theorem dX7_chancery_22 : decode cX7_chancery 22 = .ok (.astore_n 2, 1) := by decide +kernel
theorem dX7_chancery_23 : decode cX7_chancery 23 = .ok (.aload_n 0, 1) := by decide +kernel
theorem dX7_chancery_24 : decode cX7_chancery 24 = .ok (.aload_n 0, 1) := by decide +kernel
theorem dX7_chancery_25 : decode cX7_chancery 25 = .ok (.getfield 55, 3) := by decide +kernel
theorem dX7_chancery_28 : decode cX7_chancery 28 = .ok (.putfield 51, 3) := by decide +kernel
theorem dX7_chancery_31 : decode cX7_chancery 31 = .ok (.aload_n 0, 1) := by decide +kernel
theorem dX7_chancery_32 : decode cX7_chancery 32 = .ok (.aload_n 2, 1) := by decide +kernel
theorem dX7_chancery_33 : decode cX7_chancery 33 = .ok (.putfield 55, 3) := by decide +kernel
theorem dX7_chancery_36 : decode cX7_chancery 36 = .ok (.aload_n 0, 1) := by decide +kernel
theorem dX7_chancery_37 : decode cX7_chancery 37 = .ok (.invokevirtual 84, 3) := by decide +kernel
theorem dX7_chancery_40 : decode cX7_chancery 40 = .ok (.iload_n 1, 1) := by decide +kernel
theorem dX7_chancery_41 : decode cX7_chancery 41 = .ok (.ireturn, 1) := by decide +kernel
set_option maxRecDepth 20000 in
theorem ggX7_clerk_X3_find : GoodIn wsX7_clerk wsX3_find := goodIn_r _ [6, 7, 8, 22, 23, 24, 25, 26] (by decide +kernel) (by decide +kernel)
set_option maxRecDepth 20000 in
theorem gX7_clerk_X3_find : GoodIn wsX7_clerk (wsV RX7 87 RX3 yX3_find wsX3_find) := goodIn_app (goodIn_of _ (by decide +kernel)) ggX7_clerk_X3_find
theorem dX7_clerk_0 : decode cX7_clerk 0 = .ok (.aload_n 0, 1) := by decide +kernel
theorem dX7_clerk_1 : decode cX7_clerk 1 = .ok (.getfield 51, 3) := by decide +kernel
theorem dX7_clerk_4 : decode cX7_clerk 4 = .ok (.iload_n 1, 1) := by decide +kernel
theorem dX7_clerk_5 : decode cX7_clerk 5 = .ok (.invokevirtual 87, 3) := by decide +kernel
theorem dX7_clerk_8 : decode cX7_clerk 8 = .ok (.astore_n 3, 1) := by decide +kernel
theorem dX7_clerk_9 : decode cX7_clerk 9 = .ok (.aload_n 3, 1) := by decide +kernel
theorem dX7_clerk_10 : decode cX7_clerk 10 = .ok (.ifnonnull 5, 3) := by decide +kernel
theorem dX7_clerk_13 : decode cX7_clerk 13 = .ok (.iconst (-1), 1) := by decide +kernel
theorem dX7_clerk_14 : decode cX7_clerk 14 = .ok (.ireturn, 1) := by decide +kernel
theorem dX7_clerk_15 : decode cX7_clerk 15 = .ok (.iload_n 2, 1) := by decide +kernel
theorem dX7_clerk_16 : decode cX7_clerk 16 = .ok (.tableswitch 52 0 3 #[32, 37, 42, 47], 32) := by decide +kernel
theorem dX7_clerk_48 : decode cX7_clerk 48 = .ok (.aload_n 3, 1) := by decide +kernel
theorem dX7_clerk_49 : decode cX7_clerk 49 = .ok (.getfield 91, 3) := by decide +kernel
theorem dX7_clerk_52 : decode cX7_clerk 52 = .ok (.ireturn, 1) := by decide +kernel
theorem dX7_clerk_53 : decode cX7_clerk 53 = .ok (.aload_n 3, 1) := by decide +kernel
theorem dX7_clerk_54 : decode cX7_clerk 54 = .ok (.getfield 96, 3) := by decide +kernel
theorem dX7_clerk_57 : decode cX7_clerk 57 = .ok (.ireturn, 1) := by decide +kernel
theorem dX7_clerk_58 : decode cX7_clerk 58 = .ok (.aload_n 3, 1) := by decide +kernel
theorem dX7_clerk_59 : decode cX7_clerk 59 = .ok (.getfield 99, 3) := by decide +kernel
theorem dX7_clerk_62 : decode cX7_clerk 62 = .ok (.ireturn, 1) := by decide +kernel
theorem dX7_clerk_63 : decode cX7_clerk 63 = .ok (.aload_n 3, 1) := by decide +kernel
theorem dX7_clerk_64 : decode cX7_clerk 64 = .ok (.getfield 102, 3) := by decide +kernel
theorem dX7_clerk_67 : decode cX7_clerk 67 = .ok (.ireturn, 1) := by decide +kernel
theorem dX7_clerk_68 : decode cX7_clerk 68 = .ok (.iconst (-1), 1) := by decide +kernel
theorem dX7_clerk_69 : decode cX7_clerk 69 = .ok (.ireturn, 1) := by decide +kernel
theorem dX7_line_0 : decode cX7_line 0 = .ok (.iload_n 1, 1) := by decide +kernel
theorem dX7_line_1 : decode cX7_line 1 = .ok (.ifCond .lt 14, 3) := by decide +kernel
theorem dX7_line_4 : decode cX7_line 4 = .ok (.iload_n 1, 1) := by decide +kernel
theorem dX7_line_5 : decode cX7_line 5 = .ok (.aload_n 0, 1) := by decide +kernel
theorem dX7_line_6 : decode cX7_line 6 = .ok (.getfield 19, 3) := by decide +kernel
theorem dX7_line_9 : decode cX7_line 9 = .ok (.getfield 105, 3) := by decide +kernel
theorem dX7_line_12 : decode cX7_line 12 = .ok (.if_icmp .lt 5, 3) := by decide +kernel
theorem dX7_line_15 : decode cX7_line 15 = .ok (.iconst (-1), 1) := by decide +kernel
theorem dX7_line_16 : decode cX7_line 16 = .ok (.ireturn, 1) := by decide +kernel
theorem dX7_line_17 : decode cX7_line 17 = .ok (.iload_n 2, 1) := by decide +kernel
theorem dX7_line_18 : decode cX7_line 18 = .ok (.tableswitch 56 0 2 #[26, 36, 46], 26) := by decide +kernel
theorem dX7_line_44 : decode cX7_line 44 = .ok (.aload_n 0, 1) := by decide +kernel
theorem dX7_line_45 : decode cX7_line 45 = .ok (.getfield 19, 3) := by decide +kernel
theorem dX7_line_48 : decode cX7_line 48 = .ok (.getfield 108, 3) := by decide +kernel
theorem dX7_line_51 : decode cX7_line 51 = .ok (.iload_n 1, 1) := by decide +kernel
theorem dX7_line_52 : decode cX7_line 52 = .ok (.iaload, 1) := by decide +kernel
theorem dX7_line_53 : decode cX7_line 53 = .ok (.ireturn, 1) := by decide +kernel
theorem dX7_line_54 : decode cX7_line 54 = .ok (.aload_n 0, 1) := by decide +kernel
theorem dX7_line_55 : decode cX7_line 55 = .ok (.getfield 19, 3) := by decide +kernel
theorem dX7_line_58 : decode cX7_line 58 = .ok (.getfield 112, 3) := by decide +kernel
theorem dX7_line_61 : decode cX7_line 61 = .ok (.iload_n 1, 1) := by decide +kernel
theorem dX7_line_62 : decode cX7_line 62 = .ok (.iaload, 1) := by decide +kernel
theorem dX7_line_63 : decode cX7_line 63 = .ok (.ireturn, 1) := by decide +kernel
theorem dX7_line_64 : decode cX7_line 64 = .ok (.aload_n 0, 1) := by decide +kernel
theorem dX7_line_65 : decode cX7_line 65 = .ok (.getfield 19, 3) := by decide +kernel
theorem dX7_line_68 : decode cX7_line 68 = .ok (.getfield 115, 3) := by decide +kernel
theorem dX7_line_71 : decode cX7_line 71 = .ok (.iload_n 1, 1) := by decide +kernel
theorem dX7_line_72 : decode cX7_line 72 = .ok (.iaload, 1) := by decide +kernel
theorem dX7_line_73 : decode cX7_line 73 = .ok (.ireturn, 1) := by decide +kernel
theorem dX7_line_74 : decode cX7_line 74 = .ok (.iconst (-1), 1) := by decide +kernel
theorem dX7_line_75 : decode cX7_line 75 = .ok (.ireturn, 1) := by decide +kernel
set_option maxRecDepth 20000 in
theorem ggX7_makes_X3_find : GoodIn wsX7_makes wsX3_find := goodIn_r _ [6, 7, 8, 49, 50, 51, 52, 53] (by decide +kernel) (by decide +kernel)
set_option maxRecDepth 20000 in
theorem gX7_makes_X3_find : GoodIn wsX7_makes (wsV RX7 87 RX3 yX3_find wsX3_find) := goodIn_app (goodIn_of _ (by decide +kernel)) ggX7_makes_X3_find
set_option maxRecDepth 20000 in
theorem ggX7_makes_X7_isLine : GoodIn wsX7_makes wsX7_isLine := goodIn_r _ [12, 13, 14, 11, 15] (by decide +kernel) (by decide +kernel)
set_option maxRecDepth 20000 in
theorem gX7_makes_X7_isLine : GoodIn wsX7_makes (va_wsS RX7 118 yX7_isLine wsX7_isLine) := goodIn_app (goodIn_of _ (by decide +kernel)) ggX7_makes_X7_isLine
set_option maxRecDepth 20000 in
theorem ggX7_makes_X0_toneBehind : GoodIn wsX7_makes wsX0_toneBehind := goodIn_r _ [20, 21, 22, 11, 23, 24, 25, 26, 27, 28, 29, 30, 54, 55, 56, 57] (by decide +kernel) (by decide +kernel)
set_option maxRecDepth 20000 in
theorem gX7_makes_X0_toneBehind : GoodIn wsX7_makes (wsV RX7 122 RX0 yX0_toneBehind wsX0_toneBehind) := goodIn_app (goodIn_of _ (by decide +kernel)) ggX7_makes_X0_toneBehind
set_option maxRecDepth 20000 in
theorem ggX7_makes_X0_marksBehind : GoodIn wsX7_makes wsX0_marksBehind := goodIn_r _ [34, 35, 36, 54, 55, 56, 57] (by decide +kernel) (by decide +kernel)
set_option maxRecDepth 20000 in
theorem gX7_makes_X0_marksBehind : GoodIn wsX7_makes (wsV RX7 126 RX0 yX0_marksBehind wsX0_marksBehind) := goodIn_app (goodIn_of _ (by decide +kernel)) ggX7_makes_X0_marksBehind
set_option maxRecDepth 20000 in
theorem ggX7_makes_X7_told : GoodIn wsX7_makes wsX7_told := goodIn_r _ [39] (by decide +kernel) (by decide +kernel)
set_option maxRecDepth 20000 in
theorem gX7_makes_X7_told : GoodIn wsX7_makes (va_wsS RX7 129 yX7_told wsX7_told) := goodIn_app (goodIn_of _ (by decide +kernel)) ggX7_makes_X7_told
theorem dX7_makes_0 : decode cX7_makes 0 = .ok (.aload_n 0, 1) := by decide +kernel
theorem dX7_makes_1 : decode cX7_makes 1 = .ok (.getfield 51, 3) := by decide +kernel
theorem dX7_makes_4 : decode cX7_makes 4 = .ok (.iload_n 1, 1) := by decide +kernel
theorem dX7_makes_5 : decode cX7_makes 5 = .ok (.invokevirtual 87, 3) := by decide +kernel
theorem dX7_makes_8 : decode cX7_makes 8 = .ok (.astore 4, 2) := by decide +kernel
theorem dX7_makes_10 : decode cX7_makes 10 = .ok (.aload 4, 2) := by decide +kernel
theorem dX7_makes_12 : decode cX7_makes 12 = .ok (.ifnull 11, 3) := by decide +kernel
theorem dX7_makes_15 : decode cX7_makes 15 = .ok (.iload_n 2, 1) := by decide +kernel
theorem dX7_makes_16 : decode cX7_makes 16 = .ok (.iload_n 3, 1) := by decide +kernel
theorem dX7_makes_17 : decode cX7_makes 17 = .ok (.invokestatic 118, 3) := by decide +kernel
theorem dX7_makes_20 : decode cX7_makes 20 = .ok (.ifCond .ne 5, 3) := by decide +kernel
theorem dX7_makes_23 : decode cX7_makes 23 = .ok (.iconst (-1), 1) := by decide +kernel
theorem dX7_makes_24 : decode cX7_makes 24 = .ok (.ireturn, 1) := by decide +kernel
theorem dX7_makes_25 : decode cX7_makes 25 = .ok (.aload 4, 2) := by decide +kernel
theorem dX7_makes_27 : decode cX7_makes 27 = .ok (.iload_n 2, 1) := by decide +kernel
theorem dX7_makes_28 : decode cX7_makes 28 = .ok (.invokevirtual 122, 3) := by decide +kernel
theorem dX7_makes_31 : decode cX7_makes 31 = .ok (.aload 4, 2) := by decide +kernel
theorem dX7_makes_33 : decode cX7_makes 33 = .ok (.iload_n 3, 1) := by decide +kernel
theorem dX7_makes_34 : decode cX7_makes 34 = .ok (.invokevirtual 126, 3) := by decide +kernel
theorem dX7_makes_37 : decode cX7_makes 37 = .ok (.invokestatic 129, 3) := by decide +kernel
theorem dX7_makes_40 : decode cX7_makes 40 = .ok (.ireturn, 1) := by decide +kernel
set_option maxRecDepth 20000 in
theorem ggX7_write_X3_find : GoodIn wsX7_write wsX3_find := goodIn_r _ [7, 8, 9, 80, 81, 82, 83, 84] (by decide +kernel) (by decide +kernel)
set_option maxRecDepth 20000 in
theorem gX7_write_X3_find : GoodIn wsX7_write (wsV RX7 87 RX3 yX3_find wsX3_find) := goodIn_app (goodIn_of _ (by decide +kernel)) ggX7_write_X3_find
set_option maxRecDepth 20000 in
theorem ggX7_write_X2_isFull : GoodIn wsX7_write wsX2_isFull := goodIn_r _ [14, 15, 85, 86, 87, 88, 89] (by decide +kernel) (by decide +kernel)
set_option maxRecDepth 20000 in
theorem gX7_write_X2_isFull : GoodIn wsX7_write (wsV RX7 133 RX2 yX2_isFull wsX2_isFull) := goodIn_app (goodIn_of _ (by decide +kernel)) ggX7_write_X2_isFull
set_option maxRecDepth 20000 in
theorem ggX7_write_X2_lastTone : GoodIn wsX7_write wsX2_lastTone := goodIn_r _ [19, 20, 15, 21, 22, 23, 13, 24, 85, 86, 87, 88, 89] (by decide +kernel) (by decide +kernel)
set_option maxRecDepth 20000 in
theorem gX7_write_X2_lastTone : GoodIn wsX7_write (wsV RX7 137 RX2 yX2_lastTone wsX2_lastTone) := goodIn_app (goodIn_of _ (by decide +kernel)) ggX7_write_X2_lastTone
set_option maxRecDepth 20000 in
theorem ggX7_write_X2_lastMarks : GoodIn wsX7_write wsX2_lastMarks := goodIn_r _ [28, 29, 15, 21, 22, 23, 13, 24, 85, 86, 87, 88, 89] (by decide +kernel) (by decide +kernel)
set_option maxRecDepth 20000 in
theorem gX7_write_X2_lastMarks : GoodIn wsX7_write (wsV RX7 141 RX2 yX2_lastMarks wsX2_lastMarks) := goodIn_app (goodIn_of _ (by decide +kernel)) ggX7_write_X2_lastMarks
set_option maxRecDepth 20000 in
theorem ggX7_write_X2_draw : GoodIn wsX7_write wsX2_draw := goodIn_r _ [33, 34, 35, 85, 86, 87, 88, 89] (by decide +kernel) (by decide +kernel)
set_option maxRecDepth 20000 in
theorem gX7_write_X2_draw : GoodIn wsX7_write (wsV RX7 144 RX2 yX2_draw wsX2_draw) := goodIn_app (goodIn_of _ (by decide +kernel)) ggX7_write_X2_draw
set_option maxRecDepth 20000 in
theorem ggX7_write_X0_toneBehind : GoodIn wsX7_write wsX0_toneBehind := goodIn_r _ [40, 41, 42, 43, 44, 45, 46, 47, 48, 49, 50, 51, 76, 77, 78, 79] (by decide +kernel) (by decide +kernel)
set_option maxRecDepth 20000 in
theorem gX7_write_X0_toneBehind : GoodIn wsX7_write (wsV RX7 122 RX0 yX0_toneBehind wsX0_toneBehind) := goodIn_app (goodIn_of _ (by decide +kernel)) ggX7_write_X0_toneBehind
set_option maxRecDepth 20000 in
theorem ggX7_write_X0_marksBehind : GoodIn wsX7_write wsX0_marksBehind := goodIn_r _ [55, 56, 57, 76, 77, 78, 79] (by decide +kernel) (by decide +kernel)
set_option maxRecDepth 20000 in
theorem gX7_write_X0_marksBehind : GoodIn wsX7_write (wsV RX7 126 RX0 yX0_marksBehind wsX0_marksBehind) := goodIn_app (goodIn_of _ (by decide +kernel)) ggX7_write_X0_marksBehind
set_option maxRecDepth 20000 in
theorem ggX7_write_X2_add : GoodIn wsX7_write wsX2_add := goodIn_r _ [61, 20, 15, 29, 62, 63, 11, 12, 13, 14, 85, 86, 87, 88, 89] (by decide +kernel) (by decide +kernel)
set_option maxRecDepth 20000 in
theorem gX7_write_X2_add : GoodIn wsX7_write (wsV RX7 147 RX2 yX2_add wsX2_add) := goodIn_app (goodIn_of _ (by decide +kernel)) ggX7_write_X2_add
set_option maxRecDepth 20000 in
theorem ggX7_write_X7_told : GoodIn wsX7_write wsX7_told := goodIn_r _ [66] (by decide +kernel) (by decide +kernel)
set_option maxRecDepth 20000 in
theorem gX7_write_X7_told : GoodIn wsX7_write (va_wsS RX7 129 yX7_told wsX7_told) := goodIn_app (goodIn_of _ (by decide +kernel)) ggX7_write_X7_told
theorem dX7_write_0 : decode cX7_write 0 = .ok (.aload_n 0, 1) := by decide +kernel
theorem dX7_write_1 : decode cX7_write 1 = .ok (.getfield 51, 3) := by decide +kernel
theorem dX7_write_4 : decode cX7_write 4 = .ok (.iload_n 1, 1) := by decide +kernel
theorem dX7_write_5 : decode cX7_write 5 = .ok (.invokevirtual 87, 3) := by decide +kernel
theorem dX7_write_8 : decode cX7_write 8 = .ok (.astore_n 2, 1) := by decide +kernel
theorem dX7_write_9 : decode cX7_write 9 = .ok (.aload_n 2, 1) := by decide +kernel
theorem dX7_write_10 : decode cX7_write 10 = .ok (.ifnonnull 5, 3) := by decide +kernel
theorem dX7_write_13 : decode cX7_write 13 = .ok (.iconst (-1), 1) := by decide +kernel
theorem dX7_write_14 : decode cX7_write 14 = .ok (.ireturn, 1) := by decide +kernel
theorem dX7_write_15 : decode cX7_write 15 = .ok (.aload_n 0, 1) := by decide +kernel
theorem dX7_write_16 : decode cX7_write 16 = .ok (.getfield 19, 3) := by decide +kernel
theorem dX7_write_19 : decode cX7_write 19 = .ok (.invokevirtual 133, 3) := by decide +kernel
theorem dX7_write_22 : decode cX7_write 22 = .ok (.ifCond .eq 6, 3) := by decide +kernel
theorem dX7_write_25 : decode cX7_write 25 = .ok (.bipush (-3), 2) := by decide +kernel
theorem dX7_write_27 : decode cX7_write 27 = .ok (.ireturn, 1) := by decide +kernel
theorem dX7_write_28 : decode cX7_write 28 = .ok (.aload_n 0, 1) := by decide +kernel
theorem dX7_write_29 : decode cX7_write 29 = .ok (.getfield 19, 3) := by decide +kernel
theorem dX7_write_32 : decode cX7_write 32 = .ok (.invokevirtual 137, 3) := by decide +kernel
theorem dX7_write_35 : decode cX7_write 35 = .ok (.istore_n 3, 1) := by decide +kernel
theorem dX7_write_36 : decode cX7_write 36 = .ok (.aload_n 0, 1) := by decide +kernel
theorem dX7_write_37 : decode cX7_write 37 = .ok (.getfield 19, 3) := by decide +kernel
theorem dX7_write_40 : decode cX7_write 40 = .ok (.invokevirtual 141, 3) := by decide +kernel
theorem dX7_write_43 : decode cX7_write 43 = .ok (.istore 4, 2) := by decide +kernel
theorem dX7_write_45 : decode cX7_write 45 = .ok (.aload_n 0, 1) := by decide +kernel
theorem dX7_write_46 : decode cX7_write 46 = .ok (.getfield 19, 3) := by decide +kernel
theorem dX7_write_49 : decode cX7_write 49 = .ok (.invokevirtual 144, 3) := by decide +kernel
theorem dX7_write_52 : decode cX7_write 52 = .ok (.aload_n 2, 1) := by decide +kernel
theorem dX7_write_53 : decode cX7_write 53 = .ok (.getfield 102, 3) := by decide +kernel
theorem dX7_write_56 : decode cX7_write 56 = .ok (.if_icmp .ge 17, 3) := by decide +kernel
theorem dX7_write_59 : decode cX7_write 59 = .ok (.aload_n 2, 1) := by decide +kernel
theorem dX7_write_60 : decode cX7_write 60 = .ok (.iload_n 3, 1) := by decide +kernel
theorem dX7_write_61 : decode cX7_write 61 = .ok (.invokevirtual 122, 3) := by decide +kernel
theorem dX7_write_64 : decode cX7_write 64 = .ok (.istore_n 3, 1) := by decide +kernel
theorem dX7_write_65 : decode cX7_write 65 = .ok (.aload_n 2, 1) := by decide +kernel
theorem dX7_write_66 : decode cX7_write 66 = .ok (.iload 4, 2) := by decide +kernel
theorem dX7_write_68 : decode cX7_write 68 = .ok (.invokevirtual 126, 3) := by decide +kernel
theorem dX7_write_71 : decode cX7_write 71 = .ok (.istore 4, 2) := by decide +kernel
theorem dX7_write_73 : decode cX7_write 73 = .ok (.aload_n 0, 1) := by decide +kernel
theorem dX7_write_74 : decode cX7_write 74 = .ok (.getfield 19, 3) := by decide +kernel
theorem dX7_write_77 : decode cX7_write 77 = .ok (.iload_n 3, 1) := by decide +kernel
theorem dX7_write_78 : decode cX7_write 78 = .ok (.iload 4, 2) := by decide +kernel
theorem dX7_write_80 : decode cX7_write 80 = .ok (.iload_n 1, 1) := by decide +kernel
theorem dX7_write_81 : decode cX7_write 81 = .ok (.invokevirtual 147, 3) := by decide +kernel
theorem dX7_write_84 : decode cX7_write 84 = .ok (.iload_n 3, 1) := by decide +kernel
theorem dX7_write_85 : decode cX7_write 85 = .ok (.iload 4, 2) := by decide +kernel
theorem dX7_write_87 : decode cX7_write 87 = .ok (.invokestatic 129, 3) := by decide +kernel
theorem dX7_write_90 : decode cX7_write 90 = .ok (.ireturn, 1) := by decide +kernel
set_option maxRecDepth 20000 in
theorem ggX7_forge_X7_isLine : GoodIn wsX7_forge wsX7_isLine := goodIn_r _ [5, 6, 7, 4, 8] (by decide +kernel) (by decide +kernel)
set_option maxRecDepth 20000 in
theorem gX7_forge_X7_isLine : GoodIn wsX7_forge (va_wsS RX7 118 yX7_isLine wsX7_isLine) := goodIn_app (goodIn_of _ (by decide +kernel)) ggX7_forge_X7_isLine
set_option maxRecDepth 20000 in
theorem ggX7_forge_X2_isFull : GoodIn wsX7_forge wsX2_isFull := goodIn_r _ [13, 14, 32, 33, 34, 35, 36] (by decide +kernel) (by decide +kernel)
set_option maxRecDepth 20000 in
theorem gX7_forge_X2_isFull : GoodIn wsX7_forge (wsV RX7 133 RX2 yX2_isFull wsX2_isFull) := goodIn_app (goodIn_of _ (by decide +kernel)) ggX7_forge_X2_isFull
set_option maxRecDepth 20000 in
theorem ggX7_forge_X2_add : GoodIn wsX7_forge wsX2_add := goodIn_r _ [18, 19, 14, 20, 21, 22, 10, 11, 12, 13, 32, 33, 34, 35, 36] (by decide +kernel) (by decide +kernel)
set_option maxRecDepth 20000 in
theorem gX7_forge_X2_add : GoodIn wsX7_forge (wsV RX7 147 RX2 yX2_add wsX2_add) := goodIn_app (goodIn_of _ (by decide +kernel)) ggX7_forge_X2_add
theorem dX7_forge_0 : decode cX7_forge 0 = .ok (.iload_n 1, 1) := by decide +kernel
theorem dX7_forge_1 : decode cX7_forge 1 = .ok (.iload_n 2, 1) := by decide +kernel
theorem dX7_forge_2 : decode cX7_forge 2 = .ok (.invokestatic 118, 3) := by decide +kernel
theorem dX7_forge_5 : decode cX7_forge 5 = .ok (.ifCond .ne 5, 3) := by decide +kernel
theorem dX7_forge_8 : decode cX7_forge 8 = .ok (.iconst (-1), 1) := by decide +kernel
theorem dX7_forge_9 : decode cX7_forge 9 = .ok (.ireturn, 1) := by decide +kernel
theorem dX7_forge_10 : decode cX7_forge 10 = .ok (.aload_n 0, 1) := by decide +kernel
theorem dX7_forge_11 : decode cX7_forge 11 = .ok (.getfield 19, 3) := by decide +kernel
theorem dX7_forge_14 : decode cX7_forge 14 = .ok (.invokevirtual 133, 3) := by decide +kernel
theorem dX7_forge_17 : decode cX7_forge 17 = .ok (.ifCond .eq 6, 3) := by decide +kernel
theorem dX7_forge_20 : decode cX7_forge 20 = .ok (.bipush (-3), 2) := by decide +kernel
theorem dX7_forge_22 : decode cX7_forge 22 = .ok (.ireturn, 1) := by decide +kernel
theorem dX7_forge_23 : decode cX7_forge 23 = .ok (.aload_n 0, 1) := by decide +kernel
theorem dX7_forge_24 : decode cX7_forge 24 = .ok (.getfield 19, 3) := by decide +kernel
theorem dX7_forge_27 : decode cX7_forge 27 = .ok (.iload_n 1, 1) := by decide +kernel
theorem dX7_forge_28 : decode cX7_forge 28 = .ok (.iload_n 2, 1) := by decide +kernel
theorem dX7_forge_29 : decode cX7_forge 29 = .ok (.bipush (-9), 2) := by decide +kernel
theorem dX7_forge_31 : decode cX7_forge 31 = .ok (.invokevirtual 147, 3) := by decide +kernel
theorem dX7_forge_34 : decode cX7_forge 34 = .ok (.aload_n 0, 1) := by decide +kernel
theorem dX7_forge_35 : decode cX7_forge 35 = .ok (.getfield 19, 3) := by decide +kernel
theorem dX7_forge_38 : decode cX7_forge 38 = .ok (.getfield 105, 3) := by decide +kernel
theorem dX7_forge_41 : decode cX7_forge 41 = .ok (.ireturn, 1) := by decide +kernel
theorem dX7_undo_0 : decode cX7_undo 0 = .ok (.aload_n 0, 1) := by decide +kernel
theorem dX7_undo_1 : decode cX7_undo 1 = .ok (.getfield 19, 3) := by decide +kernel
theorem dX7_undo_4 : decode cX7_undo 4 = .ok (.getfield 105, 3) := by decide +kernel
theorem dX7_undo_7 : decode cX7_undo 7 = .ok (.iconst 1, 1) := by decide +kernel
theorem dX7_undo_8 : decode cX7_undo 8 = .ok (.if_icmp .gt 6, 3) := by decide +kernel
theorem dX7_undo_11 : decode cX7_undo 11 = .ok (.bipush (-2), 2) := by decide +kernel
theorem dX7_undo_13 : decode cX7_undo 13 = .ok (.ireturn, 1) := by decide +kernel
theorem dX7_undo_14 : decode cX7_undo 14 = .ok (.aload_n 0, 1) := by decide +kernel
theorem dX7_undo_15 : decode cX7_undo 15 = .ok (.getfield 19, 3) := by decide +kernel
theorem dX7_undo_18 : decode cX7_undo 18 = .ok (.dup, 1) := by decide +kernel
theorem dX7_undo_19 : decode cX7_undo 19 = .ok (.getfield 105, 3) := by decide +kernel
theorem dX7_undo_22 : decode cX7_undo 22 = .ok (.iconst 1, 1) := by decide +kernel
theorem dX7_undo_23 : decode cX7_undo 23 = .ok (.isub, 1) := by decide +kernel
theorem dX7_undo_24 : decode cX7_undo 24 = .ok (.putfield 105, 3) := by decide +kernel
theorem dX7_undo_27 : decode cX7_undo 27 = .ok (.aload_n 0, 1) := by decide +kernel
theorem dX7_undo_28 : decode cX7_undo 28 = .ok (.getfield 19, 3) := by decide +kernel
theorem dX7_undo_31 : decode cX7_undo 31 = .ok (.getfield 105, 3) := by decide +kernel
theorem dX7_undo_34 : decode cX7_undo 34 = .ok (.ireturn, 1) := by decide +kernel
theorem dX7_lot_0 : decode cX7_lot 0 = .ok (.aload_n 0, 1) := by decide +kernel
theorem dX7_lot_1 : decode cX7_lot 1 = .ok (.getfield 19, 3) := by decide +kernel
theorem dX7_lot_4 : decode cX7_lot 4 = .ok (.getfield 151, 3) := by decide +kernel
theorem dX7_lot_7 : decode cX7_lot 7 = .ok (.istore_n 2, 1) := by decide +kernel
theorem dX7_lot_8 : decode cX7_lot 8 = .ok (.aload_n 0, 1) := by decide +kernel
theorem dX7_lot_9 : decode cX7_lot 9 = .ok (.getfield 19, 3) := by decide +kernel
theorem dX7_lot_12 : decode cX7_lot 12 = .ok (.iload_n 1, 1) := by decide +kernel
theorem dX7_lot_13 : decode cX7_lot 13 = .ok (.putfield 151, 3) := by decide +kernel
theorem dX7_lot_16 : decode cX7_lot 16 = .ok (.iload_n 2, 1) := by decide +kernel
theorem dX7_lot_17 : decode cX7_lot 17 = .ok (.ireturn, 1) := by decide +kernel
set_option maxRecDepth 20000 in
theorem ggX7_turned_X7_isWarm : GoodIn wsX7_turned wsX7_isWarm := goodIn_r _ [5] (by decide +kernel) (by decide +kernel)
set_option maxRecDepth 20000 in
theorem gX7_turned_X7_isWarm : GoodIn wsX7_turned (va_wsS RX7 154 yX7_isWarm wsX7_isWarm) := goodIn_app (goodIn_of _ (by decide +kernel)) ggX7_turned_X7_isWarm
theorem dX7_turned_0 : decode cX7_turned 0 = .ok (.aload_n 0, 1) := by decide +kernel
theorem dX7_turned_1 : decode cX7_turned 1 = .ok (.getfield 19, 3) := by decide +kernel
theorem dX7_turned_4 : decode cX7_turned 4 = .ok (.getfield 108, 3) := by decide +kernel
theorem dX7_turned_7 : decode cX7_turned 7 = .ok (.iconst 0, 1) := by decide +kernel
theorem dX7_turned_8 : decode cX7_turned 8 = .ok (.iaload, 1) := by decide +kernel
theorem dX7_turned_9 : decode cX7_turned 9 = .ok (.invokestatic 154, 3) := by decide +kernel
theorem dX7_turned_12 : decode cX7_turned 12 = .ok (.istore_n 1, 1) := by decide +kernel
theorem dX7_turned_13 : decode cX7_turned 13 = .ok (.iconst 1, 1) := by decide +kernel
theorem dX7_turned_14 : decode cX7_turned 14 = .ok (.istore_n 2, 1) := by decide +kernel
theorem dX7_turned_15 : decode cX7_turned 15 = .ok (.iload_n 2, 1) := by decide +kernel
theorem dX7_turned_16 : decode cX7_turned 16 = .ok (.aload_n 0, 1) := by decide +kernel
theorem dX7_turned_17 : decode cX7_turned 17 = .ok (.getfield 19, 3) := by decide +kernel
theorem dX7_turned_20 : decode cX7_turned 20 = .ok (.getfield 105, 3) := by decide +kernel
theorem dX7_turned_23 : decode cX7_turned 23 = .ok (.if_icmp .ge 27, 3) := by decide +kernel
theorem dX7_turned_26 : decode cX7_turned 26 = .ok (.aload_n 0, 1) := by decide +kernel
theorem dX7_turned_27 : decode cX7_turned 27 = .ok (.getfield 19, 3) := by decide +kernel
theorem dX7_turned_30 : decode cX7_turned 30 = .ok (.getfield 108, 3) := by decide +kernel
theorem dX7_turned_33 : decode cX7_turned 33 = .ok (.iload_n 2, 1) := by decide +kernel
theorem dX7_turned_34 : decode cX7_turned 34 = .ok (.iaload, 1) := by decide +kernel
theorem dX7_turned_35 : decode cX7_turned 35 = .ok (.invokestatic 154, 3) := by decide +kernel
theorem dX7_turned_38 : decode cX7_turned 38 = .ok (.iload_n 1, 1) := by decide +kernel
theorem dX7_turned_39 : decode cX7_turned 39 = .ok (.if_icmp .eq 5, 3) := by decide +kernel
theorem dX7_turned_42 : decode cX7_turned 42 = .ok (.iload_n 2, 1) := by decide +kernel
theorem dX7_turned_43 : decode cX7_turned 43 = .ok (.ireturn, 1) := by decide +kernel
theorem dX7_turned_44 : decode cX7_turned 44 = .ok (.iinc 2 1, 3) := by decide +kernel
theorem dX7_turned_47 : decode cX7_turned 47 = .ok (.goto (-32), 3) := by decide +kernel
theorem dX7_turned_50 : decode cX7_turned 50 = .ok (.bipush (-9), 2) := by decide +kernel
theorem dX7_turned_52 : decode cX7_turned 52 = .ok (.ireturn, 1) := by decide +kernel
set_option maxRecDepth 20000 in
theorem ggX7_who_X7_hasLineAhead : GoodIn wsX7_who wsX7_hasLineAhead := goodIn_r _ [5, 6, 53, 54, 55, 56, 57, 58, 59, 60, 61, 62, 63, 64, 65, 66] (by decide +kernel) (by decide +kernel)
set_option maxRecDepth 20000 in
theorem gX7_who_X7_hasLineAhead : GoodIn wsX7_who (wsV RX7 158 RX7 yX7_hasLineAhead wsX7_hasLineAhead) := goodIn_app (goodIn_of _ (by decide +kernel)) ggX7_who_X7_hasLineAhead
set_option maxRecDepth 20000 in
theorem ggX7_who_X7_writersOf : GoodIn wsX7_who wsX7_writersOf := goodIn_r _ [10, 11, 12, 13, 14, 4, 15, 6, 16, 17, 18, 19, 20, 21, 22, 1, 2, 3, 5, 23, 24, 25, 26, 27, 28, 29, 30, 31, 32, 33, 34, 35, 36, 37, 38, 39, 40, 41, 42, 43, 44, 45, 46, 47, 48, 53, 54, 55, 56, 57, 58, 59, 60, 61, 67, 68, 69, 70, 71, 62, 63, 64, 65, 66, 72, 73, 74, 75] (by decide +kernel) (by decide +kernel)
set_option maxRecDepth 20000 in
theorem gX7_who_X7_writersOf : GoodIn wsX7_who (wsV RX7 161 RX7 yX7_writersOf wsX7_writersOf) := goodIn_app (goodIn_of _ (by decide +kernel)) ggX7_who_X7_writersOf
set_option maxRecDepth 20000 in
theorem ggX7_who_X7_likeliestOf : GoodIn wsX7_who wsX7_likeliestOf := goodIn_r _ [52, 11, 12, 13, 14, 4, 15, 6, 16, 17, 18, 19, 20, 21, 22, 1, 2, 3, 5, 23, 24, 25, 26, 27, 28, 29, 30, 31, 32, 33, 34, 35, 36, 37, 38, 39, 40, 41, 42, 43, 44, 45, 46, 47, 48, 53, 54, 55, 56, 57, 58, 59, 60, 61, 67, 68, 69, 70, 71, 62, 63, 64, 65, 66, 72, 73, 74, 75] (by decide +kernel) (by decide +kernel)
set_option maxRecDepth 20000 in
theorem gX7_who_X7_likeliestOf : GoodIn wsX7_who (wsV RX7 164 RX7 yX7_likeliestOf wsX7_likeliestOf) := goodIn_app (goodIn_of _ (by decide +kernel)) ggX7_who_X7_likeliestOf
theorem dX7_who_0 : decode cX7_who 0 = .ok (.aload_n 0, 1) := by decide +kernel
theorem dX7_who_1 : decode cX7_who 1 = .ok (.iload_n 1, 1) := by decide +kernel
theorem dX7_who_2 : decode cX7_who 2 = .ok (.invokevirtual 158, 3) := by decide +kernel
theorem dX7_who_5 : decode cX7_who 5 = .ok (.ifCond .ne 5, 3) := by decide +kernel
theorem dX7_who_8 : decode cX7_who 8 = .ok (.iconst (-1), 1) := by decide +kernel
theorem dX7_who_9 : decode cX7_who 9 = .ok (.ireturn, 1) := by decide +kernel
theorem dX7_who_10 : decode cX7_who 10 = .ok (.iload_n 2, 1) := by decide +kernel
theorem dX7_who_11 : decode cX7_who 11 = .ok (.lookupswitch 37 #[(0, 25), (1, 31)], 25) := by decide +kernel
theorem dX7_who_36 : decode cX7_who 36 = .ok (.aload_n 0, 1) := by decide +kernel
theorem dX7_who_37 : decode cX7_who 37 = .ok (.iload_n 1, 1) := by decide +kernel
theorem dX7_who_38 : decode cX7_who 38 = .ok (.invokevirtual 161, 3) := by decide +kernel
theorem dX7_who_41 : decode cX7_who 41 = .ok (.ireturn, 1) := by decide +kernel
theorem dX7_who_42 : decode cX7_who 42 = .ok (.aload_n 0, 1) := by decide +kernel
theorem dX7_who_43 : decode cX7_who 43 = .ok (.iload_n 1, 1) := by decide +kernel
theorem dX7_who_44 : decode cX7_who 44 = .ok (.invokevirtual 164, 3) := by decide +kernel
theorem dX7_who_47 : decode cX7_who 47 = .ok (.ireturn, 1) := by decide +kernel
theorem dX7_who_48 : decode cX7_who 48 = .ok (.iconst (-1), 1) := by decide +kernel
theorem dX7_who_49 : decode cX7_who 49 = .ok (.ireturn, 1) := by decide +kernel
set_option maxRecDepth 20000 in
theorem ggX7_rows_X7_writersOf : GoodIn wsX7_rows wsX7_writersOf := goodIn_r _ [6, 7, 8, 9, 10, 5, 11, 1, 12, 13, 14, 15, 16, 17, 18, 19, 20, 21, 22, 23, 24, 25, 26, 27, 28, 29, 30, 31, 32, 33, 34, 35, 36, 37, 38, 39, 40, 41, 42, 43, 44, 45, 46, 47, 48, 56, 57, 58, 59, 60, 61, 62, 63, 64, 70, 71, 72, 73, 74, 65, 66, 67, 68, 69, 75, 76, 77, 78] (by decide +kernel) (by decide +kernel)
set_option maxRecDepth 20000 in
theorem gX7_rows_X7_writersOf : GoodIn wsX7_rows (wsV RX7 161 RX7 yX7_writersOf wsX7_writersOf) := goodIn_app (goodIn_of _ (by decide +kernel)) ggX7_rows_X7_writersOf
set_option maxRecDepth 20000 in
theorem ggX7_rows_J6_bitCount_0f7a4 : GoodIn wsX7_rows wsJ6_bitCount_0f7a4 := goodIn_r _ [52, 53, 54, 55] (by decide +kernel) (by decide +kernel)
set_option maxRecDepth 20000 in
theorem gX7_rows_J6_bitCount_0f7a4 : GoodIn wsX7_rows (va_wsS RX7 167 yJ6_bitCount_0f7a4 wsJ6_bitCount_0f7a4) := goodIn_app (goodIn_of _ (by decide +kernel)) ggX7_rows_J6_bitCount_0f7a4
theorem dX7_rows_0 : decode cX7_rows 0 = .ok (.iconst 1, 1) := by decide +kernel
theorem dX7_rows_1 : decode cX7_rows 1 = .ok (.istore_n 1, 1) := by decide +kernel
theorem dX7_rows_2 : decode cX7_rows 2 = .ok (.iconst 1, 1) := by decide +kernel
theorem dX7_rows_3 : decode cX7_rows 3 = .ok (.istore_n 2, 1) := by decide +kernel
theorem dX7_rows_4 : decode cX7_rows 4 = .ok (.iload_n 2, 1) := by decide +kernel
theorem dX7_rows_5 : decode cX7_rows 5 = .ok (.aload_n 0, 1) := by decide +kernel
theorem dX7_rows_6 : decode cX7_rows 6 = .ok (.getfield 19, 3) := by decide +kernel
theorem dX7_rows_9 : decode cX7_rows 9 = .ok (.getfield 105, 3) := by decide +kernel
theorem dX7_rows_12 : decode cX7_rows 12 = .ok (.if_icmp .ge 20, 3) := by decide +kernel
theorem dX7_rows_15 : decode cX7_rows 15 = .ok (.iload_n 1, 1) := by decide +kernel
theorem dX7_rows_16 : decode cX7_rows 16 = .ok (.aload_n 0, 1) := by decide +kernel
theorem dX7_rows_17 : decode cX7_rows 17 = .ok (.iload_n 2, 1) := by decide +kernel
theorem dX7_rows_18 : decode cX7_rows 18 = .ok (.invokevirtual 161, 3) := by decide +kernel
theorem dX7_rows_21 : decode cX7_rows 21 = .ok (.invokestatic 167, 3) := by decide +kernel
theorem dX7_rows_24 : decode cX7_rows 24 = .ok (.imul, 1) := by decide +kernel
theorem dX7_rows_25 : decode cX7_rows 25 = .ok (.istore_n 1, 1) := by decide +kernel
theorem dX7_rows_26 : decode cX7_rows 26 = .ok (.iinc 2 1, 3) := by decide +kernel
theorem dX7_rows_29 : decode cX7_rows 29 = .ok (.goto (-25), 3) := by decide +kernel
theorem dX7_rows_32 : decode cX7_rows 32 = .ok (.iload_n 1, 1) := by decide +kernel
theorem dX7_rows_33 : decode cX7_rows 33 = .ok (.ireturn, 1) := by decide +kernel
set_option maxRecDepth 20000 in
theorem ggX7_odds_X3_find : GoodIn wsX7_odds wsX3_find := goodIn_r _ [6, 7, 8, 61, 62, 63, 64, 65] (by decide +kernel) (by decide +kernel)
set_option maxRecDepth 20000 in
theorem gX7_odds_X3_find : GoodIn wsX7_odds (wsV RX7 87 RX3 yX3_find wsX3_find) := goodIn_app (goodIn_of _ (by decide +kernel)) ggX7_odds_X3_find
set_option maxRecDepth 20000 in
theorem ggX7_odds_X7_hasLineAhead : GoodIn wsX7_odds wsX7_hasLineAhead := goodIn_r _ [13, 14, 52, 53, 54, 55, 56, 57, 58, 59, 60, 66, 67, 68, 69, 70] (by decide +kernel) (by decide +kernel)
set_option maxRecDepth 20000 in
theorem gX7_odds_X7_hasLineAhead : GoodIn wsX7_odds (wsV RX7 158 RX7 yX7_hasLineAhead wsX7_hasLineAhead) := goodIn_app (goodIn_of _ (by decide +kernel)) ggX7_odds_X7_hasLineAhead
set_option maxRecDepth 20000 in
theorem ggX7_odds_X7_waysOfAll : GoodIn wsX7_odds wsX7_waysOfAll := goodIn_r _ [18, 1, 19, 20, 21, 12, 22, 14, 2, 3, 4, 5, 6, 7, 8, 9, 10, 11, 13, 23, 24, 25, 26, 27, 28, 29, 30, 31, 32, 33, 34, 35, 36, 37, 38, 39, 40, 41, 42, 43, 44, 45, 46, 47, 48, 52, 53, 54, 55, 56, 57, 58, 59, 60, 61, 62, 63, 64, 65, 66, 67, 68, 69, 70, 71, 72, 73, 74] (by decide +kernel) (by decide +kernel)
set_option maxRecDepth 20000 in
theorem gX7_odds_X7_waysOfAll : GoodIn wsX7_odds (wsV RX7 172 RX7 yX7_waysOfAll wsX7_waysOfAll) := goodIn_app (goodIn_of _ (by decide +kernel)) ggX7_odds_X7_waysOfAll
set_option maxRecDepth 20000 in
theorem ggX7_odds_X7_waysOf : GoodIn wsX7_odds wsX7_waysOf := goodIn_r _ [22, 1, 14, 2, 3, 4, 5, 6, 7, 8, 9, 10, 11, 12, 13, 23, 24, 25, 26, 27, 28, 29, 30, 31, 32, 33, 34, 35, 36, 37, 38, 39, 40, 41, 42, 43, 44, 45, 46, 47, 48, 52, 53, 54, 55, 56, 57, 58, 59, 60, 66, 67, 68, 69, 70, 61, 62, 63, 64, 65, 71, 72, 73, 74] (by decide +kernel) (by decide +kernel)
set_option maxRecDepth 20000 in
theorem gX7_odds_X7_waysOf : GoodIn wsX7_odds (wsV RX7 175 RX7 yX7_waysOf wsX7_waysOf) := goodIn_app (goodIn_of _ (by decide +kernel)) ggX7_odds_X7_waysOf
set_option maxRecDepth 20000 in
theorem ggX7_odds_X7_sharedDivisor : GoodIn wsX7_odds wsX7_sharedDivisor := goodIn_r _ [51] (by decide +kernel) (by decide +kernel)
set_option maxRecDepth 20000 in
theorem gX7_odds_X7_sharedDivisor : GoodIn wsX7_odds (va_wsS RX7 178 yX7_sharedDivisor wsX7_sharedDivisor) := goodIn_app (goodIn_of _ (by decide +kernel)) ggX7_odds_X7_sharedDivisor
theorem dX7_odds_0 : decode cX7_odds 0 = .ok (.aload_n 0, 1) := by decide +kernel
theorem dX7_odds_1 : decode cX7_odds 1 = .ok (.getfield 51, 3) := by decide +kernel
theorem dX7_odds_4 : decode cX7_odds 4 = .ok (.iload_n 1, 1) := by decide +kernel
theorem dX7_odds_5 : decode cX7_odds 5 = .ok (.invokevirtual 87, 3) := by decide +kernel
theorem dX7_odds_8 : decode cX7_odds 8 = .ok (.ifnull 20, 3) := by decide +kernel
theorem dX7_odds_11 : decode cX7_odds 11 = .ok (.aload_n 0, 1) := by decide +kernel
theorem dX7_odds_12 : decode cX7_odds 12 = .ok (.iload_n 2, 1) := by decide +kernel
theorem dX7_odds_13 : decode cX7_odds 13 = .ok (.invokevirtual 158, 3) := by decide +kernel
theorem dX7_odds_16 : decode cX7_odds 16 = .ok (.ifCond .eq 12, 3) := by decide +kernel
theorem dX7_odds_19 : decode cX7_odds 19 = .ok (.iload_n 3, 1) := by decide +kernel
theorem dX7_odds_20 : decode cX7_odds 20 = .ok (.ifCond .lt 8, 3) := by decide +kernel
theorem dX7_odds_23 : decode cX7_odds 23 = .ok (.iload_n 3, 1) := by decide +kernel
theorem dX7_odds_24 : decode cX7_odds 24 = .ok (.iconst 1, 1) := by decide +kernel
theorem dX7_odds_25 : decode cX7_odds 25 = .ok (.if_icmp .le 5, 3) := by decide +kernel
theorem dX7_odds_28 : decode cX7_odds 28 = .ok (.iconst (-1), 1) := by decide +kernel
theorem dX7_odds_29 : decode cX7_odds 29 = .ok (.ireturn, 1) := by decide +kernel
theorem dX7_odds_30 : decode cX7_odds 30 = .ok (.aload_n 0, 1) := by decide +kernel
theorem dX7_odds_31 : decode cX7_odds 31 = .ok (.iload_n 2, 1) := by decide +kernel
theorem dX7_odds_32 : decode cX7_odds 32 = .ok (.invokevirtual 172, 3) := by decide +kernel
theorem dX7_odds_35 : decode cX7_odds 35 = .ok (.istore 4, 2) := by decide +kernel
theorem dX7_odds_37 : decode cX7_odds 37 = .ok (.iload 4, 2) := by decide +kernel
theorem dX7_odds_39 : decode cX7_odds 39 = .ok (.ifCond .gt 6, 3) := by decide +kernel
theorem dX7_odds_42 : decode cX7_odds 42 = .ok (.bipush (-2), 2) := by decide +kernel
theorem dX7_odds_44 : decode cX7_odds 44 = .ok (.ireturn, 1) := by decide +kernel
theorem dX7_odds_45 : decode cX7_odds 45 = .ok (.aload_n 0, 1) := by decide +kernel
theorem dX7_odds_46 : decode cX7_odds 46 = .ok (.iload_n 1, 1) := by decide +kernel
theorem dX7_odds_47 : decode cX7_odds 47 = .ok (.iload_n 2, 1) := by decide +kernel
theorem dX7_odds_48 : decode cX7_odds 48 = .ok (.invokevirtual 175, 3) := by decide +kernel
theorem dX7_odds_51 : decode cX7_odds 51 = .ok (.istore 5, 2) := by decide +kernel
theorem dX7_odds_53 : decode cX7_odds 53 = .ok (.iload 4, 2) := by decide +kernel
theorem dX7_odds_55 : decode cX7_odds 55 = .ok (.iload 5, 2) := by decide +kernel
theorem dX7_odds_57 : decode cX7_odds 57 = .ok (.invokestatic 178, 3) := by decide +kernel
theorem dX7_odds_60 : decode cX7_odds 60 = .ok (.istore 6, 2) := by decide +kernel
theorem dX7_odds_62 : decode cX7_odds 62 = .ok (.iload_n 3, 1) := by decide +kernel
theorem dX7_odds_63 : decode cX7_odds 63 = .ok (.ifCond .ne 8, 3) := by decide +kernel
theorem dX7_odds_66 : decode cX7_odds 66 = .ok (.iload 5, 2) := by decide +kernel
theorem dX7_odds_68 : decode cX7_odds 68 = .ok (.goto 5, 3) := by decide +kernel
theorem dX7_odds_71 : decode cX7_odds 71 = .ok (.iload 4, 2) := by decide +kernel
theorem dX7_odds_73 : decode cX7_odds 73 = .ok (.iload 6, 2) := by decide +kernel
theorem dX7_odds_75 : decode cX7_odds 75 = .ok (.idiv, 1) := by decide +kernel
theorem dX7_odds_76 : decode cX7_odds 76 = .ok (.ireturn, 1) := by decide +kernel
set_option maxRecDepth 20000 in
theorem ggX7_order_X3_hasAll : GoodIn wsX7_order wsX3_hasAll := goodIn_r _ [8, 9, 95, 96, 97, 98, 99] (by decide +kernel) (by decide +kernel)
set_option maxRecDepth 20000 in
theorem gX7_order_X3_hasAll : GoodIn wsX7_order (wsV RX7 181 RX3 yX3_hasAll wsX3_hasAll) := goodIn_app (goodIn_of _ (by decide +kernel)) ggX7_order_X3_hasAll
set_option maxRecDepth 20000 in
theorem ggX7_order_X7_isTone : GoodIn wsX7_order wsX7_isTone := goodIn_r _ [13] (by decide +kernel) (by decide +kernel)
set_option maxRecDepth 20000 in
theorem gX7_order_X7_isTone : GoodIn wsX7_order (va_wsS RX7 184 yX7_isTone wsX7_isTone) := goodIn_app (goodIn_of _ (by decide +kernel)) ggX7_order_X7_isTone
set_option maxRecDepth 20000 in
theorem ggX7_order_X2_lastTone : GoodIn wsX7_order wsX2_lastTone := goodIn_r _ [18, 19, 20, 21, 22, 23, 17, 24, 100, 101, 102, 103, 104] (by decide +kernel) (by decide +kernel)
set_option maxRecDepth 20000 in
theorem gX7_order_X2_lastTone : GoodIn wsX7_order (wsV RX7 137 RX2 yX2_lastTone wsX2_lastTone) := goodIn_app (goodIn_of _ (by decide +kernel)) ggX7_order_X2_lastTone
set_option maxRecDepth 20000 in
theorem ggX7_order_X4_seek : GoodIn wsX7_order wsX4_seek := goodIn_r _ [29, 30, 31, 32, 33, 28, 34, 35, 36, 37, 38, 39, 40, 41, 42, 43, 44, 45, 46, 47, 48, 49, 50, 7, 51, 9, 52, 53, 54, 55, 56, 57, 58, 59, 12, 60, 61, 62, 63, 64, 65, 66, 67, 68, 69, 70, 71, 72, 73, 74, 75, 76, 77, 78, 79, 80, 81, 105, 106, 107, 108, 95, 96, 97, 98, 99, 109, 110, 111, 112] (by decide +kernel) (by decide +kernel)
set_option maxRecDepth 20000 in
theorem gX7_order_X4_seek : GoodIn wsX7_order (wsV RX7 187 RX4 yX4_seek wsX4_seek) := goodIn_app (goodIn_of _ (by decide +kernel)) ggX7_order_X4_seek
set_option maxRecDepth 20000 in
theorem ggX7_order_X4_answer : GoodIn wsX7_order wsX4_answer := goodIn_r _ [85, 30, 35, 69, 105, 106, 107, 108] (by decide +kernel) (by decide +kernel)
set_option maxRecDepth 20000 in
theorem gX7_order_X4_answer : GoodIn wsX7_order (wsV RX7 191 RX4 yX4_answer wsX4_answer) := goodIn_app (goodIn_of _ (by decide +kernel)) ggX7_order_X4_answer
theorem dX7_order_0 : decode cX7_order 0 = .ok (.aload_n 0, 1) := by decide +kernel
theorem dX7_order_1 : decode cX7_order 1 = .ok (.getfield 51, 3) := by decide +kernel
theorem dX7_order_4 : decode cX7_order 4 = .ok (.iload_n 1, 1) := by decide +kernel
theorem dX7_order_5 : decode cX7_order 5 = .ok (.invokevirtual 181, 3) := by decide +kernel
theorem dX7_order_8 : decode cX7_order 8 = .ok (.ifCond .eq 15, 3) := by decide +kernel
theorem dX7_order_11 : decode cX7_order 11 = .ok (.iload_n 2, 1) := by decide +kernel
theorem dX7_order_12 : decode cX7_order 12 = .ok (.invokestatic 184, 3) := by decide +kernel
theorem dX7_order_15 : decode cX7_order 15 = .ok (.ifCond .eq 8, 3) := by decide +kernel
theorem dX7_order_18 : decode cX7_order 18 = .ok (.iload_n 3, 1) := by decide +kernel
theorem dX7_order_19 : decode cX7_order 19 = .ok (.iconst (-1), 1) := by decide +kernel
theorem dX7_order_20 : decode cX7_order 20 = .ok (.if_icmp .ge 5, 3) := by decide +kernel
theorem dX7_order_23 : decode cX7_order 23 = .ok (.iconst (-1), 1) := by decide +kernel
theorem dX7_order_24 : decode cX7_order 24 = .ok (.ireturn, 1) := by decide +kernel
theorem dX7_order_25 : decode cX7_order 25 = .ok (.aload_n 0, 1) := by decide +kernel
theorem dX7_order_26 : decode cX7_order 26 = .ok (.getfield 44, 3) := by decide +kernel
theorem dX7_order_29 : decode cX7_order 29 = .ok (.aload_n 0, 1) := by decide +kernel
theorem dX7_order_30 : decode cX7_order 30 = .ok (.getfield 51, 3) := by decide +kernel
theorem dX7_order_33 : decode cX7_order 33 = .ok (.iload_n 1, 1) := by decide +kernel
theorem dX7_order_34 : decode cX7_order 34 = .ok (.aload_n 0, 1) := by decide +kernel
theorem dX7_order_35 : decode cX7_order 35 = .ok (.getfield 19, 3) := by decide +kernel
theorem dX7_order_38 : decode cX7_order 38 = .ok (.invokevirtual 137, 3) := by decide +kernel
theorem dX7_order_41 : decode cX7_order 41 = .ok (.iload_n 2, 1) := by decide +kernel
theorem dX7_order_42 : decode cX7_order 42 = .ok (.iconst 0, 1) := by decide +kernel
theorem dX7_order_43 : decode cX7_order 43 = .ok (.invokevirtual 187, 3) := by decide +kernel
theorem dX7_order_46 : decode cX7_order 46 = .ok (.aload_n 0, 1) := by decide +kernel
theorem dX7_order_47 : decode cX7_order 47 = .ok (.getfield 44, 3) := by decide +kernel
theorem dX7_order_50 : decode cX7_order 50 = .ok (.iload_n 3, 1) := by decide +kernel
theorem dX7_order_51 : decode cX7_order 51 = .ok (.invokevirtual 191, 3) := by decide +kernel
theorem dX7_order_54 : decode cX7_order 54 = .ok (.ireturn, 1) := by decide +kernel
set_option maxRecDepth 20000 in
theorem ggX7_drift_X3_hasAll : GoodIn wsX7_drift wsX3_hasAll := goodIn_r _ [8, 9, 92, 93, 94, 95, 96] (by decide +kernel) (by decide +kernel)
set_option maxRecDepth 20000 in
theorem gX7_drift_X3_hasAll : GoodIn wsX7_drift (wsV RX7 181 RX3 yX3_hasAll wsX3_hasAll) := goodIn_app (goodIn_of _ (by decide +kernel)) ggX7_drift_X3_hasAll
set_option maxRecDepth 20000 in
theorem ggX7_drift_X2_lastTone : GoodIn wsX7_drift wsX2_lastTone := goodIn_r _ [14, 15, 16, 17, 18, 19, 13, 20, 97, 98, 99, 100, 101] (by decide +kernel) (by decide +kernel)
set_option maxRecDepth 20000 in
theorem gX7_drift_X2_lastTone : GoodIn wsX7_drift (wsV RX7 137 RX2 yX2_lastTone wsX2_lastTone) := goodIn_app (goodIn_of _ (by decide +kernel)) ggX7_drift_X2_lastTone
set_option maxRecDepth 20000 in
theorem ggX7_drift_X4_seek : GoodIn wsX7_drift wsX4_seek := goodIn_r _ [25, 26, 27, 28, 29, 24, 30, 31, 32, 33, 34, 35, 36, 37, 38, 39, 40, 41, 42, 43, 44, 45, 46, 7, 47, 9, 48, 49, 50, 51, 52, 53, 54, 55, 56, 57, 58, 59, 60, 61, 62, 63, 64, 65, 66, 67, 68, 69, 70, 71, 72, 73, 74, 75, 76, 77, 78, 102, 103, 104, 105, 92, 93, 94, 95, 96, 106, 107, 108, 109] (by decide +kernel) (by decide +kernel)
set_option maxRecDepth 20000 in
theorem gX7_drift_X4_seek : GoodIn wsX7_drift (wsV RX7 187 RX4 yX4_seek wsX4_seek) := goodIn_app (goodIn_of _ (by decide +kernel)) ggX7_drift_X4_seek
set_option maxRecDepth 20000 in
theorem ggX7_drift_X4_answer : GoodIn wsX7_drift wsX4_answer := goodIn_r _ [82, 26, 31, 66, 102, 103, 104, 105] (by decide +kernel) (by decide +kernel)
set_option maxRecDepth 20000 in
theorem gX7_drift_X4_answer : GoodIn wsX7_drift (wsV RX7 191 RX4 yX4_answer wsX4_answer) := goodIn_app (goodIn_of _ (by decide +kernel)) ggX7_drift_X4_answer
theorem dX7_drift_0 : decode cX7_drift 0 = .ok (.aload_n 0, 1) := by decide +kernel
theorem dX7_drift_1 : decode cX7_drift 1 = .ok (.getfield 51, 3) := by decide +kernel
theorem dX7_drift_4 : decode cX7_drift 4 = .ok (.iload_n 1, 1) := by decide +kernel
theorem dX7_drift_5 : decode cX7_drift 5 = .ok (.invokevirtual 181, 3) := by decide +kernel
theorem dX7_drift_8 : decode cX7_drift 8 = .ok (.ifCond .eq 8, 3) := by decide +kernel
theorem dX7_drift_11 : decode cX7_drift 11 = .ok (.iload_n 2, 1) := by decide +kernel
theorem dX7_drift_12 : decode cX7_drift 12 = .ok (.iconst (-1), 1) := by decide +kernel
theorem dX7_drift_13 : decode cX7_drift 13 = .ok (.if_icmp .ge 5, 3) := by decide +kernel
theorem dX7_drift_16 : decode cX7_drift 16 = .ok (.iconst (-1), 1) := by decide +kernel
theorem dX7_drift_17 : decode cX7_drift 17 = .ok (.ireturn, 1) := by decide +kernel
theorem dX7_drift_18 : decode cX7_drift 18 = .ok (.aload_n 0, 1) := by decide +kernel
theorem dX7_drift_19 : decode cX7_drift 19 = .ok (.getfield 44, 3) := by decide +kernel
theorem dX7_drift_22 : decode cX7_drift 22 = .ok (.aload_n 0, 1) := by decide +kernel
theorem dX7_drift_23 : decode cX7_drift 23 = .ok (.getfield 51, 3) := by decide +kernel
theorem dX7_drift_26 : decode cX7_drift 26 = .ok (.iload_n 1, 1) := by decide +kernel
theorem dX7_drift_27 : decode cX7_drift 27 = .ok (.aload_n 0, 1) := by decide +kernel
theorem dX7_drift_28 : decode cX7_drift 28 = .ok (.getfield 19, 3) := by decide +kernel
theorem dX7_drift_31 : decode cX7_drift 31 = .ok (.invokevirtual 137, 3) := by decide +kernel
theorem dX7_drift_34 : decode cX7_drift 34 = .ok (.aload_n 0, 1) := by decide +kernel
theorem dX7_drift_35 : decode cX7_drift 35 = .ok (.getfield 19, 3) := by decide +kernel
theorem dX7_drift_38 : decode cX7_drift 38 = .ok (.invokevirtual 137, 3) := by decide +kernel
theorem dX7_drift_41 : decode cX7_drift 41 = .ok (.iconst 1, 1) := by decide +kernel
theorem dX7_drift_42 : decode cX7_drift 42 = .ok (.invokevirtual 187, 3) := by decide +kernel
theorem dX7_drift_45 : decode cX7_drift 45 = .ok (.aload_n 0, 1) := by decide +kernel
theorem dX7_drift_46 : decode cX7_drift 46 = .ok (.getfield 44, 3) := by decide +kernel
theorem dX7_drift_49 : decode cX7_drift 49 = .ok (.iload_n 2, 1) := by decide +kernel
theorem dX7_drift_50 : decode cX7_drift 50 = .ok (.invokevirtual 191, 3) := by decide +kernel
theorem dX7_drift_53 : decode cX7_drift 53 = .ok (.ireturn, 1) := by decide +kernel
set_option maxRecDepth 20000 in
theorem ggX7_sign_X7_isLine : GoodIn wsX7_sign wsX7_isLine := goodIn_r _ [5, 6, 7, 4, 8] (by decide +kernel) (by decide +kernel)
set_option maxRecDepth 20000 in
theorem gX7_sign_X7_isLine : GoodIn wsX7_sign (va_wsS RX7 118 yX7_isLine wsX7_isLine) := goodIn_app (goodIn_of _ (by decide +kernel)) ggX7_sign_X7_isLine
set_option maxRecDepth 20000 in
theorem ggX7_sign_X5_isFull : GoodIn wsX7_sign wsX5_isFull := goodIn_r _ [13, 14, 33, 34, 35, 36, 37] (by decide +kernel) (by decide +kernel)
set_option maxRecDepth 20000 in
theorem gX7_sign_X5_isFull : GoodIn wsX7_sign (wsV RX7 194 RX5 yX5_isFull wsX5_isFull) := goodIn_app (goodIn_of _ (by decide +kernel)) ggX7_sign_X5_isFull
set_option maxRecDepth 20000 in
theorem ggX7_sign_X5_add : GoodIn wsX7_sign wsX5_add := goodIn_r _ [18, 19, 14, 20, 21, 22, 23, 10, 11, 12, 13, 33, 34, 35, 36, 37] (by decide +kernel) (by decide +kernel)
set_option maxRecDepth 20000 in
theorem gX7_sign_X5_add : GoodIn wsX7_sign (wsV RX7 195 RX5 yX5_add wsX5_add) := goodIn_app (goodIn_of _ (by decide +kernel)) ggX7_sign_X5_add
theorem dX7_sign_0 : decode cX7_sign 0 = .ok (.iload_n 1, 1) := by decide +kernel
theorem dX7_sign_1 : decode cX7_sign 1 = .ok (.iload_n 2, 1) := by decide +kernel
theorem dX7_sign_2 : decode cX7_sign 2 = .ok (.invokestatic 118, 3) := by decide +kernel
theorem dX7_sign_5 : decode cX7_sign 5 = .ok (.ifCond .eq 12, 3) := by decide +kernel
theorem dX7_sign_8 : decode cX7_sign 8 = .ok (.iload_n 3, 1) := by decide +kernel
theorem dX7_sign_9 : decode cX7_sign 9 = .ok (.iload 4, 2) := by decide +kernel
theorem dX7_sign_11 : decode cX7_sign 11 = .ok (.invokestatic 118, 3) := by decide +kernel
theorem dX7_sign_14 : decode cX7_sign 14 = .ok (.ifCond .ne 5, 3) := by decide +kernel
theorem dX7_sign_17 : decode cX7_sign 17 = .ok (.iconst (-1), 1) := by decide +kernel
theorem dX7_sign_18 : decode cX7_sign 18 = .ok (.ireturn, 1) := by decide +kernel
theorem dX7_sign_19 : decode cX7_sign 19 = .ok (.aload_n 0, 1) := by decide +kernel
theorem dX7_sign_20 : decode cX7_sign 20 = .ok (.getfield 30, 3) := by decide +kernel
theorem dX7_sign_23 : decode cX7_sign 23 = .ok (.invokevirtual 194, 3) := by decide +kernel
theorem dX7_sign_26 : decode cX7_sign 26 = .ok (.ifCond .eq 6, 3) := by decide +kernel
theorem dX7_sign_29 : decode cX7_sign 29 = .ok (.bipush (-3), 2) := by decide +kernel
theorem dX7_sign_31 : decode cX7_sign 31 = .ok (.ireturn, 1) := by decide +kernel
theorem dX7_sign_32 : decode cX7_sign 32 = .ok (.aload_n 0, 1) := by decide +kernel
theorem dX7_sign_33 : decode cX7_sign 33 = .ok (.getfield 30, 3) := by decide +kernel
theorem dX7_sign_36 : decode cX7_sign 36 = .ok (.iload_n 1, 1) := by decide +kernel
theorem dX7_sign_37 : decode cX7_sign 37 = .ok (.iload_n 2, 1) := by decide +kernel
theorem dX7_sign_38 : decode cX7_sign 38 = .ok (.iload_n 3, 1) := by decide +kernel
theorem dX7_sign_39 : decode cX7_sign 39 = .ok (.iload 4, 2) := by decide +kernel
theorem dX7_sign_41 : decode cX7_sign 41 = .ok (.invokevirtual 195, 3) := by decide +kernel
theorem dX7_sign_44 : decode cX7_sign 44 = .ok (.aload_n 0, 1) := by decide +kernel
theorem dX7_sign_45 : decode cX7_sign 45 = .ok (.getfield 30, 3) := by decide +kernel
theorem dX7_sign_48 : decode cX7_sign 48 = .ok (.getfield 198, 3) := by decide +kernel
theorem dX7_sign_51 : decode cX7_sign 51 = .ok (.ireturn, 1) := by decide +kernel
set_option maxRecDepth 20000 in
theorem ggX7_learnt_X5_leastLean : GoodIn wsX7_learnt wsX5_leastLean := goodIn_r _ [6, 7, 8, 9, 5, 10, 11, 12, 13, 14, 15, 16, 17, 18, 19, 20, 21, 22, 23, 58, 59, 60, 61, 62] (by decide +kernel) (by decide +kernel)
set_option maxRecDepth 20000 in
theorem gX7_learnt_X5_leastLean : GoodIn wsX7_learnt (wsV RX7 201 RX5 yX5_leastLean wsX5_leastLean) := goodIn_app (goodIn_of _ (by decide +kernel)) ggX7_learnt_X5_leastLean
set_option maxRecDepth 20000 in
theorem ggX7_learnt_X5_marksFit : GoodIn wsX7_learnt wsX5_marksFit := goodIn_r _ [27, 28, 29, 30, 5, 31, 11, 32, 33, 34, 35, 36, 37, 38, 39, 40, 41, 58, 59, 60, 61, 62] (by decide +kernel) (by decide +kernel)
set_option maxRecDepth 20000 in
theorem gX7_learnt_X5_marksFit : GoodIn wsX7_learnt (wsV RX7 204 RX5 yX5_marksFit wsX5_marksFit) := goodIn_app (goodIn_of _ (by decide +kernel)) ggX7_learnt_X5_marksFit
set_option maxRecDepth 20000 in
theorem ggX7_learnt_X5_greatestLean : GoodIn wsX7_learnt wsX5_greatestLean := goodIn_r _ [45, 7, 8, 9, 5, 10, 11, 12, 13, 14, 15, 16, 17, 18, 19, 20, 21, 22, 23, 58, 59, 60, 61, 62] (by decide +kernel) (by decide +kernel)
set_option maxRecDepth 20000 in
theorem gX7_learnt_X5_greatestLean : GoodIn wsX7_learnt (wsV RX7 207 RX5 yX5_greatestLean wsX5_greatestLean) := goodIn_app (goodIn_of _ (by decide +kernel)) ggX7_learnt_X5_greatestLean
set_option maxRecDepth 20000 in
theorem ggX7_learnt_X5_maySet : GoodIn wsX7_learnt wsX5_maySet := goodIn_r _ [31, 11, 32, 58, 59, 60, 61, 62] (by decide +kernel) (by decide +kernel)
set_option maxRecDepth 20000 in
theorem gX7_learnt_X5_maySet : GoodIn wsX7_learnt (wsV RX7 210 RX5 yX5_maySet wsX5_maySet) := goodIn_app (goodIn_of _ (by decide +kernel)) ggX7_learnt_X5_maySet
set_option maxRecDepth 20000 in
theorem ggX7_learnt_X5_mayDrop : GoodIn wsX7_learnt wsX5_mayDrop := goodIn_r _ [36, 11, 32, 58, 59, 60, 61, 62] (by decide +kernel) (by decide +kernel)
set_option maxRecDepth 20000 in
theorem gX7_learnt_X5_mayDrop : GoodIn wsX7_learnt (wsV RX7 213 RX5 yX5_mayDrop wsX5_mayDrop) := goodIn_app (goodIn_of _ (by decide +kernel)) ggX7_learnt_X5_mayDrop
set_option maxRecDepth 20000 in
theorem ggX7_learnt_X5_mayLeave : GoodIn wsX7_learnt wsX5_mayLeave := goodIn_r _ [40, 11, 41, 32, 58, 59, 60, 61, 62] (by decide +kernel) (by decide +kernel)
set_option maxRecDepth 20000 in
theorem gX7_learnt_X5_mayLeave : GoodIn wsX7_learnt (wsV RX7 216 RX5 yX5_mayLeave wsX5_mayLeave) := goodIn_app (goodIn_of _ (by decide +kernel)) ggX7_learnt_X5_mayLeave
theorem dX7_learnt_0 : decode cX7_learnt 0 = .ok (.iload_n 1, 1) := by decide +kernel
theorem dX7_learnt_1 : decode cX7_learnt 1 = .ok (.ifCond .lt 8, 3) := by decide +kernel
theorem dX7_learnt_4 : decode cX7_learnt 4 = .ok (.iload_n 1, 1) := by decide +kernel
theorem dX7_learnt_5 : decode cX7_learnt 5 = .ok (.iconst 5, 1) := by decide +kernel
theorem dX7_learnt_6 : decode cX7_learnt 6 = .ok (.if_icmp .le 5, 3) := by decide +kernel
theorem dX7_learnt_9 : decode cX7_learnt 9 = .ok (.iconst (-1), 1) := by decide +kernel
theorem dX7_learnt_10 : decode cX7_learnt 10 = .ok (.ireturn, 1) := by decide +kernel
theorem dX7_learnt_11 : decode cX7_learnt 11 = .ok (.aload_n 0, 1) := by decide +kernel
theorem dX7_learnt_12 : decode cX7_learnt 12 = .ok (.getfield 30, 3) := by decide +kernel
theorem dX7_learnt_15 : decode cX7_learnt 15 = .ok (.invokevirtual 201, 3) := by decide +kernel
theorem dX7_learnt_18 : decode cX7_learnt 18 = .ok (.bipush (-9), 2) := by decide +kernel
theorem dX7_learnt_20 : decode cX7_learnt 20 = .ok (.if_icmp .eq 13, 3) := by decide +kernel
theorem dX7_learnt_23 : decode cX7_learnt 23 = .ok (.aload_n 0, 1) := by decide +kernel
theorem dX7_learnt_24 : decode cX7_learnt 24 = .ok (.getfield 30, 3) := by decide +kernel
theorem dX7_learnt_27 : decode cX7_learnt 27 = .ok (.invokevirtual 204, 3) := by decide +kernel
theorem dX7_learnt_30 : decode cX7_learnt 30 = .ok (.ifCond .ne 6, 3) := by decide +kernel
theorem dX7_learnt_33 : decode cX7_learnt 33 = .ok (.bipush (-9), 2) := by decide +kernel
theorem dX7_learnt_35 : decode cX7_learnt 35 = .ok (.ireturn, 1) := by decide +kernel
theorem dX7_learnt_36 : decode cX7_learnt 36 = .ok (.iload_n 1, 1) := by decide +kernel
theorem dX7_learnt_37 : decode cX7_learnt 37 = .ok (.tableswitch 115 0 4 #[35, 43, 51, 79, 107], 35) := by decide +kernel
theorem dX7_learnt_72 : decode cX7_learnt 72 = .ok (.aload_n 0, 1) := by decide +kernel
theorem dX7_learnt_73 : decode cX7_learnt 73 = .ok (.getfield 30, 3) := by decide +kernel
theorem dX7_learnt_76 : decode cX7_learnt 76 = .ok (.invokevirtual 201, 3) := by decide +kernel
theorem dX7_learnt_79 : decode cX7_learnt 79 = .ok (.ireturn, 1) := by decide +kernel
theorem dX7_learnt_80 : decode cX7_learnt 80 = .ok (.aload_n 0, 1) := by decide +kernel
theorem dX7_learnt_81 : decode cX7_learnt 81 = .ok (.getfield 30, 3) := by decide +kernel
theorem dX7_learnt_84 : decode cX7_learnt 84 = .ok (.invokevirtual 207, 3) := by decide +kernel
theorem dX7_learnt_87 : decode cX7_learnt 87 = .ok (.ireturn, 1) := by decide +kernel
theorem dX7_learnt_88 : decode cX7_learnt 88 = .ok (.aload_n 0, 1) := by decide +kernel
theorem dX7_learnt_89 : decode cX7_learnt 89 = .ok (.getfield 30, 3) := by decide +kernel
theorem dX7_learnt_92 : decode cX7_learnt 92 = .ok (.invokevirtual 210, 3) := by decide +kernel
theorem dX7_learnt_95 : decode cX7_learnt 95 = .ok (.aload_n 0, 1) := by decide +kernel
theorem dX7_learnt_96 : decode cX7_learnt 96 = .ok (.getfield 30, 3) := by decide +kernel
theorem dX7_learnt_99 : decode cX7_learnt 99 = .ok (.invokevirtual 213, 3) := by decide +kernel
theorem dX7_learnt_102 : decode cX7_learnt 102 = .ok (.iconst (-1), 1) := by decide +kernel
theorem dX7_learnt_103 : decode cX7_learnt 103 = .ok (.ixor, 1) := by decide +kernel
theorem dX7_learnt_104 : decode cX7_learnt 104 = .ok (.iand, 1) := by decide +kernel
theorem dX7_learnt_105 : decode cX7_learnt 105 = .ok (.aload_n 0, 1) := by decide +kernel
theorem dX7_learnt_106 : decode cX7_learnt 106 = .ok (.getfield 30, 3) := by decide +kernel
theorem dX7_learnt_109 : decode cX7_learnt 109 = .ok (.invokevirtual 216, 3) := by decide +kernel
theorem dX7_learnt_112 : decode cX7_learnt 112 = .ok (.iconst (-1), 1) := by decide +kernel
theorem dX7_learnt_113 : decode cX7_learnt 113 = .ok (.ixor, 1) := by decide +kernel
theorem dX7_learnt_114 : decode cX7_learnt 114 = .ok (.iand, 1) := by decide +kernel
theorem dX7_learnt_115 : decode cX7_learnt 115 = .ok (.ireturn, 1) := by decide +kernel
theorem dX7_learnt_116 : decode cX7_learnt 116 = .ok (.aload_n 0, 1) := by decide +kernel
theorem dX7_learnt_117 : decode cX7_learnt 117 = .ok (.getfield 30, 3) := by decide +kernel
theorem dX7_learnt_120 : decode cX7_learnt 120 = .ok (.invokevirtual 213, 3) := by decide +kernel
theorem dX7_learnt_123 : decode cX7_learnt 123 = .ok (.aload_n 0, 1) := by decide +kernel
theorem dX7_learnt_124 : decode cX7_learnt 124 = .ok (.getfield 30, 3) := by decide +kernel
theorem dX7_learnt_127 : decode cX7_learnt 127 = .ok (.invokevirtual 210, 3) := by decide +kernel
theorem dX7_learnt_130 : decode cX7_learnt 130 = .ok (.iconst (-1), 1) := by decide +kernel
theorem dX7_learnt_131 : decode cX7_learnt 131 = .ok (.ixor, 1) := by decide +kernel
theorem dX7_learnt_132 : decode cX7_learnt 132 = .ok (.iand, 1) := by decide +kernel
theorem dX7_learnt_133 : decode cX7_learnt 133 = .ok (.aload_n 0, 1) := by decide +kernel
theorem dX7_learnt_134 : decode cX7_learnt 134 = .ok (.getfield 30, 3) := by decide +kernel
theorem dX7_learnt_137 : decode cX7_learnt 137 = .ok (.invokevirtual 216, 3) := by decide +kernel
theorem dX7_learnt_140 : decode cX7_learnt 140 = .ok (.iconst (-1), 1) := by decide +kernel
theorem dX7_learnt_141 : decode cX7_learnt 141 = .ok (.ixor, 1) := by decide +kernel
theorem dX7_learnt_142 : decode cX7_learnt 142 = .ok (.iand, 1) := by decide +kernel
theorem dX7_learnt_143 : decode cX7_learnt 143 = .ok (.ireturn, 1) := by decide +kernel
theorem dX7_learnt_144 : decode cX7_learnt 144 = .ok (.aload_n 0, 1) := by decide +kernel
theorem dX7_learnt_145 : decode cX7_learnt 145 = .ok (.getfield 30, 3) := by decide +kernel
theorem dX7_learnt_148 : decode cX7_learnt 148 = .ok (.invokevirtual 210, 3) := by decide +kernel
theorem dX7_learnt_151 : decode cX7_learnt 151 = .ok (.ireturn, 1) := by decide +kernel
theorem dX7_learnt_152 : decode cX7_learnt 152 = .ok (.aload_n 0, 1) := by decide +kernel
theorem dX7_learnt_153 : decode cX7_learnt 153 = .ok (.getfield 30, 3) := by decide +kernel
theorem dX7_learnt_156 : decode cX7_learnt 156 = .ok (.invokevirtual 213, 3) := by decide +kernel
theorem dX7_learnt_159 : decode cX7_learnt 159 = .ok (.ireturn, 1) := by decide +kernel
theorem dX7_forget_0 : decode cX7_forget 0 = .ok (.aload_n 0, 1) := by decide +kernel
theorem dX7_forget_1 : decode cX7_forget 1 = .ok (.getfield 30, 3) := by decide +kernel
theorem dX7_forget_4 : decode cX7_forget 4 = .ok (.getfield 198, 3) := by decide +kernel
theorem dX7_forget_7 : decode cX7_forget 7 = .ok (.istore_n 1, 1) := by decide +kernel
theorem dX7_forget_8 : decode cX7_forget 8 = .ok (.aload_n 0, 1) := by decide +kernel
theorem dX7_forget_9 : decode cX7_forget 9 = .ok (.getfield 30, 3) := by decide +kernel
theorem dX7_forget_12 : decode cX7_forget 12 = .ok (.iconst 0, 1) := by decide +kernel
theorem dX7_forget_13 : decode cX7_forget 13 = .ok (.putfield 198, 3) := by decide +kernel
theorem dX7_forget_16 : decode cX7_forget 16 = .ok (.iload_n 1, 1) := by decide +kernel
theorem dX7_forget_17 : decode cX7_forget 17 = .ok (.ireturn, 1) := by decide +kernel
set_option maxRecDepth 20000 in
theorem ggX7_copy_X1_isFull : GoodIn wsX7_copy wsX1_isFull := goodIn_r _ [6, 7, 23, 24] (by decide +kernel) (by decide +kernel)
set_option maxRecDepth 20000 in
theorem gX7_copy_X1_isFull : GoodIn wsX7_copy (wsV RX7 219 RX1 yX1_isFull wsX1_isFull) := goodIn_app (goodIn_of _ (by decide +kernel)) ggX7_copy_X1_isFull
set_option maxRecDepth 20000 in
theorem ggX7_copy_X1_add : GoodIn wsX7_copy wsX1_add := goodIn_r _ [11, 12, 7, 13, 3, 4, 5, 6, 23, 24] (by decide +kernel) (by decide +kernel)
set_option maxRecDepth 20000 in
theorem gX7_copy_X1_add : GoodIn wsX7_copy (wsV RX7 220 RX1 yX1_add wsX1_add) := goodIn_app (goodIn_of _ (by decide +kernel)) ggX7_copy_X1_add
theorem dX7_copy_0 : decode cX7_copy 0 = .ok (.iload_n 1, 1) := by decide +kernel
theorem dX7_copy_1 : decode cX7_copy 1 = .ok (.ifCond .lt 10, 3) := by decide +kernel
theorem dX7_copy_4 : decode cX7_copy 4 = .ok (.iload_n 1, 1) := by decide +kernel
theorem dX7_copy_5 : decode cX7_copy 5 = .ok (.sipush 255, 3) := by decide +kernel
theorem dX7_copy_8 : decode cX7_copy 8 = .ok (.if_icmp .le 5, 3) := by decide +kernel
theorem dX7_copy_11 : decode cX7_copy 11 = .ok (.iconst (-1), 1) := by decide +kernel
theorem dX7_copy_12 : decode cX7_copy 12 = .ok (.ireturn, 1) := by decide +kernel
theorem dX7_copy_13 : decode cX7_copy 13 = .ok (.aload_n 0, 1) := by decide +kernel
theorem dX7_copy_14 : decode cX7_copy 14 = .ok (.getfield 37, 3) := by decide +kernel
theorem dX7_copy_17 : decode cX7_copy 17 = .ok (.invokevirtual 219, 3) := by decide +kernel
theorem dX7_copy_20 : decode cX7_copy 20 = .ok (.ifCond .eq 6, 3) := by decide +kernel
theorem dX7_copy_23 : decode cX7_copy 23 = .ok (.bipush (-3), 2) := by decide +kernel
theorem dX7_copy_25 : decode cX7_copy 25 = .ok (.ireturn, 1) := by decide +kernel
theorem dX7_copy_26 : decode cX7_copy 26 = .ok (.aload_n 0, 1) := by decide +kernel
theorem dX7_copy_27 : decode cX7_copy 27 = .ok (.getfield 37, 3) := by decide +kernel
theorem dX7_copy_30 : decode cX7_copy 30 = .ok (.iload_n 1, 1) := by decide +kernel
theorem dX7_copy_31 : decode cX7_copy 31 = .ok (.invokevirtual 220, 3) := by decide +kernel
theorem dX7_copy_34 : decode cX7_copy 34 = .ok (.aload_n 0, 1) := by decide +kernel
theorem dX7_copy_35 : decode cX7_copy 35 = .ok (.getfield 37, 3) := by decide +kernel
theorem dX7_copy_38 : decode cX7_copy 38 = .ok (.getfield 223, 3) := by decide +kernel
theorem dX7_copy_41 : decode cX7_copy 41 = .ok (.iconst 1, 1) := by decide +kernel
theorem dX7_copy_42 : decode cX7_copy 42 = .ok (.isub, 1) := by decide +kernel
theorem dX7_copy_43 : decode cX7_copy 43 = .ok (.ireturn, 1) := by decide +kernel
set_option maxRecDepth 20000 in
theorem ggX7_came_X1_originOf : GoodIn wsX7_came wsX1_originOf := goodIn_r _ [6, 7, 8, 9, 10, 11, 5, 12, 13, 14, 15, 16, 17, 18, 19, 34, 35] (by decide +kernel) (by decide +kernel)
set_option maxRecDepth 20000 in
theorem gX7_came_X1_originOf : GoodIn wsX7_came (wsV RX7 227 RX1 yX1_originOf wsX1_originOf) := goodIn_app (goodIn_of _ (by decide +kernel)) ggX7_came_X1_originOf
set_option maxRecDepth 20000 in
theorem ggX7_came_X1_depthOf : GoodIn wsX7_came wsX1_depthOf := goodIn_r _ [23, 24, 3, 4, 5, 6, 7, 8, 9, 10, 11, 12, 13, 14, 15, 16, 17, 18, 19, 34, 35] (by decide +kernel) (by decide +kernel)
set_option maxRecDepth 20000 in
theorem gX7_came_X1_depthOf : GoodIn wsX7_came (wsV RX7 230 RX1 yX1_depthOf wsX1_depthOf) := goodIn_app (goodIn_of _ (by decide +kernel)) ggX7_came_X1_depthOf
theorem dX7_came_0 : decode cX7_came 0 = .ok (.iload_n 1, 1) := by decide +kernel
theorem dX7_came_1 : decode cX7_came 1 = .ok (.ifCond .lt 14, 3) := by decide +kernel
theorem dX7_came_4 : decode cX7_came 4 = .ok (.iload_n 1, 1) := by decide +kernel
theorem dX7_came_5 : decode cX7_came 5 = .ok (.aload_n 0, 1) := by decide +kernel
theorem dX7_came_6 : decode cX7_came 6 = .ok (.getfield 37, 3) := by decide +kernel
theorem dX7_came_9 : decode cX7_came 9 = .ok (.getfield 223, 3) := by decide +kernel
theorem dX7_came_12 : decode cX7_came 12 = .ok (.if_icmp .lt 5, 3) := by decide +kernel
theorem dX7_came_15 : decode cX7_came 15 = .ok (.iconst (-1), 1) := by decide +kernel
theorem dX7_came_16 : decode cX7_came 16 = .ok (.ireturn, 1) := by decide +kernel
theorem dX7_came_17 : decode cX7_came 17 = .ok (.iload_n 2, 1) := by decide +kernel
theorem dX7_came_18 : decode cX7_came 18 = .ok (.tableswitch 54 0 2 #[26, 36, 45], 26) := by decide +kernel
theorem dX7_came_44 : decode cX7_came 44 = .ok (.aload_n 0, 1) := by decide +kernel
theorem dX7_came_45 : decode cX7_came 45 = .ok (.getfield 37, 3) := by decide +kernel
theorem dX7_came_48 : decode cX7_came 48 = .ok (.getfield 224, 3) := by decide +kernel
theorem dX7_came_51 : decode cX7_came 51 = .ok (.iload_n 1, 1) := by decide +kernel
theorem dX7_came_52 : decode cX7_came 52 = .ok (.iaload, 1) := by decide +kernel
theorem dX7_came_53 : decode cX7_came 53 = .ok (.ireturn, 1) := by decide +kernel
theorem dX7_came_54 : decode cX7_came 54 = .ok (.aload_n 0, 1) := by decide +kernel
theorem dX7_came_55 : decode cX7_came 55 = .ok (.getfield 37, 3) := by decide +kernel
theorem dX7_came_58 : decode cX7_came 58 = .ok (.iload_n 1, 1) := by decide +kernel
theorem dX7_came_59 : decode cX7_came 59 = .ok (.invokevirtual 227, 3) := by decide +kernel
theorem dX7_came_62 : decode cX7_came 62 = .ok (.ireturn, 1) := by decide +kernel
theorem dX7_came_63 : decode cX7_came 63 = .ok (.aload_n 0, 1) := by decide +kernel
theorem dX7_came_64 : decode cX7_came 64 = .ok (.getfield 37, 3) := by decide +kernel
theorem dX7_came_67 : decode cX7_came 67 = .ok (.iload_n 1, 1) := by decide +kernel
theorem dX7_came_68 : decode cX7_came 68 = .ok (.invokevirtual 230, 3) := by decide +kernel
theorem dX7_came_71 : decode cX7_came 71 = .ok (.ireturn, 1) := by decide +kernel
theorem dX7_came_72 : decode cX7_came 72 = .ok (.iconst (-1), 1) := by decide +kernel
theorem dX7_came_73 : decode cX7_came 73 = .ok (.ireturn, 1) := by decide +kernel
set_option maxRecDepth 20000 in
theorem ggX7_firsts_X1_originOf : GoodIn wsX7_firsts wsX1_originOf := goodIn_r _ [6, 7, 8, 9, 10, 11, 5, 12, 13, 14, 15, 16, 17, 18, 19, 29, 30] (by decide +kernel) (by decide +kernel)
set_option maxRecDepth 20000 in
theorem gX7_firsts_X1_originOf : GoodIn wsX7_firsts (wsV RX7 227 RX1 yX1_originOf wsX1_originOf) := goodIn_app (goodIn_of _ (by decide +kernel)) ggX7_firsts_X1_originOf
theorem dX7_firsts_0 : decode cX7_firsts 0 = .ok (.iconst 0, 1) := by decide +kernel
theorem dX7_firsts_1 : decode cX7_firsts 1 = .ok (.istore_n 1, 1) := by decide +kernel
theorem dX7_firsts_2 : decode cX7_firsts 2 = .ok (.iconst 0, 1) := by decide +kernel
theorem dX7_firsts_3 : decode cX7_firsts 3 = .ok (.istore_n 2, 1) := by decide +kernel
theorem dX7_firsts_4 : decode cX7_firsts 4 = .ok (.iload_n 2, 1) := by decide +kernel
theorem dX7_firsts_5 : decode cX7_firsts 5 = .ok (.aload_n 0, 1) := by decide +kernel
theorem dX7_firsts_6 : decode cX7_firsts 6 = .ok (.getfield 37, 3) := by decide +kernel
theorem dX7_firsts_9 : decode cX7_firsts 9 = .ok (.getfield 223, 3) := by decide +kernel
theorem dX7_firsts_12 : decode cX7_firsts 12 = .ok (.if_icmp .ge 28, 3) := by decide +kernel
theorem dX7_firsts_15 : decode cX7_firsts 15 = .ok (.aload_n 0, 1) := by decide +kernel
theorem dX7_firsts_16 : decode cX7_firsts 16 = .ok (.getfield 37, 3) := by decide +kernel
theorem dX7_firsts_19 : decode cX7_firsts 19 = .ok (.iload_n 2, 1) := by decide +kernel
theorem dX7_firsts_20 : decode cX7_firsts 20 = .ok (.invokevirtual 227, 3) := by decide +kernel
theorem dX7_firsts_23 : decode cX7_firsts 23 = .ok (.bipush (-9), 2) := by decide +kernel
theorem dX7_firsts_25 : decode cX7_firsts 25 = .ok (.if_icmp .ne 9, 3) := by decide +kernel
theorem dX7_firsts_28 : decode cX7_firsts 28 = .ok (.iload_n 1, 1) := by decide +kernel
theorem dX7_firsts_29 : decode cX7_firsts 29 = .ok (.iconst 1, 1) := by decide +kernel
theorem dX7_firsts_30 : decode cX7_firsts 30 = .ok (.iload_n 2, 1) := by decide +kernel
theorem dX7_firsts_31 : decode cX7_firsts 31 = .ok (.ishl, 1) := by decide +kernel
theorem dX7_firsts_32 : decode cX7_firsts 32 = .ok (.ior, 1) := by decide +kernel
theorem dX7_firsts_33 : decode cX7_firsts 33 = .ok (.istore_n 1, 1) := by decide +kernel
theorem dX7_firsts_34 : decode cX7_firsts 34 = .ok (.iinc 2 1, 3) := by decide +kernel
theorem dX7_firsts_37 : decode cX7_firsts 37 = .ok (.goto (-33), 3) := by decide +kernel
theorem dX7_firsts_40 : decode cX7_firsts 40 = .ok (.iload_n 1, 1) := by decide +kernel
theorem dX7_firsts_41 : decode cX7_firsts 41 = .ok (.ireturn, 1) := by decide +kernel
theorem dX7_burn_0 : decode cX7_burn 0 = .ok (.aload_n 0, 1) := by decide +kernel
theorem dX7_burn_1 : decode cX7_burn 1 = .ok (.getfield 37, 3) := by decide +kernel
theorem dX7_burn_4 : decode cX7_burn 4 = .ok (.getfield 223, 3) := by decide +kernel
theorem dX7_burn_7 : decode cX7_burn 7 = .ok (.istore_n 1, 1) := by decide +kernel
theorem dX7_burn_8 : decode cX7_burn 8 = .ok (.aload_n 0, 1) := by decide +kernel
theorem dX7_burn_9 : decode cX7_burn 9 = .ok (.getfield 37, 3) := by decide +kernel
theorem dX7_burn_12 : decode cX7_burn 12 = .ok (.iconst 0, 1) := by decide +kernel
theorem dX7_burn_13 : decode cX7_burn 13 = .ok (.putfield 223, 3) := by decide +kernel
theorem dX7_burn_16 : decode cX7_burn 16 = .ok (.iload_n 1, 1) := by decide +kernel
theorem dX7_burn_17 : decode cX7_burn 17 = .ok (.ireturn, 1) := by decide +kernel
set_option maxRecDepth 20000 in
theorem ggX7_rate_X3_find : GoodIn wsX7_rate wsX3_find := goodIn_r _ [7, 8, 9, 57, 58, 59, 60, 61] (by decide +kernel) (by decide +kernel)
set_option maxRecDepth 20000 in
theorem gX7_rate_X3_find : GoodIn wsX7_rate (wsV RX7 87 RX3 yX3_find wsX3_find) := goodIn_app (goodIn_of _ (by decide +kernel)) ggX7_rate_X3_find
set_option maxRecDepth 20000 in
theorem ggX7_rate_X7_asClerk : GoodIn wsX7_rate wsX7_asClerk := goodIn_r _ [14, 15, 48, 49, 50, 51, 52, 53, 54, 55, 56, 62, 63, 64, 65] (by decide +kernel) (by decide +kernel)
set_option maxRecDepth 20000 in
theorem gX7_rate_X7_asClerk : GoodIn wsX7_rate (wsV RX7 234 RX7 yX7_asClerk wsX7_asClerk) := goodIn_app (goodIn_of _ (by decide +kernel)) ggX7_rate_X7_asClerk
set_option maxRecDepth 20000 in
theorem ggX7_rate_X7_asTwin : GoodIn wsX7_rate wsX7_asTwin := goodIn_r _ [19, 15, 20, 10, 11, 12, 13, 14, 21, 22, 23, 24, 25, 26, 27, 48, 49, 50, 51, 52, 53, 54, 55, 56, 62, 63, 64, 65] (by decide +kernel) (by decide +kernel)
set_option maxRecDepth 20000 in
theorem gX7_rate_X7_asTwin : GoodIn wsX7_rate (wsV RX7 238 RX7 yX7_asTwin wsX7_asTwin) := goodIn_app (goodIn_of _ (by decide +kernel)) ggX7_rate_X7_asTwin
set_option maxRecDepth 20000 in
theorem ggX7_rate_X7_asMocker : GoodIn wsX7_rate wsX7_asMocker := goodIn_r _ [31, 15, 32, 10, 11, 12, 13, 14, 21, 22, 23, 24, 25, 26, 27, 48, 49, 50, 51, 52, 53, 54, 55, 56, 62, 63, 64, 65] (by decide +kernel) (by decide +kernel)
set_option maxRecDepth 20000 in
theorem gX7_rate_X7_asMocker : GoodIn wsX7_rate (wsV RX7 241 RX7 yX7_asMocker wsX7_asMocker) := goodIn_app (goodIn_of _ (by decide +kernel)) ggX7_rate_X7_asMocker
set_option maxRecDepth 20000 in
theorem ggX7_rate_X7_asConstant : GoodIn wsX7_rate wsX7_asConstant := goodIn_r _ [36, 15, 37, 16, 17, 18, 13, 19, 20, 10, 11, 12, 14, 21, 22, 23, 24, 25, 26, 27, 48, 49, 50, 51, 52, 53, 54, 55, 56, 62, 63, 64, 65] (by decide +kernel) (by decide +kernel)
set_option maxRecDepth 20000 in
theorem gX7_rate_X7_asConstant : GoodIn wsX7_rate (wsV RX7 244 RX7 yX7_asConstant wsX7_asConstant) := goodIn_app (goodIn_of _ (by decide +kernel)) ggX7_rate_X7_asConstant
set_option maxRecDepth 20000 in
theorem ggX7_rate_X7_asLeft : GoodIn wsX7_rate wsX7_asLeft := goodIn_r _ [41, 15, 42, 28, 29, 30, 13, 31, 32, 10, 11, 12, 14, 21, 22, 23, 24, 25, 26, 27, 48, 49, 50, 51, 52, 53, 54, 55, 56, 62, 63, 64, 65] (by decide +kernel) (by decide +kernel)
set_option maxRecDepth 20000 in
theorem gX7_rate_X7_asLeft : GoodIn wsX7_rate (wsV RX7 247 RX7 yX7_asLeft wsX7_asLeft) := goodIn_app (goodIn_of _ (by decide +kernel)) ggX7_rate_X7_asLeft
set_option maxRecDepth 20000 in
theorem ggX7_rate_X7_asHasty : GoodIn wsX7_rate wsX7_asHasty := goodIn_r _ [46, 15, 47, 10, 11, 12, 13, 14, 48, 49, 50, 51, 52, 53, 54, 55, 56, 62, 63, 64, 65] (by decide +kernel) (by decide +kernel)
set_option maxRecDepth 20000 in
theorem gX7_rate_X7_asHasty : GoodIn wsX7_rate (wsV RX7 251 RX7 yX7_asHasty wsX7_asHasty) := goodIn_app (goodIn_of _ (by decide +kernel)) ggX7_rate_X7_asHasty
theorem dX7_rate_0 : decode cX7_rate 0 = .ok (.aload_n 0, 1) := by decide +kernel
theorem dX7_rate_1 : decode cX7_rate 1 = .ok (.getfield 51, 3) := by decide +kernel
theorem dX7_rate_4 : decode cX7_rate 4 = .ok (.iload_n 2, 1) := by decide +kernel
theorem dX7_rate_5 : decode cX7_rate 5 = .ok (.invokevirtual 87, 3) := by decide +kernel
theorem dX7_rate_8 : decode cX7_rate 8 = .ok (.astore_n 3, 1) := by decide +kernel
theorem dX7_rate_9 : decode cX7_rate 9 = .ok (.aload_n 3, 1) := by decide +kernel
theorem dX7_rate_10 : decode cX7_rate 10 = .ok (.ifnonnull 6, 3) := by decide +kernel
theorem dX7_rate_13 : decode cX7_rate 13 = .ok (.ldc 233, 2) := by decide +kernel
theorem dX7_rate_15 : decode cX7_rate 15 = .ok (.ireturn, 1) := by decide +kernel
theorem dX7_rate_16 : decode cX7_rate 16 = .ok (.iload_n 1, 1) := by decide +kernel
theorem dX7_rate_17 : decode cX7_rate 17 = .ok (.tableswitch 76 0 5 #[39, 45, 51, 57, 63, 70], 39) := by decide +kernel
theorem dX7_rate_56 : decode cX7_rate 56 = .ok (.aload_n 0, 1) := by decide +kernel
theorem dX7_rate_57 : decode cX7_rate 57 = .ok (.aload_n 3, 1) := by decide +kernel
theorem dX7_rate_58 : decode cX7_rate 58 = .ok (.invokevirtual 234, 3) := by decide +kernel
theorem dX7_rate_61 : decode cX7_rate 61 = .ok (.ireturn, 1) := by decide +kernel
theorem dX7_rate_62 : decode cX7_rate 62 = .ok (.aload_n 0, 1) := by decide +kernel
theorem dX7_rate_63 : decode cX7_rate 63 = .ok (.aload_n 3, 1) := by decide +kernel
theorem dX7_rate_64 : decode cX7_rate 64 = .ok (.invokevirtual 238, 3) := by decide +kernel
theorem dX7_rate_67 : decode cX7_rate 67 = .ok (.ireturn, 1) := by decide +kernel
theorem dX7_rate_68 : decode cX7_rate 68 = .ok (.aload_n 0, 1) := by decide +kernel
theorem dX7_rate_69 : decode cX7_rate 69 = .ok (.aload_n 3, 1) := by decide +kernel
theorem dX7_rate_70 : decode cX7_rate 70 = .ok (.invokevirtual 241, 3) := by decide +kernel
theorem dX7_rate_73 : decode cX7_rate 73 = .ok (.ireturn, 1) := by decide +kernel
theorem dX7_rate_74 : decode cX7_rate 74 = .ok (.aload_n 0, 1) := by decide +kernel
theorem dX7_rate_75 : decode cX7_rate 75 = .ok (.aload_n 3, 1) := by decide +kernel
theorem dX7_rate_76 : decode cX7_rate 76 = .ok (.invokevirtual 244, 3) := by decide +kernel
theorem dX7_rate_79 : decode cX7_rate 79 = .ok (.ireturn, 1) := by decide +kernel
theorem dX7_rate_80 : decode cX7_rate 80 = .ok (.aload_n 0, 1) := by decide +kernel
theorem dX7_rate_81 : decode cX7_rate 81 = .ok (.aload_n 3, 1) := by decide +kernel
theorem dX7_rate_82 : decode cX7_rate 82 = .ok (.iload_n 2, 1) := by decide +kernel
theorem dX7_rate_83 : decode cX7_rate 83 = .ok (.invokevirtual 247, 3) := by decide +kernel
theorem dX7_rate_86 : decode cX7_rate 86 = .ok (.ireturn, 1) := by decide +kernel
theorem dX7_rate_87 : decode cX7_rate 87 = .ok (.aload_n 0, 1) := by decide +kernel
theorem dX7_rate_88 : decode cX7_rate 88 = .ok (.aload_n 3, 1) := by decide +kernel
theorem dX7_rate_89 : decode cX7_rate 89 = .ok (.invokevirtual 251, 3) := by decide +kernel
theorem dX7_rate_92 : decode cX7_rate 92 = .ok (.ireturn, 1) := by decide +kernel
theorem dX7_rate_93 : decode cX7_rate 93 = .ok (.ldc 233, 2) := by decide +kernel
theorem dX7_rate_95 : decode cX7_rate 95 = .ok (.ireturn, 1) := by decide +kernel
set_option maxRecDepth 20000 in
theorem ggX7_keep_X2_become : GoodIn wsX7_keep wsX2_become := goodIn_r _ [7, 8, 9, 10, 11, 12, 13, 14, 15, 16, 26, 27, 28, 29, 30] (by decide +kernel) (by decide +kernel)
set_option maxRecDepth 20000 in
theorem gX7_keep_X2_become : GoodIn wsX7_keep (wsV RX7 254 RX2 yX2_become wsX2_become) := goodIn_app (goodIn_of _ (by decide +kernel)) ggX7_keep_X2_become
theorem dX7_keep_0 : decode cX7_keep 0 = .ok (.iload_n 1, 1) := by decide +kernel
theorem dX7_keep_1 : decode cX7_keep 1 = .ok (.ifCond .lt 8, 3) := by decide +kernel
theorem dX7_keep_4 : decode cX7_keep 4 = .ok (.iload_n 1, 1) := by decide +kernel
theorem dX7_keep_5 : decode cX7_keep 5 = .ok (.iconst 2, 1) := by decide +kernel
theorem dX7_keep_6 : decode cX7_keep 6 = .ok (.if_icmp .lt 5, 3) := by decide +kernel
theorem dX7_keep_9 : decode cX7_keep 9 = .ok (.iconst (-1), 1) := by decide +kernel
theorem dX7_keep_10 : decode cX7_keep 10 = .ok (.ireturn, 1) := by decide +kernel
theorem dX7_keep_11 : decode cX7_keep 11 = .ok (.aload_n 0, 1) := by decide +kernel
theorem dX7_keep_12 : decode cX7_keep 12 = .ok (.getfield 23, 3) := by decide +kernel
theorem dX7_keep_15 : decode cX7_keep 15 = .ok (.iload_n 1, 1) := by decide +kernel
theorem dX7_keep_16 : decode cX7_keep 16 = .ok (.aaload, 1) := by decide +kernel
theorem dX7_keep_17 : decode cX7_keep 17 = .ok (.aload_n 0, 1) := by decide +kernel
theorem dX7_keep_18 : decode cX7_keep 18 = .ok (.getfield 19, 3) := by decide +kernel
theorem dX7_keep_21 : decode cX7_keep 21 = .ok (.invokevirtual 254, 3) := by decide +kernel
theorem dX7_keep_24 : decode cX7_keep 24 = .ok (.aload_n 0, 1) := by decide +kernel
theorem dX7_keep_25 : decode cX7_keep 25 = .ok (.getfield 19, 3) := by decide +kernel
theorem dX7_keep_28 : decode cX7_keep 28 = .ok (.getfield 105, 3) := by decide +kernel
theorem dX7_keep_31 : decode cX7_keep 31 = .ok (.ireturn, 1) := by decide +kernel
set_option maxRecDepth 20000 in
theorem ggX7_back_X2_isBlank : GoodIn wsX7_back wsX2_isBlank := goodIn_r _ [7, 8, 30, 31, 32, 33, 34] (by decide +kernel) (by decide +kernel)
set_option maxRecDepth 20000 in
theorem gX7_back_X2_isBlank : GoodIn wsX7_back (wsV RX7 258 RX2 yX2_isBlank wsX2_isBlank) := goodIn_app (goodIn_of _ (by decide +kernel)) ggX7_back_X2_isBlank
set_option maxRecDepth 20000 in
theorem ggX7_back_X2_become : GoodIn wsX7_back wsX2_become := goodIn_r _ [12, 13, 14, 15, 16, 17, 18, 19, 8, 20, 30, 31, 32, 33, 34] (by decide +kernel) (by decide +kernel)
set_option maxRecDepth 20000 in
theorem gX7_back_X2_become : GoodIn wsX7_back (wsV RX7 254 RX2 yX2_become wsX2_become) := goodIn_app (goodIn_of _ (by decide +kernel)) ggX7_back_X2_become
theorem dX7_back_0 : decode cX7_back 0 = .ok (.iload_n 1, 1) := by decide +kernel
theorem dX7_back_1 : decode cX7_back 1 = .ok (.ifCond .lt 8, 3) := by decide +kernel
theorem dX7_back_4 : decode cX7_back 4 = .ok (.iload_n 1, 1) := by decide +kernel
theorem dX7_back_5 : decode cX7_back 5 = .ok (.iconst 2, 1) := by decide +kernel
theorem dX7_back_6 : decode cX7_back 6 = .ok (.if_icmp .lt 5, 3) := by decide +kernel
theorem dX7_back_9 : decode cX7_back 9 = .ok (.iconst (-1), 1) := by decide +kernel
theorem dX7_back_10 : decode cX7_back 10 = .ok (.ireturn, 1) := by decide +kernel
theorem dX7_back_11 : decode cX7_back 11 = .ok (.aload_n 0, 1) := by decide +kernel
theorem dX7_back_12 : decode cX7_back 12 = .ok (.getfield 23, 3) := by decide +kernel
theorem dX7_back_15 : decode cX7_back 15 = .ok (.iload_n 1, 1) := by decide +kernel
theorem dX7_back_16 : decode cX7_back 16 = .ok (.aaload, 1) := by decide +kernel
theorem dX7_back_17 : decode cX7_back 17 = .ok (.invokevirtual 258, 3) := by decide +kernel
theorem dX7_back_20 : decode cX7_back 20 = .ok (.ifCond .eq 6, 3) := by decide +kernel
theorem dX7_back_23 : decode cX7_back 23 = .ok (.bipush (-2), 2) := by decide +kernel
theorem dX7_back_25 : decode cX7_back 25 = .ok (.ireturn, 1) := by decide +kernel
theorem dX7_back_26 : decode cX7_back 26 = .ok (.aload_n 0, 1) := by decide +kernel
theorem dX7_back_27 : decode cX7_back 27 = .ok (.getfield 19, 3) := by decide +kernel
theorem dX7_back_30 : decode cX7_back 30 = .ok (.aload_n 0, 1) := by decide +kernel
theorem dX7_back_31 : decode cX7_back 31 = .ok (.getfield 23, 3) := by decide +kernel
theorem dX7_back_34 : decode cX7_back 34 = .ok (.iload_n 1, 1) := by decide +kernel
theorem dX7_back_35 : decode cX7_back 35 = .ok (.aaload, 1) := by decide +kernel
theorem dX7_back_36 : decode cX7_back 36 = .ok (.invokevirtual 254, 3) := by decide +kernel
theorem dX7_back_39 : decode cX7_back 39 = .ok (.aload_n 0, 1) := by decide +kernel
theorem dX7_back_40 : decode cX7_back 40 = .ok (.getfield 19, 3) := by decide +kernel
theorem dX7_back_43 : decode cX7_back 43 = .ok (.getfield 105, 3) := by decide +kernel
theorem dX7_back_46 : decode cX7_back 46 = .ok (.ireturn, 1) := by decide +kernel
theorem dX7_count_0 : decode cX7_count 0 = .ok (.iload_n 1, 1) := by decide +kernel
theorem dX7_count_1 : decode cX7_count 1 = .ok (.tableswitch 75 0 4 #[35, 43, 51, 59, 67], 35) := by decide +kernel
theorem dX7_count_36 : decode cX7_count 36 = .ok (.aload_n 0, 1) := by decide +kernel
theorem dX7_count_37 : decode cX7_count 37 = .ok (.getfield 51, 3) := by decide +kernel
theorem dX7_count_40 : decode cX7_count 40 = .ok (.getfield 261, 3) := by decide +kernel
theorem dX7_count_43 : decode cX7_count 43 = .ok (.ireturn, 1) := by decide +kernel
theorem dX7_count_44 : decode cX7_count 44 = .ok (.aload_n 0, 1) := by decide +kernel
theorem dX7_count_45 : decode cX7_count 45 = .ok (.getfield 19, 3) := by decide +kernel
theorem dX7_count_48 : decode cX7_count 48 = .ok (.getfield 105, 3) := by decide +kernel
theorem dX7_count_51 : decode cX7_count 51 = .ok (.ireturn, 1) := by decide +kernel
theorem dX7_count_52 : decode cX7_count 52 = .ok (.aload_n 0, 1) := by decide +kernel
theorem dX7_count_53 : decode cX7_count 53 = .ok (.getfield 30, 3) := by decide +kernel
theorem dX7_count_56 : decode cX7_count 56 = .ok (.getfield 198, 3) := by decide +kernel
theorem dX7_count_59 : decode cX7_count 59 = .ok (.ireturn, 1) := by decide +kernel
theorem dX7_count_60 : decode cX7_count 60 = .ok (.aload_n 0, 1) := by decide +kernel
theorem dX7_count_61 : decode cX7_count 61 = .ok (.getfield 37, 3) := by decide +kernel
theorem dX7_count_64 : decode cX7_count 64 = .ok (.getfield 223, 3) := by decide +kernel
theorem dX7_count_67 : decode cX7_count 67 = .ok (.ireturn, 1) := by decide +kernel
theorem dX7_count_68 : decode cX7_count 68 = .ok (.aload_n 0, 1) := by decide +kernel
theorem dX7_count_69 : decode cX7_count 69 = .ok (.getfield 10, 3) := by decide +kernel
theorem dX7_count_72 : decode cX7_count 72 = .ok (.getfield 73, 3) := by decide +kernel
theorem dX7_count_75 : decode cX7_count 75 = .ok (.ireturn, 1) := by decide +kernel
theorem dX7_count_76 : decode cX7_count 76 = .ok (.iconst (-1), 1) := by decide +kernel
theorem dX7_count_77 : decode cX7_count 77 = .ok (.ireturn, 1) := by decide +kernel
theorem dX7_trace_0 : decode cX7_trace 0 = .ok (.aload_n 0, 1) := by decide +kernel
theorem dX7_trace_1 : decode cX7_trace 1 = .ok (.getfield 58, 3) := by decide +kernel
theorem dX7_trace_4 : decode cX7_trace 4 = .ok (.lreturn, 1) := by decide +kernel
set_option maxRecDepth 20000 in
theorem ggX7_beginAnew_X2_begin : GoodIn wsX7_beginAnew wsX2_begin := goodIn_r _ [11, 12, 13, 14, 15, 10, 16, 17, 18, 19, 20, 21, 22, 23, 50, 51, 52, 53, 54] (by decide +kernel) (by decide +kernel)
set_option maxRecDepth 20000 in
theorem gX7_beginAnew_X2_begin : GoodIn wsX7_beginAnew (wsV RX7 69 RX2 yX2_begin wsX2_begin) := goodIn_app (goodIn_of _ (by decide +kernel)) ggX7_beginAnew_X2_begin
theorem dX7_beginAnew_0 : decode cX7_beginAnew 0 = .ok (.aload_n 0, 1) := by decide +kernel
theorem dX7_beginAnew_1 : decode cX7_beginAnew 1 = .ok (.getfield 10, 3) := by decide +kernel
theorem dX7_beginAnew_4 : decode cX7_beginAnew 4 = .ok (.iconst 0, 1) := by decide +kernel
theorem dX7_beginAnew_5 : decode cX7_beginAnew 5 = .ok (.putfield 73, 3) := by decide +kernel
theorem dX7_beginAnew_8 : decode cX7_beginAnew 8 = .ok (.aload_n 0, 1) := by decide +kernel
theorem dX7_beginAnew_9 : decode cX7_beginAnew 9 = .ok (.getfield 19, 3) := by decide +kernel
theorem dX7_beginAnew_12 : decode cX7_beginAnew 12 = .ok (.aload_n 0, 1) := by decide +kernel
theorem dX7_beginAnew_13 : decode cX7_beginAnew 13 = .ok (.getfield 51, 3) := by decide +kernel
theorem dX7_beginAnew_16 : decode cX7_beginAnew 16 = .ok (.getfield 62, 3) := by decide +kernel
theorem dX7_beginAnew_19 : decode cX7_beginAnew 19 = .ok (.aload_n 0, 1) := by decide +kernel
theorem dX7_beginAnew_20 : decode cX7_beginAnew 20 = .ok (.getfield 51, 3) := by decide +kernel
theorem dX7_beginAnew_23 : decode cX7_beginAnew 23 = .ok (.getfield 66, 3) := by decide +kernel
theorem dX7_beginAnew_26 : decode cX7_beginAnew 26 = .ok (.invokevirtual 69, 3) := by decide +kernel
theorem dX7_beginAnew_29 : decode cX7_beginAnew 29 = .ok (.aload_n 0, 1) := by decide +kernel
theorem dX7_beginAnew_30 : decode cX7_beginAnew 30 = .ok (.getfield 30, 3) := by decide +kernel
theorem dX7_beginAnew_33 : decode cX7_beginAnew 33 = .ok (.iconst 0, 1) := by decide +kernel
theorem dX7_beginAnew_34 : decode cX7_beginAnew 34 = .ok (.putfield 198, 3) := by decide +kernel
theorem dX7_beginAnew_37 : decode cX7_beginAnew 37 = .ok (.aload_n 0, 1) := by decide +kernel
theorem dX7_beginAnew_38 : decode cX7_beginAnew 38 = .ok (.getfield 37, 3) := by decide +kernel
theorem dX7_beginAnew_41 : decode cX7_beginAnew 41 = .ok (.iconst 0, 1) := by decide +kernel
theorem dX7_beginAnew_42 : decode cX7_beginAnew 42 = .ok (.putfield 223, 3) := by decide +kernel
theorem dX7_beginAnew_45 : decode cX7_beginAnew 45 = .ok (.iconst 0, 1) := by decide +kernel
theorem dX7_beginAnew_46 : decode cX7_beginAnew 46 = .ok (.istore_n 1, 1) := by decide +kernel
theorem dX7_beginAnew_47 : decode cX7_beginAnew 47 = .ok (.iload_n 1, 1) := by decide +kernel
theorem dX7_beginAnew_48 : decode cX7_beginAnew 48 = .ok (.iconst 2, 1) := by decide +kernel
theorem dX7_beginAnew_49 : decode cX7_beginAnew 49 = .ok (.if_icmp .ge 19, 3) := by decide +kernel
theorem dX7_beginAnew_52 : decode cX7_beginAnew 52 = .ok (.aload_n 0, 1) := by decide +kernel
theorem dX7_beginAnew_53 : decode cX7_beginAnew 53 = .ok (.getfield 23, 3) := by decide +kernel
theorem dX7_beginAnew_56 : decode cX7_beginAnew 56 = .ok (.iload_n 1, 1) := by decide +kernel
theorem dX7_beginAnew_57 : decode cX7_beginAnew 57 = .ok (.aaload, 1) := by decide +kernel
theorem dX7_beginAnew_58 : decode cX7_beginAnew 58 = .ok (.iconst 0, 1) := by decide +kernel
theorem dX7_beginAnew_59 : decode cX7_beginAnew 59 = .ok (.putfield 105, 3) := by decide +kernel
theorem dX7_beginAnew_62 : decode cX7_beginAnew 62 = .ok (.iinc 1 1, 3) := by decide +kernel
theorem dX7_beginAnew_65 : decode cX7_beginAnew 65 = .ok (.goto (-18), 3) := by decide +kernel
theorem dX7_beginAnew_68 : decode cX7_beginAnew 68 = .ok (.return_, 1) := by decide +kernel
theorem dX7_isTone_0 : decode cX7_isTone 0 = .ok (.iload_n 0, 1) := by decide +kernel
theorem dX7_isTone_1 : decode cX7_isTone 1 = .ok (.ifCond .lt 13, 3) := by decide +kernel
theorem dX7_isTone_4 : decode cX7_isTone 4 = .ok (.iload_n 0, 1) := by decide +kernel
theorem dX7_isTone_5 : decode cX7_isTone 5 = .ok (.bipush 9, 2) := by decide +kernel
theorem dX7_isTone_7 : decode cX7_isTone 7 = .ok (.if_icmp .gt 7, 3) := by decide +kernel
theorem dX7_isTone_10 : decode cX7_isTone 10 = .ok (.iconst 1, 1) := by decide +kernel
theorem dX7_isTone_11 : decode cX7_isTone 11 = .ok (.goto 4, 3) := by decide +kernel
theorem dX7_isTone_14 : decode cX7_isTone 14 = .ok (.iconst 0, 1) := by decide +kernel
theorem dX7_isTone_15 : decode cX7_isTone 15 = .ok (.ireturn, 1) := by decide +kernel
set_option maxRecDepth 20000 in
theorem ggX7_isLine_X7_isTone : GoodIn wsX7_isLine wsX7_isTone := goodIn_r _ [4] (by decide +kernel) (by decide +kernel)
set_option maxRecDepth 20000 in
theorem gX7_isLine_X7_isTone : GoodIn wsX7_isLine (va_wsS RX7 184 yX7_isTone wsX7_isTone) := goodIn_app (goodIn_of _ (by decide +kernel)) ggX7_isLine_X7_isTone
theorem dX7_isLine_0 : decode cX7_isLine 0 = .ok (.iload_n 0, 1) := by decide +kernel
theorem dX7_isLine_1 : decode cX7_isLine 1 = .ok (.invokestatic 184, 3) := by decide +kernel
theorem dX7_isLine_4 : decode cX7_isLine 4 = .ok (.ifCond .eq 17, 3) := by decide +kernel
theorem dX7_isLine_7 : decode cX7_isLine 7 = .ok (.iload_n 1, 1) := by decide +kernel
theorem dX7_isLine_8 : decode cX7_isLine 8 = .ok (.ifCond .lt 13, 3) := by decide +kernel
theorem dX7_isLine_11 : decode cX7_isLine 11 = .ok (.iload_n 1, 1) := by decide +kernel
theorem dX7_isLine_12 : decode cX7_isLine 12 = .ok (.bipush 7, 2) := by decide +kernel
theorem dX7_isLine_14 : decode cX7_isLine 14 = .ok (.if_icmp .gt 7, 3) := by decide +kernel
theorem dX7_isLine_17 : decode cX7_isLine 17 = .ok (.iconst 1, 1) := by decide +kernel
theorem dX7_isLine_18 : decode cX7_isLine 18 = .ok (.goto 4, 3) := by decide +kernel
theorem dX7_isLine_21 : decode cX7_isLine 21 = .ok (.iconst 0, 1) := by decide +kernel
theorem dX7_isLine_22 : decode cX7_isLine 22 = .ok (.ireturn, 1) := by decide +kernel
theorem dX7_isWarm_0 : decode cX7_isWarm 0 = .ok (.iload_n 0, 1) := by decide +kernel
theorem dX7_isWarm_1 : decode cX7_isWarm 1 = .ok (.iconst 5, 1) := by decide +kernel
theorem dX7_isWarm_2 : decode cX7_isWarm 2 = .ok (.if_icmp .lt 7, 3) := by decide +kernel
theorem dX7_isWarm_5 : decode cX7_isWarm 5 = .ok (.iconst 1, 1) := by decide +kernel
theorem dX7_isWarm_6 : decode cX7_isWarm 6 = .ok (.goto 4, 3) := by decide +kernel
theorem dX7_isWarm_9 : decode cX7_isWarm 9 = .ok (.iconst 0, 1) := by decide +kernel
theorem dX7_isWarm_10 : decode cX7_isWarm 10 = .ok (.ireturn, 1) := by decide +kernel
theorem dX7_leant_0 : decode cX7_leant 0 = .ok (.iconst 0, 1) := by decide +kernel
theorem dX7_leant_1 : decode cX7_leant 1 = .ok (.bipush 9, 2) := by decide +kernel
theorem dX7_leant_3 : decode cX7_leant 3 = .ok (.iload_n 0, 1) := by decide +kernel
theorem dX7_leant_4 : decode cX7_leant 4 = .ok (.iload_n 1, 1) := by decide +kernel
theorem dX7_leant_5 : decode cX7_leant 5 = .ok (.iadd, 1) := by decide +kernel
theorem dX7_leant_6 : decode cX7_leant 6 = .ok (.iconst 4, 1) := by decide +kernel
theorem dX7_leant_7 : decode cX7_leant 7 = .ok (.isub, 1) := by decide +kernel
theorem dX7_leant_8 : decode cX7_leant 8 = .ok (.invokestatic 262, 3) := by decide +kernel
theorem dX7_leant_11 : decode cX7_leant 11 = .ok (.invokestatic 267, 3) := by decide +kernel
theorem dX7_leant_14 : decode cX7_leant 14 = .ok (.ireturn, 1) := by decide +kernel
theorem dX7_told_0 : decode cX7_told 0 = .ok (.iload_n 0, 1) := by decide +kernel
theorem dX7_told_1 : decode cX7_told 1 = .ok (.bipush 10, 2) := by decide +kernel
theorem dX7_told_3 : decode cX7_told 3 = .ok (.iload_n 1, 1) := by decide +kernel
theorem dX7_told_4 : decode cX7_told 4 = .ok (.imul, 1) := by decide +kernel
theorem dX7_told_5 : decode cX7_told 5 = .ok (.iadd, 1) := by decide +kernel
theorem dX7_told_6 : decode cX7_told 6 = .ok (.ireturn, 1) := by decide +kernel
theorem dX7_hasLineAhead_0 : decode cX7_hasLineAhead 0 = .ok (.iload_n 1, 1) := by decide +kernel
theorem dX7_hasLineAhead_1 : decode cX7_hasLineAhead 1 = .ok (.iconst 1, 1) := by decide +kernel
theorem dX7_hasLineAhead_2 : decode cX7_hasLineAhead 2 = .ok (.if_icmp .lt 18, 3) := by decide +kernel
theorem dX7_hasLineAhead_5 : decode cX7_hasLineAhead 5 = .ok (.iload_n 1, 1) := by decide +kernel
theorem dX7_hasLineAhead_6 : decode cX7_hasLineAhead 6 = .ok (.aload_n 0, 1) := by decide +kernel
theorem dX7_hasLineAhead_7 : decode cX7_hasLineAhead 7 = .ok (.getfield 19, 3) := by decide +kernel
theorem dX7_hasLineAhead_10 : decode cX7_hasLineAhead 10 = .ok (.getfield 105, 3) := by decide +kernel
theorem dX7_hasLineAhead_13 : decode cX7_hasLineAhead 13 = .ok (.if_icmp .ge 7, 3) := by decide +kernel
theorem dX7_hasLineAhead_16 : decode cX7_hasLineAhead 16 = .ok (.iconst 1, 1) := by decide +kernel
theorem dX7_hasLineAhead_17 : decode cX7_hasLineAhead 17 = .ok (.goto 4, 3) := by decide +kernel
theorem dX7_hasLineAhead_20 : decode cX7_hasLineAhead 20 = .ok (.iconst 0, 1) := by decide +kernel
theorem dX7_hasLineAhead_21 : decode cX7_hasLineAhead 21 = .ok (.ireturn, 1) := by decide +kernel
set_option maxRecDepth 20000 in
theorem ggX7_waysOf_X3_find : GoodIn wsX7_waysOf wsX3_find := goodIn_r _ [7, 8, 9, 55, 56, 57, 58, 59] (by decide +kernel) (by decide +kernel)
set_option maxRecDepth 20000 in
theorem gX7_waysOf_X3_find : GoodIn wsX7_waysOf (wsV RX7 87 RX3 yX3_find wsX3_find) := goodIn_app (goodIn_of _ (by decide +kernel)) ggX7_waysOf_X3_find
set_option maxRecDepth 20000 in
theorem ggX7_waysOf_X7_hasLineAhead : GoodIn wsX7_waysOf wsX7_hasLineAhead := goodIn_r _ [14, 2, 41, 42, 43, 44, 45, 46, 47, 48, 49, 50, 51, 52, 53, 54] (by decide +kernel) (by decide +kernel)
set_option maxRecDepth 20000 in
theorem gX7_waysOf_X7_hasLineAhead : GoodIn wsX7_waysOf (wsV RX7 158 RX7 yX7_hasLineAhead wsX7_hasLineAhead) := goodIn_app (goodIn_of _ (by decide +kernel)) ggX7_waysOf_X7_hasLineAhead
set_option maxRecDepth 20000 in
theorem ggX7_waysOf_X0_waysTo : GoodIn wsX7_waysOf wsX0_waysTo := goodIn_r _ [19, 20, 21, 22, 23, 18, 24, 25, 26, 13, 27, 28, 29, 30, 31, 32, 33, 34, 35, 36, 37, 38, 39, 40, 60, 61, 62, 63] (by decide +kernel) (by decide +kernel)
set_option maxRecDepth 20000 in
theorem gX7_waysOf_X0_waysTo : GoodIn wsX7_waysOf (wsV RX7 270 RX0 yX0_waysTo wsX0_waysTo) := goodIn_app (goodIn_of _ (by decide +kernel)) ggX7_waysOf_X0_waysTo
theorem dX7_waysOf_0 : decode cX7_waysOf 0 = .ok (.aload_n 0, 1) := by decide +kernel
theorem dX7_waysOf_1 : decode cX7_waysOf 1 = .ok (.getfield 51, 3) := by decide +kernel
theorem dX7_waysOf_4 : decode cX7_waysOf 4 = .ok (.iload_n 1, 1) := by decide +kernel
theorem dX7_waysOf_5 : decode cX7_waysOf 5 = .ok (.invokevirtual 87, 3) := by decide +kernel
theorem dX7_waysOf_8 : decode cX7_waysOf 8 = .ok (.astore_n 3, 1) := by decide +kernel
theorem dX7_waysOf_9 : decode cX7_waysOf 9 = .ok (.aload_n 3, 1) := by decide +kernel
theorem dX7_waysOf_10 : decode cX7_waysOf 10 = .ok (.ifnull 11, 3) := by decide +kernel
theorem dX7_waysOf_13 : decode cX7_waysOf 13 = .ok (.aload_n 0, 1) := by decide +kernel
theorem dX7_waysOf_14 : decode cX7_waysOf 14 = .ok (.iload_n 2, 1) := by decide +kernel
theorem dX7_waysOf_15 : decode cX7_waysOf 15 = .ok (.invokevirtual 158, 3) := by decide +kernel
theorem dX7_waysOf_18 : decode cX7_waysOf 18 = .ok (.ifCond .ne 5, 3) := by decide +kernel
theorem dX7_waysOf_21 : decode cX7_waysOf 21 = .ok (.iconst 0, 1) := by decide +kernel
theorem dX7_waysOf_22 : decode cX7_waysOf 22 = .ok (.ireturn, 1) := by decide +kernel
theorem dX7_waysOf_23 : decode cX7_waysOf 23 = .ok (.aload_n 0, 1) := by decide +kernel
theorem dX7_waysOf_24 : decode cX7_waysOf 24 = .ok (.getfield 19, 3) := by decide +kernel
theorem dX7_waysOf_27 : decode cX7_waysOf 27 = .ok (.getfield 108, 3) := by decide +kernel
theorem dX7_waysOf_30 : decode cX7_waysOf 30 = .ok (.iload_n 2, 1) := by decide +kernel
theorem dX7_waysOf_31 : decode cX7_waysOf 31 = .ok (.iconst 1, 1) := by decide +kernel
theorem dX7_waysOf_32 : decode cX7_waysOf 32 = .ok (.isub, 1) := by decide +kernel
theorem dX7_waysOf_33 : decode cX7_waysOf 33 = .ok (.iaload, 1) := by decide +kernel
theorem dX7_waysOf_34 : decode cX7_waysOf 34 = .ok (.istore 4, 2) := by decide +kernel
theorem dX7_waysOf_36 : decode cX7_waysOf 36 = .ok (.aload_n 0, 1) := by decide +kernel
theorem dX7_waysOf_37 : decode cX7_waysOf 37 = .ok (.getfield 19, 3) := by decide +kernel
theorem dX7_waysOf_40 : decode cX7_waysOf 40 = .ok (.getfield 112, 3) := by decide +kernel
theorem dX7_waysOf_43 : decode cX7_waysOf 43 = .ok (.iload_n 2, 1) := by decide +kernel
theorem dX7_waysOf_44 : decode cX7_waysOf 44 = .ok (.iconst 1, 1) := by decide +kernel
theorem dX7_waysOf_45 : decode cX7_waysOf 45 = .ok (.isub, 1) := by decide +kernel
theorem dX7_waysOf_46 : decode cX7_waysOf 46 = .ok (.iaload, 1) := by decide +kernel
theorem dX7_waysOf_47 : decode cX7_waysOf 47 = .ok (.istore 5, 2) := by decide +kernel
theorem dX7_waysOf_49 : decode cX7_waysOf 49 = .ok (.aload_n 3, 1) := by decide +kernel
theorem dX7_waysOf_50 : decode cX7_waysOf 50 = .ok (.iload 4, 2) := by decide +kernel
theorem dX7_waysOf_52 : decode cX7_waysOf 52 = .ok (.iload 5, 2) := by decide +kernel
theorem dX7_waysOf_54 : decode cX7_waysOf 54 = .ok (.aload_n 0, 1) := by decide +kernel
theorem dX7_waysOf_55 : decode cX7_waysOf 55 = .ok (.getfield 19, 3) := by decide +kernel
theorem dX7_waysOf_58 : decode cX7_waysOf 58 = .ok (.getfield 108, 3) := by decide +kernel
theorem dX7_waysOf_61 : decode cX7_waysOf 61 = .ok (.iload_n 2, 1) := by decide +kernel
theorem dX7_waysOf_62 : decode cX7_waysOf 62 = .ok (.iaload, 1) := by decide +kernel
theorem dX7_waysOf_63 : decode cX7_waysOf 63 = .ok (.aload_n 0, 1) := by decide +kernel
theorem dX7_waysOf_64 : decode cX7_waysOf 64 = .ok (.getfield 19, 3) := by decide +kernel
theorem dX7_waysOf_67 : decode cX7_waysOf 67 = .ok (.getfield 112, 3) := by decide +kernel
theorem dX7_waysOf_70 : decode cX7_waysOf 70 = .ok (.iload_n 2, 1) := by decide +kernel
theorem dX7_waysOf_71 : decode cX7_waysOf 71 = .ok (.iaload, 1) := by decide +kernel
theorem dX7_waysOf_72 : decode cX7_waysOf 72 = .ok (.invokevirtual 270, 3) := by decide +kernel
theorem dX7_waysOf_75 : decode cX7_waysOf 75 = .ok (.ireturn, 1) := by decide +kernel
set_option maxRecDepth 20000 in
theorem ggX7_waysOfAll_X7_waysOf : GoodIn wsX7_waysOfAll wsX7_waysOf := goodIn_r _ [6, 1, 7, 8, 9, 10, 11, 12, 13, 14, 15, 16, 17, 5, 18, 19, 20, 21, 22, 23, 24, 25, 26, 27, 28, 29, 30, 31, 32, 33, 34, 35, 36, 37, 38, 39, 40, 41, 42, 43, 44, 45, 46, 47, 48, 49, 50, 51, 52, 53, 59, 60, 61, 62, 63, 54, 55, 56, 57, 58, 64, 65, 66, 67] (by decide +kernel) (by decide +kernel)
set_option maxRecDepth 20000 in
theorem gX7_waysOfAll_X7_waysOf : GoodIn wsX7_waysOfAll (wsV RX7 175 RX7 yX7_waysOf wsX7_waysOf) := goodIn_app (goodIn_of _ (by decide +kernel)) ggX7_waysOfAll_X7_waysOf
theorem dX7_waysOfAll_0 : decode cX7_waysOfAll 0 = .ok (.iconst 0, 1) := by decide +kernel
theorem dX7_waysOfAll_1 : decode cX7_waysOfAll 1 = .ok (.istore_n 2, 1) := by decide +kernel
theorem dX7_waysOfAll_2 : decode cX7_waysOfAll 2 = .ok (.iconst 0, 1) := by decide +kernel
theorem dX7_waysOfAll_3 : decode cX7_waysOfAll 3 = .ok (.istore_n 3, 1) := by decide +kernel
theorem dX7_waysOfAll_4 : decode cX7_waysOfAll 4 = .ok (.iload_n 3, 1) := by decide +kernel
theorem dX7_waysOfAll_5 : decode cX7_waysOfAll 5 = .ok (.aload_n 0, 1) := by decide +kernel
theorem dX7_waysOfAll_6 : decode cX7_waysOfAll 6 = .ok (.getfield 51, 3) := by decide +kernel
theorem dX7_waysOfAll_9 : decode cX7_waysOfAll 9 = .ok (.getfield 261, 3) := by decide +kernel
theorem dX7_waysOfAll_12 : decode cX7_waysOfAll 12 = .ok (.if_icmp .ge 18, 3) := by decide +kernel
theorem dX7_waysOfAll_15 : decode cX7_waysOfAll 15 = .ok (.iload_n 2, 1) := by decide +kernel
theorem dX7_waysOfAll_16 : decode cX7_waysOfAll 16 = .ok (.aload_n 0, 1) := by decide +kernel
theorem dX7_waysOfAll_17 : decode cX7_waysOfAll 17 = .ok (.iload_n 3, 1) := by decide +kernel
theorem dX7_waysOfAll_18 : decode cX7_waysOfAll 18 = .ok (.iload_n 1, 1) := by decide +kernel
theorem dX7_waysOfAll_19 : decode cX7_waysOfAll 19 = .ok (.invokevirtual 175, 3) := by decide +kernel
theorem dX7_waysOfAll_22 : decode cX7_waysOfAll 22 = .ok (.iadd, 1) := by decide +kernel
theorem dX7_waysOfAll_23 : decode cX7_waysOfAll 23 = .ok (.istore_n 2, 1) := by decide +kernel
theorem dX7_waysOfAll_24 : decode cX7_waysOfAll 24 = .ok (.iinc 3 1, 3) := by decide +kernel
theorem dX7_waysOfAll_27 : decode cX7_waysOfAll 27 = .ok (.goto (-23), 3) := by decide +kernel
theorem dX7_waysOfAll_30 : decode cX7_waysOfAll 30 = .ok (.iload_n 2, 1) := by decide +kernel
theorem dX7_waysOfAll_31 : decode cX7_waysOfAll 31 = .ok (.ireturn, 1) := by decide +kernel
set_option maxRecDepth 20000 in
theorem ggX7_writersOf_X7_waysOf : GoodIn wsX7_writersOf wsX7_waysOf := goodIn_r _ [6, 1, 7, 8, 9, 10, 11, 12, 13, 14, 15, 16, 17, 5, 18, 19, 20, 21, 22, 23, 24, 25, 26, 27, 28, 29, 30, 31, 32, 33, 34, 35, 36, 37, 38, 39, 40, 41, 42, 43, 44, 45, 46, 47, 48, 49, 50, 51, 52, 53, 59, 60, 61, 62, 63, 54, 55, 56, 57, 58, 64, 65, 66, 67] (by decide +kernel) (by decide +kernel)
set_option maxRecDepth 20000 in
theorem gX7_writersOf_X7_waysOf : GoodIn wsX7_writersOf (wsV RX7 175 RX7 yX7_waysOf wsX7_waysOf) := goodIn_app (goodIn_of _ (by decide +kernel)) ggX7_writersOf_X7_waysOf
theorem dX7_writersOf_0 : decode cX7_writersOf 0 = .ok (.iconst 0, 1) := by decide +kernel
theorem dX7_writersOf_1 : decode cX7_writersOf 1 = .ok (.istore_n 2, 1) := by decide +kernel
theorem dX7_writersOf_2 : decode cX7_writersOf 2 = .ok (.iconst 0, 1) := by decide +kernel
theorem dX7_writersOf_3 : decode cX7_writersOf 3 = .ok (.istore_n 3, 1) := by decide +kernel
theorem dX7_writersOf_4 : decode cX7_writersOf 4 = .ok (.iload_n 3, 1) := by decide +kernel
theorem dX7_writersOf_5 : decode cX7_writersOf 5 = .ok (.aload_n 0, 1) := by decide +kernel
theorem dX7_writersOf_6 : decode cX7_writersOf 6 = .ok (.getfield 51, 3) := by decide +kernel
theorem dX7_writersOf_9 : decode cX7_writersOf 9 = .ok (.getfield 261, 3) := by decide +kernel
theorem dX7_writersOf_12 : decode cX7_writersOf 12 = .ok (.if_icmp .ge 24, 3) := by decide +kernel
theorem dX7_writersOf_15 : decode cX7_writersOf 15 = .ok (.aload_n 0, 1) := by decide +kernel
theorem dX7_writersOf_16 : decode cX7_writersOf 16 = .ok (.iload_n 3, 1) := by decide +kernel
theorem dX7_writersOf_17 : decode cX7_writersOf 17 = .ok (.iload_n 1, 1) := by decide +kernel
theorem dX7_writersOf_18 : decode cX7_writersOf 18 = .ok (.invokevirtual 175, 3) := by decide +kernel
theorem dX7_writersOf_21 : decode cX7_writersOf 21 = .ok (.ifCond .le 9, 3) := by decide +kernel
theorem dX7_writersOf_24 : decode cX7_writersOf 24 = .ok (.iload_n 2, 1) := by decide +kernel
theorem dX7_writersOf_25 : decode cX7_writersOf 25 = .ok (.iconst 1, 1) := by decide +kernel
theorem dX7_writersOf_26 : decode cX7_writersOf 26 = .ok (.iload_n 3, 1) := by decide +kernel
theorem dX7_writersOf_27 : decode cX7_writersOf 27 = .ok (.ishl, 1) := by decide +kernel
theorem dX7_writersOf_28 : decode cX7_writersOf 28 = .ok (.ior, 1) := by decide +kernel
theorem dX7_writersOf_29 : decode cX7_writersOf 29 = .ok (.istore_n 2, 1) := by decide +kernel
theorem dX7_writersOf_30 : decode cX7_writersOf 30 = .ok (.iinc 3 1, 3) := by decide +kernel
theorem dX7_writersOf_33 : decode cX7_writersOf 33 = .ok (.goto (-29), 3) := by decide +kernel
theorem dX7_writersOf_36 : decode cX7_writersOf 36 = .ok (.iload_n 2, 1) := by decide +kernel
theorem dX7_writersOf_37 : decode cX7_writersOf 37 = .ok (.ireturn, 1) := by decide +kernel
set_option maxRecDepth 20000 in
theorem ggX7_likeliestOf_X7_waysOf : GoodIn wsX7_likeliestOf wsX7_waysOf := goodIn_r _ [6, 1, 7, 8, 9, 10, 11, 12, 13, 14, 15, 16, 17, 5, 18, 19, 20, 21, 22, 23, 24, 25, 26, 27, 28, 29, 30, 31, 32, 33, 34, 35, 36, 37, 38, 39, 40, 41, 42, 43, 44, 45, 46, 47, 48, 49, 50, 51, 52, 53, 59, 60, 61, 62, 63, 54, 55, 56, 57, 58, 64, 65, 66, 67] (by decide +kernel) (by decide +kernel)
set_option maxRecDepth 20000 in
theorem gX7_likeliestOf_X7_waysOf : GoodIn wsX7_likeliestOf (wsV RX7 175 RX7 yX7_waysOf wsX7_waysOf) := goodIn_app (goodIn_of _ (by decide +kernel)) ggX7_likeliestOf_X7_waysOf
theorem dX7_likeliestOf_0 : decode cX7_likeliestOf 0 = .ok (.bipush (-9), 2) := by decide +kernel
theorem dX7_likeliestOf_2 : decode cX7_likeliestOf 2 = .ok (.istore_n 2, 1) := by decide +kernel
theorem dX7_likeliestOf_3 : decode cX7_likeliestOf 3 = .ok (.iconst 0, 1) := by decide +kernel
theorem dX7_likeliestOf_4 : decode cX7_likeliestOf 4 = .ok (.istore_n 3, 1) := by decide +kernel
theorem dX7_likeliestOf_5 : decode cX7_likeliestOf 5 = .ok (.iconst 0, 1) := by decide +kernel
theorem dX7_likeliestOf_6 : decode cX7_likeliestOf 6 = .ok (.istore 4, 2) := by decide +kernel
theorem dX7_likeliestOf_8 : decode cX7_likeliestOf 8 = .ok (.iload 4, 2) := by decide +kernel
theorem dX7_likeliestOf_10 : decode cX7_likeliestOf 10 = .ok (.aload_n 0, 1) := by decide +kernel
theorem dX7_likeliestOf_11 : decode cX7_likeliestOf 11 = .ok (.getfield 51, 3) := by decide +kernel
theorem dX7_likeliestOf_14 : decode cX7_likeliestOf 14 = .ok (.getfield 261, 3) := by decide +kernel
theorem dX7_likeliestOf_17 : decode cX7_likeliestOf 17 = .ok (.if_icmp .ge 30, 3) := by decide +kernel
theorem dX7_likeliestOf_20 : decode cX7_likeliestOf 20 = .ok (.aload_n 0, 1) := by decide +kernel
theorem dX7_likeliestOf_21 : decode cX7_likeliestOf 21 = .ok (.iload 4, 2) := by decide +kernel
theorem dX7_likeliestOf_23 : decode cX7_likeliestOf 23 = .ok (.iload_n 1, 1) := by decide +kernel
theorem dX7_likeliestOf_24 : decode cX7_likeliestOf 24 = .ok (.invokevirtual 175, 3) := by decide +kernel
theorem dX7_likeliestOf_27 : decode cX7_likeliestOf 27 = .ok (.istore 5, 2) := by decide +kernel
theorem dX7_likeliestOf_29 : decode cX7_likeliestOf 29 = .ok (.iload 5, 2) := by decide +kernel
theorem dX7_likeliestOf_31 : decode cX7_likeliestOf 31 = .ok (.iload_n 3, 1) := by decide +kernel
theorem dX7_likeliestOf_32 : decode cX7_likeliestOf 32 = .ok (.if_icmp .le 9, 3) := by decide +kernel
theorem dX7_likeliestOf_35 : decode cX7_likeliestOf 35 = .ok (.iload 5, 2) := by decide +kernel
theorem dX7_likeliestOf_37 : decode cX7_likeliestOf 37 = .ok (.istore_n 3, 1) := by decide +kernel
theorem dX7_likeliestOf_38 : decode cX7_likeliestOf 38 = .ok (.iload 4, 2) := by decide +kernel
theorem dX7_likeliestOf_40 : decode cX7_likeliestOf 40 = .ok (.istore_n 2, 1) := by decide +kernel
theorem dX7_likeliestOf_41 : decode cX7_likeliestOf 41 = .ok (.iinc 4 1, 3) := by decide +kernel
theorem dX7_likeliestOf_44 : decode cX7_likeliestOf 44 = .ok (.goto (-36), 3) := by decide +kernel
theorem dX7_likeliestOf_47 : decode cX7_likeliestOf 47 = .ok (.iload_n 2, 1) := by decide +kernel
theorem dX7_likeliestOf_48 : decode cX7_likeliestOf 48 = .ok (.ireturn, 1) := by decide +kernel
theorem dX7_sharedDivisor_0 : decode cX7_sharedDivisor 0 = .ok (.iconst 1, 1) := by decide +kernel
theorem dX7_sharedDivisor_1 : decode cX7_sharedDivisor 1 = .ok (.istore_n 2, 1) := by decide +kernel
theorem dX7_sharedDivisor_2 : decode cX7_sharedDivisor 2 = .ok (.iconst 2, 1) := by decide +kernel
theorem dX7_sharedDivisor_3 : decode cX7_sharedDivisor 3 = .ok (.istore_n 3, 1) := by decide +kernel
theorem dX7_sharedDivisor_4 : decode cX7_sharedDivisor 4 = .ok (.iload_n 3, 1) := by decide +kernel
theorem dX7_sharedDivisor_5 : decode cX7_sharedDivisor 5 = .ok (.iload_n 0, 1) := by decide +kernel
theorem dX7_sharedDivisor_6 : decode cX7_sharedDivisor 6 = .ok (.if_icmp .gt 23, 3) := by decide +kernel
theorem dX7_sharedDivisor_9 : decode cX7_sharedDivisor 9 = .ok (.iload_n 0, 1) := by decide +kernel
theorem dX7_sharedDivisor_10 : decode cX7_sharedDivisor 10 = .ok (.iload_n 3, 1) := by decide +kernel
theorem dX7_sharedDivisor_11 : decode cX7_sharedDivisor 11 = .ok (.irem, 1) := by decide +kernel
theorem dX7_sharedDivisor_12 : decode cX7_sharedDivisor 12 = .ok (.ifCond .ne 11, 3) := by decide +kernel
theorem dX7_sharedDivisor_15 : decode cX7_sharedDivisor 15 = .ok (.iload_n 1, 1) := by decide +kernel
theorem dX7_sharedDivisor_16 : decode cX7_sharedDivisor 16 = .ok (.iload_n 3, 1) := by decide +kernel
theorem dX7_sharedDivisor_17 : decode cX7_sharedDivisor 17 = .ok (.irem, 1) := by decide +kernel
theorem dX7_sharedDivisor_18 : decode cX7_sharedDivisor 18 = .ok (.ifCond .ne 5, 3) := by decide +kernel
theorem dX7_sharedDivisor_21 : decode cX7_sharedDivisor 21 = .ok (.iload_n 3, 1) := by decide +kernel
theorem dX7_sharedDivisor_22 : decode cX7_sharedDivisor 22 = .ok (.istore_n 2, 1) := by decide +kernel
theorem dX7_sharedDivisor_23 : decode cX7_sharedDivisor 23 = .ok (.iinc 3 1, 3) := by decide +kernel
theorem dX7_sharedDivisor_26 : decode cX7_sharedDivisor 26 = .ok (.goto (-22), 3) := by decide +kernel
theorem dX7_sharedDivisor_29 : decode cX7_sharedDivisor 29 = .ok (.iload_n 2, 1) := by decide +kernel
theorem dX7_sharedDivisor_30 : decode cX7_sharedDivisor 30 = .ok (.ireturn, 1) := by decide +kernel
theorem dX7_asClerk_0 : decode cX7_asClerk 0 = .ok (.aload_n 0, 1) := by decide +kernel
theorem dX7_asClerk_1 : decode cX7_asClerk 1 = .ok (.dup, 1) := by decide +kernel
theorem dX7_asClerk_2 : decode cX7_asClerk 2 = .ok (.getfield 58, 3) := by decide +kernel
theorem dX7_asClerk_5 : decode cX7_asClerk 5 = .ok (.lconst 1, 1) := by decide +kernel
theorem dX7_asClerk_6 : decode cX7_asClerk 6 = .ok (.ladd, 1) := by decide +kernel
theorem dX7_asClerk_7 : decode cX7_asClerk 7 = .ok (.putfield 58, 3) := by decide +kernel
theorem dX7_asClerk_10 : decode cX7_asClerk 10 = .ok (.aload_n 1, 1) := by decide +kernel
theorem dX7_asClerk_11 : decode cX7_asClerk 11 = .ok (.getfield 91, 3) := by decide +kernel
theorem dX7_asClerk_14 : decode cX7_asClerk 14 = .ok (.iconst 4, 1) := by decide +kernel
theorem dX7_asClerk_15 : decode cX7_asClerk 15 = .ok (.isub, 1) := by decide +kernel
theorem dX7_asClerk_16 : decode cX7_asClerk 16 = .ok (.ireturn, 1) := by decide +kernel
set_option maxRecDepth 20000 in
theorem ggX7_asTwin_X7_asClerk : GoodIn wsX7_asTwin wsX7_asClerk := goodIn_r _ [7, 1, 15, 16, 17, 18, 19, 20, 21, 22, 23, 24, 25, 26, 27] (by decide +kernel) (by decide +kernel)
set_option maxRecDepth 20000 in
theorem gX7_asTwin_X7_asClerk : GoodIn wsX7_asTwin (wsV RX7 234 RX7 yX7_asClerk wsX7_asClerk) := goodIn_app (goodIn_of _ (by decide +kernel)) ggX7_asTwin_X7_asClerk
set_option maxRecDepth 20000 in
theorem ggX7_asTwin_J6_bitCount_0f7a4 : GoodIn wsX7_asTwin wsJ6_bitCount_0f7a4 := goodIn_r _ [11, 12, 13, 14] (by decide +kernel) (by decide +kernel)
set_option maxRecDepth 20000 in
theorem gX7_asTwin_J6_bitCount_0f7a4 : GoodIn wsX7_asTwin (va_wsS RX7 167 yJ6_bitCount_0f7a4 wsJ6_bitCount_0f7a4) := goodIn_app (goodIn_of _ (by decide +kernel)) ggX7_asTwin_J6_bitCount_0f7a4
theorem dX7_asTwin_0 : decode cX7_asTwin 0 = .ok (.aload_n 0, 1) := by decide +kernel
theorem dX7_asTwin_1 : decode cX7_asTwin 1 = .ok (.dup, 1) := by decide +kernel
theorem dX7_asTwin_2 : decode cX7_asTwin 2 = .ok (.getfield 58, 3) := by decide +kernel
theorem dX7_asTwin_5 : decode cX7_asTwin 5 = .ok (.ldc2_w 274, 3) := by decide +kernel
theorem dX7_asTwin_8 : decode cX7_asTwin 8 = .ok (.ladd, 1) := by decide +kernel
theorem dX7_asTwin_9 : decode cX7_asTwin 9 = .ok (.putfield 58, 3) := by decide +kernel
theorem dX7_asTwin_12 : decode cX7_asTwin 12 = .ok (.aload_n 0, 1) := by decide +kernel
theorem dX7_asTwin_13 : decode cX7_asTwin 13 = .ok (.aload_n 1, 1) := by decide +kernel
theorem dX7_asTwin_14 : decode cX7_asTwin 14 = .ok (.invokevirtual 234, 3) := by decide +kernel
theorem dX7_asTwin_17 : decode cX7_asTwin 17 = .ok (.aload_n 1, 1) := by decide +kernel
theorem dX7_asTwin_18 : decode cX7_asTwin 18 = .ok (.getfield 96, 3) := by decide +kernel
theorem dX7_asTwin_21 : decode cX7_asTwin 21 = .ok (.invokestatic 167, 3) := by decide +kernel
theorem dX7_asTwin_24 : decode cX7_asTwin 24 = .ok (.iadd, 1) := by decide +kernel
theorem dX7_asTwin_25 : decode cX7_asTwin 25 = .ok (.ireturn, 1) := by decide +kernel
set_option maxRecDepth 20000 in
theorem ggX7_asMocker_X7_asClerk : GoodIn wsX7_asMocker wsX7_asClerk := goodIn_r _ [7, 1, 15, 16, 17, 18, 19, 20, 21, 22, 23, 24, 25, 26, 27] (by decide +kernel) (by decide +kernel)
set_option maxRecDepth 20000 in
theorem gX7_asMocker_X7_asClerk : GoodIn wsX7_asMocker (wsV RX7 234 RX7 yX7_asClerk wsX7_asClerk) := goodIn_app (goodIn_of _ (by decide +kernel)) ggX7_asMocker_X7_asClerk
set_option maxRecDepth 20000 in
theorem ggX7_asMocker_J6_bitCount_0f7a4 : GoodIn wsX7_asMocker wsJ6_bitCount_0f7a4 := goodIn_r _ [11, 12, 13, 14] (by decide +kernel) (by decide +kernel)
set_option maxRecDepth 20000 in
theorem gX7_asMocker_J6_bitCount_0f7a4 : GoodIn wsX7_asMocker (va_wsS RX7 167 yJ6_bitCount_0f7a4 wsJ6_bitCount_0f7a4) := goodIn_app (goodIn_of _ (by decide +kernel)) ggX7_asMocker_J6_bitCount_0f7a4
theorem dX7_asMocker_0 : decode cX7_asMocker 0 = .ok (.aload_n 0, 1) := by decide +kernel
theorem dX7_asMocker_1 : decode cX7_asMocker 1 = .ok (.dup, 1) := by decide +kernel
theorem dX7_asMocker_2 : decode cX7_asMocker 2 = .ok (.getfield 58, 3) := by decide +kernel
theorem dX7_asMocker_5 : decode cX7_asMocker 5 = .ok (.ldc2_w 276, 3) := by decide +kernel
theorem dX7_asMocker_8 : decode cX7_asMocker 8 = .ok (.ladd, 1) := by decide +kernel
theorem dX7_asMocker_9 : decode cX7_asMocker 9 = .ok (.putfield 58, 3) := by decide +kernel
theorem dX7_asMocker_12 : decode cX7_asMocker 12 = .ok (.aload_n 0, 1) := by decide +kernel
theorem dX7_asMocker_13 : decode cX7_asMocker 13 = .ok (.aload_n 1, 1) := by decide +kernel
theorem dX7_asMocker_14 : decode cX7_asMocker 14 = .ok (.invokevirtual 234, 3) := by decide +kernel
theorem dX7_asMocker_17 : decode cX7_asMocker 17 = .ok (.aload_n 1, 1) := by decide +kernel
theorem dX7_asMocker_18 : decode cX7_asMocker 18 = .ok (.getfield 99, 3) := by decide +kernel
theorem dX7_asMocker_21 : decode cX7_asMocker 21 = .ok (.invokestatic 167, 3) := by decide +kernel
theorem dX7_asMocker_24 : decode cX7_asMocker 24 = .ok (.isub, 1) := by decide +kernel
theorem dX7_asMocker_25 : decode cX7_asMocker 25 = .ok (.ireturn, 1) := by decide +kernel
set_option maxRecDepth 20000 in
theorem ggX7_asConstant_X7_asTwin : GoodIn wsX7_asConstant wsX7_asTwin := goodIn_r _ [7, 1, 8, 9, 10, 11, 6, 12, 13, 14, 15, 16, 17, 18, 19, 20, 21, 22, 23, 24, 25, 26, 27, 28, 29, 30, 31, 32] (by decide +kernel) (by decide +kernel)
set_option maxRecDepth 20000 in
theorem gX7_asConstant_X7_asTwin : GoodIn wsX7_asConstant (wsV RX7 238 RX7 yX7_asTwin wsX7_asTwin) := goodIn_app (goodIn_of _ (by decide +kernel)) ggX7_asConstant_X7_asTwin
theorem dX7_asConstant_0 : decode cX7_asConstant 0 = .ok (.aload_n 0, 1) := by decide +kernel
theorem dX7_asConstant_1 : decode cX7_asConstant 1 = .ok (.dup, 1) := by decide +kernel
theorem dX7_asConstant_2 : decode cX7_asConstant 2 = .ok (.getfield 58, 3) := by decide +kernel
theorem dX7_asConstant_5 : decode cX7_asConstant 5 = .ok (.ldc2_w 278, 3) := by decide +kernel
theorem dX7_asConstant_8 : decode cX7_asConstant 8 = .ok (.ladd, 1) := by decide +kernel
theorem dX7_asConstant_9 : decode cX7_asConstant 9 = .ok (.putfield 58, 3) := by decide +kernel
theorem dX7_asConstant_12 : decode cX7_asConstant 12 = .ok (.iconst 2, 1) := by decide +kernel
theorem dX7_asConstant_13 : decode cX7_asConstant 13 = .ok (.aload_n 0, 1) := by decide +kernel
theorem dX7_asConstant_14 : decode cX7_asConstant 14 = .ok (.aload_n 1, 1) := by decide +kernel
theorem dX7_asConstant_15 : decode cX7_asConstant 15 = .ok (.invokevirtual 238, 3) := by decide +kernel
theorem dX7_asConstant_18 : decode cX7_asConstant 18 = .ok (.imul, 1) := by decide +kernel
theorem dX7_asConstant_19 : decode cX7_asConstant 19 = .ok (.ireturn, 1) := by decide +kernel
set_option maxRecDepth 20000 in
theorem ggX7_asLeft_X7_asMocker : GoodIn wsX7_asLeft wsX7_asMocker := goodIn_r _ [7, 1, 8, 9, 10, 11, 6, 12, 13, 14, 15, 16, 17, 18, 19, 20, 21, 22, 23, 24, 25, 26, 27, 28, 29, 30, 31, 32] (by decide +kernel) (by decide +kernel)
set_option maxRecDepth 20000 in
theorem gX7_asLeft_X7_asMocker : GoodIn wsX7_asLeft (wsV RX7 241 RX7 yX7_asMocker wsX7_asMocker) := goodIn_app (goodIn_of _ (by decide +kernel)) ggX7_asLeft_X7_asMocker
theorem dX7_asLeft_0 : decode cX7_asLeft 0 = .ok (.aload_n 0, 1) := by decide +kernel
theorem dX7_asLeft_1 : decode cX7_asLeft 1 = .ok (.dup, 1) := by decide +kernel
theorem dX7_asLeft_2 : decode cX7_asLeft 2 = .ok (.getfield 58, 3) := by decide +kernel
theorem dX7_asLeft_5 : decode cX7_asLeft 5 = .ok (.ldc2_w 280, 3) := by decide +kernel
theorem dX7_asLeft_8 : decode cX7_asLeft 8 = .ok (.ladd, 1) := by decide +kernel
theorem dX7_asLeft_9 : decode cX7_asLeft 9 = .ok (.putfield 58, 3) := by decide +kernel
theorem dX7_asLeft_12 : decode cX7_asLeft 12 = .ok (.aload_n 0, 1) := by decide +kernel
theorem dX7_asLeft_13 : decode cX7_asLeft 13 = .ok (.aload_n 1, 1) := by decide +kernel
theorem dX7_asLeft_14 : decode cX7_asLeft 14 = .ok (.invokevirtual 241, 3) := by decide +kernel
theorem dX7_asLeft_17 : decode cX7_asLeft 17 = .ok (.iload_n 2, 1) := by decide +kernel
theorem dX7_asLeft_18 : decode cX7_asLeft 18 = .ok (.iadd, 1) := by decide +kernel
theorem dX7_asLeft_19 : decode cX7_asLeft 19 = .ok (.ireturn, 1) := by decide +kernel
set_option maxRecDepth 20000 in
theorem ggX7_asHasty_X7_asClerk : GoodIn wsX7_asHasty wsX7_asClerk := goodIn_r _ [7, 1, 8, 9, 10, 11, 12, 13, 14, 15, 16, 17, 18, 19, 20] (by decide +kernel) (by decide +kernel)
set_option maxRecDepth 20000 in
theorem gX7_asHasty_X7_asClerk : GoodIn wsX7_asHasty (wsV RX7 234 RX7 yX7_asClerk wsX7_asClerk) := goodIn_app (goodIn_of _ (by decide +kernel)) ggX7_asHasty_X7_asClerk
theorem dX7_asHasty_0 : decode cX7_asHasty 0 = .ok (.aload_n 0, 1) := by decide +kernel
theorem dX7_asHasty_1 : decode cX7_asHasty 1 = .ok (.dup, 1) := by decide +kernel
theorem dX7_asHasty_2 : decode cX7_asHasty 2 = .ok (.getfield 58, 3) := by decide +kernel
theorem dX7_asHasty_5 : decode cX7_asHasty 5 = .ok (.ldc2_w 282, 3) := by decide +kernel
theorem dX7_asHasty_8 : decode cX7_asHasty 8 = .ok (.ladd, 1) := by decide +kernel
theorem dX7_asHasty_9 : decode cX7_asHasty 9 = .ok (.putfield 58, 3) := by decide +kernel
theorem dX7_asHasty_12 : decode cX7_asHasty 12 = .ok (.aload_n 0, 1) := by decide +kernel
theorem dX7_asHasty_13 : decode cX7_asHasty 13 = .ok (.aload_n 1, 1) := by decide +kernel
theorem dX7_asHasty_14 : decode cX7_asHasty 14 = .ok (.invokevirtual 234, 3) := by decide +kernel
theorem dX7_asHasty_17 : decode cX7_asHasty 17 = .ok (.bipush 10, 2) := by decide +kernel
theorem dX7_asHasty_19 : decode cX7_asHasty 19 = .ok (.iadd, 1) := by decide +kernel
theorem dX7_asHasty_20 : decode cX7_asHasty 20 = .ok (.aload_n 1, 1) := by decide +kernel
theorem dX7_asHasty_21 : decode cX7_asHasty 21 = .ok (.getfield 102, 3) := by decide +kernel
theorem dX7_asHasty_24 : decode cX7_asHasty 24 = .ok (.isub, 1) := by decide +kernel
theorem dX7_asHasty_25 : decode cX7_asHasty 25 = .ok (.ireturn, 1) := by decide +kernel
set_option maxRecDepth 20000 in
theorem ggX8_init_X8_begins : GoodIn wsX8_init wsX8_begins := goodIn_r _ [19, 7, 20, 21, 22, 23, 24, 25, 26, 27, 28, 29, 30, 31, 32, 33, 34, 35, 36, 37, 38, 39, 40, 41, 42] (by decide +kernel) (by decide +kernel)
set_option maxRecDepth 20000 in
theorem gX8_init_X8_begins : GoodIn wsX8_init (wsV RX8 38 RX8 yX8_begins wsX8_begins) := goodIn_app (goodIn_of _ (by decide +kernel)) ggX8_init_X8_begins
end
section
theorem dX8_init_0 : decode cX8_init 0 = .ok (.aload_n 0, 1) := by decide +kernel
theorem dX8_init_1 : decode cX8_init 1 = .ok (.invokespecial 1, 3) := by decide +kernel
theorem dX8_init_4 : decode cX8_init 4 = .ok (.aload_n 0, 1) := by decide +kernel
theorem dX8_init_5 : decode cX8_init 5 = .ok (.sipush 200, 3) := by decide +kernel
theorem dX8_init_8 : decode cX8_init 8 = .ok (.newarray .int, 2) := by decide +kernel
theorem dX8_init_10 : decode cX8_init 10 = .ok (.putfield 7, 3) := by decide +kernel
theorem dX8_init_13 : decode cX8_init 13 = .ok (.aload_n 0, 1) := by decide +kernel
theorem dX8_init_14 : decode cX8_init 14 = .ok (.bipush 48, 2) := by decide +kernel
theorem dX8_init_16 : decode cX8_init 16 = .ok (.newarray .int, 2) := by decide +kernel
theorem dX8_init_18 : decode cX8_init 18 = .ok (.putfield 13, 3) := by decide +kernel
theorem dX8_init_21 : decode cX8_init 21 = .ok (.aload_n 0, 1) := by decide +kernel
theorem dX8_init_22 : decode cX8_init 22 = .ok (.bipush 22, 2) := by decide +kernel
theorem dX8_init_24 : decode cX8_init 24 = .ok (.newarray .int, 2) := by decide +kernel
theorem dX8_init_26 : decode cX8_init 26 = .ok (.putfield 16, 3) := by decide +kernel
theorem dX8_init_29 : decode cX8_init 29 = .ok (.aload_n 0, 1) := by decide +kernel
theorem dX8_init_30 : decode cX8_init 30 = .ok (.bipush 44, 2) := by decide +kernel
theorem dX8_init_32 : decode cX8_init 32 = .ok (.newarray .int, 2) := by decide +kernel
theorem dX8_init_34 : decode cX8_init 34 = .ok (.putfield 19, 3) := by decide +kernel
theorem dX8_init_37 : decode cX8_init 37 = .ok (.aload_n 0, 1) := by decide +kernel
theorem dX8_init_38 : decode cX8_init 38 = .ok (.iconst 2, 1) := by decide +kernel
theorem dX8_init_39 : decode cX8_init 39 = .ok (.newarray .boolean, 2) := by decide +kernel
theorem dX8_init_41 : decode cX8_init 41 = .ok (.putfield 22, 3) := by decide +kernel
theorem dX8_init_44 : decode cX8_init 44 = .ok (.aload_n 0, 1) := by decide +kernel
theorem dX8_init_45 : decode cX8_init 45 = .ok (.bipush 16, 2) := by decide +kernel
theorem dX8_init_47 : decode cX8_init 47 = .ok (.newarray .int, 2) := by decide +kernel
theorem dX8_init_49 : decode cX8_init 49 = .ok (.putfield 26, 3) := by decide +kernel
theorem dX8_init_52 : decode cX8_init 52 = .ok (.aload_n 0, 1) := by decide +kernel
theorem dX8_init_53 : decode cX8_init 53 = .ok (.bipush 8, 2) := by decide +kernel
theorem dX8_init_55 : decode cX8_init 55 = .ok (.newarray .int, 2) := by decide +kernel
theorem dX8_init_57 : decode cX8_init 57 = .ok (.putfield 29, 3) := by decide +kernel
theorem dX8_init_60 : decode cX8_init 60 = .ok (.aload_n 0, 1) := by decide +kernel
theorem dX8_init_61 : decode cX8_init 61 = .ok (.bipush 6, 2) := by decide +kernel
theorem dX8_init_63 : decode cX8_init 63 = .ok (.newarray .int, 2) := by decide +kernel
theorem dX8_init_65 : decode cX8_init 65 = .ok (.putfield 32, 3) := by decide +kernel
theorem dX8_init_68 : decode cX8_init 68 = .ok (.aload_n 0, 1) := by decide +kernel
theorem dX8_init_69 : decode cX8_init 69 = .ok (.bipush 6, 2) := by decide +kernel
theorem dX8_init_71 : decode cX8_init 71 = .ok (.newarray .int, 2) := by decide +kernel
theorem dX8_init_73 : decode cX8_init 73 = .ok (.putfield 35, 3) := by decide +kernel
theorem dX8_init_76 : decode cX8_init 76 = .ok (.aload_n 0, 1) := by decide +kernel
theorem dX8_init_77 : decode cX8_init 77 = .ok (.getfield 16, 3) := by decide +kernel
theorem dX8_init_80 : decode cX8_init 80 = .ok (.bipush 21, 2) := by decide +kernel
theorem dX8_init_82 : decode cX8_init 82 = .ok (.iconst 1, 1) := by decide +kernel
theorem dX8_init_83 : decode cX8_init 83 = .ok (.iastore, 1) := by decide +kernel
theorem dX8_init_84 : decode cX8_init 84 = .ok (.aload_n 0, 1) := by decide +kernel
theorem dX8_init_85 : decode cX8_init 85 = .ok (.iconst 5, 1) := by decide +kernel
theorem dX8_init_86 : decode cX8_init 86 = .ok (.invokevirtual 38, 3) := by decide +kernel
theorem dX8_init_89 : decode cX8_init 89 = .ok (.return_, 1) := by decide +kernel
theorem dX8_in_0 : decode cX8_in 0 = .ok (.iload_n 0, 1) := by decide +kernel
theorem dX8_in_1 : decode cX8_in 1 = .ok (.iload_n 1, 1) := by decide +kernel
theorem dX8_in_2 : decode cX8_in 2 = .ok (.if_icmp .lt 12, 3) := by decide +kernel
theorem dX8_in_5 : decode cX8_in 5 = .ok (.iload_n 0, 1) := by decide +kernel
theorem dX8_in_6 : decode cX8_in 6 = .ok (.iload_n 2, 1) := by decide +kernel
theorem dX8_in_7 : decode cX8_in 7 = .ok (.if_icmp .gt 7, 3) := by decide +kernel
theorem dX8_in_10 : decode cX8_in 10 = .ok (.iconst 1, 1) := by decide +kernel
theorem dX8_in_11 : decode cX8_in 11 = .ok (.goto 4, 3) := by decide +kernel
theorem dX8_in_14 : decode cX8_in 14 = .ok (.iconst 0, 1) := by decide +kernel
theorem dX8_in_15 : decode cX8_in 15 = .ok (.ireturn, 1) := by decide +kernel
theorem dX8_size_0 : decode cX8_size 0 = .ok (.iload_n 0, 1) := by decide +kernel
theorem dX8_size_1 : decode cX8_size 1 = .ok (.ifCond .ge 8, 3) := by decide +kernel
theorem dX8_size_4 : decode cX8_size 4 = .ok (.iload_n 0, 1) := by decide +kernel
theorem dX8_size_5 : decode cX8_size 5 = .ok (.ineg, 1) := by decide +kernel
theorem dX8_size_6 : decode cX8_size 6 = .ok (.goto 4, 3) := by decide +kernel
theorem dX8_size_9 : decode cX8_size 9 = .ok (.iload_n 0, 1) := by decide +kernel
theorem dX8_size_10 : decode cX8_size 10 = .ok (.ireturn, 1) := by decide +kernel
theorem dX8_ones_0 : decode cX8_ones 0 = .ok (.iconst 0, 1) := by decide +kernel
theorem dX8_ones_1 : decode cX8_ones 1 = .ok (.istore_n 1, 1) := by decide +kernel
theorem dX8_ones_2 : decode cX8_ones 2 = .ok (.iconst 0, 1) := by decide +kernel
theorem dX8_ones_3 : decode cX8_ones 3 = .ok (.istore_n 2, 1) := by decide +kernel
theorem dX8_ones_4 : decode cX8_ones 4 = .ok (.iload_n 2, 1) := by decide +kernel
theorem dX8_ones_5 : decode cX8_ones 5 = .ok (.bipush 8, 2) := by decide +kernel
theorem dX8_ones_7 : decode cX8_ones 7 = .ok (.if_icmp .ge 17, 3) := by decide +kernel
theorem dX8_ones_10 : decode cX8_ones 10 = .ok (.iload_n 1, 1) := by decide +kernel
theorem dX8_ones_11 : decode cX8_ones 11 = .ok (.iload_n 0, 1) := by decide +kernel
theorem dX8_ones_12 : decode cX8_ones 12 = .ok (.iload_n 2, 1) := by decide +kernel
theorem dX8_ones_13 : decode cX8_ones 13 = .ok (.ishr, 1) := by decide +kernel
theorem dX8_ones_14 : decode cX8_ones 14 = .ok (.iconst 1, 1) := by decide +kernel
theorem dX8_ones_15 : decode cX8_ones 15 = .ok (.iand, 1) := by decide +kernel
theorem dX8_ones_16 : decode cX8_ones 16 = .ok (.iadd, 1) := by decide +kernel
theorem dX8_ones_17 : decode cX8_ones 17 = .ok (.istore_n 1, 1) := by decide +kernel
theorem dX8_ones_18 : decode cX8_ones 18 = .ok (.iinc 2 1, 3) := by decide +kernel
theorem dX8_ones_21 : decode cX8_ones 21 = .ok (.goto (-17), 3) := by decide +kernel
theorem dX8_ones_24 : decode cX8_ones 24 = .ok (.iload_n 1, 1) := by decide +kernel
theorem dX8_ones_25 : decode cX8_ones 25 = .ok (.ireturn, 1) := by decide +kernel
set_option maxRecDepth 20000 in
theorem ggX8_type_X8_in : GoodIn wsX8_type wsX8_in := goodIn_r _ [8] (by decide +kernel) (by decide +kernel)
set_option maxRecDepth 20000 in
theorem gX8_type_X8_in : GoodIn wsX8_type (va_wsS RX8 46 yX8_in wsX8_in) := goodIn_app (goodIn_of _ (by decide +kernel)) ggX8_type_X8_in
theorem dX8_type_0 : decode cX8_type 0 = .ok (.aload_n 0, 1) := by decide +kernel
theorem dX8_type_1 : decode cX8_type 1 = .ok (.iconst 0, 1) := by decide +kernel
theorem dX8_type_2 : decode cX8_type 2 = .ok (.putfield 42, 3) := by decide +kernel
theorem dX8_type_5 : decode cX8_type 5 = .ok (.iload_n 3, 1) := by decide +kernel
theorem dX8_type_6 : decode cX8_type 6 = .ok (.iconst 1, 1) := by decide +kernel
theorem dX8_type_7 : decode cX8_type 7 = .ok (.bipush 8, 2) := by decide +kernel
theorem dX8_type_9 : decode cX8_type 9 = .ok (.invokestatic 46, 3) := by decide +kernel
theorem dX8_type_12 : decode cX8_type 12 = .ok (.ifCond .ne 5, 3) := by decide +kernel
theorem dX8_type_15 : decode cX8_type 15 = .ok (.iconst (-1), 1) := by decide +kernel
theorem dX8_type_16 : decode cX8_type 16 = .ok (.ireturn, 1) := by decide +kernel
theorem dX8_type_17 : decode cX8_type 17 = .ok (.aload_n 0, 1) := by decide +kernel
theorem dX8_type_18 : decode cX8_type 18 = .ok (.getfield 50, 3) := by decide +kernel
theorem dX8_type_21 : decode cX8_type 21 = .ok (.iload_n 3, 1) := by decide +kernel
theorem dX8_type_22 : decode cX8_type 22 = .ok (.iadd, 1) := by decide +kernel
theorem dX8_type_23 : decode cX8_type 23 = .ok (.sipush 200, 3) := by decide +kernel
theorem dX8_type_26 : decode cX8_type 26 = .ok (.if_icmp .le 6, 3) := by decide +kernel
theorem dX8_type_29 : decode cX8_type 29 = .ok (.bipush (-3), 2) := by decide +kernel
theorem dX8_type_31 : decode cX8_type 31 = .ok (.ireturn, 1) := by decide +kernel
theorem dX8_type_32 : decode cX8_type 32 = .ok (.iload_n 3, 1) := by decide +kernel
theorem dX8_type_33 : decode cX8_type 33 = .ok (.iconst 1, 1) := by decide +kernel
theorem dX8_type_34 : decode cX8_type 34 = .ok (.isub, 1) := by decide +kernel
theorem dX8_type_35 : decode cX8_type 35 = .ok (.istore 4, 2) := by decide +kernel
theorem dX8_type_37 : decode cX8_type 37 = .ok (.iload 4, 2) := by decide +kernel
theorem dX8_type_39 : decode cX8_type 39 = .ok (.ifCond .lt 40, 3) := by decide +kernel
theorem dX8_type_42 : decode cX8_type 42 = .ok (.aload_n 0, 1) := by decide +kernel
theorem dX8_type_43 : decode cX8_type 43 = .ok (.getfield 7, 3) := by decide +kernel
theorem dX8_type_46 : decode cX8_type 46 = .ok (.aload_n 0, 1) := by decide +kernel
theorem dX8_type_47 : decode cX8_type 47 = .ok (.getfield 50, 3) := by decide +kernel
theorem dX8_type_50 : decode cX8_type 50 = .ok (.lload_n 1, 1) := by decide +kernel
theorem dX8_type_51 : decode cX8_type 51 = .ok (.bipush 8, 2) := by decide +kernel
theorem dX8_type_53 : decode cX8_type 53 = .ok (.iload 4, 2) := by decide +kernel
theorem dX8_type_55 : decode cX8_type 55 = .ok (.imul, 1) := by decide +kernel
theorem dX8_type_56 : decode cX8_type 56 = .ok (.lshr, 1) := by decide +kernel
theorem dX8_type_57 : decode cX8_type 57 = .ok (.ldc2_w 53, 3) := by decide +kernel
theorem dX8_type_60 : decode cX8_type 60 = .ok (.land, 1) := by decide +kernel
theorem dX8_type_61 : decode cX8_type 61 = .ok (.l2i, 1) := by decide +kernel
theorem dX8_type_62 : decode cX8_type 62 = .ok (.iastore, 1) := by decide +kernel
theorem dX8_type_63 : decode cX8_type 63 = .ok (.aload_n 0, 1) := by decide +kernel
theorem dX8_type_64 : decode cX8_type 64 = .ok (.dup, 1) := by decide +kernel
theorem dX8_type_65 : decode cX8_type 65 = .ok (.getfield 50, 3) := by decide +kernel
theorem dX8_type_68 : decode cX8_type 68 = .ok (.iconst 1, 1) := by decide +kernel
theorem dX8_type_69 : decode cX8_type 69 = .ok (.iadd, 1) := by decide +kernel
theorem dX8_type_70 : decode cX8_type 70 = .ok (.putfield 50, 3) := by decide +kernel
theorem dX8_type_73 : decode cX8_type 73 = .ok (.iinc 4 (-1), 3) := by decide +kernel
theorem dX8_type_76 : decode cX8_type 76 = .ok (.goto (-39), 3) := by decide +kernel
theorem dX8_type_79 : decode cX8_type 79 = .ok (.aload_n 0, 1) := by decide +kernel
theorem dX8_type_80 : decode cX8_type 80 = .ok (.getfield 50, 3) := by decide +kernel
theorem dX8_type_83 : decode cX8_type 83 = .ok (.ireturn, 1) := by decide +kernel
theorem dX8_clear_0 : decode cX8_clear 0 = .ok (.aload_n 0, 1) := by decide +kernel
theorem dX8_clear_1 : decode cX8_clear 1 = .ok (.iconst 0, 1) := by decide +kernel
theorem dX8_clear_2 : decode cX8_clear 2 = .ok (.putfield 42, 3) := by decide +kernel
theorem dX8_clear_5 : decode cX8_clear 5 = .ok (.aload_n 0, 1) := by decide +kernel
theorem dX8_clear_6 : decode cX8_clear 6 = .ok (.getfield 50, 3) := by decide +kernel
theorem dX8_clear_9 : decode cX8_clear 9 = .ok (.istore_n 1, 1) := by decide +kernel
theorem dX8_clear_10 : decode cX8_clear 10 = .ok (.aload_n 0, 1) := by decide +kernel
theorem dX8_clear_11 : decode cX8_clear 11 = .ok (.iconst 0, 1) := by decide +kernel
theorem dX8_clear_12 : decode cX8_clear 12 = .ok (.putfield 50, 3) := by decide +kernel
theorem dX8_clear_15 : decode cX8_clear 15 = .ok (.iload_n 1, 1) := by decide +kernel
theorem dX8_clear_16 : decode cX8_clear 16 = .ok (.ireturn, 1) := by decide +kernel
theorem dX8_byteAt_0 : decode cX8_byteAt 0 = .ok (.iload_n 1, 1) := by decide +kernel
theorem dX8_byteAt_1 : decode cX8_byteAt 1 = .ok (.aload_n 0, 1) := by decide +kernel
theorem dX8_byteAt_2 : decode cX8_byteAt 2 = .ok (.getfield 50, 3) := by decide +kernel
theorem dX8_byteAt_5 : decode cX8_byteAt 5 = .ok (.if_icmp .ge 12, 3) := by decide +kernel
theorem dX8_byteAt_8 : decode cX8_byteAt 8 = .ok (.aload_n 0, 1) := by decide +kernel
theorem dX8_byteAt_9 : decode cX8_byteAt 9 = .ok (.getfield 7, 3) := by decide +kernel
theorem dX8_byteAt_12 : decode cX8_byteAt 12 = .ok (.iload_n 1, 1) := by decide +kernel
theorem dX8_byteAt_13 : decode cX8_byteAt 13 = .ok (.iaload, 1) := by decide +kernel
theorem dX8_byteAt_14 : decode cX8_byteAt 14 = .ok (.goto 4, 3) := by decide +kernel
theorem dX8_byteAt_17 : decode cX8_byteAt 17 = .ok (.iconst (-1), 1) := by decide +kernel
theorem dX8_byteAt_18 : decode cX8_byteAt 18 = .ok (.ireturn, 1) := by decide +kernel
theorem dX8_add_0 : decode cX8_add 0 = .ok (.iload_n 2, 1) := by decide +kernel
theorem dX8_add_1 : decode cX8_add 1 = .ok (.ifCond .ne 7, 3) := by decide +kernel
theorem dX8_add_4 : decode cX8_add 4 = .ok (.lload_n 0, 1) := by decide +kernel
theorem dX8_add_5 : decode cX8_add 5 = .ok (.goto 11, 3) := by decide +kernel
theorem dX8_add_8 : decode cX8_add 8 = .ok (.ldc2_w 55, 3) := by decide +kernel
theorem dX8_add_11 : decode cX8_add 11 = .ok (.lload_n 0, 1) := by decide +kernel
theorem dX8_add_12 : decode cX8_add 12 = .ok (.lmul, 1) := by decide +kernel
theorem dX8_add_13 : decode cX8_add 13 = .ok (.iload_n 2, 1) := by decide +kernel
theorem dX8_add_14 : decode cX8_add 14 = .ok (.i2l, 1) := by decide +kernel
theorem dX8_add_15 : decode cX8_add 15 = .ok (.ladd, 1) := by decide +kernel
theorem dX8_add_16 : decode cX8_add 16 = .ok (.lreturn, 1) := by decide +kernel
set_option maxRecDepth 20000 in
theorem ggX8_named_X8_add : GoodIn wsX8_named wsX8_add := goodIn_r _ [4, 5] (by decide +kernel) (by decide +kernel)
set_option maxRecDepth 20000 in
theorem gX8_named_X8_add : GoodIn wsX8_named (va_wsS RX8 57 yX8_add wsX8_add) := goodIn_app (goodIn_of _ (by decide +kernel)) ggX8_named_X8_add
theorem dX8_named_0 : decode cX8_named 0 = .ok (.lconst 0, 1) := by decide +kernel
theorem dX8_named_1 : decode cX8_named 1 = .ok (.iload_n 0, 1) := by decide +kernel
theorem dX8_named_2 : decode cX8_named 2 = .ok (.invokestatic 57, 3) := by decide +kernel
theorem dX8_named_5 : decode cX8_named 5 = .ok (.iload_n 1, 1) := by decide +kernel
theorem dX8_named_6 : decode cX8_named 6 = .ok (.invokestatic 57, 3) := by decide +kernel
theorem dX8_named_9 : decode cX8_named 9 = .ok (.iload_n 2, 1) := by decide +kernel
theorem dX8_named_10 : decode cX8_named 10 = .ok (.invokestatic 57, 3) := by decide +kernel
theorem dX8_named_13 : decode cX8_named 13 = .ok (.iload_n 3, 1) := by decide +kernel
theorem dX8_named_14 : decode cX8_named 14 = .ok (.invokestatic 57, 3) := by decide +kernel
theorem dX8_named_17 : decode cX8_named 17 = .ok (.iload 4, 2) := by decide +kernel
theorem dX8_named_19 : decode cX8_named 19 = .ok (.invokestatic 57, 3) := by decide +kernel
theorem dX8_named_22 : decode cX8_named 22 = .ok (.iload 5, 2) := by decide +kernel
theorem dX8_named_24 : decode cX8_named 24 = .ok (.invokestatic 57, 3) := by decide +kernel
theorem dX8_named_27 : decode cX8_named 27 = .ok (.lreturn, 1) := by decide +kernel
set_option maxRecDepth 20000 in
theorem ggX8_wordOf_X8_named : GoodIn wsX8_wordOf wsX8_named := goodIn_r _ [4, 5, 6, 3, 7, 8] (by decide +kernel) (by decide +kernel)
set_option maxRecDepth 20000 in
theorem gX8_wordOf_X8_named : GoodIn wsX8_wordOf (va_wsS RX8 61 yX8_named wsX8_named) := goodIn_app (goodIn_of _ (by decide +kernel)) ggX8_wordOf_X8_named
theorem dX8_wordOf_0 : decode cX8_wordOf 0 = .ok (.lload_n 0, 1) := by decide +kernel
theorem dX8_wordOf_1 : decode cX8_wordOf 1 = .ok (.bipush 99, 2) := by decide +kernel
theorem dX8_wordOf_3 : decode cX8_wordOf 3 = .ok (.bipush 108, 2) := by decide +kernel
theorem dX8_wordOf_5 : decode cX8_wordOf 5 = .ok (.bipush 101, 2) := by decide +kernel
theorem dX8_wordOf_7 : decode cX8_wordOf 7 = .ok (.bipush 114, 2) := by decide +kernel
theorem dX8_wordOf_9 : decode cX8_wordOf 9 = .ok (.bipush 107, 2) := by decide +kernel
theorem dX8_wordOf_11 : decode cX8_wordOf 11 = .ok (.iconst 0, 1) := by decide +kernel
theorem dX8_wordOf_12 : decode cX8_wordOf 12 = .ok (.invokestatic 61, 3) := by decide +kernel
theorem dX8_wordOf_15 : decode cX8_wordOf 15 = .ok (.lcmp, 1) := by decide +kernel
theorem dX8_wordOf_16 : decode cX8_wordOf 16 = .ok (.ifCond .ne 7, 3) := by decide +kernel
theorem dX8_wordOf_19 : decode cX8_wordOf 19 = .ok (.iconst 0, 1) := by decide +kernel
theorem dX8_wordOf_20 : decode cX8_wordOf 20 = .ok (.goto 29, 3) := by decide +kernel
theorem dX8_wordOf_23 : decode cX8_wordOf 23 = .ok (.lload_n 0, 1) := by decide +kernel
theorem dX8_wordOf_24 : decode cX8_wordOf 24 = .ok (.bipush 108, 2) := by decide +kernel
theorem dX8_wordOf_26 : decode cX8_wordOf 26 = .ok (.bipush 101, 2) := by decide +kernel
theorem dX8_wordOf_28 : decode cX8_wordOf 28 = .ok (.bipush 116, 2) := by decide +kernel
theorem dX8_wordOf_30 : decode cX8_wordOf 30 = .ok (.bipush 116, 2) := by decide +kernel
theorem dX8_wordOf_32 : decode cX8_wordOf 32 = .ok (.bipush 101, 2) := by decide +kernel
theorem dX8_wordOf_34 : decode cX8_wordOf 34 = .ok (.bipush 114, 2) := by decide +kernel
theorem dX8_wordOf_36 : decode cX8_wordOf 36 = .ok (.invokestatic 61, 3) := by decide +kernel
theorem dX8_wordOf_39 : decode cX8_wordOf 39 = .ok (.lcmp, 1) := by decide +kernel
theorem dX8_wordOf_40 : decode cX8_wordOf 40 = .ok (.ifCond .ne 7, 3) := by decide +kernel
theorem dX8_wordOf_43 : decode cX8_wordOf 43 = .ok (.iconst 1, 1) := by decide +kernel
theorem dX8_wordOf_44 : decode cX8_wordOf 44 = .ok (.goto 5, 3) := by decide +kernel
theorem dX8_wordOf_47 : decode cX8_wordOf 47 = .ok (.bipush (-9), 2) := by decide +kernel
theorem dX8_wordOf_49 : decode cX8_wordOf 49 = .ok (.ireturn, 1) := by decide +kernel
set_option maxRecDepth 20000 in
theorem ggX8_advances_X8_byteAt : GoodIn wsX8_advances wsX8_byteAt := goodIn_r _ [9, 10, 11, 25, 26, 27, 28, 29, 30, 31, 32, 33, 34, 35, 36, 37, 38, 39, 40, 41, 42, 43, 44, 45, 46, 47] (by decide +kernel) (by decide +kernel)
set_option maxRecDepth 20000 in
theorem gX8_advances_X8_byteAt : GoodIn wsX8_advances (wsV RX8 68 RX8 yX8_byteAt wsX8_byteAt) := goodIn_app (goodIn_of _ (by decide +kernel)) ggX8_advances_X8_byteAt
set_option maxRecDepth 20000 in
theorem ggX8_advances_X8_in : GoodIn wsX8_advances wsX8_in := goodIn_r _ [14] (by decide +kernel) (by decide +kernel)
set_option maxRecDepth 20000 in
theorem gX8_advances_X8_in : GoodIn wsX8_advances (va_wsS RX8 46 yX8_in wsX8_in) := goodIn_app (goodIn_of _ (by decide +kernel)) ggX8_advances_X8_in
set_option maxRecDepth 20000 in
theorem ggX8_advances_X8_add : GoodIn wsX8_advances wsX8_add := goodIn_r _ [17, 18] (by decide +kernel) (by decide +kernel)
set_option maxRecDepth 20000 in
theorem gX8_advances_X8_add : GoodIn wsX8_advances (va_wsS RX8 57 yX8_add wsX8_add) := goodIn_app (goodIn_of _ (by decide +kernel)) ggX8_advances_X8_add
set_option maxRecDepth 20000 in
theorem ggX8_advances_X8_wordOf : GoodIn wsX8_advances wsX8_wordOf := goodIn_r _ [21, 22, 23, 8, 24, 15, 16, 17, 18] (by decide +kernel) (by decide +kernel)
set_option maxRecDepth 20000 in
theorem gX8_advances_X8_wordOf : GoodIn wsX8_advances (va_wsS RX8 78 yX8_wordOf wsX8_wordOf) := goodIn_app (goodIn_of _ (by decide +kernel)) ggX8_advances_X8_wordOf
theorem dX8_advances_0 : decode cX8_advances 0 = .ok (.aload_n 0, 1) := by decide +kernel
theorem dX8_advances_1 : decode cX8_advances 1 = .ok (.aload_n 0, 1) := by decide +kernel
theorem dX8_advances_2 : decode cX8_advances 2 = .ok (.getfield 65, 3) := by decide +kernel
theorem dX8_advances_5 : decode cX8_advances 5 = .ok (.invokevirtual 68, 3) := by decide +kernel
theorem dX8_advances_8 : decode cX8_advances 8 = .ok (.bipush 32, 2) := by decide +kernel
theorem dX8_advances_10 : decode cX8_advances 10 = .ok (.if_icmp .ne 16, 3) := by decide +kernel
theorem dX8_advances_13 : decode cX8_advances 13 = .ok (.aload_n 0, 1) := by decide +kernel
theorem dX8_advances_14 : decode cX8_advances 14 = .ok (.dup, 1) := by decide +kernel
theorem dX8_advances_15 : decode cX8_advances 15 = .ok (.getfield 65, 3) := by decide +kernel
theorem dX8_advances_18 : decode cX8_advances 18 = .ok (.iconst 1, 1) := by decide +kernel
theorem dX8_advances_19 : decode cX8_advances 19 = .ok (.iadd, 1) := by decide +kernel
theorem dX8_advances_20 : decode cX8_advances 20 = .ok (.putfield 65, 3) := by decide +kernel
theorem dX8_advances_23 : decode cX8_advances 23 = .ok (.goto (-23), 3) := by decide +kernel
theorem dX8_advances_26 : decode cX8_advances 26 = .ok (.aload_n 0, 1) := by decide +kernel
theorem dX8_advances_27 : decode cX8_advances 27 = .ok (.aload_n 0, 1) := by decide +kernel
theorem dX8_advances_28 : decode cX8_advances 28 = .ok (.getfield 65, 3) := by decide +kernel
theorem dX8_advances_31 : decode cX8_advances 31 = .ok (.putfield 72, 3) := by decide +kernel
theorem dX8_advances_34 : decode cX8_advances 34 = .ok (.aload_n 0, 1) := by decide +kernel
theorem dX8_advances_35 : decode cX8_advances 35 = .ok (.aload_n 0, 1) := by decide +kernel
theorem dX8_advances_36 : decode cX8_advances 36 = .ok (.getfield 65, 3) := by decide +kernel
theorem dX8_advances_39 : decode cX8_advances 39 = .ok (.invokevirtual 68, 3) := by decide +kernel
theorem dX8_advances_42 : decode cX8_advances 42 = .ok (.istore_n 1, 1) := by decide +kernel
theorem dX8_advances_43 : decode cX8_advances 43 = .ok (.iload_n 1, 1) := by decide +kernel
theorem dX8_advances_44 : decode cX8_advances 44 = .ok (.ifCond .ge 11, 3) := by decide +kernel
theorem dX8_advances_47 : decode cX8_advances 47 = .ok (.aload_n 0, 1) := by decide +kernel
theorem dX8_advances_48 : decode cX8_advances 48 = .ok (.iconst 0, 1) := by decide +kernel
theorem dX8_advances_49 : decode cX8_advances 49 = .ok (.putfield 75, 3) := by decide +kernel
theorem dX8_advances_52 : decode cX8_advances 52 = .ok (.goto 258, 3) := by decide +kernel
theorem dX8_advances_55 : decode cX8_advances 55 = .ok (.iload_n 1, 1) := by decide +kernel
theorem dX8_advances_56 : decode cX8_advances 56 = .ok (.bipush 97, 2) := by decide +kernel
theorem dX8_advances_58 : decode cX8_advances 58 = .ok (.bipush 122, 2) := by decide +kernel
theorem dX8_advances_60 : decode cX8_advances 60 = .ok (.invokestatic 46, 3) := by decide +kernel
theorem dX8_advances_63 : decode cX8_advances 63 = .ok (.ifCond .eq 96, 3) := by decide +kernel
theorem dX8_advances_66 : decode cX8_advances 66 = .ok (.lconst 0, 1) := by decide +kernel
theorem dX8_advances_67 : decode cX8_advances 67 = .ok (.lstore_n 2, 1) := by decide +kernel
theorem dX8_advances_68 : decode cX8_advances 68 = .ok (.aload_n 0, 1) := by decide +kernel
theorem dX8_advances_69 : decode cX8_advances 69 = .ok (.aload_n 0, 1) := by decide +kernel
theorem dX8_advances_70 : decode cX8_advances 70 = .ok (.getfield 65, 3) := by decide +kernel
theorem dX8_advances_73 : decode cX8_advances 73 = .ok (.invokevirtual 68, 3) := by decide +kernel
theorem dX8_advances_76 : decode cX8_advances 76 = .ok (.bipush 97, 2) := by decide +kernel
theorem dX8_advances_78 : decode cX8_advances 78 = .ok (.bipush 122, 2) := by decide +kernel
theorem dX8_advances_80 : decode cX8_advances 80 = .ok (.invokestatic 46, 3) := by decide +kernel
theorem dX8_advances_83 : decode cX8_advances 83 = .ok (.ifCond .eq 47, 3) := by decide +kernel
theorem dX8_advances_86 : decode cX8_advances 86 = .ok (.aload_n 0, 1) := by decide +kernel
theorem dX8_advances_87 : decode cX8_advances 87 = .ok (.getfield 65, 3) := by decide +kernel
theorem dX8_advances_90 : decode cX8_advances 90 = .ok (.aload_n 0, 1) := by decide +kernel
theorem dX8_advances_91 : decode cX8_advances 91 = .ok (.getfield 72, 3) := by decide +kernel
theorem dX8_advances_94 : decode cX8_advances 94 = .ok (.isub, 1) := by decide +kernel
theorem dX8_advances_95 : decode cX8_advances 95 = .ok (.bipush 7, 2) := by decide +kernel
theorem dX8_advances_97 : decode cX8_advances 97 = .ok (.if_icmp .ge 18, 3) := by decide +kernel
theorem dX8_advances_100 : decode cX8_advances 100 = .ok (.lload_n 2, 1) := by decide +kernel
theorem dX8_advances_101 : decode cX8_advances 101 = .ok (.aload_n 0, 1) := by decide +kernel
theorem dX8_advances_102 : decode cX8_advances 102 = .ok (.aload_n 0, 1) := by decide +kernel
theorem dX8_advances_103 : decode cX8_advances 103 = .ok (.getfield 65, 3) := by decide +kernel
theorem dX8_advances_106 : decode cX8_advances 106 = .ok (.invokevirtual 68, 3) := by decide +kernel
theorem dX8_advances_109 : decode cX8_advances 109 = .ok (.invokestatic 57, 3) := by decide +kernel
theorem dX8_advances_112 : decode cX8_advances 112 = .ok (.goto 4, 3) := by decide +kernel
theorem dX8_advances_115 : decode cX8_advances 115 = .ok (.lload_n 2, 1) := by decide +kernel
theorem dX8_advances_116 : decode cX8_advances 116 = .ok (.lstore_n 2, 1) := by decide +kernel
theorem dX8_advances_117 : decode cX8_advances 117 = .ok (.aload_n 0, 1) := by decide +kernel
theorem dX8_advances_118 : decode cX8_advances 118 = .ok (.dup, 1) := by decide +kernel
theorem dX8_advances_119 : decode cX8_advances 119 = .ok (.getfield 65, 3) := by decide +kernel
theorem dX8_advances_122 : decode cX8_advances 122 = .ok (.iconst 1, 1) := by decide +kernel
theorem dX8_advances_123 : decode cX8_advances 123 = .ok (.iadd, 1) := by decide +kernel
theorem dX8_advances_124 : decode cX8_advances 124 = .ok (.putfield 65, 3) := by decide +kernel
theorem dX8_advances_127 : decode cX8_advances 127 = .ok (.goto (-59), 3) := by decide +kernel
theorem dX8_advances_130 : decode cX8_advances 130 = .ok (.aload_n 0, 1) := by decide +kernel
theorem dX8_advances_131 : decode cX8_advances 131 = .ok (.lload_n 2, 1) := by decide +kernel
theorem dX8_advances_132 : decode cX8_advances 132 = .ok (.invokestatic 78, 3) := by decide +kernel
theorem dX8_advances_135 : decode cX8_advances 135 = .ok (.putfield 82, 3) := by decide +kernel
theorem dX8_advances_138 : decode cX8_advances 138 = .ok (.aload_n 0, 1) := by decide +kernel
theorem dX8_advances_139 : decode cX8_advances 139 = .ok (.aload_n 0, 1) := by decide +kernel
theorem dX8_advances_140 : decode cX8_advances 140 = .ok (.getfield 82, 3) := by decide +kernel
theorem dX8_advances_143 : decode cX8_advances 143 = .ok (.bipush (-9), 2) := by decide +kernel
theorem dX8_advances_145 : decode cX8_advances 145 = .ok (.if_icmp .ne 7, 3) := by decide +kernel
theorem dX8_advances_148 : decode cX8_advances 148 = .ok (.iconst 4, 1) := by decide +kernel
theorem dX8_advances_149 : decode cX8_advances 149 = .ok (.goto 4, 3) := by decide +kernel
theorem dX8_advances_152 : decode cX8_advances 152 = .ok (.iconst 1, 1) := by decide +kernel
theorem dX8_advances_153 : decode cX8_advances 153 = .ok (.putfield 75, 3) := by decide +kernel
theorem dX8_advances_156 : decode cX8_advances 156 = .ok (.goto 154, 3) := by decide +kernel
theorem dX8_advances_159 : decode cX8_advances 159 = .ok (.iload_n 1, 1) := by decide +kernel
theorem dX8_advances_160 : decode cX8_advances 160 = .ok (.bipush 48, 2) := by decide +kernel
theorem dX8_advances_162 : decode cX8_advances 162 = .ok (.bipush 57, 2) := by decide +kernel
theorem dX8_advances_164 : decode cX8_advances 164 = .ok (.invokestatic 46, 3) := by decide +kernel
theorem dX8_advances_167 : decode cX8_advances 167 = .ok (.ifCond .eq 118, 3) := by decide +kernel
theorem dX8_advances_170 : decode cX8_advances 170 = .ok (.aload_n 0, 1) := by decide +kernel
theorem dX8_advances_171 : decode cX8_advances 171 = .ok (.iconst 0, 1) := by decide +kernel
theorem dX8_advances_172 : decode cX8_advances 172 = .ok (.putfield 82, 3) := by decide +kernel
theorem dX8_advances_175 : decode cX8_advances 175 = .ok (.aload_n 0, 1) := by decide +kernel
theorem dX8_advances_176 : decode cX8_advances 176 = .ok (.aload_n 0, 1) := by decide +kernel
theorem dX8_advances_177 : decode cX8_advances 177 = .ok (.getfield 65, 3) := by decide +kernel
theorem dX8_advances_180 : decode cX8_advances 180 = .ok (.invokevirtual 68, 3) := by decide +kernel
theorem dX8_advances_183 : decode cX8_advances 183 = .ok (.bipush 48, 2) := by decide +kernel
theorem dX8_advances_185 : decode cX8_advances 185 = .ok (.bipush 57, 2) := by decide +kernel
theorem dX8_advances_187 : decode cX8_advances 187 = .ok (.invokestatic 46, 3) := by decide +kernel
theorem dX8_advances_190 : decode cX8_advances 190 = .ok (.ifCond .eq 55, 3) := by decide +kernel
theorem dX8_advances_193 : decode cX8_advances 193 = .ok (.aload_n 0, 1) := by decide +kernel
theorem dX8_advances_194 : decode cX8_advances 194 = .ok (.aload_n 0, 1) := by decide +kernel
theorem dX8_advances_195 : decode cX8_advances 195 = .ok (.getfield 82, 3) := by decide +kernel
theorem dX8_advances_198 : decode cX8_advances 198 = .ok (.bipush 99, 2) := by decide +kernel
theorem dX8_advances_200 : decode cX8_advances 200 = .ok (.if_icmp .le 10, 3) := by decide +kernel
theorem dX8_advances_203 : decode cX8_advances 203 = .ok (.aload_n 0, 1) := by decide +kernel
theorem dX8_advances_204 : decode cX8_advances 204 = .ok (.getfield 82, 3) := by decide +kernel
theorem dX8_advances_207 : decode cX8_advances 207 = .ok (.goto 22, 3) := by decide +kernel
theorem dX8_advances_210 : decode cX8_advances 210 = .ok (.bipush 10, 2) := by decide +kernel
theorem dX8_advances_212 : decode cX8_advances 212 = .ok (.aload_n 0, 1) := by decide +kernel
theorem dX8_advances_213 : decode cX8_advances 213 = .ok (.getfield 82, 3) := by decide +kernel
theorem dX8_advances_216 : decode cX8_advances 216 = .ok (.imul, 1) := by decide +kernel
theorem dX8_advances_217 : decode cX8_advances 217 = .ok (.aload_n 0, 1) := by decide +kernel
theorem dX8_advances_218 : decode cX8_advances 218 = .ok (.aload_n 0, 1) := by decide +kernel
theorem dX8_advances_219 : decode cX8_advances 219 = .ok (.getfield 65, 3) := by decide +kernel
theorem dX8_advances_222 : decode cX8_advances 222 = .ok (.invokevirtual 68, 3) := by decide +kernel
theorem dX8_advances_225 : decode cX8_advances 225 = .ok (.iadd, 1) := by decide +kernel
theorem dX8_advances_226 : decode cX8_advances 226 = .ok (.bipush 48, 2) := by decide +kernel
theorem dX8_advances_228 : decode cX8_advances 228 = .ok (.isub, 1) := by decide +kernel
theorem dX8_advances_229 : decode cX8_advances 229 = .ok (.putfield 82, 3) := by decide +kernel
theorem dX8_advances_232 : decode cX8_advances 232 = .ok (.aload_n 0, 1) := by decide +kernel
theorem dX8_advances_233 : decode cX8_advances 233 = .ok (.dup, 1) := by decide +kernel
theorem dX8_advances_234 : decode cX8_advances 234 = .ok (.getfield 65, 3) := by decide +kernel
theorem dX8_advances_237 : decode cX8_advances 237 = .ok (.iconst 1, 1) := by decide +kernel
theorem dX8_advances_238 : decode cX8_advances 238 = .ok (.iadd, 1) := by decide +kernel
theorem dX8_advances_239 : decode cX8_advances 239 = .ok (.putfield 65, 3) := by decide +kernel
theorem dX8_advances_242 : decode cX8_advances 242 = .ok (.goto (-67), 3) := by decide +kernel
theorem dX8_advances_245 : decode cX8_advances 245 = .ok (.aload_n 0, 1) := by decide +kernel
theorem dX8_advances_246 : decode cX8_advances 246 = .ok (.aload_n 0, 1) := by decide +kernel
theorem dX8_advances_247 : decode cX8_advances 247 = .ok (.getfield 82, 3) := by decide +kernel
theorem dX8_advances_250 : decode cX8_advances 250 = .ok (.bipush 99, 2) := by decide +kernel
theorem dX8_advances_252 : decode cX8_advances 252 = .ok (.if_icmp .gt 22, 3) := by decide +kernel
theorem dX8_advances_255 : decode cX8_advances 255 = .ok (.iload_n 1, 1) := by decide +kernel
theorem dX8_advances_256 : decode cX8_advances 256 = .ok (.bipush 48, 2) := by decide +kernel
theorem dX8_advances_258 : decode cX8_advances 258 = .ok (.if_icmp .ne 20, 3) := by decide +kernel
theorem dX8_advances_261 : decode cX8_advances 261 = .ok (.aload_n 0, 1) := by decide +kernel
theorem dX8_advances_262 : decode cX8_advances 262 = .ok (.getfield 65, 3) := by decide +kernel
theorem dX8_advances_265 : decode cX8_advances 265 = .ok (.aload_n 0, 1) := by decide +kernel
theorem dX8_advances_266 : decode cX8_advances 266 = .ok (.getfield 72, 3) := by decide +kernel
theorem dX8_advances_269 : decode cX8_advances 269 = .ok (.isub, 1) := by decide +kernel
theorem dX8_advances_270 : decode cX8_advances 270 = .ok (.iconst 1, 1) := by decide +kernel
theorem dX8_advances_271 : decode cX8_advances 271 = .ok (.if_icmp .le 7, 3) := by decide +kernel
theorem dX8_advances_274 : decode cX8_advances 274 = .ok (.iconst 4, 1) := by decide +kernel
theorem dX8_advances_275 : decode cX8_advances 275 = .ok (.goto 4, 3) := by decide +kernel
theorem dX8_advances_278 : decode cX8_advances 278 = .ok (.iconst 2, 1) := by decide +kernel
theorem dX8_advances_279 : decode cX8_advances 279 = .ok (.putfield 75, 3) := by decide +kernel
theorem dX8_advances_282 : decode cX8_advances 282 = .ok (.goto 28, 3) := by decide +kernel
theorem dX8_advances_285 : decode cX8_advances 285 = .ok (.aload_n 0, 1) := by decide +kernel
theorem dX8_advances_286 : decode cX8_advances 286 = .ok (.dup, 1) := by decide +kernel
theorem dX8_advances_287 : decode cX8_advances 287 = .ok (.getfield 65, 3) := by decide +kernel
theorem dX8_advances_290 : decode cX8_advances 290 = .ok (.iconst 1, 1) := by decide +kernel
theorem dX8_advances_291 : decode cX8_advances 291 = .ok (.iadd, 1) := by decide +kernel
theorem dX8_advances_292 : decode cX8_advances 292 = .ok (.putfield 65, 3) := by decide +kernel
theorem dX8_advances_295 : decode cX8_advances 295 = .ok (.aload_n 0, 1) := by decide +kernel
theorem dX8_advances_296 : decode cX8_advances 296 = .ok (.iload_n 1, 1) := by decide +kernel
theorem dX8_advances_297 : decode cX8_advances 297 = .ok (.bipush 59, 2) := by decide +kernel
theorem dX8_advances_299 : decode cX8_advances 299 = .ok (.if_icmp .ne 7, 3) := by decide +kernel
theorem dX8_advances_302 : decode cX8_advances 302 = .ok (.iconst 3, 1) := by decide +kernel
theorem dX8_advances_303 : decode cX8_advances 303 = .ok (.goto 4, 3) := by decide +kernel
theorem dX8_advances_306 : decode cX8_advances 306 = .ok (.iconst 4, 1) := by decide +kernel
theorem dX8_advances_307 : decode cX8_advances 307 = .ok (.putfield 75, 3) := by decide +kernel
theorem dX8_advances_310 : decode cX8_advances 310 = .ok (.return_, 1) := by decide +kernel
theorem dX8_isWell_0 : decode cX8_isWell 0 = .ok (.aload_n 0, 1) := by decide +kernel
theorem dX8_isWell_1 : decode cX8_isWell 1 = .ok (.getfield 85, 3) := by decide +kernel
theorem dX8_isWell_4 : decode cX8_isWell 4 = .ok (.ifCond .ge 7, 3) := by decide +kernel
theorem dX8_isWell_7 : decode cX8_isWell 7 = .ok (.iconst 1, 1) := by decide +kernel
theorem dX8_isWell_8 : decode cX8_isWell 8 = .ok (.goto 4, 3) := by decide +kernel
theorem dX8_isWell_11 : decode cX8_isWell 11 = .ok (.iconst 0, 1) := by decide +kernel
theorem dX8_isWell_12 : decode cX8_isWell 12 = .ok (.ireturn, 1) := by decide +kernel
set_option maxRecDepth 20000 in
theorem ggX8_takes_X8_isWell : GoodIn wsX8_takes wsX8_isWell := goodIn_r _ [8, 2, 34, 35, 36, 37, 38, 39, 40, 41, 42, 43, 44, 45, 46, 47, 48, 49, 50, 51, 52, 53, 54, 55, 56] (by decide +kernel) (by decide +kernel)
set_option maxRecDepth 20000 in
theorem gX8_takes_X8_isWell : GoodIn wsX8_takes (wsV RX8 88 RX8 yX8_isWell wsX8_isWell) := goodIn_app (goodIn_of _ (by decide +kernel)) ggX8_takes_X8_isWell
set_option maxRecDepth 20000 in
theorem ggX8_takes_X8_advances : GoodIn wsX8_takes wsX8_advances := goodIn_r _ [12, 13, 1, 14, 3, 15, 16, 17, 7, 18, 19, 20, 21, 22, 23, 24, 25, 26, 27, 28, 29, 30, 31, 32, 33, 34, 35, 36, 37, 38, 39, 40, 41, 42, 43, 44, 45, 46, 47, 48, 49, 50, 51, 52, 53, 54, 55, 56] (by decide +kernel) (by decide +kernel)
set_option maxRecDepth 20000 in
theorem gX8_takes_X8_advances : GoodIn wsX8_takes (wsV RX8 92 RX8 yX8_advances wsX8_advances) := goodIn_app (goodIn_of _ (by decide +kernel)) ggX8_takes_X8_advances
theorem dX8_takes_0 : decode cX8_takes 0 = .ok (.aload_n 0, 1) := by decide +kernel
theorem dX8_takes_1 : decode cX8_takes 1 = .ok (.invokevirtual 88, 3) := by decide +kernel
theorem dX8_takes_4 : decode cX8_takes 4 = .ok (.ifCond .ne 5, 3) := by decide +kernel
theorem dX8_takes_7 : decode cX8_takes 7 = .ok (.iconst 0, 1) := by decide +kernel
theorem dX8_takes_8 : decode cX8_takes 8 = .ok (.ireturn, 1) := by decide +kernel
theorem dX8_takes_9 : decode cX8_takes 9 = .ok (.iload_n 1, 1) := by decide +kernel
theorem dX8_takes_10 : decode cX8_takes 10 = .ok (.ifCond .ne 13, 3) := by decide +kernel
theorem dX8_takes_13 : decode cX8_takes 13 = .ok (.aload_n 0, 1) := by decide +kernel
theorem dX8_takes_14 : decode cX8_takes 14 = .ok (.aload_n 0, 1) := by decide +kernel
theorem dX8_takes_15 : decode cX8_takes 15 = .ok (.getfield 72, 3) := by decide +kernel
theorem dX8_takes_18 : decode cX8_takes 18 = .ok (.putfield 85, 3) := by decide +kernel
theorem dX8_takes_21 : decode cX8_takes 21 = .ok (.iconst 0, 1) := by decide +kernel
theorem dX8_takes_22 : decode cX8_takes 22 = .ok (.ireturn, 1) := by decide +kernel
theorem dX8_takes_23 : decode cX8_takes 23 = .ok (.aload_n 0, 1) := by decide +kernel
theorem dX8_takes_24 : decode cX8_takes 24 = .ok (.getfield 82, 3) := by decide +kernel
theorem dX8_takes_27 : decode cX8_takes 27 = .ok (.istore_n 2, 1) := by decide +kernel
theorem dX8_takes_28 : decode cX8_takes 28 = .ok (.aload_n 0, 1) := by decide +kernel
theorem dX8_takes_29 : decode cX8_takes 29 = .ok (.invokevirtual 92, 3) := by decide +kernel
theorem dX8_takes_32 : decode cX8_takes 32 = .ok (.iload_n 2, 1) := by decide +kernel
theorem dX8_takes_33 : decode cX8_takes 33 = .ok (.ireturn, 1) := by decide +kernel
set_option maxRecDepth 20000 in
theorem ggX8_number_X8_in : GoodIn wsX8_number wsX8_in := goodIn_r _ [6] (by decide +kernel) (by decide +kernel)
set_option maxRecDepth 20000 in
theorem gX8_number_X8_in : GoodIn wsX8_number (va_wsS RX8 46 yX8_in wsX8_in) := goodIn_app (goodIn_of _ (by decide +kernel)) ggX8_number_X8_in
set_option maxRecDepth 20000 in
theorem ggX8_number_X8_takes : GoodIn wsX8_number wsX8_takes := goodIn_r _ [10, 11, 12, 2, 13, 14, 15, 5, 16, 17, 18, 19, 20, 21, 1, 22, 23, 24, 25, 26, 27, 3, 4, 6, 28, 29, 30, 31, 32, 33, 34, 35, 36, 37, 38, 39, 40, 41, 42, 43, 44, 45, 46, 47, 48, 49, 50, 51, 52, 53, 54, 55, 56, 57, 58, 59, 60] (by decide +kernel) (by decide +kernel)
set_option maxRecDepth 20000 in
theorem gX8_number_X8_takes : GoodIn wsX8_number (wsV RX8 95 RX8 yX8_takes wsX8_takes) := goodIn_app (goodIn_of _ (by decide +kernel)) ggX8_number_X8_takes
theorem dX8_number_0 : decode cX8_number 0 = .ok (.aload_n 0, 1) := by decide +kernel
theorem dX8_number_1 : decode cX8_number 1 = .ok (.aload_n 0, 1) := by decide +kernel
theorem dX8_number_2 : decode cX8_number 2 = .ok (.getfield 75, 3) := by decide +kernel
theorem dX8_number_5 : decode cX8_number 5 = .ok (.iconst 2, 1) := by decide +kernel
theorem dX8_number_6 : decode cX8_number 6 = .ok (.if_icmp .ne 19, 3) := by decide +kernel
theorem dX8_number_9 : decode cX8_number 9 = .ok (.aload_n 0, 1) := by decide +kernel
theorem dX8_number_10 : decode cX8_number 10 = .ok (.getfield 82, 3) := by decide +kernel
theorem dX8_number_13 : decode cX8_number 13 = .ok (.iload_n 1, 1) := by decide +kernel
theorem dX8_number_14 : decode cX8_number 14 = .ok (.iload_n 2, 1) := by decide +kernel
theorem dX8_number_15 : decode cX8_number 15 = .ok (.invokestatic 46, 3) := by decide +kernel
theorem dX8_number_18 : decode cX8_number 18 = .ok (.ifCond .eq 7, 3) := by decide +kernel
theorem dX8_number_21 : decode cX8_number 21 = .ok (.iconst 1, 1) := by decide +kernel
theorem dX8_number_22 : decode cX8_number 22 = .ok (.goto 4, 3) := by decide +kernel
theorem dX8_number_25 : decode cX8_number 25 = .ok (.iconst 0, 1) := by decide +kernel
theorem dX8_number_26 : decode cX8_number 26 = .ok (.invokevirtual 95, 3) := by decide +kernel
theorem dX8_number_29 : decode cX8_number 29 = .ok (.ireturn, 1) := by decide +kernel
set_option maxRecDepth 20000 in
theorem ggX8_readsItem_X8_number : GoodIn wsX8_readsItem wsX8_number := goodIn_r _ [10, 3, 4, 11, 12, 9, 13, 14, 15, 16, 17, 18, 19, 20, 21, 22, 23, 24, 25, 26, 27, 28, 29, 30, 31, 32, 33, 34, 35, 36, 37, 38, 39, 40, 41, 42, 43, 44, 45, 46, 47, 48, 49, 50, 51, 52, 53, 54, 55, 56, 57, 58, 59, 60, 61, 62, 63, 64, 65, 66, 67] (by decide +kernel) (by decide +kernel)
set_option maxRecDepth 20000 in
theorem gX8_readsItem_X8_number : GoodIn wsX8_readsItem (wsV RX8 102 RX8 yX8_number wsX8_number) := goodIn_app (goodIn_of _ (by decide +kernel)) ggX8_readsItem_X8_number
set_option maxRecDepth 20000 in
theorem ggX8_readsItem_X8_in : GoodIn wsX8_readsItem wsX8_in := goodIn_r _ [13] (by decide +kernel) (by decide +kernel)
set_option maxRecDepth 20000 in
theorem gX8_readsItem_X8_in : GoodIn wsX8_readsItem (va_wsS RX8 46 yX8_in wsX8_in) := goodIn_app (goodIn_of _ (by decide +kernel)) ggX8_readsItem_X8_in
set_option maxRecDepth 20000 in
theorem ggX8_readsItem_X8_takes : GoodIn wsX8_readsItem wsX8_takes := goodIn_r _ [17, 18, 19, 4, 20, 21, 22, 9, 23, 24, 25, 26, 27, 28, 3, 29, 30, 31, 32, 33, 34, 11, 12, 13, 35, 36, 37, 38, 39, 40, 41, 42, 43, 44, 45, 46, 47, 48, 49, 50, 51, 52, 53, 54, 55, 56, 57, 58, 59, 60, 61, 62, 63, 64, 65, 66, 67] (by decide +kernel) (by decide +kernel)
set_option maxRecDepth 20000 in
theorem gX8_readsItem_X8_takes : GoodIn wsX8_readsItem (wsV RX8 95 RX8 yX8_takes wsX8_takes) := goodIn_app (goodIn_of _ (by decide +kernel)) ggX8_readsItem_X8_takes
theorem dX8_readsItem_0 : decode cX8_readsItem 0 = .ok (.iload_n 1, 1) := by decide +kernel
theorem dX8_readsItem_1 : decode cX8_readsItem 1 = .ok (.ifCond .ne 118, 3) := by decide +kernel
theorem dX8_readsItem_4 : decode cX8_readsItem 4 = .ok (.bipush 24, 2) := by decide +kernel
theorem dX8_readsItem_6 : decode cX8_readsItem 6 = .ok (.iconst 4, 1) := by decide +kernel
theorem dX8_readsItem_7 : decode cX8_readsItem 7 = .ok (.aload_n 0, 1) := by decide +kernel
theorem dX8_readsItem_8 : decode cX8_readsItem 8 = .ok (.getfield 99, 3) := by decide +kernel
theorem dX8_readsItem_11 : decode cX8_readsItem 11 = .ok (.imul, 1) := by decide +kernel
theorem dX8_readsItem_12 : decode cX8_readsItem 12 = .ok (.iadd, 1) := by decide +kernel
theorem dX8_readsItem_13 : decode cX8_readsItem 13 = .ok (.istore_n 2, 1) := by decide +kernel
theorem dX8_readsItem_14 : decode cX8_readsItem 14 = .ok (.aload_n 0, 1) := by decide +kernel
theorem dX8_readsItem_15 : decode cX8_readsItem 15 = .ok (.getfield 13, 3) := by decide +kernel
theorem dX8_readsItem_18 : decode cX8_readsItem 18 = .ok (.iload_n 2, 1) := by decide +kernel
theorem dX8_readsItem_19 : decode cX8_readsItem 19 = .ok (.aload_n 0, 1) := by decide +kernel
theorem dX8_readsItem_20 : decode cX8_readsItem 20 = .ok (.iconst 0, 1) := by decide +kernel
theorem dX8_readsItem_21 : decode cX8_readsItem 21 = .ok (.bipush 8, 2) := by decide +kernel
theorem dX8_readsItem_23 : decode cX8_readsItem 23 = .ok (.invokevirtual 102, 3) := by decide +kernel
theorem dX8_readsItem_26 : decode cX8_readsItem 26 = .ok (.iastore, 1) := by decide +kernel
theorem dX8_readsItem_27 : decode cX8_readsItem 27 = .ok (.aload_n 0, 1) := by decide +kernel
theorem dX8_readsItem_28 : decode cX8_readsItem 28 = .ok (.iconst 0, 1) := by decide +kernel
theorem dX8_readsItem_29 : decode cX8_readsItem 29 = .ok (.bipush 7, 2) := by decide +kernel
theorem dX8_readsItem_31 : decode cX8_readsItem 31 = .ok (.invokevirtual 102, 3) := by decide +kernel
theorem dX8_readsItem_34 : decode cX8_readsItem 34 = .ok (.istore_n 3, 1) := by decide +kernel
theorem dX8_readsItem_35 : decode cX8_readsItem 35 = .ok (.aload_n 0, 1) := by decide +kernel
theorem dX8_readsItem_36 : decode cX8_readsItem 36 = .ok (.getfield 13, 3) := by decide +kernel
theorem dX8_readsItem_39 : decode cX8_readsItem 39 = .ok (.iload_n 2, 1) := by decide +kernel
theorem dX8_readsItem_40 : decode cX8_readsItem 40 = .ok (.iconst 1, 1) := by decide +kernel
theorem dX8_readsItem_41 : decode cX8_readsItem 41 = .ok (.iadd, 1) := by decide +kernel
theorem dX8_readsItem_42 : decode cX8_readsItem 42 = .ok (.iload_n 3, 1) := by decide +kernel
theorem dX8_readsItem_43 : decode cX8_readsItem 43 = .ok (.iastore, 1) := by decide +kernel
theorem dX8_readsItem_44 : decode cX8_readsItem 44 = .ok (.aload_n 0, 1) := by decide +kernel
theorem dX8_readsItem_45 : decode cX8_readsItem 45 = .ok (.getfield 13, 3) := by decide +kernel
theorem dX8_readsItem_48 : decode cX8_readsItem 48 = .ok (.iload_n 2, 1) := by decide +kernel
theorem dX8_readsItem_49 : decode cX8_readsItem 49 = .ok (.iconst 2, 1) := by decide +kernel
theorem dX8_readsItem_50 : decode cX8_readsItem 50 = .ok (.iadd, 1) := by decide +kernel
theorem dX8_readsItem_51 : decode cX8_readsItem 51 = .ok (.aload_n 0, 1) := by decide +kernel
theorem dX8_readsItem_52 : decode cX8_readsItem 52 = .ok (.aload_n 0, 1) := by decide +kernel
theorem dX8_readsItem_53 : decode cX8_readsItem 53 = .ok (.getfield 75, 3) := by decide +kernel
theorem dX8_readsItem_56 : decode cX8_readsItem 56 = .ok (.iconst 2, 1) := by decide +kernel
theorem dX8_readsItem_57 : decode cX8_readsItem 57 = .ok (.if_icmp .ne 29, 3) := by decide +kernel
theorem dX8_readsItem_60 : decode cX8_readsItem 60 = .ok (.aload_n 0, 1) := by decide +kernel
theorem dX8_readsItem_61 : decode cX8_readsItem 61 = .ok (.getfield 82, 3) := by decide +kernel
theorem dX8_readsItem_64 : decode cX8_readsItem 64 = .ok (.iconst 0, 1) := by decide +kernel
theorem dX8_readsItem_65 : decode cX8_readsItem 65 = .ok (.bipush 7, 2) := by decide +kernel
theorem dX8_readsItem_67 : decode cX8_readsItem 67 = .ok (.invokestatic 46, 3) := by decide +kernel
theorem dX8_readsItem_70 : decode cX8_readsItem 70 = .ok (.ifCond .eq 16, 3) := by decide +kernel
theorem dX8_readsItem_73 : decode cX8_readsItem 73 = .ok (.aload_n 0, 1) := by decide +kernel
theorem dX8_readsItem_74 : decode cX8_readsItem 74 = .ok (.getfield 82, 3) := by decide +kernel
theorem dX8_readsItem_77 : decode cX8_readsItem 77 = .ok (.iload_n 3, 1) := by decide +kernel
theorem dX8_readsItem_78 : decode cX8_readsItem 78 = .ok (.iand, 1) := by decide +kernel
theorem dX8_readsItem_79 : decode cX8_readsItem 79 = .ok (.ifCond .ne 7, 3) := by decide +kernel
theorem dX8_readsItem_82 : decode cX8_readsItem 82 = .ok (.iconst 1, 1) := by decide +kernel
theorem dX8_readsItem_83 : decode cX8_readsItem 83 = .ok (.goto 4, 3) := by decide +kernel
theorem dX8_readsItem_86 : decode cX8_readsItem 86 = .ok (.iconst 0, 1) := by decide +kernel
theorem dX8_readsItem_87 : decode cX8_readsItem 87 = .ok (.invokevirtual 95, 3) := by decide +kernel
theorem dX8_readsItem_90 : decode cX8_readsItem 90 = .ok (.iastore, 1) := by decide +kernel
theorem dX8_readsItem_91 : decode cX8_readsItem 91 = .ok (.aload_n 0, 1) := by decide +kernel
theorem dX8_readsItem_92 : decode cX8_readsItem 92 = .ok (.getfield 13, 3) := by decide +kernel
theorem dX8_readsItem_95 : decode cX8_readsItem 95 = .ok (.iload_n 2, 1) := by decide +kernel
theorem dX8_readsItem_96 : decode cX8_readsItem 96 = .ok (.iconst 3, 1) := by decide +kernel
theorem dX8_readsItem_97 : decode cX8_readsItem 97 = .ok (.iadd, 1) := by decide +kernel
theorem dX8_readsItem_98 : decode cX8_readsItem 98 = .ok (.aload_n 0, 1) := by decide +kernel
theorem dX8_readsItem_99 : decode cX8_readsItem 99 = .ok (.iconst 0, 1) := by decide +kernel
theorem dX8_readsItem_100 : decode cX8_readsItem 100 = .ok (.bipush 10, 2) := by decide +kernel
theorem dX8_readsItem_102 : decode cX8_readsItem 102 = .ok (.invokevirtual 102, 3) := by decide +kernel
theorem dX8_readsItem_105 : decode cX8_readsItem 105 = .ok (.iastore, 1) := by decide +kernel
theorem dX8_readsItem_106 : decode cX8_readsItem 106 = .ok (.aload_n 0, 1) := by decide +kernel
theorem dX8_readsItem_107 : decode cX8_readsItem 107 = .ok (.dup, 1) := by decide +kernel
theorem dX8_readsItem_108 : decode cX8_readsItem 108 = .ok (.getfield 99, 3) := by decide +kernel
theorem dX8_readsItem_111 : decode cX8_readsItem 111 = .ok (.iconst 1, 1) := by decide +kernel
theorem dX8_readsItem_112 : decode cX8_readsItem 112 = .ok (.iadd, 1) := by decide +kernel
theorem dX8_readsItem_113 : decode cX8_readsItem 113 = .ok (.putfield 99, 3) := by decide +kernel
theorem dX8_readsItem_116 : decode cX8_readsItem 116 = .ok (.goto 27, 3) := by decide +kernel
theorem dX8_readsItem_119 : decode cX8_readsItem 119 = .ok (.aload_n 0, 1) := by decide +kernel
theorem dX8_readsItem_120 : decode cX8_readsItem 120 = .ok (.iconst 0, 1) := by decide +kernel
theorem dX8_readsItem_121 : decode cX8_readsItem 121 = .ok (.bipush 9, 2) := by decide +kernel
theorem dX8_readsItem_123 : decode cX8_readsItem 123 = .ok (.invokevirtual 102, 3) := by decide +kernel
theorem dX8_readsItem_126 : decode cX8_readsItem 126 = .ok (.istore_n 2, 1) := by decide +kernel
theorem dX8_readsItem_127 : decode cX8_readsItem 127 = .ok (.aload_n 0, 1) := by decide +kernel
theorem dX8_readsItem_128 : decode cX8_readsItem 128 = .ok (.iload_n 2, 1) := by decide +kernel
theorem dX8_readsItem_129 : decode cX8_readsItem 129 = .ok (.bipush 10, 2) := by decide +kernel
theorem dX8_readsItem_131 : decode cX8_readsItem 131 = .ok (.aload_n 0, 1) := by decide +kernel
theorem dX8_readsItem_132 : decode cX8_readsItem 132 = .ok (.iconst 0, 1) := by decide +kernel
theorem dX8_readsItem_133 : decode cX8_readsItem 133 = .ok (.bipush 7, 2) := by decide +kernel
theorem dX8_readsItem_135 : decode cX8_readsItem 135 = .ok (.invokevirtual 102, 3) := by decide +kernel
theorem dX8_readsItem_138 : decode cX8_readsItem 138 = .ok (.imul, 1) := by decide +kernel
theorem dX8_readsItem_139 : decode cX8_readsItem 139 = .ok (.iadd, 1) := by decide +kernel
theorem dX8_readsItem_140 : decode cX8_readsItem 140 = .ok (.putfield 106, 3) := by decide +kernel
theorem dX8_readsItem_143 : decode cX8_readsItem 143 = .ok (.return_, 1) := by decide +kernel
set_option maxRecDepth 20000 in
theorem ggX8_chancery_X8_advances : GoodIn wsX8_chancery wsX8_advances := goodIn_r _ [18, 3, 19, 6, 7, 20, 21, 22, 17, 23, 10, 24, 25, 26, 27, 28, 29, 30, 31, 32, 33, 34, 35, 36, 37, 59, 60, 61, 62, 63, 64, 65, 66, 67, 68, 69, 70, 71, 72, 73, 74, 75, 76, 77, 78, 79, 80, 81] (by decide +kernel) (by decide +kernel)
set_option maxRecDepth 20000 in
theorem gX8_chancery_X8_advances : GoodIn wsX8_chancery (wsV RX8 92 RX8 yX8_advances wsX8_advances) := goodIn_app (goodIn_of _ (by decide +kernel)) ggX8_chancery_X8_advances
set_option maxRecDepth 20000 in
theorem ggX8_chancery_X8_isWell : GoodIn wsX8_chancery wsX8_isWell := goodIn_r _ [41, 2, 59, 60, 61, 62, 63, 64, 65, 66, 67, 68, 69, 70, 71, 72, 73, 74, 75, 76, 77, 78, 79, 80, 81] (by decide +kernel) (by decide +kernel)
set_option maxRecDepth 20000 in
theorem gX8_chancery_X8_isWell : GoodIn wsX8_chancery (wsV RX8 88 RX8 yX8_isWell wsX8_isWell) := goodIn_app (goodIn_of _ (by decide +kernel)) ggX8_chancery_X8_isWell
set_option maxRecDepth 20000 in
theorem ggX8_chancery_X8_takes : GoodIn wsX8_chancery wsX8_takes := goodIn_r _ [45, 19, 2, 7, 38, 39, 40, 17, 41, 14, 15, 16, 18, 3, 6, 20, 21, 22, 23, 10, 24, 25, 26, 27, 28, 29, 30, 31, 32, 33, 34, 35, 36, 37, 59, 60, 61, 62, 63, 64, 65, 66, 67, 68, 69, 70, 71, 72, 73, 74, 75, 76, 77, 78, 79, 80, 81] (by decide +kernel) (by decide +kernel)
set_option maxRecDepth 20000 in
theorem gX8_chancery_X8_takes : GoodIn wsX8_chancery (wsV RX8 95 RX8 yX8_takes wsX8_takes) := goodIn_app (goodIn_of _ (by decide +kernel)) ggX8_chancery_X8_takes
set_option maxRecDepth 20000 in
theorem ggX8_chancery_X8_readsItem : GoodIn wsX8_chancery wsX8_readsItem := goodIn_r _ [49, 4, 9, 6, 7, 5, 50, 51, 52, 17, 53, 25, 26, 27, 42, 43, 44, 45, 19, 2, 38, 39, 40, 41, 14, 15, 16, 18, 3, 20, 21, 22, 23, 10, 24, 28, 29, 30, 31, 32, 33, 34, 35, 36, 37, 59, 60, 61, 62, 63, 64, 65, 66, 67, 68, 69, 70, 71, 72, 73, 74, 75, 76, 77, 78, 79, 80, 81] (by decide +kernel) (by decide +kernel)
set_option maxRecDepth 20000 in
theorem gX8_chancery_X8_readsItem : GoodIn wsX8_chancery (wsV RX8 109 RX8 yX8_readsItem wsX8_readsItem) := goodIn_app (goodIn_of _ (by decide +kernel)) ggX8_chancery_X8_readsItem
set_option maxRecDepth 20000 in
theorem ggX8_chancery_X8_begins : GoodIn wsX8_chancery wsX8_begins := goodIn_r _ [57, 58, 59, 60, 61, 62, 63, 64, 65, 66, 67, 68, 69, 70, 71, 72, 73, 74, 75, 76, 77, 78, 79, 80, 81] (by decide +kernel) (by decide +kernel)
set_option maxRecDepth 20000 in
theorem gX8_chancery_X8_begins : GoodIn wsX8_chancery (wsV RX8 38 RX8 yX8_begins wsX8_begins) := goodIn_app (goodIn_of _ (by decide +kernel)) ggX8_chancery_X8_begins
theorem dX8_chancery_0 : decode cX8_chancery 0 = .ok (.aload_n 0, 1) := by decide +kernel
theorem dX8_chancery_1 : decode cX8_chancery 1 = .ok (.iconst 0, 1) := by decide +kernel
theorem dX8_chancery_2 : decode cX8_chancery 2 = .ok (.putfield 42, 3) := by decide +kernel
theorem dX8_chancery_5 : decode cX8_chancery 5 = .ok (.aload_n 0, 1) := by decide +kernel
theorem dX8_chancery_6 : decode cX8_chancery 6 = .ok (.iconst (-1), 1) := by decide +kernel
theorem dX8_chancery_7 : decode cX8_chancery 7 = .ok (.putfield 85, 3) := by decide +kernel
theorem dX8_chancery_10 : decode cX8_chancery 10 = .ok (.aload_n 0, 1) := by decide +kernel
theorem dX8_chancery_11 : decode cX8_chancery 11 = .ok (.iconst 0, 1) := by decide +kernel
theorem dX8_chancery_12 : decode cX8_chancery 12 = .ok (.putfield 65, 3) := by decide +kernel
theorem dX8_chancery_15 : decode cX8_chancery 15 = .ok (.iconst 0, 1) := by decide +kernel
theorem dX8_chancery_16 : decode cX8_chancery 16 = .ok (.istore_n 1, 1) := by decide +kernel
theorem dX8_chancery_17 : decode cX8_chancery 17 = .ok (.aload_n 0, 1) := by decide +kernel
theorem dX8_chancery_18 : decode cX8_chancery 18 = .ok (.iconst 0, 1) := by decide +kernel
theorem dX8_chancery_19 : decode cX8_chancery 19 = .ok (.putfield 99, 3) := by decide +kernel
theorem dX8_chancery_22 : decode cX8_chancery 22 = .ok (.aload_n 0, 1) := by decide +kernel
theorem dX8_chancery_23 : decode cX8_chancery 23 = .ok (.bipush (-9), 2) := by decide +kernel
theorem dX8_chancery_25 : decode cX8_chancery 25 = .ok (.putfield 106, 3) := by decide +kernel
theorem dX8_chancery_28 : decode cX8_chancery 28 = .ok (.aload_n 0, 1) := by decide +kernel
theorem dX8_chancery_29 : decode cX8_chancery 29 = .ok (.invokevirtual 92, 3) := by decide +kernel
theorem dX8_chancery_32 : decode cX8_chancery 32 = .ok (.aload_n 0, 1) := by decide +kernel
theorem dX8_chancery_33 : decode cX8_chancery 33 = .ok (.invokevirtual 88, 3) := by decide +kernel
theorem dX8_chancery_36 : decode cX8_chancery 36 = .ok (.ifCond .eq 92, 3) := by decide +kernel
theorem dX8_chancery_39 : decode cX8_chancery 39 = .ok (.aload_n 0, 1) := by decide +kernel
theorem dX8_chancery_40 : decode cX8_chancery 40 = .ok (.getfield 75, 3) := by decide +kernel
theorem dX8_chancery_43 : decode cX8_chancery 43 = .ok (.ifCond .eq 85, 3) := by decide +kernel
theorem dX8_chancery_46 : decode cX8_chancery 46 = .ok (.aload_n 0, 1) := by decide +kernel
theorem dX8_chancery_47 : decode cX8_chancery 47 = .ok (.aload_n 0, 1) := by decide +kernel
theorem dX8_chancery_48 : decode cX8_chancery 48 = .ok (.getfield 75, 3) := by decide +kernel
theorem dX8_chancery_51 : decode cX8_chancery 51 = .ok (.iconst 1, 1) := by decide +kernel
theorem dX8_chancery_52 : decode cX8_chancery 52 = .ok (.if_icmp .ne 35, 3) := by decide +kernel
theorem dX8_chancery_55 : decode cX8_chancery 55 = .ok (.aload_n 0, 1) := by decide +kernel
theorem dX8_chancery_56 : decode cX8_chancery 56 = .ok (.getfield 82, 3) := by decide +kernel
theorem dX8_chancery_59 : decode cX8_chancery 59 = .ok (.ifCond .ne 15, 3) := by decide +kernel
theorem dX8_chancery_62 : decode cX8_chancery 62 = .ok (.aload_n 0, 1) := by decide +kernel
theorem dX8_chancery_63 : decode cX8_chancery 63 = .ok (.getfield 99, 3) := by decide +kernel
theorem dX8_chancery_66 : decode cX8_chancery 66 = .ok (.bipush 6, 2) := by decide +kernel
theorem dX8_chancery_68 : decode cX8_chancery 68 = .ok (.if_icmp .ge 19, 3) := by decide +kernel
theorem dX8_chancery_71 : decode cX8_chancery 71 = .ok (.goto 12, 3) := by decide +kernel
theorem dX8_chancery_74 : decode cX8_chancery 74 = .ok (.aload_n 0, 1) := by decide +kernel
theorem dX8_chancery_75 : decode cX8_chancery 75 = .ok (.getfield 106, 3) := by decide +kernel
theorem dX8_chancery_78 : decode cX8_chancery 78 = .ok (.bipush (-9), 2) := by decide +kernel
theorem dX8_chancery_80 : decode cX8_chancery 80 = .ok (.if_icmp .ne 7, 3) := by decide +kernel
theorem dX8_chancery_83 : decode cX8_chancery 83 = .ok (.iconst 1, 1) := by decide +kernel
theorem dX8_chancery_84 : decode cX8_chancery 84 = .ok (.goto 4, 3) := by decide +kernel
theorem dX8_chancery_87 : decode cX8_chancery 87 = .ok (.iconst 0, 1) := by decide +kernel
theorem dX8_chancery_88 : decode cX8_chancery 88 = .ok (.invokevirtual 95, 3) := by decide +kernel
theorem dX8_chancery_91 : decode cX8_chancery 91 = .ok (.istore_n 2, 1) := by decide +kernel
theorem dX8_chancery_92 : decode cX8_chancery 92 = .ok (.aload_n 0, 1) := by decide +kernel
theorem dX8_chancery_93 : decode cX8_chancery 93 = .ok (.invokevirtual 88, 3) := by decide +kernel
theorem dX8_chancery_96 : decode cX8_chancery 96 = .ok (.ifCond .eq 8, 3) := by decide +kernel
theorem dX8_chancery_99 : decode cX8_chancery 99 = .ok (.aload_n 0, 1) := by decide +kernel
theorem dX8_chancery_100 : decode cX8_chancery 100 = .ok (.iload_n 2, 1) := by decide +kernel
theorem dX8_chancery_101 : decode cX8_chancery 101 = .ok (.invokevirtual 109, 3) := by decide +kernel
theorem dX8_chancery_104 : decode cX8_chancery 104 = .ok (.aload_n 0, 1) := by decide +kernel
theorem dX8_chancery_105 : decode cX8_chancery 105 = .ok (.aload_n 0, 1) := by decide +kernel
theorem dX8_chancery_106 : decode cX8_chancery 106 = .ok (.getfield 75, 3) := by decide +kernel
theorem dX8_chancery_109 : decode cX8_chancery 109 = .ok (.iconst 3, 1) := by decide +kernel
theorem dX8_chancery_110 : decode cX8_chancery 110 = .ok (.if_icmp .ne 7, 3) := by decide +kernel
theorem dX8_chancery_113 : decode cX8_chancery 113 = .ok (.iconst 1, 1) := by decide +kernel
theorem dX8_chancery_114 : decode cX8_chancery 114 = .ok (.goto 4, 3) := by decide +kernel
theorem dX8_chancery_117 : decode cX8_chancery 117 = .ok (.iconst 0, 1) := by decide +kernel
theorem dX8_chancery_118 : decode cX8_chancery 118 = .ok (.invokevirtual 95, 3) := by decide +kernel
theorem dX8_chancery_121 : decode cX8_chancery 121 = .ok (.pop, 1) := by decide +kernel
theorem dX8_chancery_122 : decode cX8_chancery 122 = .ok (.iinc 1 1, 3) := by decide +kernel
theorem dX8_chancery_125 : decode cX8_chancery 125 = .ok (.goto (-93), 3) := by decide +kernel
theorem dX8_chancery_128 : decode cX8_chancery 128 = .ok (.aload_n 0, 1) := by decide +kernel
theorem dX8_chancery_129 : decode cX8_chancery 129 = .ok (.invokevirtual 88, 3) := by decide +kernel
theorem dX8_chancery_132 : decode cX8_chancery 132 = .ok (.ifCond .ne 11, 3) := by decide +kernel
theorem dX8_chancery_135 : decode cX8_chancery 135 = .ok (.bipush (-10), 2) := by decide +kernel
theorem dX8_chancery_137 : decode cX8_chancery 137 = .ok (.aload_n 0, 1) := by decide +kernel
theorem dX8_chancery_138 : decode cX8_chancery 138 = .ok (.getfield 85, 3) := by decide +kernel
theorem dX8_chancery_141 : decode cX8_chancery 141 = .ok (.isub, 1) := by decide +kernel
theorem dX8_chancery_142 : decode cX8_chancery 142 = .ok (.ireturn, 1) := by decide +kernel
theorem dX8_chancery_143 : decode cX8_chancery 143 = .ok (.aload_n 0, 1) := by decide +kernel
theorem dX8_chancery_144 : decode cX8_chancery 144 = .ok (.aload_n 0, 1) := by decide +kernel
theorem dX8_chancery_145 : decode cX8_chancery 145 = .ok (.getfield 99, 3) := by decide +kernel
theorem dX8_chancery_148 : decode cX8_chancery 148 = .ok (.putfield 112, 3) := by decide +kernel
theorem dX8_chancery_151 : decode cX8_chancery 151 = .ok (.iconst 0, 1) := by decide +kernel
theorem dX8_chancery_152 : decode cX8_chancery 152 = .ok (.istore_n 2, 1) := by decide +kernel
theorem dX8_chancery_153 : decode cX8_chancery 153 = .ok (.iload_n 2, 1) := by decide +kernel
theorem dX8_chancery_154 : decode cX8_chancery 154 = .ok (.bipush 24, 2) := by decide +kernel
theorem dX8_chancery_156 : decode cX8_chancery 156 = .ok (.if_icmp .ge 24, 3) := by decide +kernel
theorem dX8_chancery_159 : decode cX8_chancery 159 = .ok (.aload_n 0, 1) := by decide +kernel
theorem dX8_chancery_160 : decode cX8_chancery 160 = .ok (.getfield 13, 3) := by decide +kernel
theorem dX8_chancery_163 : decode cX8_chancery 163 = .ok (.iload_n 2, 1) := by decide +kernel
theorem dX8_chancery_164 : decode cX8_chancery 164 = .ok (.aload_n 0, 1) := by decide +kernel
theorem dX8_chancery_165 : decode cX8_chancery 165 = .ok (.getfield 13, 3) := by decide +kernel
theorem dX8_chancery_168 : decode cX8_chancery 168 = .ok (.bipush 24, 2) := by decide +kernel
theorem dX8_chancery_170 : decode cX8_chancery 170 = .ok (.iload_n 2, 1) := by decide +kernel
theorem dX8_chancery_171 : decode cX8_chancery 171 = .ok (.iadd, 1) := by decide +kernel
theorem dX8_chancery_172 : decode cX8_chancery 172 = .ok (.iaload, 1) := by decide +kernel
theorem dX8_chancery_173 : decode cX8_chancery 173 = .ok (.iastore, 1) := by decide +kernel
theorem dX8_chancery_174 : decode cX8_chancery 174 = .ok (.iinc 2 1, 3) := by decide +kernel
theorem dX8_chancery_177 : decode cX8_chancery 177 = .ok (.goto (-24), 3) := by decide +kernel
theorem dX8_chancery_180 : decode cX8_chancery 180 = .ok (.aload_n 0, 1) := by decide +kernel
theorem dX8_chancery_181 : decode cX8_chancery 181 = .ok (.iconst 0, 1) := by decide +kernel
theorem dX8_chancery_182 : decode cX8_chancery 182 = .ok (.putfield 50, 3) := by decide +kernel
theorem dX8_chancery_185 : decode cX8_chancery 185 = .ok (.aload_n 0, 1) := by decide +kernel
theorem dX8_chancery_186 : decode cX8_chancery 186 = .ok (.iconst 0, 1) := by decide +kernel
theorem dX8_chancery_187 : decode cX8_chancery 187 = .ok (.putfield 115, 3) := by decide +kernel
theorem dX8_chancery_190 : decode cX8_chancery 190 = .ok (.aload_n 0, 1) := by decide +kernel
theorem dX8_chancery_191 : decode cX8_chancery 191 = .ok (.iconst 0, 1) := by decide +kernel
theorem dX8_chancery_192 : decode cX8_chancery 192 = .ok (.putfield 118, 3) := by decide +kernel
theorem dX8_chancery_195 : decode cX8_chancery 195 = .ok (.aload_n 0, 1) := by decide +kernel
theorem dX8_chancery_196 : decode cX8_chancery 196 = .ok (.getfield 22, 3) := by decide +kernel
theorem dX8_chancery_199 : decode cX8_chancery 199 = .ok (.iconst 0, 1) := by decide +kernel
theorem dX8_chancery_200 : decode cX8_chancery 200 = .ok (.iconst 0, 1) := by decide +kernel
theorem dX8_chancery_201 : decode cX8_chancery 201 = .ok (.bastore, 1) := by decide +kernel
theorem dX8_chancery_202 : decode cX8_chancery 202 = .ok (.aload_n 0, 1) := by decide +kernel
theorem dX8_chancery_203 : decode cX8_chancery 203 = .ok (.getfield 22, 3) := by decide +kernel
theorem dX8_chancery_206 : decode cX8_chancery 206 = .ok (.iconst 1, 1) := by decide +kernel
theorem dX8_chancery_207 : decode cX8_chancery 207 = .ok (.iconst 0, 1) := by decide +kernel
theorem dX8_chancery_208 : decode cX8_chancery 208 = .ok (.bastore, 1) := by decide +kernel
theorem dX8_chancery_209 : decode cX8_chancery 209 = .ok (.aload_n 0, 1) := by decide +kernel
theorem dX8_chancery_210 : decode cX8_chancery 210 = .ok (.aload_n 0, 1) := by decide +kernel
theorem dX8_chancery_211 : decode cX8_chancery 211 = .ok (.getfield 106, 3) := by decide +kernel
theorem dX8_chancery_214 : decode cX8_chancery 214 = .ok (.bipush (-9), 2) := by decide +kernel
theorem dX8_chancery_216 : decode cX8_chancery 216 = .ok (.if_icmp .ne 7, 3) := by decide +kernel
theorem dX8_chancery_219 : decode cX8_chancery 219 = .ok (.iconst 5, 1) := by decide +kernel
theorem dX8_chancery_220 : decode cX8_chancery 220 = .ok (.goto 7, 3) := by decide +kernel
theorem dX8_chancery_223 : decode cX8_chancery 223 = .ok (.aload_n 0, 1) := by decide +kernel
theorem dX8_chancery_224 : decode cX8_chancery 224 = .ok (.getfield 106, 3) := by decide +kernel
theorem dX8_chancery_227 : decode cX8_chancery 227 = .ok (.invokevirtual 38, 3) := by decide +kernel
theorem dX8_chancery_230 : decode cX8_chancery 230 = .ok (.iload_n 1, 1) := by decide +kernel
theorem dX8_chancery_231 : decode cX8_chancery 231 = .ok (.ireturn, 1) := by decide +kernel
theorem dX8_begins_0 : decode cX8_begins 0 = .ok (.aload_n 0, 1) := by decide +kernel
theorem dX8_begins_1 : decode cX8_begins 1 = .ok (.getfield 16, 3) := by decide +kernel
theorem dX8_begins_4 : decode cX8_begins 4 = .ok (.iconst 0, 1) := by decide +kernel
theorem dX8_begins_5 : decode cX8_begins 5 = .ok (.iload_n 1, 1) := by decide +kernel
theorem dX8_begins_6 : decode cX8_begins 6 = .ok (.iastore, 1) := by decide +kernel
theorem dX8_begins_7 : decode cX8_begins 7 = .ok (.aload_n 0, 1) := by decide +kernel
theorem dX8_begins_8 : decode cX8_begins 8 = .ok (.getfield 16, 3) := by decide +kernel
theorem dX8_begins_11 : decode cX8_begins 11 = .ok (.iconst 1, 1) := by decide +kernel
theorem dX8_begins_12 : decode cX8_begins 12 = .ok (.bipush (-9), 2) := by decide +kernel
theorem dX8_begins_14 : decode cX8_begins 14 = .ok (.iastore, 1) := by decide +kernel
theorem dX8_begins_15 : decode cX8_begins 15 = .ok (.aload_n 0, 1) := by decide +kernel
theorem dX8_begins_16 : decode cX8_begins 16 = .ok (.getfield 16, 3) := by decide +kernel
theorem dX8_begins_19 : decode cX8_begins 19 = .ok (.bipush 20, 2) := by decide +kernel
theorem dX8_begins_21 : decode cX8_begins 21 = .ok (.iconst 1, 1) := by decide +kernel
theorem dX8_begins_22 : decode cX8_begins 22 = .ok (.iastore, 1) := by decide +kernel
theorem dX8_begins_23 : decode cX8_begins 23 = .ok (.return_, 1) := by decide +kernel
set_option maxRecDepth 20000 in
theorem ggX8_isClerk_X8_in : GoodIn wsX8_isClerk wsX8_in := goodIn_r _ [5] (by decide +kernel) (by decide +kernel)
set_option maxRecDepth 20000 in
theorem gX8_isClerk_X8_in : GoodIn wsX8_isClerk (va_wsS RX8 46 yX8_in wsX8_in) := goodIn_app (goodIn_of _ (by decide +kernel)) ggX8_isClerk_X8_in
theorem dX8_isClerk_0 : decode cX8_isClerk 0 = .ok (.iload_n 1, 1) := by decide +kernel
theorem dX8_isClerk_1 : decode cX8_isClerk 1 = .ok (.iconst 0, 1) := by decide +kernel
theorem dX8_isClerk_2 : decode cX8_isClerk 2 = .ok (.aload_n 0, 1) := by decide +kernel
theorem dX8_isClerk_3 : decode cX8_isClerk 3 = .ok (.getfield 112, 3) := by decide +kernel
theorem dX8_isClerk_6 : decode cX8_isClerk 6 = .ok (.iconst 1, 1) := by decide +kernel
theorem dX8_isClerk_7 : decode cX8_isClerk 7 = .ok (.isub, 1) := by decide +kernel
theorem dX8_isClerk_8 : decode cX8_isClerk 8 = .ok (.invokestatic 46, 3) := by decide +kernel
theorem dX8_isClerk_11 : decode cX8_isClerk 11 = .ok (.ireturn, 1) := by decide +kernel
set_option maxRecDepth 20000 in
theorem ggX8_clerk_X8_isClerk : GoodIn wsX8_clerk wsX8_isClerk := goodIn_r _ [7, 8, 9, 10, 6, 11, 12, 13, 14, 15, 16, 17, 18, 19, 20, 21, 22, 23, 24, 25, 26, 27, 28, 29, 30, 31, 32, 33, 34] (by decide +kernel) (by decide +kernel)
set_option maxRecDepth 20000 in
theorem gX8_clerk_X8_isClerk : GoodIn wsX8_clerk (wsV RX8 121 RX8 yX8_isClerk wsX8_isClerk) := goodIn_app (goodIn_of _ (by decide +kernel)) ggX8_clerk_X8_isClerk
set_option maxRecDepth 20000 in
theorem ggX8_clerk_X8_in : GoodIn wsX8_clerk wsX8_in := goodIn_r _ [11] (by decide +kernel) (by decide +kernel)
set_option maxRecDepth 20000 in
theorem gX8_clerk_X8_in : GoodIn wsX8_clerk (va_wsS RX8 46 yX8_in wsX8_in) := goodIn_app (goodIn_of _ (by decide +kernel)) ggX8_clerk_X8_in
theorem dX8_clerk_0 : decode cX8_clerk 0 = .ok (.aload_n 0, 1) := by decide +kernel
theorem dX8_clerk_1 : decode cX8_clerk 1 = .ok (.iconst 0, 1) := by decide +kernel
theorem dX8_clerk_2 : decode cX8_clerk 2 = .ok (.putfield 42, 3) := by decide +kernel
theorem dX8_clerk_5 : decode cX8_clerk 5 = .ok (.aload_n 0, 1) := by decide +kernel
theorem dX8_clerk_6 : decode cX8_clerk 6 = .ok (.iload_n 1, 1) := by decide +kernel
theorem dX8_clerk_7 : decode cX8_clerk 7 = .ok (.invokevirtual 121, 3) := by decide +kernel
theorem dX8_clerk_10 : decode cX8_clerk 10 = .ok (.ifCond .eq 25, 3) := by decide +kernel
theorem dX8_clerk_13 : decode cX8_clerk 13 = .ok (.iload_n 2, 1) := by decide +kernel
theorem dX8_clerk_14 : decode cX8_clerk 14 = .ok (.iconst 0, 1) := by decide +kernel
theorem dX8_clerk_15 : decode cX8_clerk 15 = .ok (.iconst 3, 1) := by decide +kernel
theorem dX8_clerk_16 : decode cX8_clerk 16 = .ok (.invokestatic 46, 3) := by decide +kernel
theorem dX8_clerk_19 : decode cX8_clerk 19 = .ok (.ifCond .eq 16, 3) := by decide +kernel
theorem dX8_clerk_22 : decode cX8_clerk 22 = .ok (.aload_n 0, 1) := by decide +kernel
theorem dX8_clerk_23 : decode cX8_clerk 23 = .ok (.getfield 13, 3) := by decide +kernel
theorem dX8_clerk_26 : decode cX8_clerk 26 = .ok (.iconst 4, 1) := by decide +kernel
theorem dX8_clerk_27 : decode cX8_clerk 27 = .ok (.iload_n 1, 1) := by decide +kernel
theorem dX8_clerk_28 : decode cX8_clerk 28 = .ok (.imul, 1) := by decide +kernel
theorem dX8_clerk_29 : decode cX8_clerk 29 = .ok (.iload_n 2, 1) := by decide +kernel
theorem dX8_clerk_30 : decode cX8_clerk 30 = .ok (.iadd, 1) := by decide +kernel
theorem dX8_clerk_31 : decode cX8_clerk 31 = .ok (.iaload, 1) := by decide +kernel
theorem dX8_clerk_32 : decode cX8_clerk 32 = .ok (.goto 4, 3) := by decide +kernel
theorem dX8_clerk_35 : decode cX8_clerk 35 = .ok (.iconst (-1), 1) := by decide +kernel
theorem dX8_clerk_36 : decode cX8_clerk 36 = .ok (.ireturn, 1) := by decide +kernel
set_option maxRecDepth 20000 in
theorem ggX8_line_X8_in : GoodIn wsX8_line wsX8_in := goodIn_r _ [6] (by decide +kernel) (by decide +kernel)
set_option maxRecDepth 20000 in
theorem gX8_line_X8_in : GoodIn wsX8_line (va_wsS RX8 46 yX8_in wsX8_in) := goodIn_app (goodIn_of _ (by decide +kernel)) ggX8_line_X8_in
theorem dX8_line_0 : decode cX8_line 0 = .ok (.aload_n 0, 1) := by decide +kernel
theorem dX8_line_1 : decode cX8_line 1 = .ok (.iconst 0, 1) := by decide +kernel
theorem dX8_line_2 : decode cX8_line 2 = .ok (.putfield 42, 3) := by decide +kernel
theorem dX8_line_5 : decode cX8_line 5 = .ok (.iload_n 1, 1) := by decide +kernel
theorem dX8_line_6 : decode cX8_line 6 = .ok (.iconst 0, 1) := by decide +kernel
theorem dX8_line_7 : decode cX8_line 7 = .ok (.aload_n 0, 1) := by decide +kernel
theorem dX8_line_8 : decode cX8_line 8 = .ok (.getfield 16, 3) := by decide +kernel
theorem dX8_line_11 : decode cX8_line 11 = .ok (.bipush 20, 2) := by decide +kernel
theorem dX8_line_13 : decode cX8_line 13 = .ok (.iaload, 1) := by decide +kernel
theorem dX8_line_14 : decode cX8_line 14 = .ok (.iconst 1, 1) := by decide +kernel
theorem dX8_line_15 : decode cX8_line 15 = .ok (.isub, 1) := by decide +kernel
theorem dX8_line_16 : decode cX8_line 16 = .ok (.invokestatic 46, 3) := by decide +kernel
theorem dX8_line_19 : decode cX8_line 19 = .ok (.ifCond .eq 12, 3) := by decide +kernel
theorem dX8_line_22 : decode cX8_line 22 = .ok (.iload_n 2, 1) := by decide +kernel
theorem dX8_line_23 : decode cX8_line 23 = .ok (.iconst 0, 1) := by decide +kernel
theorem dX8_line_24 : decode cX8_line 24 = .ok (.iconst 2, 1) := by decide +kernel
theorem dX8_line_25 : decode cX8_line 25 = .ok (.invokestatic 46, 3) := by decide +kernel
theorem dX8_line_28 : decode cX8_line 28 = .ok (.ifCond .ne 5, 3) := by decide +kernel
theorem dX8_line_31 : decode cX8_line 31 = .ok (.iconst (-1), 1) := by decide +kernel
theorem dX8_line_32 : decode cX8_line 32 = .ok (.ireturn, 1) := by decide +kernel
theorem dX8_line_33 : decode cX8_line 33 = .ok (.iload_n 2, 1) := by decide +kernel
theorem dX8_line_34 : decode cX8_line 34 = .ok (.ifCond .ne 17, 3) := by decide +kernel
theorem dX8_line_37 : decode cX8_line 37 = .ok (.aload_n 0, 1) := by decide +kernel
theorem dX8_line_38 : decode cX8_line 38 = .ok (.getfield 16, 3) := by decide +kernel
theorem dX8_line_41 : decode cX8_line 41 = .ok (.iconst 2, 1) := by decide +kernel
theorem dX8_line_42 : decode cX8_line 42 = .ok (.iload_n 1, 1) := by decide +kernel
theorem dX8_line_43 : decode cX8_line 43 = .ok (.imul, 1) := by decide +kernel
theorem dX8_line_44 : decode cX8_line 44 = .ok (.iaload, 1) := by decide +kernel
theorem dX8_line_45 : decode cX8_line 45 = .ok (.bipush 10, 2) := by decide +kernel
theorem dX8_line_47 : decode cX8_line 47 = .ok (.irem, 1) := by decide +kernel
theorem dX8_line_48 : decode cX8_line 48 = .ok (.goto 32, 3) := by decide +kernel
theorem dX8_line_51 : decode cX8_line 51 = .ok (.iload_n 2, 1) := by decide +kernel
theorem dX8_line_52 : decode cX8_line 52 = .ok (.iconst 1, 1) := by decide +kernel
theorem dX8_line_53 : decode cX8_line 53 = .ok (.if_icmp .ne 17, 3) := by decide +kernel
theorem dX8_line_56 : decode cX8_line 56 = .ok (.aload_n 0, 1) := by decide +kernel
theorem dX8_line_57 : decode cX8_line 57 = .ok (.getfield 16, 3) := by decide +kernel
theorem dX8_line_60 : decode cX8_line 60 = .ok (.iconst 2, 1) := by decide +kernel
theorem dX8_line_61 : decode cX8_line 61 = .ok (.iload_n 1, 1) := by decide +kernel
theorem dX8_line_62 : decode cX8_line 62 = .ok (.imul, 1) := by decide +kernel
theorem dX8_line_63 : decode cX8_line 63 = .ok (.iaload, 1) := by decide +kernel
theorem dX8_line_64 : decode cX8_line 64 = .ok (.bipush 10, 2) := by decide +kernel
theorem dX8_line_66 : decode cX8_line 66 = .ok (.idiv, 1) := by decide +kernel
theorem dX8_line_67 : decode cX8_line 67 = .ok (.goto 13, 3) := by decide +kernel
theorem dX8_line_70 : decode cX8_line 70 = .ok (.aload_n 0, 1) := by decide +kernel
theorem dX8_line_71 : decode cX8_line 71 = .ok (.getfield 16, 3) := by decide +kernel
theorem dX8_line_74 : decode cX8_line 74 = .ok (.iconst 2, 1) := by decide +kernel
theorem dX8_line_75 : decode cX8_line 75 = .ok (.iload_n 1, 1) := by decide +kernel
theorem dX8_line_76 : decode cX8_line 76 = .ok (.imul, 1) := by decide +kernel
theorem dX8_line_77 : decode cX8_line 77 = .ok (.iconst 1, 1) := by decide +kernel
theorem dX8_line_78 : decode cX8_line 78 = .ok (.iadd, 1) := by decide +kernel
theorem dX8_line_79 : decode cX8_line 79 = .ok (.iaload, 1) := by decide +kernel
theorem dX8_line_80 : decode cX8_line 80 = .ok (.ireturn, 1) := by decide +kernel
theorem dX8_toneBy_0 : decode cX8_toneBy 0 = .ok (.iload_n 2, 1) := by decide +kernel
theorem dX8_toneBy_1 : decode cX8_toneBy 1 = .ok (.aload_n 0, 1) := by decide +kernel
theorem dX8_toneBy_2 : decode cX8_toneBy 2 = .ok (.getfield 13, 3) := by decide +kernel
theorem dX8_toneBy_5 : decode cX8_toneBy 5 = .ok (.iconst 4, 1) := by decide +kernel
theorem dX8_toneBy_6 : decode cX8_toneBy 6 = .ok (.iload_n 1, 1) := by decide +kernel
theorem dX8_toneBy_7 : decode cX8_toneBy 7 = .ok (.imul, 1) := by decide +kernel
theorem dX8_toneBy_8 : decode cX8_toneBy 8 = .ok (.iaload, 1) := by decide +kernel
theorem dX8_toneBy_9 : decode cX8_toneBy 9 = .ok (.iadd, 1) := by decide +kernel
theorem dX8_toneBy_10 : decode cX8_toneBy 10 = .ok (.iconst 4, 1) := by decide +kernel
theorem dX8_toneBy_11 : decode cX8_toneBy 11 = .ok (.isub, 1) := by decide +kernel
theorem dX8_toneBy_12 : decode cX8_toneBy 12 = .ok (.istore_n 3, 1) := by decide +kernel
theorem dX8_toneBy_13 : decode cX8_toneBy 13 = .ok (.iload_n 3, 1) := by decide +kernel
theorem dX8_toneBy_14 : decode cX8_toneBy 14 = .ok (.ifCond .ge 7, 3) := by decide +kernel
theorem dX8_toneBy_17 : decode cX8_toneBy 17 = .ok (.iconst 0, 1) := by decide +kernel
theorem dX8_toneBy_18 : decode cX8_toneBy 18 = .ok (.goto 15, 3) := by decide +kernel
theorem dX8_toneBy_21 : decode cX8_toneBy 21 = .ok (.iload_n 3, 1) := by decide +kernel
theorem dX8_toneBy_22 : decode cX8_toneBy 22 = .ok (.bipush 9, 2) := by decide +kernel
theorem dX8_toneBy_24 : decode cX8_toneBy 24 = .ok (.if_icmp .le 8, 3) := by decide +kernel
theorem dX8_toneBy_27 : decode cX8_toneBy 27 = .ok (.bipush 9, 2) := by decide +kernel
theorem dX8_toneBy_29 : decode cX8_toneBy 29 = .ok (.goto 4, 3) := by decide +kernel
theorem dX8_toneBy_32 : decode cX8_toneBy 32 = .ok (.iload_n 3, 1) := by decide +kernel
theorem dX8_toneBy_33 : decode cX8_toneBy 33 = .ok (.ireturn, 1) := by decide +kernel
set_option maxRecDepth 20000 in
theorem ggX8_madeBy_X8_toneBy : GoodIn wsX8_madeBy wsX8_toneBy := goodIn_r _ [6, 1, 7, 8, 9, 10, 11, 12, 13, 14, 15, 16, 17, 18, 19, 20, 21, 22, 23, 24, 25, 26, 27, 28, 29] (by decide +kernel) (by decide +kernel)
set_option maxRecDepth 20000 in
theorem gX8_madeBy_X8_toneBy : GoodIn wsX8_madeBy (wsV RX8 125 RX8 yX8_toneBy wsX8_toneBy) := goodIn_app (goodIn_of _ (by decide +kernel)) ggX8_madeBy_X8_toneBy
theorem dX8_madeBy_0 : decode cX8_madeBy 0 = .ok (.iload_n 2, 1) := by decide +kernel
theorem dX8_madeBy_1 : decode cX8_madeBy 1 = .ok (.bipush 10, 2) := by decide +kernel
theorem dX8_madeBy_3 : decode cX8_madeBy 3 = .ok (.idiv, 1) := by decide +kernel
theorem dX8_madeBy_4 : decode cX8_madeBy 4 = .ok (.aload_n 0, 1) := by decide +kernel
theorem dX8_madeBy_5 : decode cX8_madeBy 5 = .ok (.getfield 13, 3) := by decide +kernel
theorem dX8_madeBy_8 : decode cX8_madeBy 8 = .ok (.iconst 4, 1) := by decide +kernel
theorem dX8_madeBy_9 : decode cX8_madeBy 9 = .ok (.iload_n 1, 1) := by decide +kernel
theorem dX8_madeBy_10 : decode cX8_madeBy 10 = .ok (.imul, 1) := by decide +kernel
theorem dX8_madeBy_11 : decode cX8_madeBy 11 = .ok (.iconst 1, 1) := by decide +kernel
theorem dX8_madeBy_12 : decode cX8_madeBy 12 = .ok (.iadd, 1) := by decide +kernel
theorem dX8_madeBy_13 : decode cX8_madeBy 13 = .ok (.iaload, 1) := by decide +kernel
theorem dX8_madeBy_14 : decode cX8_madeBy 14 = .ok (.ior, 1) := by decide +kernel
theorem dX8_madeBy_15 : decode cX8_madeBy 15 = .ok (.aload_n 0, 1) := by decide +kernel
theorem dX8_madeBy_16 : decode cX8_madeBy 16 = .ok (.getfield 13, 3) := by decide +kernel
theorem dX8_madeBy_19 : decode cX8_madeBy 19 = .ok (.iconst 4, 1) := by decide +kernel
theorem dX8_madeBy_20 : decode cX8_madeBy 20 = .ok (.iload_n 1, 1) := by decide +kernel
theorem dX8_madeBy_21 : decode cX8_madeBy 21 = .ok (.imul, 1) := by decide +kernel
theorem dX8_madeBy_22 : decode cX8_madeBy 22 = .ok (.iconst 2, 1) := by decide +kernel
theorem dX8_madeBy_23 : decode cX8_madeBy 23 = .ok (.iadd, 1) := by decide +kernel
theorem dX8_madeBy_24 : decode cX8_madeBy 24 = .ok (.iaload, 1) := by decide +kernel
theorem dX8_madeBy_25 : decode cX8_madeBy 25 = .ok (.iconst (-1), 1) := by decide +kernel
theorem dX8_madeBy_26 : decode cX8_madeBy 26 = .ok (.ixor, 1) := by decide +kernel
theorem dX8_madeBy_27 : decode cX8_madeBy 27 = .ok (.iand, 1) := by decide +kernel
theorem dX8_madeBy_28 : decode cX8_madeBy 28 = .ok (.istore_n 3, 1) := by decide +kernel
theorem dX8_madeBy_29 : decode cX8_madeBy 29 = .ok (.aload_n 0, 1) := by decide +kernel
theorem dX8_madeBy_30 : decode cX8_madeBy 30 = .ok (.iload_n 1, 1) := by decide +kernel
theorem dX8_madeBy_31 : decode cX8_madeBy 31 = .ok (.iload_n 2, 1) := by decide +kernel
theorem dX8_madeBy_32 : decode cX8_madeBy 32 = .ok (.bipush 10, 2) := by decide +kernel
theorem dX8_madeBy_34 : decode cX8_madeBy 34 = .ok (.irem, 1) := by decide +kernel
theorem dX8_madeBy_35 : decode cX8_madeBy 35 = .ok (.invokevirtual 125, 3) := by decide +kernel
theorem dX8_madeBy_38 : decode cX8_madeBy 38 = .ok (.bipush 10, 2) := by decide +kernel
theorem dX8_madeBy_40 : decode cX8_madeBy 40 = .ok (.iload_n 3, 1) := by decide +kernel
theorem dX8_madeBy_41 : decode cX8_madeBy 41 = .ok (.imul, 1) := by decide +kernel
theorem dX8_madeBy_42 : decode cX8_madeBy 42 = .ok (.iadd, 1) := by decide +kernel
theorem dX8_madeBy_43 : decode cX8_madeBy 43 = .ok (.ireturn, 1) := by decide +kernel
set_option maxRecDepth 20000 in
theorem ggX8_makes_X8_isClerk : GoodIn wsX8_makes wsX8_isClerk := goodIn_r _ [6, 7, 8, 9, 5, 10, 20, 21, 22, 23, 24, 25, 26, 27, 28, 29, 30, 31, 32, 33, 34, 35, 36, 37, 38, 39, 40, 41, 42] (by decide +kernel) (by decide +kernel)
set_option maxRecDepth 20000 in
theorem gX8_makes_X8_isClerk : GoodIn wsX8_makes (wsV RX8 121 RX8 yX8_isClerk wsX8_isClerk) := goodIn_app (goodIn_of _ (by decide +kernel)) ggX8_makes_X8_isClerk
set_option maxRecDepth 20000 in
theorem ggX8_makes_X8_in : GoodIn wsX8_makes wsX8_in := goodIn_r _ [10] (by decide +kernel) (by decide +kernel)
set_option maxRecDepth 20000 in
theorem gX8_makes_X8_in : GoodIn wsX8_makes (va_wsS RX8 46 yX8_in wsX8_in) := goodIn_app (goodIn_of _ (by decide +kernel)) ggX8_makes_X8_in
set_option maxRecDepth 20000 in
theorem ggX8_makes_X8_madeBy : GoodIn wsX8_makes wsX8_madeBy := goodIn_r _ [14, 15, 16, 17, 18, 5, 19, 20, 21, 22, 23, 24, 25, 26, 27, 28, 29, 30, 31, 32, 33, 34, 35, 36, 37, 38, 39, 40, 41, 42] (by decide +kernel) (by decide +kernel)
set_option maxRecDepth 20000 in
theorem gX8_makes_X8_madeBy : GoodIn wsX8_makes (wsV RX8 128 RX8 yX8_madeBy wsX8_madeBy) := goodIn_app (goodIn_of _ (by decide +kernel)) ggX8_makes_X8_madeBy
theorem dX8_makes_0 : decode cX8_makes 0 = .ok (.aload_n 0, 1) := by decide +kernel
theorem dX8_makes_1 : decode cX8_makes 1 = .ok (.iconst 0, 1) := by decide +kernel
theorem dX8_makes_2 : decode cX8_makes 2 = .ok (.putfield 42, 3) := by decide +kernel
theorem dX8_makes_5 : decode cX8_makes 5 = .ok (.aload_n 0, 1) := by decide +kernel
theorem dX8_makes_6 : decode cX8_makes 6 = .ok (.iload_n 1, 1) := by decide +kernel
theorem dX8_makes_7 : decode cX8_makes 7 = .ok (.invokevirtual 121, 3) := by decide +kernel
theorem dX8_makes_10 : decode cX8_makes 10 = .ok (.ifCond .eq 37, 3) := by decide +kernel
theorem dX8_makes_13 : decode cX8_makes 13 = .ok (.iload_n 2, 1) := by decide +kernel
theorem dX8_makes_14 : decode cX8_makes 14 = .ok (.iconst 0, 1) := by decide +kernel
theorem dX8_makes_15 : decode cX8_makes 15 = .ok (.bipush 9, 2) := by decide +kernel
theorem dX8_makes_17 : decode cX8_makes 17 = .ok (.invokestatic 46, 3) := by decide +kernel
theorem dX8_makes_20 : decode cX8_makes 20 = .ok (.ifCond .eq 27, 3) := by decide +kernel
theorem dX8_makes_23 : decode cX8_makes 23 = .ok (.iload_n 3, 1) := by decide +kernel
theorem dX8_makes_24 : decode cX8_makes 24 = .ok (.iconst 0, 1) := by decide +kernel
theorem dX8_makes_25 : decode cX8_makes 25 = .ok (.bipush 7, 2) := by decide +kernel
theorem dX8_makes_27 : decode cX8_makes 27 = .ok (.invokestatic 46, 3) := by decide +kernel
theorem dX8_makes_30 : decode cX8_makes 30 = .ok (.ifCond .eq 17, 3) := by decide +kernel
theorem dX8_makes_33 : decode cX8_makes 33 = .ok (.aload_n 0, 1) := by decide +kernel
theorem dX8_makes_34 : decode cX8_makes 34 = .ok (.iload_n 1, 1) := by decide +kernel
theorem dX8_makes_35 : decode cX8_makes 35 = .ok (.iload_n 2, 1) := by decide +kernel
theorem dX8_makes_36 : decode cX8_makes 36 = .ok (.bipush 10, 2) := by decide +kernel
theorem dX8_makes_38 : decode cX8_makes 38 = .ok (.iload_n 3, 1) := by decide +kernel
theorem dX8_makes_39 : decode cX8_makes 39 = .ok (.imul, 1) := by decide +kernel
theorem dX8_makes_40 : decode cX8_makes 40 = .ok (.iadd, 1) := by decide +kernel
theorem dX8_makes_41 : decode cX8_makes 41 = .ok (.invokevirtual 128, 3) := by decide +kernel
theorem dX8_makes_44 : decode cX8_makes 44 = .ok (.goto 4, 3) := by decide +kernel
theorem dX8_makes_47 : decode cX8_makes 47 = .ok (.iconst (-1), 1) := by decide +kernel
theorem dX8_makes_48 : decode cX8_makes 48 = .ok (.ireturn, 1) := by decide +kernel
theorem dX8_last_0 : decode cX8_last 0 = .ok (.aload_n 0, 1) := by decide +kernel
theorem dX8_last_1 : decode cX8_last 1 = .ok (.getfield 16, 3) := by decide +kernel
theorem dX8_last_4 : decode cX8_last 4 = .ok (.iconst 2, 1) := by decide +kernel
theorem dX8_last_5 : decode cX8_last 5 = .ok (.aload_n 0, 1) := by decide +kernel
theorem dX8_last_6 : decode cX8_last 6 = .ok (.getfield 16, 3) := by decide +kernel
theorem dX8_last_9 : decode cX8_last 9 = .ok (.bipush 20, 2) := by decide +kernel
theorem dX8_last_11 : decode cX8_last 11 = .ok (.iaload, 1) := by decide +kernel
theorem dX8_last_12 : decode cX8_last 12 = .ok (.imul, 1) := by decide +kernel
theorem dX8_last_13 : decode cX8_last 13 = .ok (.iconst 2, 1) := by decide +kernel
theorem dX8_last_14 : decode cX8_last 14 = .ok (.isub, 1) := by decide +kernel
theorem dX8_last_15 : decode cX8_last 15 = .ok (.iaload, 1) := by decide +kernel
theorem dX8_last_16 : decode cX8_last 16 = .ok (.ireturn, 1) := by decide +kernel
theorem dX8_puts_0 : decode cX8_puts 0 = .ok (.aload_n 0, 1) := by decide +kernel
theorem dX8_puts_1 : decode cX8_puts 1 = .ok (.getfield 16, 3) := by decide +kernel
theorem dX8_puts_4 : decode cX8_puts 4 = .ok (.iconst 2, 1) := by decide +kernel
theorem dX8_puts_5 : decode cX8_puts 5 = .ok (.aload_n 0, 1) := by decide +kernel
theorem dX8_puts_6 : decode cX8_puts 6 = .ok (.getfield 16, 3) := by decide +kernel
theorem dX8_puts_9 : decode cX8_puts 9 = .ok (.bipush 20, 2) := by decide +kernel
theorem dX8_puts_11 : decode cX8_puts 11 = .ok (.iaload, 1) := by decide +kernel
theorem dX8_puts_12 : decode cX8_puts 12 = .ok (.imul, 1) := by decide +kernel
theorem dX8_puts_13 : decode cX8_puts 13 = .ok (.iload_n 1, 1) := by decide +kernel
theorem dX8_puts_14 : decode cX8_puts 14 = .ok (.iastore, 1) := by decide +kernel
theorem dX8_puts_15 : decode cX8_puts 15 = .ok (.aload_n 0, 1) := by decide +kernel
theorem dX8_puts_16 : decode cX8_puts 16 = .ok (.getfield 16, 3) := by decide +kernel
theorem dX8_puts_19 : decode cX8_puts 19 = .ok (.iconst 2, 1) := by decide +kernel
theorem dX8_puts_20 : decode cX8_puts 20 = .ok (.aload_n 0, 1) := by decide +kernel
theorem dX8_puts_21 : decode cX8_puts 21 = .ok (.getfield 16, 3) := by decide +kernel
theorem dX8_puts_24 : decode cX8_puts 24 = .ok (.bipush 20, 2) := by decide +kernel
theorem dX8_puts_26 : decode cX8_puts 26 = .ok (.iaload, 1) := by decide +kernel
theorem dX8_puts_27 : decode cX8_puts 27 = .ok (.imul, 1) := by decide +kernel
theorem dX8_puts_28 : decode cX8_puts 28 = .ok (.iconst 1, 1) := by decide +kernel
theorem dX8_puts_29 : decode cX8_puts 29 = .ok (.iadd, 1) := by decide +kernel
theorem dX8_puts_30 : decode cX8_puts 30 = .ok (.iload_n 2, 1) := by decide +kernel
theorem dX8_puts_31 : decode cX8_puts 31 = .ok (.iastore, 1) := by decide +kernel
theorem dX8_puts_32 : decode cX8_puts 32 = .ok (.aload_n 0, 1) := by decide +kernel
theorem dX8_puts_33 : decode cX8_puts 33 = .ok (.getfield 16, 3) := by decide +kernel
theorem dX8_puts_36 : decode cX8_puts 36 = .ok (.bipush 20, 2) := by decide +kernel
theorem dX8_puts_38 : decode cX8_puts 38 = .ok (.dup2, 1) := by decide +kernel
theorem dX8_puts_39 : decode cX8_puts 39 = .ok (.iaload, 1) := by decide +kernel
theorem dX8_puts_40 : decode cX8_puts 40 = .ok (.iconst 1, 1) := by decide +kernel
theorem dX8_puts_41 : decode cX8_puts 41 = .ok (.iadd, 1) := by decide +kernel
theorem dX8_puts_42 : decode cX8_puts 42 = .ok (.iastore, 1) := by decide +kernel
theorem dX8_puts_43 : decode cX8_puts 43 = .ok (.return_, 1) := by decide +kernel
set_option maxRecDepth 20000 in
theorem ggX8_write_X8_isClerk : GoodIn wsX8_write wsX8_isClerk := goodIn_r _ [10, 11, 12, 13, 9, 14, 31, 32, 33, 34, 35, 36, 37, 38, 39, 40, 41, 42, 43, 44, 45, 46, 47, 48, 49, 50, 51, 52, 53] (by decide +kernel) (by decide +kernel)
set_option maxRecDepth 20000 in
theorem gX8_write_X8_isClerk : GoodIn wsX8_write (wsV RX8 121 RX8 yX8_isClerk wsX8_isClerk) := goodIn_app (goodIn_of _ (by decide +kernel)) ggX8_write_X8_isClerk
set_option maxRecDepth 20000 in
theorem ggX8_write_X8_last : GoodIn wsX8_write wsX8_last := goodIn_r _ [18, 2, 31, 32, 33, 34, 35, 36, 37, 38, 39, 40, 41, 42, 43, 44, 45, 46, 47, 48, 49, 50, 51, 52, 53] (by decide +kernel) (by decide +kernel)
set_option maxRecDepth 20000 in
theorem gX8_write_X8_last : GoodIn wsX8_write (wsV RX8 133 RX8 yX8_last wsX8_last) := goodIn_app (goodIn_of _ (by decide +kernel)) ggX8_write_X8_last
set_option maxRecDepth 20000 in
theorem ggX8_write_X8_madeBy : GoodIn wsX8_write wsX8_madeBy := goodIn_r _ [22, 5, 23, 24, 25, 9, 26, 31, 32, 33, 34, 35, 36, 37, 38, 39, 40, 41, 42, 43, 44, 45, 46, 47, 48, 49, 50, 51, 52, 53] (by decide +kernel) (by decide +kernel)
set_option maxRecDepth 20000 in
theorem gX8_write_X8_madeBy : GoodIn wsX8_write (wsV RX8 128 RX8 yX8_madeBy wsX8_madeBy) := goodIn_app (goodIn_of _ (by decide +kernel)) ggX8_write_X8_madeBy
set_option maxRecDepth 20000 in
theorem ggX8_write_X8_puts : GoodIn wsX8_write wsX8_puts := goodIn_r _ [30, 2, 31, 32, 33, 34, 35, 36, 37, 38, 39, 40, 41, 42, 43, 44, 45, 46, 47, 48, 49, 50, 51, 52, 53] (by decide +kernel) (by decide +kernel)
set_option maxRecDepth 20000 in
theorem gX8_write_X8_puts : GoodIn wsX8_write (wsV RX8 137 RX8 yX8_puts wsX8_puts) := goodIn_app (goodIn_of _ (by decide +kernel)) ggX8_write_X8_puts
theorem dX8_write_0 : decode cX8_write 0 = .ok (.aload_n 0, 1) := by decide +kernel
theorem dX8_write_1 : decode cX8_write 1 = .ok (.iconst 0, 1) := by decide +kernel
theorem dX8_write_2 : decode cX8_write 2 = .ok (.putfield 42, 3) := by decide +kernel
theorem dX8_write_5 : decode cX8_write 5 = .ok (.aload_n 0, 1) := by decide +kernel
theorem dX8_write_6 : decode cX8_write 6 = .ok (.iload_n 1, 1) := by decide +kernel
theorem dX8_write_7 : decode cX8_write 7 = .ok (.invokevirtual 121, 3) := by decide +kernel
theorem dX8_write_10 : decode cX8_write 10 = .ok (.ifCond .ne 5, 3) := by decide +kernel
theorem dX8_write_13 : decode cX8_write 13 = .ok (.iconst (-1), 1) := by decide +kernel
theorem dX8_write_14 : decode cX8_write 14 = .ok (.ireturn, 1) := by decide +kernel
theorem dX8_write_15 : decode cX8_write 15 = .ok (.aload_n 0, 1) := by decide +kernel
theorem dX8_write_16 : decode cX8_write 16 = .ok (.getfield 16, 3) := by decide +kernel
theorem dX8_write_19 : decode cX8_write 19 = .ok (.bipush 20, 2) := by decide +kernel
theorem dX8_write_21 : decode cX8_write 21 = .ok (.iaload, 1) := by decide +kernel
theorem dX8_write_22 : decode cX8_write 22 = .ok (.bipush 10, 2) := by decide +kernel
theorem dX8_write_24 : decode cX8_write 24 = .ok (.if_icmp .ne 6, 3) := by decide +kernel
theorem dX8_write_27 : decode cX8_write 27 = .ok (.bipush (-3), 2) := by decide +kernel
theorem dX8_write_29 : decode cX8_write 29 = .ok (.ireturn, 1) := by decide +kernel
theorem dX8_write_30 : decode cX8_write 30 = .ok (.aload_n 0, 1) := by decide +kernel
theorem dX8_write_31 : decode cX8_write 31 = .ok (.getfield 16, 3) := by decide +kernel
theorem dX8_write_34 : decode cX8_write 34 = .ok (.bipush 21, 2) := by decide +kernel
theorem dX8_write_36 : decode cX8_write 36 = .ok (.aload_n 0, 1) := by decide +kernel
theorem dX8_write_37 : decode cX8_write 37 = .ok (.getfield 16, 3) := by decide +kernel
theorem dX8_write_40 : decode cX8_write 40 = .ok (.bipush 21, 2) := by decide +kernel
theorem dX8_write_42 : decode cX8_write 42 = .ok (.iaload, 1) := by decide +kernel
theorem dX8_write_43 : decode cX8_write 43 = .ok (.ldc 131, 2) := by decide +kernel
theorem dX8_write_45 : decode cX8_write 45 = .ok (.imul, 1) := by decide +kernel
theorem dX8_write_46 : decode cX8_write 46 = .ok (.sipush 12345, 3) := by decide +kernel
theorem dX8_write_49 : decode cX8_write 49 = .ok (.iadd, 1) := by decide +kernel
theorem dX8_write_50 : decode cX8_write 50 = .ok (.iastore, 1) := by decide +kernel
theorem dX8_write_51 : decode cX8_write 51 = .ok (.aload_n 0, 1) := by decide +kernel
theorem dX8_write_52 : decode cX8_write 52 = .ok (.getfield 16, 3) := by decide +kernel
theorem dX8_write_55 : decode cX8_write 55 = .ok (.bipush 21, 2) := by decide +kernel
theorem dX8_write_57 : decode cX8_write 57 = .ok (.iaload, 1) := by decide +kernel
theorem dX8_write_58 : decode cX8_write 58 = .ok (.bipush 16, 2) := by decide +kernel
theorem dX8_write_60 : decode cX8_write 60 = .ok (.ishr, 1) := by decide +kernel
theorem dX8_write_61 : decode cX8_write 61 = .ok (.ldc 132, 2) := by decide +kernel
theorem dX8_write_63 : decode cX8_write 63 = .ok (.iand, 1) := by decide +kernel
theorem dX8_write_64 : decode cX8_write 64 = .ok (.bipush 10, 2) := by decide +kernel
theorem dX8_write_66 : decode cX8_write 66 = .ok (.irem, 1) := by decide +kernel
theorem dX8_write_67 : decode cX8_write 67 = .ok (.istore_n 2, 1) := by decide +kernel
theorem dX8_write_68 : decode cX8_write 68 = .ok (.aload_n 0, 1) := by decide +kernel
theorem dX8_write_69 : decode cX8_write 69 = .ok (.iload_n 2, 1) := by decide +kernel
theorem dX8_write_70 : decode cX8_write 70 = .ok (.aload_n 0, 1) := by decide +kernel
theorem dX8_write_71 : decode cX8_write 71 = .ok (.getfield 13, 3) := by decide +kernel
theorem dX8_write_74 : decode cX8_write 74 = .ok (.iconst 4, 1) := by decide +kernel
theorem dX8_write_75 : decode cX8_write 75 = .ok (.iload_n 1, 1) := by decide +kernel
theorem dX8_write_76 : decode cX8_write 76 = .ok (.imul, 1) := by decide +kernel
theorem dX8_write_77 : decode cX8_write 77 = .ok (.iconst 3, 1) := by decide +kernel
theorem dX8_write_78 : decode cX8_write 78 = .ok (.iadd, 1) := by decide +kernel
theorem dX8_write_79 : decode cX8_write 79 = .ok (.iaload, 1) := by decide +kernel
theorem dX8_write_80 : decode cX8_write 80 = .ok (.if_icmp .ge 15, 3) := by decide +kernel
theorem dX8_write_83 : decode cX8_write 83 = .ok (.aload_n 0, 1) := by decide +kernel
theorem dX8_write_84 : decode cX8_write 84 = .ok (.iload_n 1, 1) := by decide +kernel
theorem dX8_write_85 : decode cX8_write 85 = .ok (.aload_n 0, 1) := by decide +kernel
theorem dX8_write_86 : decode cX8_write 86 = .ok (.invokevirtual 133, 3) := by decide +kernel
theorem dX8_write_89 : decode cX8_write 89 = .ok (.invokevirtual 128, 3) := by decide +kernel
theorem dX8_write_92 : decode cX8_write 92 = .ok (.goto 7, 3) := by decide +kernel
theorem dX8_write_95 : decode cX8_write 95 = .ok (.aload_n 0, 1) := by decide +kernel
theorem dX8_write_96 : decode cX8_write 96 = .ok (.invokevirtual 133, 3) := by decide +kernel
theorem dX8_write_99 : decode cX8_write 99 = .ok (.iload_n 1, 1) := by decide +kernel
theorem dX8_write_100 : decode cX8_write 100 = .ok (.invokevirtual 137, 3) := by decide +kernel
theorem dX8_write_103 : decode cX8_write 103 = .ok (.aload_n 0, 1) := by decide +kernel
theorem dX8_write_104 : decode cX8_write 104 = .ok (.invokevirtual 133, 3) := by decide +kernel
theorem dX8_write_107 : decode cX8_write 107 = .ok (.ireturn, 1) := by decide +kernel
set_option maxRecDepth 20000 in
theorem ggX8_forge_X8_in : GoodIn wsX8_forge wsX8_in := goodIn_r _ [6] (by decide +kernel) (by decide +kernel)
set_option maxRecDepth 20000 in
theorem gX8_forge_X8_in : GoodIn wsX8_forge (va_wsS RX8 46 yX8_in wsX8_in) := goodIn_app (goodIn_of _ (by decide +kernel)) ggX8_forge_X8_in
set_option maxRecDepth 20000 in
theorem ggX8_forge_X8_puts : GoodIn wsX8_forge wsX8_puts := goodIn_r _ [10, 2, 11, 12, 13, 14, 15, 16, 17, 18, 19, 20, 21, 22, 23, 24, 25, 26, 27, 28, 29, 30, 31, 32, 33] (by decide +kernel) (by decide +kernel)
set_option maxRecDepth 20000 in
theorem gX8_forge_X8_puts : GoodIn wsX8_forge (wsV RX8 137 RX8 yX8_puts wsX8_puts) := goodIn_app (goodIn_of _ (by decide +kernel)) ggX8_forge_X8_puts
theorem dX8_forge_0 : decode cX8_forge 0 = .ok (.aload_n 0, 1) := by decide +kernel
theorem dX8_forge_1 : decode cX8_forge 1 = .ok (.iconst 0, 1) := by decide +kernel
theorem dX8_forge_2 : decode cX8_forge 2 = .ok (.putfield 42, 3) := by decide +kernel
theorem dX8_forge_5 : decode cX8_forge 5 = .ok (.iload_n 1, 1) := by decide +kernel
theorem dX8_forge_6 : decode cX8_forge 6 = .ok (.iconst 0, 1) := by decide +kernel
theorem dX8_forge_7 : decode cX8_forge 7 = .ok (.bipush 9, 2) := by decide +kernel
theorem dX8_forge_9 : decode cX8_forge 9 = .ok (.invokestatic 46, 3) := by decide +kernel
theorem dX8_forge_12 : decode cX8_forge 12 = .ok (.ifCond .eq 13, 3) := by decide +kernel
theorem dX8_forge_15 : decode cX8_forge 15 = .ok (.iload_n 2, 1) := by decide +kernel
theorem dX8_forge_16 : decode cX8_forge 16 = .ok (.iconst 0, 1) := by decide +kernel
theorem dX8_forge_17 : decode cX8_forge 17 = .ok (.bipush 7, 2) := by decide +kernel
theorem dX8_forge_19 : decode cX8_forge 19 = .ok (.invokestatic 46, 3) := by decide +kernel
theorem dX8_forge_22 : decode cX8_forge 22 = .ok (.ifCond .ne 5, 3) := by decide +kernel
theorem dX8_forge_25 : decode cX8_forge 25 = .ok (.iconst (-1), 1) := by decide +kernel
theorem dX8_forge_26 : decode cX8_forge 26 = .ok (.ireturn, 1) := by decide +kernel
theorem dX8_forge_27 : decode cX8_forge 27 = .ok (.aload_n 0, 1) := by decide +kernel
theorem dX8_forge_28 : decode cX8_forge 28 = .ok (.getfield 16, 3) := by decide +kernel
theorem dX8_forge_31 : decode cX8_forge 31 = .ok (.bipush 20, 2) := by decide +kernel
theorem dX8_forge_33 : decode cX8_forge 33 = .ok (.iaload, 1) := by decide +kernel
theorem dX8_forge_34 : decode cX8_forge 34 = .ok (.bipush 10, 2) := by decide +kernel
theorem dX8_forge_36 : decode cX8_forge 36 = .ok (.if_icmp .ne 6, 3) := by decide +kernel
theorem dX8_forge_39 : decode cX8_forge 39 = .ok (.bipush (-3), 2) := by decide +kernel
theorem dX8_forge_41 : decode cX8_forge 41 = .ok (.ireturn, 1) := by decide +kernel
theorem dX8_forge_42 : decode cX8_forge 42 = .ok (.aload_n 0, 1) := by decide +kernel
theorem dX8_forge_43 : decode cX8_forge 43 = .ok (.iload_n 1, 1) := by decide +kernel
theorem dX8_forge_44 : decode cX8_forge 44 = .ok (.bipush 10, 2) := by decide +kernel
theorem dX8_forge_46 : decode cX8_forge 46 = .ok (.iload_n 2, 1) := by decide +kernel
theorem dX8_forge_47 : decode cX8_forge 47 = .ok (.imul, 1) := by decide +kernel
theorem dX8_forge_48 : decode cX8_forge 48 = .ok (.iadd, 1) := by decide +kernel
theorem dX8_forge_49 : decode cX8_forge 49 = .ok (.bipush (-9), 2) := by decide +kernel
theorem dX8_forge_51 : decode cX8_forge 51 = .ok (.invokevirtual 137, 3) := by decide +kernel
theorem dX8_forge_54 : decode cX8_forge 54 = .ok (.aload_n 0, 1) := by decide +kernel
theorem dX8_forge_55 : decode cX8_forge 55 = .ok (.getfield 16, 3) := by decide +kernel
theorem dX8_forge_58 : decode cX8_forge 58 = .ok (.bipush 20, 2) := by decide +kernel
theorem dX8_forge_60 : decode cX8_forge 60 = .ok (.iaload, 1) := by decide +kernel
theorem dX8_forge_61 : decode cX8_forge 61 = .ok (.ireturn, 1) := by decide +kernel
theorem dX8_undo_0 : decode cX8_undo 0 = .ok (.aload_n 0, 1) := by decide +kernel
theorem dX8_undo_1 : decode cX8_undo 1 = .ok (.iconst 0, 1) := by decide +kernel
theorem dX8_undo_2 : decode cX8_undo 2 = .ok (.putfield 42, 3) := by decide +kernel
theorem dX8_undo_5 : decode cX8_undo 5 = .ok (.aload_n 0, 1) := by decide +kernel
theorem dX8_undo_6 : decode cX8_undo 6 = .ok (.getfield 16, 3) := by decide +kernel
theorem dX8_undo_9 : decode cX8_undo 9 = .ok (.bipush 20, 2) := by decide +kernel
theorem dX8_undo_11 : decode cX8_undo 11 = .ok (.iaload, 1) := by decide +kernel
theorem dX8_undo_12 : decode cX8_undo 12 = .ok (.iconst 1, 1) := by decide +kernel
theorem dX8_undo_13 : decode cX8_undo 13 = .ok (.if_icmp .ne 6, 3) := by decide +kernel
theorem dX8_undo_16 : decode cX8_undo 16 = .ok (.bipush (-2), 2) := by decide +kernel
theorem dX8_undo_18 : decode cX8_undo 18 = .ok (.ireturn, 1) := by decide +kernel
theorem dX8_undo_19 : decode cX8_undo 19 = .ok (.aload_n 0, 1) := by decide +kernel
theorem dX8_undo_20 : decode cX8_undo 20 = .ok (.getfield 16, 3) := by decide +kernel
theorem dX8_undo_23 : decode cX8_undo 23 = .ok (.bipush 20, 2) := by decide +kernel
theorem dX8_undo_25 : decode cX8_undo 25 = .ok (.dup2, 1) := by decide +kernel
theorem dX8_undo_26 : decode cX8_undo 26 = .ok (.iaload, 1) := by decide +kernel
theorem dX8_undo_27 : decode cX8_undo 27 = .ok (.iconst 1, 1) := by decide +kernel
theorem dX8_undo_28 : decode cX8_undo 28 = .ok (.isub, 1) := by decide +kernel
theorem dX8_undo_29 : decode cX8_undo 29 = .ok (.iastore, 1) := by decide +kernel
theorem dX8_undo_30 : decode cX8_undo 30 = .ok (.aload_n 0, 1) := by decide +kernel
theorem dX8_undo_31 : decode cX8_undo 31 = .ok (.getfield 16, 3) := by decide +kernel
theorem dX8_undo_34 : decode cX8_undo 34 = .ok (.bipush 20, 2) := by decide +kernel
theorem dX8_undo_36 : decode cX8_undo 36 = .ok (.iaload, 1) := by decide +kernel
theorem dX8_undo_37 : decode cX8_undo 37 = .ok (.ireturn, 1) := by decide +kernel
theorem dX8_lot_0 : decode cX8_lot 0 = .ok (.aload_n 0, 1) := by decide +kernel
theorem dX8_lot_1 : decode cX8_lot 1 = .ok (.iconst 0, 1) := by decide +kernel
theorem dX8_lot_2 : decode cX8_lot 2 = .ok (.putfield 42, 3) := by decide +kernel
theorem dX8_lot_5 : decode cX8_lot 5 = .ok (.aload_n 0, 1) := by decide +kernel
theorem dX8_lot_6 : decode cX8_lot 6 = .ok (.getfield 16, 3) := by decide +kernel
theorem dX8_lot_9 : decode cX8_lot 9 = .ok (.bipush 21, 2) := by decide +kernel
theorem dX8_lot_11 : decode cX8_lot 11 = .ok (.iaload, 1) := by decide +kernel
theorem dX8_lot_12 : decode cX8_lot 12 = .ok (.istore_n 2, 1) := by decide +kernel
theorem dX8_lot_13 : decode cX8_lot 13 = .ok (.aload_n 0, 1) := by decide +kernel
theorem dX8_lot_14 : decode cX8_lot 14 = .ok (.getfield 16, 3) := by decide +kernel
theorem dX8_lot_17 : decode cX8_lot 17 = .ok (.bipush 21, 2) := by decide +kernel
theorem dX8_lot_19 : decode cX8_lot 19 = .ok (.iload_n 1, 1) := by decide +kernel
theorem dX8_lot_20 : decode cX8_lot 20 = .ok (.iastore, 1) := by decide +kernel
theorem dX8_lot_21 : decode cX8_lot 21 = .ok (.iload_n 2, 1) := by decide +kernel
theorem dX8_lot_22 : decode cX8_lot 22 = .ok (.ireturn, 1) := by decide +kernel
theorem dX8_turned_0 : decode cX8_turned 0 = .ok (.aload_n 0, 1) := by decide +kernel
theorem dX8_turned_1 : decode cX8_turned 1 = .ok (.iconst 0, 1) := by decide +kernel
theorem dX8_turned_2 : decode cX8_turned 2 = .ok (.putfield 42, 3) := by decide +kernel
theorem dX8_turned_5 : decode cX8_turned 5 = .ok (.aload_n 0, 1) := by decide +kernel
theorem dX8_turned_6 : decode cX8_turned 6 = .ok (.getfield 16, 3) := by decide +kernel
theorem dX8_turned_9 : decode cX8_turned 9 = .ok (.iconst 0, 1) := by decide +kernel
theorem dX8_turned_10 : decode cX8_turned 10 = .ok (.iaload, 1) := by decide +kernel
theorem dX8_turned_11 : decode cX8_turned 11 = .ok (.bipush 10, 2) := by decide +kernel
theorem dX8_turned_13 : decode cX8_turned 13 = .ok (.irem, 1) := by decide +kernel
theorem dX8_turned_14 : decode cX8_turned 14 = .ok (.iconst 4, 1) := by decide +kernel
theorem dX8_turned_15 : decode cX8_turned 15 = .ok (.if_icmp .le 7, 3) := by decide +kernel
theorem dX8_turned_18 : decode cX8_turned 18 = .ok (.iconst 1, 1) := by decide +kernel
theorem dX8_turned_19 : decode cX8_turned 19 = .ok (.goto 4, 3) := by decide +kernel
theorem dX8_turned_22 : decode cX8_turned 22 = .ok (.iconst 0, 1) := by decide +kernel
theorem dX8_turned_23 : decode cX8_turned 23 = .ok (.istore_n 1, 1) := by decide +kernel
theorem dX8_turned_24 : decode cX8_turned 24 = .ok (.iconst 1, 1) := by decide +kernel
theorem dX8_turned_25 : decode cX8_turned 25 = .ok (.istore_n 2, 1) := by decide +kernel
theorem dX8_turned_26 : decode cX8_turned 26 = .ok (.iload_n 2, 1) := by decide +kernel
theorem dX8_turned_27 : decode cX8_turned 27 = .ok (.aload_n 0, 1) := by decide +kernel
theorem dX8_turned_28 : decode cX8_turned 28 = .ok (.getfield 16, 3) := by decide +kernel
theorem dX8_turned_31 : decode cX8_turned 31 = .ok (.bipush 20, 2) := by decide +kernel
theorem dX8_turned_33 : decode cX8_turned 33 = .ok (.iaload, 1) := by decide +kernel
theorem dX8_turned_34 : decode cX8_turned 34 = .ok (.if_icmp .ge 35, 3) := by decide +kernel
theorem dX8_turned_37 : decode cX8_turned 37 = .ok (.aload_n 0, 1) := by decide +kernel
theorem dX8_turned_38 : decode cX8_turned 38 = .ok (.getfield 16, 3) := by decide +kernel
theorem dX8_turned_41 : decode cX8_turned 41 = .ok (.iconst 2, 1) := by decide +kernel
theorem dX8_turned_42 : decode cX8_turned 42 = .ok (.iload_n 2, 1) := by decide +kernel
theorem dX8_turned_43 : decode cX8_turned 43 = .ok (.imul, 1) := by decide +kernel
theorem dX8_turned_44 : decode cX8_turned 44 = .ok (.iaload, 1) := by decide +kernel
theorem dX8_turned_45 : decode cX8_turned 45 = .ok (.bipush 10, 2) := by decide +kernel
theorem dX8_turned_47 : decode cX8_turned 47 = .ok (.irem, 1) := by decide +kernel
theorem dX8_turned_48 : decode cX8_turned 48 = .ok (.iconst 4, 1) := by decide +kernel
theorem dX8_turned_49 : decode cX8_turned 49 = .ok (.if_icmp .le 7, 3) := by decide +kernel
theorem dX8_turned_52 : decode cX8_turned 52 = .ok (.iconst 1, 1) := by decide +kernel
theorem dX8_turned_53 : decode cX8_turned 53 = .ok (.goto 4, 3) := by decide +kernel
theorem dX8_turned_56 : decode cX8_turned 56 = .ok (.iconst 0, 1) := by decide +kernel
theorem dX8_turned_57 : decode cX8_turned 57 = .ok (.iload_n 1, 1) := by decide +kernel
theorem dX8_turned_58 : decode cX8_turned 58 = .ok (.if_icmp .eq 5, 3) := by decide +kernel
theorem dX8_turned_61 : decode cX8_turned 61 = .ok (.iload_n 2, 1) := by decide +kernel
theorem dX8_turned_62 : decode cX8_turned 62 = .ok (.ireturn, 1) := by decide +kernel
theorem dX8_turned_63 : decode cX8_turned 63 = .ok (.iinc 2 1, 3) := by decide +kernel
theorem dX8_turned_66 : decode cX8_turned 66 = .ok (.goto (-40), 3) := by decide +kernel
theorem dX8_turned_69 : decode cX8_turned 69 = .ok (.bipush (-9), 2) := by decide +kernel
theorem dX8_turned_71 : decode cX8_turned 71 = .ok (.ireturn, 1) := by decide +kernel
set_option maxRecDepth 20000 in
theorem ggX8_waysOf_X8_madeBy : GoodIn wsX8_waysOf wsX8_madeBy := goodIn_r _ [7, 2, 8, 9, 10, 6, 11, 12, 13, 14, 15, 16, 17, 18, 19, 20, 21, 22, 23, 24, 25, 26, 27, 28, 29, 30, 31, 32, 33, 34] (by decide +kernel) (by decide +kernel)
set_option maxRecDepth 20000 in
theorem gX8_waysOf_X8_madeBy : GoodIn wsX8_waysOf (wsV RX8 128 RX8 yX8_madeBy wsX8_madeBy) := goodIn_app (goodIn_of _ (by decide +kernel)) ggX8_waysOf_X8_madeBy
theorem dX8_waysOf_0 : decode cX8_waysOf 0 = .ok (.aload_n 0, 1) := by decide +kernel
theorem dX8_waysOf_1 : decode cX8_waysOf 1 = .ok (.getfield 16, 3) := by decide +kernel
theorem dX8_waysOf_4 : decode cX8_waysOf 4 = .ok (.iconst 2, 1) := by decide +kernel
theorem dX8_waysOf_5 : decode cX8_waysOf 5 = .ok (.iload_n 2, 1) := by decide +kernel
theorem dX8_waysOf_6 : decode cX8_waysOf 6 = .ok (.imul, 1) := by decide +kernel
theorem dX8_waysOf_7 : decode cX8_waysOf 7 = .ok (.iconst 2, 1) := by decide +kernel
theorem dX8_waysOf_8 : decode cX8_waysOf 8 = .ok (.isub, 1) := by decide +kernel
theorem dX8_waysOf_9 : decode cX8_waysOf 9 = .ok (.iaload, 1) := by decide +kernel
theorem dX8_waysOf_10 : decode cX8_waysOf 10 = .ok (.istore_n 3, 1) := by decide +kernel
theorem dX8_waysOf_11 : decode cX8_waysOf 11 = .ok (.aload_n 0, 1) := by decide +kernel
theorem dX8_waysOf_12 : decode cX8_waysOf 12 = .ok (.getfield 16, 3) := by decide +kernel
theorem dX8_waysOf_15 : decode cX8_waysOf 15 = .ok (.iconst 2, 1) := by decide +kernel
theorem dX8_waysOf_16 : decode cX8_waysOf 16 = .ok (.iload_n 2, 1) := by decide +kernel
theorem dX8_waysOf_17 : decode cX8_waysOf 17 = .ok (.imul, 1) := by decide +kernel
theorem dX8_waysOf_18 : decode cX8_waysOf 18 = .ok (.iaload, 1) := by decide +kernel
theorem dX8_waysOf_19 : decode cX8_waysOf 19 = .ok (.istore 4, 2) := by decide +kernel
theorem dX8_waysOf_21 : decode cX8_waysOf 21 = .ok (.aload_n 0, 1) := by decide +kernel
theorem dX8_waysOf_22 : decode cX8_waysOf 22 = .ok (.getfield 13, 3) := by decide +kernel
theorem dX8_waysOf_25 : decode cX8_waysOf 25 = .ok (.iconst 4, 1) := by decide +kernel
theorem dX8_waysOf_26 : decode cX8_waysOf 26 = .ok (.iload_n 1, 1) := by decide +kernel
theorem dX8_waysOf_27 : decode cX8_waysOf 27 = .ok (.imul, 1) := by decide +kernel
theorem dX8_waysOf_28 : decode cX8_waysOf 28 = .ok (.iconst 3, 1) := by decide +kernel
theorem dX8_waysOf_29 : decode cX8_waysOf 29 = .ok (.iadd, 1) := by decide +kernel
theorem dX8_waysOf_30 : decode cX8_waysOf 30 = .ok (.iaload, 1) := by decide +kernel
theorem dX8_waysOf_31 : decode cX8_waysOf 31 = .ok (.istore 5, 2) := by decide +kernel
theorem dX8_waysOf_33 : decode cX8_waysOf 33 = .ok (.aload_n 0, 1) := by decide +kernel
theorem dX8_waysOf_34 : decode cX8_waysOf 34 = .ok (.iload_n 1, 1) := by decide +kernel
theorem dX8_waysOf_35 : decode cX8_waysOf 35 = .ok (.iload_n 3, 1) := by decide +kernel
theorem dX8_waysOf_36 : decode cX8_waysOf 36 = .ok (.invokevirtual 128, 3) := by decide +kernel
theorem dX8_waysOf_39 : decode cX8_waysOf 39 = .ok (.iload 4, 2) := by decide +kernel
theorem dX8_waysOf_41 : decode cX8_waysOf 41 = .ok (.if_icmp .ne 8, 3) := by decide +kernel
theorem dX8_waysOf_44 : decode cX8_waysOf 44 = .ok (.iload 5, 2) := by decide +kernel
theorem dX8_waysOf_46 : decode cX8_waysOf 46 = .ok (.goto 4, 3) := by decide +kernel
theorem dX8_waysOf_49 : decode cX8_waysOf 49 = .ok (.iconst 0, 1) := by decide +kernel
theorem dX8_waysOf_50 : decode cX8_waysOf 50 = .ok (.iload_n 3, 1) := by decide +kernel
theorem dX8_waysOf_51 : decode cX8_waysOf 51 = .ok (.iload 4, 2) := by decide +kernel
theorem dX8_waysOf_53 : decode cX8_waysOf 53 = .ok (.if_icmp .ne 11, 3) := by decide +kernel
theorem dX8_waysOf_56 : decode cX8_waysOf 56 = .ok (.bipush 10, 2) := by decide +kernel
theorem dX8_waysOf_58 : decode cX8_waysOf 58 = .ok (.iload 5, 2) := by decide +kernel
theorem dX8_waysOf_60 : decode cX8_waysOf 60 = .ok (.isub, 1) := by decide +kernel
theorem dX8_waysOf_61 : decode cX8_waysOf 61 = .ok (.goto 4, 3) := by decide +kernel
theorem dX8_waysOf_64 : decode cX8_waysOf 64 = .ok (.iconst 0, 1) := by decide +kernel
theorem dX8_waysOf_65 : decode cX8_waysOf 65 = .ok (.iadd, 1) := by decide +kernel
theorem dX8_waysOf_66 : decode cX8_waysOf 66 = .ok (.ireturn, 1) := by decide +kernel
set_option maxRecDepth 20000 in
theorem ggX8_whoOf_X8_waysOf : GoodIn wsX8_whoOf wsX8_waysOf := goodIn_r _ [6, 7, 8, 9, 10, 11, 5, 12, 13, 14, 15, 16, 17, 18, 19, 20, 21, 22, 23, 24, 25, 26, 27, 28, 29, 30, 31, 32, 33, 34, 35, 36, 37, 38, 39] (by decide +kernel) (by decide +kernel)
set_option maxRecDepth 20000 in
theorem gX8_whoOf_X8_waysOf : GoodIn wsX8_whoOf (wsV RX8 141 RX8 yX8_waysOf wsX8_waysOf) := goodIn_app (goodIn_of _ (by decide +kernel)) ggX8_whoOf_X8_waysOf
theorem dX8_whoOf_0 : decode cX8_whoOf 0 = .ok (.iconst 0, 1) := by decide +kernel
theorem dX8_whoOf_1 : decode cX8_whoOf 1 = .ok (.istore_n 2, 1) := by decide +kernel
theorem dX8_whoOf_2 : decode cX8_whoOf 2 = .ok (.iconst 0, 1) := by decide +kernel
theorem dX8_whoOf_3 : decode cX8_whoOf 3 = .ok (.istore_n 3, 1) := by decide +kernel
theorem dX8_whoOf_4 : decode cX8_whoOf 4 = .ok (.iload_n 3, 1) := by decide +kernel
theorem dX8_whoOf_5 : decode cX8_whoOf 5 = .ok (.aload_n 0, 1) := by decide +kernel
theorem dX8_whoOf_6 : decode cX8_whoOf 6 = .ok (.getfield 112, 3) := by decide +kernel
theorem dX8_whoOf_9 : decode cX8_whoOf 9 = .ok (.if_icmp .ge 28, 3) := by decide +kernel
theorem dX8_whoOf_12 : decode cX8_whoOf 12 = .ok (.iload_n 2, 1) := by decide +kernel
theorem dX8_whoOf_13 : decode cX8_whoOf 13 = .ok (.aload_n 0, 1) := by decide +kernel
theorem dX8_whoOf_14 : decode cX8_whoOf 14 = .ok (.iload_n 3, 1) := by decide +kernel
theorem dX8_whoOf_15 : decode cX8_whoOf 15 = .ok (.iload_n 1, 1) := by decide +kernel
theorem dX8_whoOf_16 : decode cX8_whoOf 16 = .ok (.invokevirtual 141, 3) := by decide +kernel
theorem dX8_whoOf_19 : decode cX8_whoOf 19 = .ok (.ifCond .le 9, 3) := by decide +kernel
theorem dX8_whoOf_22 : decode cX8_whoOf 22 = .ok (.iconst 1, 1) := by decide +kernel
theorem dX8_whoOf_23 : decode cX8_whoOf 23 = .ok (.iload_n 3, 1) := by decide +kernel
theorem dX8_whoOf_24 : decode cX8_whoOf 24 = .ok (.ishl, 1) := by decide +kernel
theorem dX8_whoOf_25 : decode cX8_whoOf 25 = .ok (.goto 4, 3) := by decide +kernel
theorem dX8_whoOf_28 : decode cX8_whoOf 28 = .ok (.iconst 0, 1) := by decide +kernel
theorem dX8_whoOf_29 : decode cX8_whoOf 29 = .ok (.ior, 1) := by decide +kernel
theorem dX8_whoOf_30 : decode cX8_whoOf 30 = .ok (.istore_n 2, 1) := by decide +kernel
theorem dX8_whoOf_31 : decode cX8_whoOf 31 = .ok (.iinc 3 1, 3) := by decide +kernel
theorem dX8_whoOf_34 : decode cX8_whoOf 34 = .ok (.goto (-30), 3) := by decide +kernel
theorem dX8_whoOf_37 : decode cX8_whoOf 37 = .ok (.iload_n 2, 1) := by decide +kernel
theorem dX8_whoOf_38 : decode cX8_whoOf 38 = .ok (.ireturn, 1) := by decide +kernel
set_option maxRecDepth 20000 in
theorem ggX8_who_X8_in : GoodIn wsX8_who wsX8_in := goodIn_r _ [7] (by decide +kernel) (by decide +kernel)
set_option maxRecDepth 20000 in
theorem gX8_who_X8_in : GoodIn wsX8_who (va_wsS RX8 46 yX8_in wsX8_in) := goodIn_app (goodIn_of _ (by decide +kernel)) ggX8_who_X8_in
set_option maxRecDepth 20000 in
theorem ggX8_who_X8_whoOf : GoodIn wsX8_who wsX8_whoOf := goodIn_r _ [11, 3, 12, 13, 14, 6, 15, 2, 16, 17, 18, 19, 20, 21, 22, 23, 24, 25, 26, 27, 28, 29, 30, 31, 32, 33, 34, 35, 36, 37, 38, 39, 40, 41, 42, 43, 44, 45, 46, 47] (by decide +kernel) (by decide +kernel)
set_option maxRecDepth 20000 in
theorem gX8_who_X8_whoOf : GoodIn wsX8_who (wsV RX8 144 RX8 yX8_whoOf wsX8_whoOf) := goodIn_app (goodIn_of _ (by decide +kernel)) ggX8_who_X8_whoOf
set_option maxRecDepth 20000 in
theorem ggX8_who_X8_waysOf : GoodIn wsX8_who wsX8_waysOf := goodIn_r _ [15, 2, 16, 17, 18, 19, 6, 20, 21, 22, 23, 24, 25, 26, 27, 28, 29, 30, 31, 32, 33, 34, 35, 36, 37, 38, 39, 40, 41, 42, 43, 44, 45, 46, 47] (by decide +kernel) (by decide +kernel)
set_option maxRecDepth 20000 in
theorem gX8_who_X8_waysOf : GoodIn wsX8_who (wsV RX8 141 RX8 yX8_waysOf wsX8_waysOf) := goodIn_app (goodIn_of _ (by decide +kernel)) ggX8_who_X8_waysOf
theorem dX8_who_0 : decode cX8_who 0 = .ok (.aload_n 0, 1) := by decide +kernel
theorem dX8_who_1 : decode cX8_who 1 = .ok (.iconst 0, 1) := by decide +kernel
theorem dX8_who_2 : decode cX8_who 2 = .ok (.putfield 42, 3) := by decide +kernel
theorem dX8_who_5 : decode cX8_who 5 = .ok (.iload_n 1, 1) := by decide +kernel
theorem dX8_who_6 : decode cX8_who 6 = .ok (.iconst 1, 1) := by decide +kernel
theorem dX8_who_7 : decode cX8_who 7 = .ok (.aload_n 0, 1) := by decide +kernel
theorem dX8_who_8 : decode cX8_who 8 = .ok (.getfield 16, 3) := by decide +kernel
theorem dX8_who_11 : decode cX8_who 11 = .ok (.bipush 20, 2) := by decide +kernel
theorem dX8_who_13 : decode cX8_who 13 = .ok (.iaload, 1) := by decide +kernel
theorem dX8_who_14 : decode cX8_who 14 = .ok (.iconst 1, 1) := by decide +kernel
theorem dX8_who_15 : decode cX8_who 15 = .ok (.isub, 1) := by decide +kernel
theorem dX8_who_16 : decode cX8_who 16 = .ok (.invokestatic 46, 3) := by decide +kernel
theorem dX8_who_19 : decode cX8_who 19 = .ok (.ifCond .eq 12, 3) := by decide +kernel
theorem dX8_who_22 : decode cX8_who 22 = .ok (.iload_n 2, 1) := by decide +kernel
theorem dX8_who_23 : decode cX8_who 23 = .ok (.iconst 0, 1) := by decide +kernel
theorem dX8_who_24 : decode cX8_who 24 = .ok (.iconst 1, 1) := by decide +kernel
theorem dX8_who_25 : decode cX8_who 25 = .ok (.invokestatic 46, 3) := by decide +kernel
theorem dX8_who_28 : decode cX8_who 28 = .ok (.ifCond .ne 5, 3) := by decide +kernel
theorem dX8_who_31 : decode cX8_who 31 = .ok (.iconst (-1), 1) := by decide +kernel
theorem dX8_who_32 : decode cX8_who 32 = .ok (.ireturn, 1) := by decide +kernel
theorem dX8_who_33 : decode cX8_who 33 = .ok (.iload_n 2, 1) := by decide +kernel
theorem dX8_who_34 : decode cX8_who 34 = .ok (.ifCond .ne 9, 3) := by decide +kernel
theorem dX8_who_37 : decode cX8_who 37 = .ok (.aload_n 0, 1) := by decide +kernel
theorem dX8_who_38 : decode cX8_who 38 = .ok (.iload_n 1, 1) := by decide +kernel
theorem dX8_who_39 : decode cX8_who 39 = .ok (.invokevirtual 144, 3) := by decide +kernel
theorem dX8_who_42 : decode cX8_who 42 = .ok (.ireturn, 1) := by decide +kernel
theorem dX8_who_43 : decode cX8_who 43 = .ok (.bipush (-9), 2) := by decide +kernel
theorem dX8_who_45 : decode cX8_who 45 = .ok (.istore_n 3, 1) := by decide +kernel
theorem dX8_who_46 : decode cX8_who 46 = .ok (.iconst 0, 1) := by decide +kernel
theorem dX8_who_47 : decode cX8_who 47 = .ok (.istore 4, 2) := by decide +kernel
theorem dX8_who_49 : decode cX8_who 49 = .ok (.iconst 0, 1) := by decide +kernel
theorem dX8_who_50 : decode cX8_who 50 = .ok (.istore 5, 2) := by decide +kernel
theorem dX8_who_52 : decode cX8_who 52 = .ok (.iload 5, 2) := by decide +kernel
theorem dX8_who_54 : decode cX8_who 54 = .ok (.aload_n 0, 1) := by decide +kernel
theorem dX8_who_55 : decode cX8_who 55 = .ok (.getfield 112, 3) := by decide +kernel
theorem dX8_who_58 : decode cX8_who 58 = .ok (.if_icmp .ge 33, 3) := by decide +kernel
theorem dX8_who_61 : decode cX8_who 61 = .ok (.aload_n 0, 1) := by decide +kernel
theorem dX8_who_62 : decode cX8_who 62 = .ok (.iload 5, 2) := by decide +kernel
theorem dX8_who_64 : decode cX8_who 64 = .ok (.iload_n 1, 1) := by decide +kernel
theorem dX8_who_65 : decode cX8_who 65 = .ok (.invokevirtual 141, 3) := by decide +kernel
theorem dX8_who_68 : decode cX8_who 68 = .ok (.iload 4, 2) := by decide +kernel
theorem dX8_who_70 : decode cX8_who 70 = .ok (.if_icmp .le 15, 3) := by decide +kernel
theorem dX8_who_73 : decode cX8_who 73 = .ok (.aload_n 0, 1) := by decide +kernel
theorem dX8_who_74 : decode cX8_who 74 = .ok (.iload 5, 2) := by decide +kernel
theorem dX8_who_76 : decode cX8_who 76 = .ok (.iload_n 1, 1) := by decide +kernel
theorem dX8_who_77 : decode cX8_who 77 = .ok (.invokevirtual 141, 3) := by decide +kernel
theorem dX8_who_80 : decode cX8_who 80 = .ok (.istore 4, 2) := by decide +kernel
theorem dX8_who_82 : decode cX8_who 82 = .ok (.iload 5, 2) := by decide +kernel
theorem dX8_who_84 : decode cX8_who 84 = .ok (.istore_n 3, 1) := by decide +kernel
theorem dX8_who_85 : decode cX8_who 85 = .ok (.iinc 5 1, 3) := by decide +kernel
theorem dX8_who_88 : decode cX8_who 88 = .ok (.goto (-36), 3) := by decide +kernel
theorem dX8_who_91 : decode cX8_who 91 = .ok (.iload_n 3, 1) := by decide +kernel
theorem dX8_who_92 : decode cX8_who 92 = .ok (.ireturn, 1) := by decide +kernel
set_option maxRecDepth 20000 in
theorem ggX8_rows_X8_whoOf : GoodIn wsX8_rows wsX8_whoOf := goodIn_r _ [7, 8, 9, 10, 11, 6, 12, 2, 13, 14, 15, 16, 17, 18, 19, 20, 21, 25, 26, 27, 28, 29, 30, 31, 32, 33, 34, 35, 36, 37, 38, 39, 40, 41, 42, 43, 44, 45, 46, 47] (by decide +kernel) (by decide +kernel)
set_option maxRecDepth 20000 in
theorem gX8_rows_X8_whoOf : GoodIn wsX8_rows (wsV RX8 144 RX8 yX8_whoOf wsX8_whoOf) := goodIn_app (goodIn_of _ (by decide +kernel)) ggX8_rows_X8_whoOf
set_option maxRecDepth 20000 in
theorem ggX8_rows_X8_ones : GoodIn wsX8_rows wsX8_ones := goodIn_r _ [24] (by decide +kernel) (by decide +kernel)
set_option maxRecDepth 20000 in
theorem gX8_rows_X8_ones : GoodIn wsX8_rows (va_wsS RX8 147 yX8_ones wsX8_ones) := goodIn_app (goodIn_of _ (by decide +kernel)) ggX8_rows_X8_ones
theorem dX8_rows_0 : decode cX8_rows 0 = .ok (.aload_n 0, 1) := by decide +kernel
theorem dX8_rows_1 : decode cX8_rows 1 = .ok (.iconst 0, 1) := by decide +kernel
theorem dX8_rows_2 : decode cX8_rows 2 = .ok (.putfield 42, 3) := by decide +kernel
theorem dX8_rows_5 : decode cX8_rows 5 = .ok (.iconst 1, 1) := by decide +kernel
theorem dX8_rows_6 : decode cX8_rows 6 = .ok (.istore_n 1, 1) := by decide +kernel
theorem dX8_rows_7 : decode cX8_rows 7 = .ok (.iconst 1, 1) := by decide +kernel
theorem dX8_rows_8 : decode cX8_rows 8 = .ok (.istore_n 2, 1) := by decide +kernel
theorem dX8_rows_9 : decode cX8_rows 9 = .ok (.iload_n 2, 1) := by decide +kernel
theorem dX8_rows_10 : decode cX8_rows 10 = .ok (.aload_n 0, 1) := by decide +kernel
theorem dX8_rows_11 : decode cX8_rows 11 = .ok (.getfield 16, 3) := by decide +kernel
theorem dX8_rows_14 : decode cX8_rows 14 = .ok (.bipush 20, 2) := by decide +kernel
theorem dX8_rows_16 : decode cX8_rows 16 = .ok (.iaload, 1) := by decide +kernel
theorem dX8_rows_17 : decode cX8_rows 17 = .ok (.if_icmp .ge 20, 3) := by decide +kernel
theorem dX8_rows_20 : decode cX8_rows 20 = .ok (.iload_n 1, 1) := by decide +kernel
theorem dX8_rows_21 : decode cX8_rows 21 = .ok (.aload_n 0, 1) := by decide +kernel
theorem dX8_rows_22 : decode cX8_rows 22 = .ok (.iload_n 2, 1) := by decide +kernel
theorem dX8_rows_23 : decode cX8_rows 23 = .ok (.invokevirtual 144, 3) := by decide +kernel
theorem dX8_rows_26 : decode cX8_rows 26 = .ok (.invokestatic 147, 3) := by decide +kernel
theorem dX8_rows_29 : decode cX8_rows 29 = .ok (.imul, 1) := by decide +kernel
theorem dX8_rows_30 : decode cX8_rows 30 = .ok (.istore_n 1, 1) := by decide +kernel
theorem dX8_rows_31 : decode cX8_rows 31 = .ok (.iinc 2 1, 3) := by decide +kernel
theorem dX8_rows_34 : decode cX8_rows 34 = .ok (.goto (-25), 3) := by decide +kernel
theorem dX8_rows_37 : decode cX8_rows 37 = .ok (.iload_n 1, 1) := by decide +kernel
theorem dX8_rows_38 : decode cX8_rows 38 = .ok (.ireturn, 1) := by decide +kernel
theorem dX8_gcd_0 : decode cX8_gcd 0 = .ok (.iload_n 0, 1) := by decide +kernel
theorem dX8_gcd_1 : decode cX8_gcd 1 = .ok (.istore_n 2, 1) := by decide +kernel
theorem dX8_gcd_2 : decode cX8_gcd 2 = .ok (.iload_n 1, 1) := by decide +kernel
theorem dX8_gcd_3 : decode cX8_gcd 3 = .ok (.istore_n 3, 1) := by decide +kernel
theorem dX8_gcd_4 : decode cX8_gcd 4 = .ok (.iload_n 3, 1) := by decide +kernel
theorem dX8_gcd_5 : decode cX8_gcd 5 = .ok (.ifCond .eq 16, 3) := by decide +kernel
theorem dX8_gcd_8 : decode cX8_gcd 8 = .ok (.iload_n 2, 1) := by decide +kernel
theorem dX8_gcd_9 : decode cX8_gcd 9 = .ok (.iload_n 3, 1) := by decide +kernel
theorem dX8_gcd_10 : decode cX8_gcd 10 = .ok (.irem, 1) := by decide +kernel
theorem dX8_gcd_11 : decode cX8_gcd 11 = .ok (.istore 4, 2) := by decide +kernel
theorem dX8_gcd_13 : decode cX8_gcd 13 = .ok (.iload_n 3, 1) := by decide +kernel
theorem dX8_gcd_14 : decode cX8_gcd 14 = .ok (.istore_n 2, 1) := by decide +kernel
theorem dX8_gcd_15 : decode cX8_gcd 15 = .ok (.iload 4, 2) := by decide +kernel
theorem dX8_gcd_17 : decode cX8_gcd 17 = .ok (.istore_n 3, 1) := by decide +kernel
theorem dX8_gcd_18 : decode cX8_gcd 18 = .ok (.goto (-14), 3) := by decide +kernel
theorem dX8_gcd_21 : decode cX8_gcd 21 = .ok (.iload_n 2, 1) := by decide +kernel
theorem dX8_gcd_22 : decode cX8_gcd 22 = .ok (.ireturn, 1) := by decide +kernel
set_option maxRecDepth 20000 in
theorem ggX8_odds_X8_isClerk : GoodIn wsX8_odds wsX8_isClerk := goodIn_r _ [8, 3, 9, 10, 7, 11, 28, 29, 30, 31, 32, 33, 34, 35, 36, 37, 38, 39, 40, 41, 42, 43, 44, 45, 46, 47, 48, 49, 50] (by decide +kernel) (by decide +kernel)
set_option maxRecDepth 20000 in
theorem gX8_odds_X8_isClerk : GoodIn wsX8_odds (wsV RX8 121 RX8 yX8_isClerk wsX8_isClerk) := goodIn_app (goodIn_of _ (by decide +kernel)) ggX8_odds_X8_isClerk
set_option maxRecDepth 20000 in
theorem ggX8_odds_X8_in : GoodIn wsX8_odds wsX8_in := goodIn_r _ [11] (by decide +kernel) (by decide +kernel)
set_option maxRecDepth 20000 in
theorem gX8_odds_X8_in : GoodIn wsX8_odds (va_wsS RX8 46 yX8_in wsX8_in) := goodIn_app (goodIn_of _ (by decide +kernel)) ggX8_odds_X8_in
set_option maxRecDepth 20000 in
theorem ggX8_odds_X8_waysOf : GoodIn wsX8_odds wsX8_waysOf := goodIn_r _ [15, 2, 16, 17, 18, 19, 7, 20, 21, 22, 23, 24, 28, 29, 30, 31, 32, 33, 34, 35, 36, 37, 38, 39, 40, 41, 42, 43, 44, 45, 46, 47, 48, 49, 50] (by decide +kernel) (by decide +kernel)
set_option maxRecDepth 20000 in
theorem gX8_odds_X8_waysOf : GoodIn wsX8_odds (wsV RX8 141 RX8 yX8_waysOf wsX8_waysOf) := goodIn_app (goodIn_of _ (by decide +kernel)) ggX8_odds_X8_waysOf
set_option maxRecDepth 20000 in
theorem ggX8_odds_X8_gcd : GoodIn wsX8_odds wsX8_gcd := goodIn_r _ [27] (by decide +kernel) (by decide +kernel)
set_option maxRecDepth 20000 in
theorem gX8_odds_X8_gcd : GoodIn wsX8_odds (va_wsS RX8 150 yX8_gcd wsX8_gcd) := goodIn_app (goodIn_of _ (by decide +kernel)) ggX8_odds_X8_gcd
theorem dX8_odds_0 : decode cX8_odds 0 = .ok (.aload_n 0, 1) := by decide +kernel
theorem dX8_odds_1 : decode cX8_odds 1 = .ok (.iconst 0, 1) := by decide +kernel
theorem dX8_odds_2 : decode cX8_odds 2 = .ok (.putfield 42, 3) := by decide +kernel
theorem dX8_odds_5 : decode cX8_odds 5 = .ok (.aload_n 0, 1) := by decide +kernel
theorem dX8_odds_6 : decode cX8_odds 6 = .ok (.iload_n 1, 1) := by decide +kernel
theorem dX8_odds_7 : decode cX8_odds 7 = .ok (.invokevirtual 121, 3) := by decide +kernel
theorem dX8_odds_10 : decode cX8_odds 10 = .ok (.ifCond .eq 29, 3) := by decide +kernel
theorem dX8_odds_13 : decode cX8_odds 13 = .ok (.iload_n 2, 1) := by decide +kernel
theorem dX8_odds_14 : decode cX8_odds 14 = .ok (.iconst 1, 1) := by decide +kernel
theorem dX8_odds_15 : decode cX8_odds 15 = .ok (.aload_n 0, 1) := by decide +kernel
theorem dX8_odds_16 : decode cX8_odds 16 = .ok (.getfield 16, 3) := by decide +kernel
theorem dX8_odds_19 : decode cX8_odds 19 = .ok (.bipush 20, 2) := by decide +kernel
theorem dX8_odds_21 : decode cX8_odds 21 = .ok (.iaload, 1) := by decide +kernel
theorem dX8_odds_22 : decode cX8_odds 22 = .ok (.iconst 1, 1) := by decide +kernel
theorem dX8_odds_23 : decode cX8_odds 23 = .ok (.isub, 1) := by decide +kernel
theorem dX8_odds_24 : decode cX8_odds 24 = .ok (.invokestatic 46, 3) := by decide +kernel
theorem dX8_odds_27 : decode cX8_odds 27 = .ok (.ifCond .eq 12, 3) := by decide +kernel
theorem dX8_odds_30 : decode cX8_odds 30 = .ok (.iload_n 3, 1) := by decide +kernel
theorem dX8_odds_31 : decode cX8_odds 31 = .ok (.iconst 0, 1) := by decide +kernel
theorem dX8_odds_32 : decode cX8_odds 32 = .ok (.iconst 1, 1) := by decide +kernel
theorem dX8_odds_33 : decode cX8_odds 33 = .ok (.invokestatic 46, 3) := by decide +kernel
theorem dX8_odds_36 : decode cX8_odds 36 = .ok (.ifCond .ne 5, 3) := by decide +kernel
theorem dX8_odds_39 : decode cX8_odds 39 = .ok (.iconst (-1), 1) := by decide +kernel
theorem dX8_odds_40 : decode cX8_odds 40 = .ok (.ireturn, 1) := by decide +kernel
theorem dX8_odds_41 : decode cX8_odds 41 = .ok (.iconst 0, 1) := by decide +kernel
theorem dX8_odds_42 : decode cX8_odds 42 = .ok (.istore 4, 2) := by decide +kernel
theorem dX8_odds_44 : decode cX8_odds 44 = .ok (.iconst 0, 1) := by decide +kernel
theorem dX8_odds_45 : decode cX8_odds 45 = .ok (.istore 5, 2) := by decide +kernel
theorem dX8_odds_47 : decode cX8_odds 47 = .ok (.iload 5, 2) := by decide +kernel
theorem dX8_odds_49 : decode cX8_odds 49 = .ok (.aload_n 0, 1) := by decide +kernel
theorem dX8_odds_50 : decode cX8_odds 50 = .ok (.getfield 112, 3) := by decide +kernel
theorem dX8_odds_53 : decode cX8_odds 53 = .ok (.if_icmp .ge 21, 3) := by decide +kernel
theorem dX8_odds_56 : decode cX8_odds 56 = .ok (.iload 4, 2) := by decide +kernel
theorem dX8_odds_58 : decode cX8_odds 58 = .ok (.aload_n 0, 1) := by decide +kernel
theorem dX8_odds_59 : decode cX8_odds 59 = .ok (.iload 5, 2) := by decide +kernel
theorem dX8_odds_61 : decode cX8_odds 61 = .ok (.iload_n 2, 1) := by decide +kernel
theorem dX8_odds_62 : decode cX8_odds 62 = .ok (.invokevirtual 141, 3) := by decide +kernel
theorem dX8_odds_65 : decode cX8_odds 65 = .ok (.iadd, 1) := by decide +kernel
theorem dX8_odds_66 : decode cX8_odds 66 = .ok (.istore 4, 2) := by decide +kernel
theorem dX8_odds_68 : decode cX8_odds 68 = .ok (.iinc 5 1, 3) := by decide +kernel
theorem dX8_odds_71 : decode cX8_odds 71 = .ok (.goto (-24), 3) := by decide +kernel
theorem dX8_odds_74 : decode cX8_odds 74 = .ok (.iload 4, 2) := by decide +kernel
theorem dX8_odds_76 : decode cX8_odds 76 = .ok (.ifCond .ne 6, 3) := by decide +kernel
theorem dX8_odds_79 : decode cX8_odds 79 = .ok (.bipush (-2), 2) := by decide +kernel
theorem dX8_odds_81 : decode cX8_odds 81 = .ok (.ireturn, 1) := by decide +kernel
theorem dX8_odds_82 : decode cX8_odds 82 = .ok (.aload_n 0, 1) := by decide +kernel
theorem dX8_odds_83 : decode cX8_odds 83 = .ok (.iload_n 1, 1) := by decide +kernel
theorem dX8_odds_84 : decode cX8_odds 84 = .ok (.iload_n 2, 1) := by decide +kernel
theorem dX8_odds_85 : decode cX8_odds 85 = .ok (.invokevirtual 141, 3) := by decide +kernel
theorem dX8_odds_88 : decode cX8_odds 88 = .ok (.iload 4, 2) := by decide +kernel
theorem dX8_odds_90 : decode cX8_odds 90 = .ok (.invokestatic 150, 3) := by decide +kernel
theorem dX8_odds_93 : decode cX8_odds 93 = .ok (.istore 5, 2) := by decide +kernel
theorem dX8_odds_95 : decode cX8_odds 95 = .ok (.iload_n 3, 1) := by decide +kernel
theorem dX8_odds_96 : decode cX8_odds 96 = .ok (.ifCond .ne 15, 3) := by decide +kernel
theorem dX8_odds_99 : decode cX8_odds 99 = .ok (.aload_n 0, 1) := by decide +kernel
theorem dX8_odds_100 : decode cX8_odds 100 = .ok (.iload_n 1, 1) := by decide +kernel
theorem dX8_odds_101 : decode cX8_odds 101 = .ok (.iload_n 2, 1) := by decide +kernel
theorem dX8_odds_102 : decode cX8_odds 102 = .ok (.invokevirtual 141, 3) := by decide +kernel
theorem dX8_odds_105 : decode cX8_odds 105 = .ok (.iload 5, 2) := by decide +kernel
theorem dX8_odds_107 : decode cX8_odds 107 = .ok (.idiv, 1) := by decide +kernel
theorem dX8_odds_108 : decode cX8_odds 108 = .ok (.goto 8, 3) := by decide +kernel
theorem dX8_odds_111 : decode cX8_odds 111 = .ok (.iload 4, 2) := by decide +kernel
theorem dX8_odds_113 : decode cX8_odds 113 = .ok (.iload 5, 2) := by decide +kernel
theorem dX8_odds_115 : decode cX8_odds 115 = .ok (.idiv, 1) := by decide +kernel
theorem dX8_odds_116 : decode cX8_odds 116 = .ok (.ireturn, 1) := by decide +kernel
set_option maxRecDepth 20000 in
theorem ggX8_steps_X8_changes : GoodIn wsX8_steps wsX8_changes := goodIn_r _ [7, 2, 8, 9, 10, 11, 12, 13, 14, 15, 16, 17, 18, 19, 20, 21, 22, 23, 24, 25, 26, 27, 28, 29, 30] (by decide +kernel) (by decide +kernel)
set_option maxRecDepth 20000 in
theorem gX8_steps_X8_changes : GoodIn wsX8_steps (wsV RX8 156 RX8 yX8_changes wsX8_changes) := goodIn_app (goodIn_of _ (by decide +kernel)) ggX8_steps_X8_changes
theorem dX8_steps_0 : decode cX8_steps 0 = .ok (.aload_n 0, 1) := by decide +kernel
theorem dX8_steps_1 : decode cX8_steps 1 = .ok (.getfield 153, 3) := by decide +kernel
theorem dX8_steps_4 : decode cX8_steps 4 = .ok (.iconst 2, 1) := by decide +kernel
theorem dX8_steps_5 : decode cX8_steps 5 = .ok (.isub, 1) := by decide +kernel
theorem dX8_steps_6 : decode cX8_steps 6 = .ok (.istore_n 1, 1) := by decide +kernel
theorem dX8_steps_7 : decode cX8_steps 7 = .ok (.iload_n 1, 1) := by decide +kernel
theorem dX8_steps_8 : decode cX8_steps 8 = .ok (.ifCond .lt 26, 3) := by decide +kernel
theorem dX8_steps_11 : decode cX8_steps 11 = .ok (.aload_n 0, 1) := by decide +kernel
theorem dX8_steps_12 : decode cX8_steps 12 = .ok (.getfield 32, 3) := by decide +kernel
theorem dX8_steps_15 : decode cX8_steps 15 = .ok (.iload_n 1, 1) := by decide +kernel
theorem dX8_steps_16 : decode cX8_steps 16 = .ok (.iaload, 1) := by decide +kernel
theorem dX8_steps_17 : decode cX8_steps 17 = .ok (.aload_n 0, 1) := by decide +kernel
theorem dX8_steps_18 : decode cX8_steps 18 = .ok (.getfield 32, 3) := by decide +kernel
theorem dX8_steps_21 : decode cX8_steps 21 = .ok (.iload_n 1, 1) := by decide +kernel
theorem dX8_steps_22 : decode cX8_steps 22 = .ok (.iconst 1, 1) := by decide +kernel
theorem dX8_steps_23 : decode cX8_steps 23 = .ok (.iadd, 1) := by decide +kernel
theorem dX8_steps_24 : decode cX8_steps 24 = .ok (.iaload, 1) := by decide +kernel
theorem dX8_steps_25 : decode cX8_steps 25 = .ok (.if_icmp .le 9, 3) := by decide +kernel
theorem dX8_steps_28 : decode cX8_steps 28 = .ok (.iinc 1 (-1), 3) := by decide +kernel
theorem dX8_steps_31 : decode cX8_steps 31 = .ok (.goto (-24), 3) := by decide +kernel
theorem dX8_steps_34 : decode cX8_steps 34 = .ok (.iload_n 1, 1) := by decide +kernel
theorem dX8_steps_35 : decode cX8_steps 35 = .ok (.ifCond .ge 5, 3) := by decide +kernel
theorem dX8_steps_38 : decode cX8_steps 38 = .ok (.iconst 0, 1) := by decide +kernel
theorem dX8_steps_39 : decode cX8_steps 39 = .ok (.ireturn, 1) := by decide +kernel
theorem dX8_steps_40 : decode cX8_steps 40 = .ok (.aload_n 0, 1) := by decide +kernel
theorem dX8_steps_41 : decode cX8_steps 41 = .ok (.getfield 153, 3) := by decide +kernel
theorem dX8_steps_44 : decode cX8_steps 44 = .ok (.iconst 1, 1) := by decide +kernel
theorem dX8_steps_45 : decode cX8_steps 45 = .ok (.isub, 1) := by decide +kernel
theorem dX8_steps_46 : decode cX8_steps 46 = .ok (.istore_n 2, 1) := by decide +kernel
theorem dX8_steps_47 : decode cX8_steps 47 = .ok (.aload_n 0, 1) := by decide +kernel
theorem dX8_steps_48 : decode cX8_steps 48 = .ok (.getfield 32, 3) := by decide +kernel
theorem dX8_steps_51 : decode cX8_steps 51 = .ok (.iload_n 2, 1) := by decide +kernel
theorem dX8_steps_52 : decode cX8_steps 52 = .ok (.iaload, 1) := by decide +kernel
theorem dX8_steps_53 : decode cX8_steps 53 = .ok (.aload_n 0, 1) := by decide +kernel
theorem dX8_steps_54 : decode cX8_steps 54 = .ok (.getfield 32, 3) := by decide +kernel
theorem dX8_steps_57 : decode cX8_steps 57 = .ok (.iload_n 1, 1) := by decide +kernel
theorem dX8_steps_58 : decode cX8_steps 58 = .ok (.iaload, 1) := by decide +kernel
theorem dX8_steps_59 : decode cX8_steps 59 = .ok (.if_icmp .ge 9, 3) := by decide +kernel
theorem dX8_steps_62 : decode cX8_steps 62 = .ok (.iinc 2 (-1), 3) := by decide +kernel
theorem dX8_steps_65 : decode cX8_steps 65 = .ok (.goto (-18), 3) := by decide +kernel
theorem dX8_steps_68 : decode cX8_steps 68 = .ok (.aload_n 0, 1) := by decide +kernel
theorem dX8_steps_69 : decode cX8_steps 69 = .ok (.iload_n 1, 1) := by decide +kernel
theorem dX8_steps_70 : decode cX8_steps 70 = .ok (.iload_n 2, 1) := by decide +kernel
theorem dX8_steps_71 : decode cX8_steps 71 = .ok (.invokevirtual 156, 3) := by decide +kernel
theorem dX8_steps_74 : decode cX8_steps 74 = .ok (.iload_n 1, 1) := by decide +kernel
theorem dX8_steps_75 : decode cX8_steps 75 = .ok (.iconst 1, 1) := by decide +kernel
theorem dX8_steps_76 : decode cX8_steps 76 = .ok (.iadd, 1) := by decide +kernel
theorem dX8_steps_77 : decode cX8_steps 77 = .ok (.istore_n 3, 1) := by decide +kernel
theorem dX8_steps_78 : decode cX8_steps 78 = .ok (.aload_n 0, 1) := by decide +kernel
theorem dX8_steps_79 : decode cX8_steps 79 = .ok (.getfield 153, 3) := by decide +kernel
theorem dX8_steps_82 : decode cX8_steps 82 = .ok (.iconst 1, 1) := by decide +kernel
theorem dX8_steps_83 : decode cX8_steps 83 = .ok (.isub, 1) := by decide +kernel
theorem dX8_steps_84 : decode cX8_steps 84 = .ok (.istore 4, 2) := by decide +kernel
theorem dX8_steps_86 : decode cX8_steps 86 = .ok (.iload_n 3, 1) := by decide +kernel
theorem dX8_steps_87 : decode cX8_steps 87 = .ok (.iload 4, 2) := by decide +kernel
theorem dX8_steps_89 : decode cX8_steps 89 = .ok (.if_icmp .ge 19, 3) := by decide +kernel
theorem dX8_steps_92 : decode cX8_steps 92 = .ok (.aload_n 0, 1) := by decide +kernel
theorem dX8_steps_93 : decode cX8_steps 93 = .ok (.iload_n 3, 1) := by decide +kernel
theorem dX8_steps_94 : decode cX8_steps 94 = .ok (.iload 4, 2) := by decide +kernel
theorem dX8_steps_96 : decode cX8_steps 96 = .ok (.invokevirtual 156, 3) := by decide +kernel
theorem dX8_steps_99 : decode cX8_steps 99 = .ok (.iinc 3 1, 3) := by decide +kernel
theorem dX8_steps_102 : decode cX8_steps 102 = .ok (.iinc 4 (-1), 3) := by decide +kernel
theorem dX8_steps_105 : decode cX8_steps 105 = .ok (.goto (-19), 3) := by decide +kernel
theorem dX8_steps_108 : decode cX8_steps 108 = .ok (.iconst 1, 1) := by decide +kernel
theorem dX8_steps_109 : decode cX8_steps 109 = .ok (.ireturn, 1) := by decide +kernel
theorem dX8_changes_0 : decode cX8_changes 0 = .ok (.aload_n 0, 1) := by decide +kernel
theorem dX8_changes_1 : decode cX8_changes 1 = .ok (.getfield 32, 3) := by decide +kernel
theorem dX8_changes_4 : decode cX8_changes 4 = .ok (.iload_n 1, 1) := by decide +kernel
theorem dX8_changes_5 : decode cX8_changes 5 = .ok (.iaload, 1) := by decide +kernel
theorem dX8_changes_6 : decode cX8_changes 6 = .ok (.istore_n 3, 1) := by decide +kernel
theorem dX8_changes_7 : decode cX8_changes 7 = .ok (.aload_n 0, 1) := by decide +kernel
theorem dX8_changes_8 : decode cX8_changes 8 = .ok (.getfield 32, 3) := by decide +kernel
theorem dX8_changes_11 : decode cX8_changes 11 = .ok (.iload_n 1, 1) := by decide +kernel
theorem dX8_changes_12 : decode cX8_changes 12 = .ok (.aload_n 0, 1) := by decide +kernel
theorem dX8_changes_13 : decode cX8_changes 13 = .ok (.getfield 32, 3) := by decide +kernel
theorem dX8_changes_16 : decode cX8_changes 16 = .ok (.iload_n 2, 1) := by decide +kernel
theorem dX8_changes_17 : decode cX8_changes 17 = .ok (.iaload, 1) := by decide +kernel
theorem dX8_changes_18 : decode cX8_changes 18 = .ok (.iastore, 1) := by decide +kernel
theorem dX8_changes_19 : decode cX8_changes 19 = .ok (.aload_n 0, 1) := by decide +kernel
theorem dX8_changes_20 : decode cX8_changes 20 = .ok (.getfield 32, 3) := by decide +kernel
theorem dX8_changes_23 : decode cX8_changes 23 = .ok (.iload_n 2, 1) := by decide +kernel
theorem dX8_changes_24 : decode cX8_changes 24 = .ok (.iload_n 3, 1) := by decide +kernel
theorem dX8_changes_25 : decode cX8_changes 25 = .ok (.iastore, 1) := by decide +kernel
theorem dX8_changes_26 : decode cX8_changes 26 = .ok (.return_, 1) := by decide +kernel
set_option maxRecDepth 20000 in
theorem ggX8_farBy_X8_last : GoodIn wsX8_farBy wsX8_last := goodIn_r _ [7, 8, 17, 18, 19, 20, 21, 22, 23, 24, 25, 26, 27, 28, 29, 30, 31, 32, 33, 34, 35, 36, 37, 38, 39] (by decide +kernel) (by decide +kernel)
set_option maxRecDepth 20000 in
theorem gX8_farBy_X8_last : GoodIn wsX8_farBy (wsV RX8 133 RX8 yX8_last wsX8_last) := goodIn_app (goodIn_of _ (by decide +kernel)) ggX8_farBy_X8_last
set_option maxRecDepth 20000 in
theorem ggX8_farBy_X8_toneBy : GoodIn wsX8_farBy wsX8_toneBy := goodIn_r _ [12, 13, 17, 18, 19, 20, 21, 22, 23, 24, 25, 26, 27, 28, 29, 30, 31, 32, 33, 34, 35, 36, 37, 38, 39] (by decide +kernel) (by decide +kernel)
set_option maxRecDepth 20000 in
theorem gX8_farBy_X8_toneBy : GoodIn wsX8_farBy (wsV RX8 125 RX8 yX8_toneBy wsX8_toneBy) := goodIn_app (goodIn_of _ (by decide +kernel)) ggX8_farBy_X8_toneBy
set_option maxRecDepth 20000 in
theorem ggX8_farBy_X8_size : GoodIn wsX8_farBy wsX8_size := goodIn_r _ [16] (by decide +kernel) (by decide +kernel)
set_option maxRecDepth 20000 in
theorem gX8_farBy_X8_size : GoodIn wsX8_farBy (va_wsS RX8 159 yX8_size wsX8_size) := goodIn_app (goodIn_of _ (by decide +kernel)) ggX8_farBy_X8_size
theorem dX8_farBy_0 : decode cX8_farBy 0 = .ok (.aload_n 0, 1) := by decide +kernel
theorem dX8_farBy_1 : decode cX8_farBy 1 = .ok (.invokevirtual 133, 3) := by decide +kernel
theorem dX8_farBy_4 : decode cX8_farBy 4 = .ok (.bipush 10, 2) := by decide +kernel
theorem dX8_farBy_6 : decode cX8_farBy 6 = .ok (.irem, 1) := by decide +kernel
theorem dX8_farBy_7 : decode cX8_farBy 7 = .ok (.istore_n 2, 1) := by decide +kernel
theorem dX8_farBy_8 : decode cX8_farBy 8 = .ok (.iload_n 2, 1) := by decide +kernel
theorem dX8_farBy_9 : decode cX8_farBy 9 = .ok (.istore_n 3, 1) := by decide +kernel
theorem dX8_farBy_10 : decode cX8_farBy 10 = .ok (.iconst 0, 1) := by decide +kernel
theorem dX8_farBy_11 : decode cX8_farBy 11 = .ok (.istore 4, 2) := by decide +kernel
theorem dX8_farBy_13 : decode cX8_farBy 13 = .ok (.iconst 0, 1) := by decide +kernel
theorem dX8_farBy_14 : decode cX8_farBy 14 = .ok (.istore 5, 2) := by decide +kernel
theorem dX8_farBy_16 : decode cX8_farBy 16 = .ok (.iload 5, 2) := by decide +kernel
theorem dX8_farBy_18 : decode cX8_farBy 18 = .ok (.aload_n 0, 1) := by decide +kernel
theorem dX8_farBy_19 : decode cX8_farBy 19 = .ok (.getfield 153, 3) := by decide +kernel
theorem dX8_farBy_22 : decode cX8_farBy 22 = .ok (.if_icmp .ge 46, 3) := by decide +kernel
theorem dX8_farBy_25 : decode cX8_farBy 25 = .ok (.aload_n 0, 1) := by decide +kernel
theorem dX8_farBy_26 : decode cX8_farBy 26 = .ok (.aload_n 0, 1) := by decide +kernel
theorem dX8_farBy_27 : decode cX8_farBy 27 = .ok (.getfield 32, 3) := by decide +kernel
theorem dX8_farBy_30 : decode cX8_farBy 30 = .ok (.iload 5, 2) := by decide +kernel
theorem dX8_farBy_32 : decode cX8_farBy 32 = .ok (.iaload, 1) := by decide +kernel
theorem dX8_farBy_33 : decode cX8_farBy 33 = .ok (.iload_n 3, 1) := by decide +kernel
theorem dX8_farBy_34 : decode cX8_farBy 34 = .ok (.invokevirtual 125, 3) := by decide +kernel
theorem dX8_farBy_37 : decode cX8_farBy 37 = .ok (.istore_n 3, 1) := by decide +kernel
theorem dX8_farBy_38 : decode cX8_farBy 38 = .ok (.iload_n 3, 1) := by decide +kernel
theorem dX8_farBy_39 : decode cX8_farBy 39 = .ok (.iload_n 2, 1) := by decide +kernel
theorem dX8_farBy_40 : decode cX8_farBy 40 = .ok (.isub, 1) := by decide +kernel
theorem dX8_farBy_41 : decode cX8_farBy 41 = .ok (.invokestatic 159, 3) := by decide +kernel
theorem dX8_farBy_44 : decode cX8_farBy 44 = .ok (.iload 4, 2) := by decide +kernel
theorem dX8_farBy_46 : decode cX8_farBy 46 = .ok (.if_icmp .le 12, 3) := by decide +kernel
theorem dX8_farBy_49 : decode cX8_farBy 49 = .ok (.iload_n 3, 1) := by decide +kernel
theorem dX8_farBy_50 : decode cX8_farBy 50 = .ok (.iload_n 2, 1) := by decide +kernel
theorem dX8_farBy_51 : decode cX8_farBy 51 = .ok (.isub, 1) := by decide +kernel
theorem dX8_farBy_52 : decode cX8_farBy 52 = .ok (.invokestatic 159, 3) := by decide +kernel
theorem dX8_farBy_55 : decode cX8_farBy 55 = .ok (.goto 5, 3) := by decide +kernel
theorem dX8_farBy_58 : decode cX8_farBy 58 = .ok (.iload 4, 2) := by decide +kernel
theorem dX8_farBy_60 : decode cX8_farBy 60 = .ok (.istore 4, 2) := by decide +kernel
theorem dX8_farBy_62 : decode cX8_farBy 62 = .ok (.iinc 5 1, 3) := by decide +kernel
theorem dX8_farBy_65 : decode cX8_farBy 65 = .ok (.goto (-49), 3) := by decide +kernel
theorem dX8_farBy_68 : decode cX8_farBy 68 = .ok (.iload_n 1, 1) := by decide +kernel
theorem dX8_farBy_69 : decode cX8_farBy 69 = .ok (.ifCond .ge 8, 3) := by decide +kernel
theorem dX8_farBy_72 : decode cX8_farBy 72 = .ok (.iload 4, 2) := by decide +kernel
theorem dX8_farBy_74 : decode cX8_farBy 74 = .ok (.goto 9, 3) := by decide +kernel
theorem dX8_farBy_77 : decode cX8_farBy 77 = .ok (.iload_n 3, 1) := by decide +kernel
theorem dX8_farBy_78 : decode cX8_farBy 78 = .ok (.iload_n 1, 1) := by decide +kernel
theorem dX8_farBy_79 : decode cX8_farBy 79 = .ok (.isub, 1) := by decide +kernel
theorem dX8_farBy_80 : decode cX8_farBy 80 = .ok (.invokestatic 159, 3) := by decide +kernel
theorem dX8_farBy_83 : decode cX8_farBy 83 = .ok (.ireturn, 1) := by decide +kernel
set_option maxRecDepth 20000 in
theorem ggX8_bestRow_X8_farBy : GoodIn wsX8_bestRow wsX8_farBy := goodIn_r _ [9, 1, 3, 10, 11, 12, 8, 13, 14, 15, 16, 17, 18, 19, 20, 21, 22, 31, 32, 33, 34, 35, 36, 37, 38, 39, 40, 41, 42, 43, 44, 45, 46, 47, 48, 49, 50, 51, 52, 53] (by decide +kernel) (by decide +kernel)
set_option maxRecDepth 20000 in
theorem gX8_bestRow_X8_farBy : GoodIn wsX8_bestRow (wsV RX8 162 RX8 yX8_farBy wsX8_farBy) := goodIn_app (goodIn_of _ (by decide +kernel)) ggX8_bestRow_X8_farBy
set_option maxRecDepth 20000 in
theorem ggX8_bestRow_X8_steps : GoodIn wsX8_bestRow wsX8_steps := goodIn_r _ [26, 1, 3, 27, 28, 29, 8, 30, 31, 32, 33, 34, 35, 36, 37, 38, 39, 40, 41, 42, 43, 44, 45, 46, 47, 48, 49, 50, 51, 52, 53] (by decide +kernel) (by decide +kernel)
set_option maxRecDepth 20000 in
theorem gX8_bestRow_X8_steps : GoodIn wsX8_bestRow (wsV RX8 165 RX8 yX8_steps wsX8_steps) := goodIn_app (goodIn_of _ (by decide +kernel)) ggX8_bestRow_X8_steps
theorem dX8_bestRow_0 : decode cX8_bestRow 0 = .ok (.aload_n 0, 1) := by decide +kernel
theorem dX8_bestRow_1 : decode cX8_bestRow 1 = .ok (.iconst 0, 1) := by decide +kernel
theorem dX8_bestRow_2 : decode cX8_bestRow 2 = .ok (.putfield 153, 3) := by decide +kernel
theorem dX8_bestRow_5 : decode cX8_bestRow 5 = .ok (.iconst 0, 1) := by decide +kernel
theorem dX8_bestRow_6 : decode cX8_bestRow 6 = .ok (.istore_n 3, 1) := by decide +kernel
theorem dX8_bestRow_7 : decode cX8_bestRow 7 = .ok (.iload_n 3, 1) := by decide +kernel
theorem dX8_bestRow_8 : decode cX8_bestRow 8 = .ok (.aload_n 0, 1) := by decide +kernel
theorem dX8_bestRow_9 : decode cX8_bestRow 9 = .ok (.getfield 112, 3) := by decide +kernel
theorem dX8_bestRow_12 : decode cX8_bestRow 12 = .ok (.if_icmp .ge 38, 3) := by decide +kernel
theorem dX8_bestRow_15 : decode cX8_bestRow 15 = .ok (.iload_n 1, 1) := by decide +kernel
theorem dX8_bestRow_16 : decode cX8_bestRow 16 = .ok (.iload_n 3, 1) := by decide +kernel
theorem dX8_bestRow_17 : decode cX8_bestRow 17 = .ok (.ishr, 1) := by decide +kernel
theorem dX8_bestRow_18 : decode cX8_bestRow 18 = .ok (.iconst 1, 1) := by decide +kernel
theorem dX8_bestRow_19 : decode cX8_bestRow 19 = .ok (.iand, 1) := by decide +kernel
theorem dX8_bestRow_20 : decode cX8_bestRow 20 = .ok (.iconst 1, 1) := by decide +kernel
theorem dX8_bestRow_21 : decode cX8_bestRow 21 = .ok (.if_icmp .ne 23, 3) := by decide +kernel
theorem dX8_bestRow_24 : decode cX8_bestRow 24 = .ok (.aload_n 0, 1) := by decide +kernel
theorem dX8_bestRow_25 : decode cX8_bestRow 25 = .ok (.getfield 32, 3) := by decide +kernel
theorem dX8_bestRow_28 : decode cX8_bestRow 28 = .ok (.aload_n 0, 1) := by decide +kernel
theorem dX8_bestRow_29 : decode cX8_bestRow 29 = .ok (.getfield 153, 3) := by decide +kernel
theorem dX8_bestRow_32 : decode cX8_bestRow 32 = .ok (.iload_n 3, 1) := by decide +kernel
theorem dX8_bestRow_33 : decode cX8_bestRow 33 = .ok (.iastore, 1) := by decide +kernel
theorem dX8_bestRow_34 : decode cX8_bestRow 34 = .ok (.aload_n 0, 1) := by decide +kernel
theorem dX8_bestRow_35 : decode cX8_bestRow 35 = .ok (.dup, 1) := by decide +kernel
theorem dX8_bestRow_36 : decode cX8_bestRow 36 = .ok (.getfield 153, 3) := by decide +kernel
theorem dX8_bestRow_39 : decode cX8_bestRow 39 = .ok (.iconst 1, 1) := by decide +kernel
theorem dX8_bestRow_40 : decode cX8_bestRow 40 = .ok (.iadd, 1) := by decide +kernel
theorem dX8_bestRow_41 : decode cX8_bestRow 41 = .ok (.putfield 153, 3) := by decide +kernel
theorem dX8_bestRow_44 : decode cX8_bestRow 44 = .ok (.iinc 3 1, 3) := by decide +kernel
theorem dX8_bestRow_47 : decode cX8_bestRow 47 = .ok (.goto (-40), 3) := by decide +kernel
theorem dX8_bestRow_50 : decode cX8_bestRow 50 = .ok (.bipush (-9), 2) := by decide +kernel
theorem dX8_bestRow_52 : decode cX8_bestRow 52 = .ok (.istore_n 3, 1) := by decide +kernel
theorem dX8_bestRow_53 : decode cX8_bestRow 53 = .ok (.iconst 1, 1) := by decide +kernel
theorem dX8_bestRow_54 : decode cX8_bestRow 54 = .ok (.istore 4, 2) := by decide +kernel
theorem dX8_bestRow_56 : decode cX8_bestRow 56 = .ok (.iload 4, 2) := by decide +kernel
theorem dX8_bestRow_58 : decode cX8_bestRow 58 = .ok (.ifCond .eq 66, 3) := by decide +kernel
theorem dX8_bestRow_61 : decode cX8_bestRow 61 = .ok (.aload_n 0, 1) := by decide +kernel
theorem dX8_bestRow_62 : decode cX8_bestRow 62 = .ok (.iload_n 2, 1) := by decide +kernel
theorem dX8_bestRow_63 : decode cX8_bestRow 63 = .ok (.invokevirtual 162, 3) := by decide +kernel
theorem dX8_bestRow_66 : decode cX8_bestRow 66 = .ok (.istore 5, 2) := by decide +kernel
theorem dX8_bestRow_68 : decode cX8_bestRow 68 = .ok (.iload_n 3, 1) := by decide +kernel
theorem dX8_bestRow_69 : decode cX8_bestRow 69 = .ok (.bipush (-9), 2) := by decide +kernel
theorem dX8_bestRow_71 : decode cX8_bestRow 71 = .ok (.if_icmp .eq 9, 3) := by decide +kernel
theorem dX8_bestRow_74 : decode cX8_bestRow 74 = .ok (.iload 5, 2) := by decide +kernel
theorem dX8_bestRow_76 : decode cX8_bestRow 76 = .ok (.iload_n 3, 1) := by decide +kernel
theorem dX8_bestRow_77 : decode cX8_bestRow 77 = .ok (.if_icmp .ge 38, 3) := by decide +kernel
theorem dX8_bestRow_80 : decode cX8_bestRow 80 = .ok (.iload 5, 2) := by decide +kernel
theorem dX8_bestRow_82 : decode cX8_bestRow 82 = .ok (.istore_n 3, 1) := by decide +kernel
theorem dX8_bestRow_83 : decode cX8_bestRow 83 = .ok (.iconst 0, 1) := by decide +kernel
theorem dX8_bestRow_84 : decode cX8_bestRow 84 = .ok (.istore 6, 2) := by decide +kernel
theorem dX8_bestRow_86 : decode cX8_bestRow 86 = .ok (.iload 6, 2) := by decide +kernel
theorem dX8_bestRow_88 : decode cX8_bestRow 88 = .ok (.aload_n 0, 1) := by decide +kernel
theorem dX8_bestRow_89 : decode cX8_bestRow 89 = .ok (.getfield 153, 3) := by decide +kernel
theorem dX8_bestRow_92 : decode cX8_bestRow 92 = .ok (.if_icmp .ge 23, 3) := by decide +kernel
theorem dX8_bestRow_95 : decode cX8_bestRow 95 = .ok (.aload_n 0, 1) := by decide +kernel
theorem dX8_bestRow_96 : decode cX8_bestRow 96 = .ok (.getfield 35, 3) := by decide +kernel
theorem dX8_bestRow_99 : decode cX8_bestRow 99 = .ok (.iload 6, 2) := by decide +kernel
theorem dX8_bestRow_101 : decode cX8_bestRow 101 = .ok (.aload_n 0, 1) := by decide +kernel
theorem dX8_bestRow_102 : decode cX8_bestRow 102 = .ok (.getfield 32, 3) := by decide +kernel
theorem dX8_bestRow_105 : decode cX8_bestRow 105 = .ok (.iload 6, 2) := by decide +kernel
theorem dX8_bestRow_107 : decode cX8_bestRow 107 = .ok (.iaload, 1) := by decide +kernel
theorem dX8_bestRow_108 : decode cX8_bestRow 108 = .ok (.iastore, 1) := by decide +kernel
theorem dX8_bestRow_109 : decode cX8_bestRow 109 = .ok (.iinc 6 1, 3) := by decide +kernel
theorem dX8_bestRow_112 : decode cX8_bestRow 112 = .ok (.goto (-26), 3) := by decide +kernel
theorem dX8_bestRow_115 : decode cX8_bestRow 115 = .ok (.aload_n 0, 1) := by decide +kernel
theorem dX8_bestRow_116 : decode cX8_bestRow 116 = .ok (.invokevirtual 165, 3) := by decide +kernel
theorem dX8_bestRow_119 : decode cX8_bestRow 119 = .ok (.istore 4, 2) := by decide +kernel
theorem dX8_bestRow_121 : decode cX8_bestRow 121 = .ok (.goto (-65), 3) := by decide +kernel
theorem dX8_bestRow_124 : decode cX8_bestRow 124 = .ok (.iload_n 3, 1) := by decide +kernel
theorem dX8_bestRow_125 : decode cX8_bestRow 125 = .ok (.ireturn, 1) := by decide +kernel
set_option maxRecDepth 20000 in
theorem ggX8_told_X8_bestRow : GoodIn wsX8_told wsX8_bestRow := goodIn_r _ [7, 1, 8, 9, 2, 10, 11, 12, 6, 13, 14, 15, 16, 17, 18, 19, 20, 21, 22, 23, 24, 25, 26, 27, 28, 29, 30, 31, 32, 33, 34, 35, 36, 37, 38, 39, 40, 41, 42, 43, 44, 45, 46, 47, 48, 49, 50, 51, 52, 53, 54, 55, 56, 57] (by decide +kernel) (by decide +kernel)
set_option maxRecDepth 20000 in
theorem gX8_told_X8_bestRow : GoodIn wsX8_told (wsV RX8 168 RX8 yX8_bestRow wsX8_bestRow) := goodIn_app (goodIn_of _ (by decide +kernel)) ggX8_told_X8_bestRow
theorem dX8_told_0 : decode cX8_told 0 = .ok (.aload_n 0, 1) := by decide +kernel
theorem dX8_told_1 : decode cX8_told 1 = .ok (.iload_n 1, 1) := by decide +kernel
theorem dX8_told_2 : decode cX8_told 2 = .ok (.iload_n 2, 1) := by decide +kernel
theorem dX8_told_3 : decode cX8_told 3 = .ok (.invokevirtual 168, 3) := by decide +kernel
theorem dX8_told_6 : decode cX8_told 6 = .ok (.istore 4, 2) := by decide +kernel
theorem dX8_told_8 : decode cX8_told 8 = .ok (.iload_n 3, 1) := by decide +kernel
theorem dX8_told_9 : decode cX8_told 9 = .ok (.ifCond .ge 8, 3) := by decide +kernel
theorem dX8_told_12 : decode cX8_told 12 = .ok (.iload 4, 2) := by decide +kernel
theorem dX8_told_14 : decode cX8_told 14 = .ok (.goto 22, 3) := by decide +kernel
theorem dX8_told_17 : decode cX8_told 17 = .ok (.iload_n 3, 1) := by decide +kernel
theorem dX8_told_18 : decode cX8_told 18 = .ok (.aload_n 0, 1) := by decide +kernel
theorem dX8_told_19 : decode cX8_told 19 = .ok (.getfield 153, 3) := by decide +kernel
theorem dX8_told_22 : decode cX8_told 22 = .ok (.if_icmp .ge 12, 3) := by decide +kernel
theorem dX8_told_25 : decode cX8_told 25 = .ok (.aload_n 0, 1) := by decide +kernel
theorem dX8_told_26 : decode cX8_told 26 = .ok (.getfield 35, 3) := by decide +kernel
theorem dX8_told_29 : decode cX8_told 29 = .ok (.iload_n 3, 1) := by decide +kernel
theorem dX8_told_30 : decode cX8_told 30 = .ok (.iaload, 1) := by decide +kernel
theorem dX8_told_31 : decode cX8_told 31 = .ok (.goto 5, 3) := by decide +kernel
theorem dX8_told_34 : decode cX8_told 34 = .ok (.bipush (-5), 2) := by decide +kernel
theorem dX8_told_36 : decode cX8_told 36 = .ok (.ireturn, 1) := by decide +kernel
set_option maxRecDepth 20000 in
theorem ggX8_areClerks_X8_in : GoodIn wsX8_areClerks wsX8_in := goodIn_r _ [5] (by decide +kernel) (by decide +kernel)
set_option maxRecDepth 20000 in
theorem gX8_areClerks_X8_in : GoodIn wsX8_areClerks (va_wsS RX8 46 yX8_in wsX8_in) := goodIn_app (goodIn_of _ (by decide +kernel)) ggX8_areClerks_X8_in
theorem dX8_areClerks_0 : decode cX8_areClerks 0 = .ok (.iload_n 1, 1) := by decide +kernel
theorem dX8_areClerks_1 : decode cX8_areClerks 1 = .ok (.iconst 0, 1) := by decide +kernel
theorem dX8_areClerks_2 : decode cX8_areClerks 2 = .ok (.iconst 1, 1) := by decide +kernel
theorem dX8_areClerks_3 : decode cX8_areClerks 3 = .ok (.aload_n 0, 1) := by decide +kernel
theorem dX8_areClerks_4 : decode cX8_areClerks 4 = .ok (.getfield 112, 3) := by decide +kernel
theorem dX8_areClerks_7 : decode cX8_areClerks 7 = .ok (.ishl, 1) := by decide +kernel
theorem dX8_areClerks_8 : decode cX8_areClerks 8 = .ok (.iconst 1, 1) := by decide +kernel
theorem dX8_areClerks_9 : decode cX8_areClerks 9 = .ok (.isub, 1) := by decide +kernel
theorem dX8_areClerks_10 : decode cX8_areClerks 10 = .ok (.invokestatic 46, 3) := by decide +kernel
theorem dX8_areClerks_13 : decode cX8_areClerks 13 = .ok (.ireturn, 1) := by decide +kernel
set_option maxRecDepth 20000 in
theorem ggX8_order_X8_areClerks : GoodIn wsX8_order wsX8_areClerks := goodIn_r _ [6, 7, 8, 9, 5, 10, 47, 48, 49, 50, 51, 52, 53, 54, 55, 56, 57, 58, 59, 60, 61, 62, 63, 64, 65, 66, 67, 68, 69] (by decide +kernel) (by decide +kernel)
set_option maxRecDepth 20000 in
theorem gX8_order_X8_areClerks : GoodIn wsX8_order (wsV RX8 171 RX8 yX8_areClerks wsX8_areClerks) := goodIn_app (goodIn_of _ (by decide +kernel)) ggX8_order_X8_areClerks
set_option maxRecDepth 20000 in
theorem ggX8_order_X8_in : GoodIn wsX8_order wsX8_in := goodIn_r _ [10] (by decide +kernel) (by decide +kernel)
set_option maxRecDepth 20000 in
theorem gX8_order_X8_in : GoodIn wsX8_order (va_wsS RX8 46 yX8_in wsX8_in) := goodIn_app (goodIn_of _ (by decide +kernel)) ggX8_order_X8_in
set_option maxRecDepth 20000 in
theorem ggX8_order_X8_told : GoodIn wsX8_order wsX8_told := goodIn_r _ [14, 15, 16, 17, 18, 19, 5, 20, 7, 21, 22, 23, 24, 25, 26, 27, 28, 29, 30, 31, 32, 33, 34, 35, 36, 37, 38, 39, 40, 41, 42, 43, 44, 45, 46, 47, 48, 49, 50, 51, 52, 53, 54, 55, 56, 57, 58, 59, 60, 61, 62, 63, 64, 65, 66, 67, 68, 69] (by decide +kernel) (by decide +kernel)
set_option maxRecDepth 20000 in
theorem gX8_order_X8_told : GoodIn wsX8_order (wsV RX8 174 RX8 yX8_told wsX8_told) := goodIn_app (goodIn_of _ (by decide +kernel)) ggX8_order_X8_told
theorem dX8_order_0 : decode cX8_order 0 = .ok (.aload_n 0, 1) := by decide +kernel
theorem dX8_order_1 : decode cX8_order 1 = .ok (.iconst 0, 1) := by decide +kernel
theorem dX8_order_2 : decode cX8_order 2 = .ok (.putfield 42, 3) := by decide +kernel
theorem dX8_order_5 : decode cX8_order 5 = .ok (.aload_n 0, 1) := by decide +kernel
theorem dX8_order_6 : decode cX8_order 6 = .ok (.iload_n 1, 1) := by decide +kernel
theorem dX8_order_7 : decode cX8_order 7 = .ok (.invokevirtual 171, 3) := by decide +kernel
theorem dX8_order_10 : decode cX8_order 10 = .ok (.ifCond .eq 18, 3) := by decide +kernel
theorem dX8_order_13 : decode cX8_order 13 = .ok (.iload_n 2, 1) := by decide +kernel
theorem dX8_order_14 : decode cX8_order 14 = .ok (.iconst 0, 1) := by decide +kernel
theorem dX8_order_15 : decode cX8_order 15 = .ok (.bipush 9, 2) := by decide +kernel
theorem dX8_order_17 : decode cX8_order 17 = .ok (.invokestatic 46, 3) := by decide +kernel
theorem dX8_order_20 : decode cX8_order 20 = .ok (.ifCond .eq 8, 3) := by decide +kernel
theorem dX8_order_23 : decode cX8_order 23 = .ok (.iload_n 3, 1) := by decide +kernel
theorem dX8_order_24 : decode cX8_order 24 = .ok (.iconst (-1), 1) := by decide +kernel
theorem dX8_order_25 : decode cX8_order 25 = .ok (.if_icmp .ge 7, 3) := by decide +kernel
theorem dX8_order_28 : decode cX8_order 28 = .ok (.iconst (-1), 1) := by decide +kernel
theorem dX8_order_29 : decode cX8_order 29 = .ok (.goto 10, 3) := by decide +kernel
theorem dX8_order_32 : decode cX8_order 32 = .ok (.aload_n 0, 1) := by decide +kernel
theorem dX8_order_33 : decode cX8_order 33 = .ok (.iload_n 1, 1) := by decide +kernel
theorem dX8_order_34 : decode cX8_order 34 = .ok (.iload_n 2, 1) := by decide +kernel
theorem dX8_order_35 : decode cX8_order 35 = .ok (.iload_n 3, 1) := by decide +kernel
theorem dX8_order_36 : decode cX8_order 36 = .ok (.invokevirtual 174, 3) := by decide +kernel
theorem dX8_order_39 : decode cX8_order 39 = .ok (.ireturn, 1) := by decide +kernel
set_option maxRecDepth 20000 in
theorem ggX8_drift_X8_areClerks : GoodIn wsX8_drift wsX8_areClerks := goodIn_r _ [6, 7, 8, 9, 5, 10, 47, 48, 49, 50, 51, 52, 53, 54, 55, 56, 57, 58, 59, 60, 61, 62, 63, 64, 65, 66, 67, 68, 69] (by decide +kernel) (by decide +kernel)
set_option maxRecDepth 20000 in
theorem gX8_drift_X8_areClerks : GoodIn wsX8_drift (wsV RX8 171 RX8 yX8_areClerks wsX8_areClerks) := goodIn_app (goodIn_of _ (by decide +kernel)) ggX8_drift_X8_areClerks
set_option maxRecDepth 20000 in
theorem ggX8_drift_X8_told : GoodIn wsX8_drift wsX8_told := goodIn_r _ [14, 15, 16, 17, 18, 19, 5, 20, 7, 21, 22, 23, 24, 25, 26, 27, 28, 29, 30, 31, 32, 33, 34, 35, 36, 37, 38, 39, 40, 41, 42, 43, 44, 45, 46, 47, 48, 49, 50, 51, 52, 53, 54, 55, 56, 57, 58, 59, 60, 61, 62, 63, 64, 65, 66, 67, 68, 69] (by decide +kernel) (by decide +kernel)
set_option maxRecDepth 20000 in
theorem gX8_drift_X8_told : GoodIn wsX8_drift (wsV RX8 174 RX8 yX8_told wsX8_told) := goodIn_app (goodIn_of _ (by decide +kernel)) ggX8_drift_X8_told
theorem dX8_drift_0 : decode cX8_drift 0 = .ok (.aload_n 0, 1) := by decide +kernel
theorem dX8_drift_1 : decode cX8_drift 1 = .ok (.iconst 0, 1) := by decide +kernel
theorem dX8_drift_2 : decode cX8_drift 2 = .ok (.putfield 42, 3) := by decide +kernel
theorem dX8_drift_5 : decode cX8_drift 5 = .ok (.aload_n 0, 1) := by decide +kernel
theorem dX8_drift_6 : decode cX8_drift 6 = .ok (.iload_n 1, 1) := by decide +kernel
theorem dX8_drift_7 : decode cX8_drift 7 = .ok (.invokevirtual 171, 3) := by decide +kernel
theorem dX8_drift_10 : decode cX8_drift 10 = .ok (.ifCond .eq 8, 3) := by decide +kernel
theorem dX8_drift_13 : decode cX8_drift 13 = .ok (.iload_n 2, 1) := by decide +kernel
theorem dX8_drift_14 : decode cX8_drift 14 = .ok (.iconst (-1), 1) := by decide +kernel
theorem dX8_drift_15 : decode cX8_drift 15 = .ok (.if_icmp .ge 7, 3) := by decide +kernel
theorem dX8_drift_18 : decode cX8_drift 18 = .ok (.iconst (-1), 1) := by decide +kernel
theorem dX8_drift_19 : decode cX8_drift 19 = .ok (.goto 10, 3) := by decide +kernel
theorem dX8_drift_22 : decode cX8_drift 22 = .ok (.aload_n 0, 1) := by decide +kernel
theorem dX8_drift_23 : decode cX8_drift 23 = .ok (.iload_n 1, 1) := by decide +kernel
theorem dX8_drift_24 : decode cX8_drift 24 = .ok (.iconst (-1), 1) := by decide +kernel
theorem dX8_drift_25 : decode cX8_drift 25 = .ok (.iload_n 2, 1) := by decide +kernel
theorem dX8_drift_26 : decode cX8_drift 26 = .ok (.invokevirtual 174, 3) := by decide +kernel
theorem dX8_drift_29 : decode cX8_drift 29 = .ok (.ireturn, 1) := by decide +kernel
set_option maxRecDepth 20000 in
theorem ggX8_sign_X8_in : GoodIn wsX8_sign wsX8_in := goodIn_r _ [7] (by decide +kernel) (by decide +kernel)
set_option maxRecDepth 20000 in
theorem gX8_sign_X8_in : GoodIn wsX8_sign (va_wsS RX8 46 yX8_in wsX8_in) := goodIn_app (goodIn_of _ (by decide +kernel)) ggX8_sign_X8_in
theorem dX8_sign_0 : decode cX8_sign 0 = .ok (.aload_n 0, 1) := by decide +kernel
theorem dX8_sign_1 : decode cX8_sign 1 = .ok (.iconst 0, 1) := by decide +kernel
theorem dX8_sign_2 : decode cX8_sign 2 = .ok (.putfield 42, 3) := by decide +kernel
theorem dX8_sign_5 : decode cX8_sign 5 = .ok (.iload_n 1, 1) := by decide +kernel
theorem dX8_sign_6 : decode cX8_sign 6 = .ok (.iconst 0, 1) := by decide +kernel
theorem dX8_sign_7 : decode cX8_sign 7 = .ok (.bipush 9, 2) := by decide +kernel
theorem dX8_sign_9 : decode cX8_sign 9 = .ok (.invokestatic 46, 3) := by decide +kernel
theorem dX8_sign_12 : decode cX8_sign 12 = .ok (.ifCond .eq 34, 3) := by decide +kernel
theorem dX8_sign_15 : decode cX8_sign 15 = .ok (.iload_n 2, 1) := by decide +kernel
theorem dX8_sign_16 : decode cX8_sign 16 = .ok (.iconst 0, 1) := by decide +kernel
theorem dX8_sign_17 : decode cX8_sign 17 = .ok (.bipush 7, 2) := by decide +kernel
theorem dX8_sign_19 : decode cX8_sign 19 = .ok (.invokestatic 46, 3) := by decide +kernel
theorem dX8_sign_22 : decode cX8_sign 22 = .ok (.ifCond .eq 24, 3) := by decide +kernel
theorem dX8_sign_25 : decode cX8_sign 25 = .ok (.iload_n 3, 1) := by decide +kernel
theorem dX8_sign_26 : decode cX8_sign 26 = .ok (.iconst 0, 1) := by decide +kernel
theorem dX8_sign_27 : decode cX8_sign 27 = .ok (.bipush 9, 2) := by decide +kernel
theorem dX8_sign_29 : decode cX8_sign 29 = .ok (.invokestatic 46, 3) := by decide +kernel
theorem dX8_sign_32 : decode cX8_sign 32 = .ok (.ifCond .eq 14, 3) := by decide +kernel
theorem dX8_sign_35 : decode cX8_sign 35 = .ok (.iload 4, 2) := by decide +kernel
theorem dX8_sign_37 : decode cX8_sign 37 = .ok (.iconst 0, 1) := by decide +kernel
theorem dX8_sign_38 : decode cX8_sign 38 = .ok (.bipush 7, 2) := by decide +kernel
theorem dX8_sign_40 : decode cX8_sign 40 = .ok (.invokestatic 46, 3) := by decide +kernel
theorem dX8_sign_43 : decode cX8_sign 43 = .ok (.ifCond .ne 5, 3) := by decide +kernel
theorem dX8_sign_46 : decode cX8_sign 46 = .ok (.iconst (-1), 1) := by decide +kernel
theorem dX8_sign_47 : decode cX8_sign 47 = .ok (.ireturn, 1) := by decide +kernel
theorem dX8_sign_48 : decode cX8_sign 48 = .ok (.aload_n 0, 1) := by decide +kernel
theorem dX8_sign_49 : decode cX8_sign 49 = .ok (.getfield 115, 3) := by decide +kernel
theorem dX8_sign_52 : decode cX8_sign 52 = .ok (.bipush 8, 2) := by decide +kernel
theorem dX8_sign_54 : decode cX8_sign 54 = .ok (.if_icmp .ne 6, 3) := by decide +kernel
theorem dX8_sign_57 : decode cX8_sign 57 = .ok (.bipush (-3), 2) := by decide +kernel
theorem dX8_sign_59 : decode cX8_sign 59 = .ok (.ireturn, 1) := by decide +kernel
theorem dX8_sign_60 : decode cX8_sign 60 = .ok (.aload_n 0, 1) := by decide +kernel
theorem dX8_sign_61 : decode cX8_sign 61 = .ok (.getfield 26, 3) := by decide +kernel
theorem dX8_sign_64 : decode cX8_sign 64 = .ok (.iconst 2, 1) := by decide +kernel
theorem dX8_sign_65 : decode cX8_sign 65 = .ok (.aload_n 0, 1) := by decide +kernel
theorem dX8_sign_66 : decode cX8_sign 66 = .ok (.getfield 115, 3) := by decide +kernel
theorem dX8_sign_69 : decode cX8_sign 69 = .ok (.imul, 1) := by decide +kernel
theorem dX8_sign_70 : decode cX8_sign 70 = .ok (.iload_n 1, 1) := by decide +kernel
theorem dX8_sign_71 : decode cX8_sign 71 = .ok (.bipush 10, 2) := by decide +kernel
theorem dX8_sign_73 : decode cX8_sign 73 = .ok (.iload_n 2, 1) := by decide +kernel
theorem dX8_sign_74 : decode cX8_sign 74 = .ok (.imul, 1) := by decide +kernel
theorem dX8_sign_75 : decode cX8_sign 75 = .ok (.iadd, 1) := by decide +kernel
theorem dX8_sign_76 : decode cX8_sign 76 = .ok (.iastore, 1) := by decide +kernel
theorem dX8_sign_77 : decode cX8_sign 77 = .ok (.aload_n 0, 1) := by decide +kernel
theorem dX8_sign_78 : decode cX8_sign 78 = .ok (.getfield 26, 3) := by decide +kernel
theorem dX8_sign_81 : decode cX8_sign 81 = .ok (.iconst 2, 1) := by decide +kernel
theorem dX8_sign_82 : decode cX8_sign 82 = .ok (.aload_n 0, 1) := by decide +kernel
theorem dX8_sign_83 : decode cX8_sign 83 = .ok (.getfield 115, 3) := by decide +kernel
theorem dX8_sign_86 : decode cX8_sign 86 = .ok (.imul, 1) := by decide +kernel
theorem dX8_sign_87 : decode cX8_sign 87 = .ok (.iconst 1, 1) := by decide +kernel
theorem dX8_sign_88 : decode cX8_sign 88 = .ok (.iadd, 1) := by decide +kernel
theorem dX8_sign_89 : decode cX8_sign 89 = .ok (.iload_n 3, 1) := by decide +kernel
theorem dX8_sign_90 : decode cX8_sign 90 = .ok (.bipush 10, 2) := by decide +kernel
theorem dX8_sign_92 : decode cX8_sign 92 = .ok (.iload 4, 2) := by decide +kernel
theorem dX8_sign_94 : decode cX8_sign 94 = .ok (.imul, 1) := by decide +kernel
theorem dX8_sign_95 : decode cX8_sign 95 = .ok (.iadd, 1) := by decide +kernel
theorem dX8_sign_96 : decode cX8_sign 96 = .ok (.iastore, 1) := by decide +kernel
theorem dX8_sign_97 : decode cX8_sign 97 = .ok (.aload_n 0, 1) := by decide +kernel
theorem dX8_sign_98 : decode cX8_sign 98 = .ok (.dup, 1) := by decide +kernel
theorem dX8_sign_99 : decode cX8_sign 99 = .ok (.getfield 115, 3) := by decide +kernel
theorem dX8_sign_102 : decode cX8_sign 102 = .ok (.iconst 1, 1) := by decide +kernel
theorem dX8_sign_103 : decode cX8_sign 103 = .ok (.iadd, 1) := by decide +kernel
theorem dX8_sign_104 : decode cX8_sign 104 = .ok (.putfield 115, 3) := by decide +kernel
theorem dX8_sign_107 : decode cX8_sign 107 = .ok (.aload_n 0, 1) := by decide +kernel
theorem dX8_sign_108 : decode cX8_sign 108 = .ok (.getfield 115, 3) := by decide +kernel
theorem dX8_sign_111 : decode cX8_sign 111 = .ok (.ireturn, 1) := by decide +kernel
theorem dX8_fitsLean_0 : decode cX8_fitsLean 0 = .ok (.iconst 1, 1) := by decide +kernel
theorem dX8_fitsLean_1 : decode cX8_fitsLean 1 = .ok (.istore_n 2, 1) := by decide +kernel
theorem dX8_fitsLean_2 : decode cX8_fitsLean 2 = .ok (.iconst 0, 1) := by decide +kernel
theorem dX8_fitsLean_3 : decode cX8_fitsLean 3 = .ok (.istore_n 3, 1) := by decide +kernel
theorem dX8_fitsLean_4 : decode cX8_fitsLean 4 = .ok (.iload_n 3, 1) := by decide +kernel
theorem dX8_fitsLean_5 : decode cX8_fitsLean 5 = .ok (.aload_n 0, 1) := by decide +kernel
theorem dX8_fitsLean_6 : decode cX8_fitsLean 6 = .ok (.getfield 115, 3) := by decide +kernel
theorem dX8_fitsLean_9 : decode cX8_fitsLean 9 = .ok (.if_icmp .ge 79, 3) := by decide +kernel
theorem dX8_fitsLean_12 : decode cX8_fitsLean 12 = .ok (.aload_n 0, 1) := by decide +kernel
theorem dX8_fitsLean_13 : decode cX8_fitsLean 13 = .ok (.getfield 26, 3) := by decide +kernel
theorem dX8_fitsLean_16 : decode cX8_fitsLean 16 = .ok (.iconst 2, 1) := by decide +kernel
theorem dX8_fitsLean_17 : decode cX8_fitsLean 17 = .ok (.iload_n 3, 1) := by decide +kernel
theorem dX8_fitsLean_18 : decode cX8_fitsLean 18 = .ok (.imul, 1) := by decide +kernel
theorem dX8_fitsLean_19 : decode cX8_fitsLean 19 = .ok (.iaload, 1) := by decide +kernel
theorem dX8_fitsLean_20 : decode cX8_fitsLean 20 = .ok (.bipush 10, 2) := by decide +kernel
theorem dX8_fitsLean_22 : decode cX8_fitsLean 22 = .ok (.irem, 1) := by decide +kernel
theorem dX8_fitsLean_23 : decode cX8_fitsLean 23 = .ok (.iload_n 1, 1) := by decide +kernel
theorem dX8_fitsLean_24 : decode cX8_fitsLean 24 = .ok (.iadd, 1) := by decide +kernel
theorem dX8_fitsLean_25 : decode cX8_fitsLean 25 = .ok (.iconst 4, 1) := by decide +kernel
theorem dX8_fitsLean_26 : decode cX8_fitsLean 26 = .ok (.isub, 1) := by decide +kernel
theorem dX8_fitsLean_27 : decode cX8_fitsLean 27 = .ok (.istore 4, 2) := by decide +kernel
theorem dX8_fitsLean_29 : decode cX8_fitsLean 29 = .ok (.iload 4, 2) := by decide +kernel
theorem dX8_fitsLean_31 : decode cX8_fitsLean 31 = .ok (.ifCond .ge 7, 3) := by decide +kernel
theorem dX8_fitsLean_34 : decode cX8_fitsLean 34 = .ok (.iconst 0, 1) := by decide +kernel
theorem dX8_fitsLean_35 : decode cX8_fitsLean 35 = .ok (.goto 17, 3) := by decide +kernel
theorem dX8_fitsLean_38 : decode cX8_fitsLean 38 = .ok (.iload 4, 2) := by decide +kernel
theorem dX8_fitsLean_40 : decode cX8_fitsLean 40 = .ok (.bipush 9, 2) := by decide +kernel
theorem dX8_fitsLean_42 : decode cX8_fitsLean 42 = .ok (.if_icmp .le 8, 3) := by decide +kernel
theorem dX8_fitsLean_45 : decode cX8_fitsLean 45 = .ok (.bipush 9, 2) := by decide +kernel
theorem dX8_fitsLean_47 : decode cX8_fitsLean 47 = .ok (.goto 5, 3) := by decide +kernel
theorem dX8_fitsLean_50 : decode cX8_fitsLean 50 = .ok (.iload 4, 2) := by decide +kernel
theorem dX8_fitsLean_52 : decode cX8_fitsLean 52 = .ok (.istore 4, 2) := by decide +kernel
theorem dX8_fitsLean_54 : decode cX8_fitsLean 54 = .ok (.iload_n 2, 1) := by decide +kernel
theorem dX8_fitsLean_55 : decode cX8_fitsLean 55 = .ok (.ifCond .eq 25, 3) := by decide +kernel
theorem dX8_fitsLean_58 : decode cX8_fitsLean 58 = .ok (.iload 4, 2) := by decide +kernel
theorem dX8_fitsLean_60 : decode cX8_fitsLean 60 = .ok (.aload_n 0, 1) := by decide +kernel
theorem dX8_fitsLean_61 : decode cX8_fitsLean 61 = .ok (.getfield 26, 3) := by decide +kernel
theorem dX8_fitsLean_64 : decode cX8_fitsLean 64 = .ok (.iconst 2, 1) := by decide +kernel
theorem dX8_fitsLean_65 : decode cX8_fitsLean 65 = .ok (.iload_n 3, 1) := by decide +kernel
theorem dX8_fitsLean_66 : decode cX8_fitsLean 66 = .ok (.imul, 1) := by decide +kernel
theorem dX8_fitsLean_67 : decode cX8_fitsLean 67 = .ok (.iconst 1, 1) := by decide +kernel
theorem dX8_fitsLean_68 : decode cX8_fitsLean 68 = .ok (.iadd, 1) := by decide +kernel
theorem dX8_fitsLean_69 : decode cX8_fitsLean 69 = .ok (.iaload, 1) := by decide +kernel
theorem dX8_fitsLean_70 : decode cX8_fitsLean 70 = .ok (.bipush 10, 2) := by decide +kernel
theorem dX8_fitsLean_72 : decode cX8_fitsLean 72 = .ok (.irem, 1) := by decide +kernel
theorem dX8_fitsLean_73 : decode cX8_fitsLean 73 = .ok (.if_icmp .ne 7, 3) := by decide +kernel
theorem dX8_fitsLean_76 : decode cX8_fitsLean 76 = .ok (.iconst 1, 1) := by decide +kernel
theorem dX8_fitsLean_77 : decode cX8_fitsLean 77 = .ok (.goto 4, 3) := by decide +kernel
theorem dX8_fitsLean_80 : decode cX8_fitsLean 80 = .ok (.iconst 0, 1) := by decide +kernel
theorem dX8_fitsLean_81 : decode cX8_fitsLean 81 = .ok (.istore_n 2, 1) := by decide +kernel
theorem dX8_fitsLean_82 : decode cX8_fitsLean 82 = .ok (.iinc 3 1, 3) := by decide +kernel
theorem dX8_fitsLean_85 : decode cX8_fitsLean 85 = .ok (.goto (-81), 3) := by decide +kernel
theorem dX8_fitsLean_88 : decode cX8_fitsLean 88 = .ok (.iload_n 2, 1) := by decide +kernel
theorem dX8_fitsLean_89 : decode cX8_fitsLean 89 = .ok (.ireturn, 1) := by decide +kernel
theorem dX8_marksBy_0 : decode cX8_marksBy 0 = .ok (.bipush 7, 2) := by decide +kernel
theorem dX8_marksBy_2 : decode cX8_marksBy 2 = .ok (.istore_n 2, 1) := by decide +kernel
theorem dX8_marksBy_3 : decode cX8_marksBy 3 = .ok (.iconst 0, 1) := by decide +kernel
theorem dX8_marksBy_4 : decode cX8_marksBy 4 = .ok (.istore_n 3, 1) := by decide +kernel
theorem dX8_marksBy_5 : decode cX8_marksBy 5 = .ok (.iload_n 3, 1) := by decide +kernel
theorem dX8_marksBy_6 : decode cX8_marksBy 6 = .ok (.aload_n 0, 1) := by decide +kernel
theorem dX8_marksBy_7 : decode cX8_marksBy 7 = .ok (.getfield 115, 3) := by decide +kernel
theorem dX8_marksBy_10 : decode cX8_marksBy 10 = .ok (.if_icmp .ge 68, 3) := by decide +kernel
theorem dX8_marksBy_13 : decode cX8_marksBy 13 = .ok (.aload_n 0, 1) := by decide +kernel
theorem dX8_marksBy_14 : decode cX8_marksBy 14 = .ok (.getfield 26, 3) := by decide +kernel
theorem dX8_marksBy_17 : decode cX8_marksBy 17 = .ok (.iconst 2, 1) := by decide +kernel
theorem dX8_marksBy_18 : decode cX8_marksBy 18 = .ok (.iload_n 3, 1) := by decide +kernel
theorem dX8_marksBy_19 : decode cX8_marksBy 19 = .ok (.imul, 1) := by decide +kernel
theorem dX8_marksBy_20 : decode cX8_marksBy 20 = .ok (.iaload, 1) := by decide +kernel
theorem dX8_marksBy_21 : decode cX8_marksBy 21 = .ok (.bipush 10, 2) := by decide +kernel
theorem dX8_marksBy_23 : decode cX8_marksBy 23 = .ok (.idiv, 1) := by decide +kernel
theorem dX8_marksBy_24 : decode cX8_marksBy 24 = .ok (.istore 4, 2) := by decide +kernel
theorem dX8_marksBy_26 : decode cX8_marksBy 26 = .ok (.aload_n 0, 1) := by decide +kernel
theorem dX8_marksBy_27 : decode cX8_marksBy 27 = .ok (.getfield 26, 3) := by decide +kernel
theorem dX8_marksBy_30 : decode cX8_marksBy 30 = .ok (.iconst 2, 1) := by decide +kernel
theorem dX8_marksBy_31 : decode cX8_marksBy 31 = .ok (.iload_n 3, 1) := by decide +kernel
theorem dX8_marksBy_32 : decode cX8_marksBy 32 = .ok (.imul, 1) := by decide +kernel
theorem dX8_marksBy_33 : decode cX8_marksBy 33 = .ok (.iconst 1, 1) := by decide +kernel
theorem dX8_marksBy_34 : decode cX8_marksBy 34 = .ok (.iadd, 1) := by decide +kernel
theorem dX8_marksBy_35 : decode cX8_marksBy 35 = .ok (.iaload, 1) := by decide +kernel
theorem dX8_marksBy_36 : decode cX8_marksBy 36 = .ok (.bipush 10, 2) := by decide +kernel
theorem dX8_marksBy_38 : decode cX8_marksBy 38 = .ok (.idiv, 1) := by decide +kernel
theorem dX8_marksBy_39 : decode cX8_marksBy 39 = .ok (.istore 5, 2) := by decide +kernel
theorem dX8_marksBy_41 : decode cX8_marksBy 41 = .ok (.iload_n 2, 1) := by decide +kernel
theorem dX8_marksBy_42 : decode cX8_marksBy 42 = .ok (.iload_n 1, 1) := by decide +kernel
theorem dX8_marksBy_43 : decode cX8_marksBy 43 = .ok (.ifCond .ne 8, 3) := by decide +kernel
theorem dX8_marksBy_46 : decode cX8_marksBy 46 = .ok (.iload 5, 2) := by decide +kernel
theorem dX8_marksBy_48 : decode cX8_marksBy 48 = .ok (.goto 22, 3) := by decide +kernel
theorem dX8_marksBy_51 : decode cX8_marksBy 51 = .ok (.iload_n 1, 1) := by decide +kernel
theorem dX8_marksBy_52 : decode cX8_marksBy 52 = .ok (.iconst 1, 1) := by decide +kernel
theorem dX8_marksBy_53 : decode cX8_marksBy 53 = .ok (.if_icmp .ne 10, 3) := by decide +kernel
theorem dX8_marksBy_56 : decode cX8_marksBy 56 = .ok (.iload 5, 2) := by decide +kernel
theorem dX8_marksBy_58 : decode cX8_marksBy 58 = .ok (.iconst (-1), 1) := by decide +kernel
theorem dX8_marksBy_59 : decode cX8_marksBy 59 = .ok (.ixor, 1) := by decide +kernel
theorem dX8_marksBy_60 : decode cX8_marksBy 60 = .ok (.goto 10, 3) := by decide +kernel
theorem dX8_marksBy_63 : decode cX8_marksBy 63 = .ok (.iload 4, 2) := by decide +kernel
theorem dX8_marksBy_65 : decode cX8_marksBy 65 = .ok (.iload 5, 2) := by decide +kernel
theorem dX8_marksBy_67 : decode cX8_marksBy 67 = .ok (.ixor, 1) := by decide +kernel
theorem dX8_marksBy_68 : decode cX8_marksBy 68 = .ok (.iconst (-1), 1) := by decide +kernel
theorem dX8_marksBy_69 : decode cX8_marksBy 69 = .ok (.ixor, 1) := by decide +kernel
theorem dX8_marksBy_70 : decode cX8_marksBy 70 = .ok (.iand, 1) := by decide +kernel
theorem dX8_marksBy_71 : decode cX8_marksBy 71 = .ok (.istore_n 2, 1) := by decide +kernel
theorem dX8_marksBy_72 : decode cX8_marksBy 72 = .ok (.iinc 3 1, 3) := by decide +kernel
theorem dX8_marksBy_75 : decode cX8_marksBy 75 = .ok (.goto (-70), 3) := by decide +kernel
theorem dX8_marksBy_78 : decode cX8_marksBy 78 = .ok (.iload_n 2, 1) := by decide +kernel
theorem dX8_marksBy_79 : decode cX8_marksBy 79 = .ok (.ireturn, 1) := by decide +kernel
set_option maxRecDepth 20000 in
theorem ggX8_learnt_X8_in : GoodIn wsX8_learnt wsX8_in := goodIn_r _ [5] (by decide +kernel) (by decide +kernel)
set_option maxRecDepth 20000 in
theorem gX8_learnt_X8_in : GoodIn wsX8_learnt (va_wsS RX8 46 yX8_in wsX8_in) := goodIn_app (goodIn_of _ (by decide +kernel)) ggX8_learnt_X8_in
set_option maxRecDepth 20000 in
theorem ggX8_learnt_X8_fitsLean : GoodIn wsX8_learnt wsX8_fitsLean := goodIn_r _ [9, 10, 11, 16, 17, 18, 19, 20, 21, 22, 23, 24, 25, 26, 27, 28, 29, 30, 31, 32, 33, 34, 35, 36, 37, 38] (by decide +kernel) (by decide +kernel)
set_option maxRecDepth 20000 in
theorem gX8_learnt_X8_fitsLean : GoodIn wsX8_learnt (wsV RX8 178 RX8 yX8_fitsLean wsX8_fitsLean) := goodIn_app (goodIn_of _ (by decide +kernel)) ggX8_learnt_X8_fitsLean
set_option maxRecDepth 20000 in
theorem ggX8_learnt_X8_marksBy : GoodIn wsX8_learnt wsX8_marksBy := goodIn_r _ [15, 10, 11, 16, 17, 18, 19, 20, 21, 22, 23, 24, 25, 26, 27, 28, 29, 30, 31, 32, 33, 34, 35, 36, 37, 38] (by decide +kernel) (by decide +kernel)
set_option maxRecDepth 20000 in
theorem gX8_learnt_X8_marksBy : GoodIn wsX8_learnt (wsV RX8 181 RX8 yX8_marksBy wsX8_marksBy) := goodIn_app (goodIn_of _ (by decide +kernel)) ggX8_learnt_X8_marksBy
theorem dX8_learnt_0 : decode cX8_learnt 0 = .ok (.aload_n 0, 1) := by decide +kernel
theorem dX8_learnt_1 : decode cX8_learnt 1 = .ok (.iconst 0, 1) := by decide +kernel
theorem dX8_learnt_2 : decode cX8_learnt 2 = .ok (.putfield 42, 3) := by decide +kernel
theorem dX8_learnt_5 : decode cX8_learnt 5 = .ok (.iload_n 1, 1) := by decide +kernel
theorem dX8_learnt_6 : decode cX8_learnt 6 = .ok (.iconst 0, 1) := by decide +kernel
theorem dX8_learnt_7 : decode cX8_learnt 7 = .ok (.iconst 5, 1) := by decide +kernel
theorem dX8_learnt_8 : decode cX8_learnt 8 = .ok (.invokestatic 46, 3) := by decide +kernel
theorem dX8_learnt_11 : decode cX8_learnt 11 = .ok (.ifCond .ne 5, 3) := by decide +kernel
theorem dX8_learnt_14 : decode cX8_learnt 14 = .ok (.iconst (-1), 1) := by decide +kernel
theorem dX8_learnt_15 : decode cX8_learnt 15 = .ok (.ireturn, 1) := by decide +kernel
theorem dX8_learnt_16 : decode cX8_learnt 16 = .ok (.bipush (-9), 2) := by decide +kernel
theorem dX8_learnt_18 : decode cX8_learnt 18 = .ok (.istore_n 2, 1) := by decide +kernel
theorem dX8_learnt_19 : decode cX8_learnt 19 = .ok (.bipush (-9), 2) := by decide +kernel
theorem dX8_learnt_21 : decode cX8_learnt 21 = .ok (.istore_n 3, 1) := by decide +kernel
theorem dX8_learnt_22 : decode cX8_learnt 22 = .ok (.iconst 0, 1) := by decide +kernel
theorem dX8_learnt_23 : decode cX8_learnt 23 = .ok (.istore 4, 2) := by decide +kernel
theorem dX8_learnt_25 : decode cX8_learnt 25 = .ok (.iload 4, 2) := by decide +kernel
theorem dX8_learnt_27 : decode cX8_learnt 27 = .ok (.bipush 9, 2) := by decide +kernel
theorem dX8_learnt_29 : decode cX8_learnt 29 = .ok (.if_icmp .ge 34, 3) := by decide +kernel
theorem dX8_learnt_32 : decode cX8_learnt 32 = .ok (.aload_n 0, 1) := by decide +kernel
theorem dX8_learnt_33 : decode cX8_learnt 33 = .ok (.iload 4, 2) := by decide +kernel
theorem dX8_learnt_35 : decode cX8_learnt 35 = .ok (.invokevirtual 178, 3) := by decide +kernel
theorem dX8_learnt_38 : decode cX8_learnt 38 = .ok (.ifCond .eq 19, 3) := by decide +kernel
theorem dX8_learnt_41 : decode cX8_learnt 41 = .ok (.iload_n 2, 1) := by decide +kernel
theorem dX8_learnt_42 : decode cX8_learnt 42 = .ok (.bipush (-9), 2) := by decide +kernel
theorem dX8_learnt_44 : decode cX8_learnt 44 = .ok (.if_icmp .ne 8, 3) := by decide +kernel
theorem dX8_learnt_47 : decode cX8_learnt 47 = .ok (.iload 4, 2) := by decide +kernel
theorem dX8_learnt_49 : decode cX8_learnt 49 = .ok (.goto 4, 3) := by decide +kernel
theorem dX8_learnt_52 : decode cX8_learnt 52 = .ok (.iload_n 2, 1) := by decide +kernel
theorem dX8_learnt_53 : decode cX8_learnt 53 = .ok (.istore_n 2, 1) := by decide +kernel
theorem dX8_learnt_54 : decode cX8_learnt 54 = .ok (.iload 4, 2) := by decide +kernel
theorem dX8_learnt_56 : decode cX8_learnt 56 = .ok (.istore_n 3, 1) := by decide +kernel
theorem dX8_learnt_57 : decode cX8_learnt 57 = .ok (.iinc 4 1, 3) := by decide +kernel
theorem dX8_learnt_60 : decode cX8_learnt 60 = .ok (.goto (-35), 3) := by decide +kernel
theorem dX8_learnt_63 : decode cX8_learnt 63 = .ok (.aload_n 0, 1) := by decide +kernel
theorem dX8_learnt_64 : decode cX8_learnt 64 = .ok (.iconst 0, 1) := by decide +kernel
theorem dX8_learnt_65 : decode cX8_learnt 65 = .ok (.invokevirtual 181, 3) := by decide +kernel
theorem dX8_learnt_68 : decode cX8_learnt 68 = .ok (.istore 4, 2) := by decide +kernel
theorem dX8_learnt_70 : decode cX8_learnt 70 = .ok (.aload_n 0, 1) := by decide +kernel
theorem dX8_learnt_71 : decode cX8_learnt 71 = .ok (.iconst 1, 1) := by decide +kernel
theorem dX8_learnt_72 : decode cX8_learnt 72 = .ok (.invokevirtual 181, 3) := by decide +kernel
theorem dX8_learnt_75 : decode cX8_learnt 75 = .ok (.istore 5, 2) := by decide +kernel
theorem dX8_learnt_77 : decode cX8_learnt 77 = .ok (.aload_n 0, 1) := by decide +kernel
theorem dX8_learnt_78 : decode cX8_learnt 78 = .ok (.iconst 2, 1) := by decide +kernel
theorem dX8_learnt_79 : decode cX8_learnt 79 = .ok (.invokevirtual 181, 3) := by decide +kernel
theorem dX8_learnt_82 : decode cX8_learnt 82 = .ok (.istore 6, 2) := by decide +kernel
theorem dX8_learnt_84 : decode cX8_learnt 84 = .ok (.iload_n 2, 1) := by decide +kernel
theorem dX8_learnt_85 : decode cX8_learnt 85 = .ok (.bipush (-9), 2) := by decide +kernel
theorem dX8_learnt_87 : decode cX8_learnt 87 = .ok (.if_icmp .eq 16, 3) := by decide +kernel
theorem dX8_learnt_90 : decode cX8_learnt 90 = .ok (.iload 4, 2) := by decide +kernel
theorem dX8_learnt_92 : decode cX8_learnt 92 = .ok (.iload 5, 2) := by decide +kernel
theorem dX8_learnt_94 : decode cX8_learnt 94 = .ok (.ior, 1) := by decide +kernel
theorem dX8_learnt_95 : decode cX8_learnt 95 = .ok (.iload 6, 2) := by decide +kernel
theorem dX8_learnt_97 : decode cX8_learnt 97 = .ok (.ior, 1) := by decide +kernel
theorem dX8_learnt_98 : decode cX8_learnt 98 = .ok (.bipush 7, 2) := by decide +kernel
theorem dX8_learnt_100 : decode cX8_learnt 100 = .ok (.if_icmp .eq 6, 3) := by decide +kernel
theorem dX8_learnt_103 : decode cX8_learnt 103 = .ok (.bipush (-9), 2) := by decide +kernel
theorem dX8_learnt_105 : decode cX8_learnt 105 = .ok (.ireturn, 1) := by decide +kernel
theorem dX8_learnt_106 : decode cX8_learnt 106 = .ok (.iload_n 1, 1) := by decide +kernel
theorem dX8_learnt_107 : decode cX8_learnt 107 = .ok (.ifCond .ne 7, 3) := by decide +kernel
theorem dX8_learnt_110 : decode cX8_learnt 110 = .ok (.iload_n 2, 1) := by decide +kernel
theorem dX8_learnt_111 : decode cX8_learnt 111 = .ok (.goto 64, 3) := by decide +kernel
theorem dX8_learnt_114 : decode cX8_learnt 114 = .ok (.iload_n 1, 1) := by decide +kernel
theorem dX8_learnt_115 : decode cX8_learnt 115 = .ok (.iconst 1, 1) := by decide +kernel
theorem dX8_learnt_116 : decode cX8_learnt 116 = .ok (.if_icmp .ne 7, 3) := by decide +kernel
theorem dX8_learnt_119 : decode cX8_learnt 119 = .ok (.iload_n 3, 1) := by decide +kernel
theorem dX8_learnt_120 : decode cX8_learnt 120 = .ok (.goto 55, 3) := by decide +kernel
theorem dX8_learnt_123 : decode cX8_learnt 123 = .ok (.iload_n 1, 1) := by decide +kernel
theorem dX8_learnt_124 : decode cX8_learnt 124 = .ok (.iconst 2, 1) := by decide +kernel
theorem dX8_learnt_125 : decode cX8_learnt 125 = .ok (.if_icmp .ne 18, 3) := by decide +kernel
theorem dX8_learnt_128 : decode cX8_learnt 128 = .ok (.iload 4, 2) := by decide +kernel
theorem dX8_learnt_130 : decode cX8_learnt 130 = .ok (.iload 5, 2) := by decide +kernel
theorem dX8_learnt_132 : decode cX8_learnt 132 = .ok (.iconst (-1), 1) := by decide +kernel
theorem dX8_learnt_133 : decode cX8_learnt 133 = .ok (.ixor, 1) := by decide +kernel
theorem dX8_learnt_134 : decode cX8_learnt 134 = .ok (.iand, 1) := by decide +kernel
theorem dX8_learnt_135 : decode cX8_learnt 135 = .ok (.iload 6, 2) := by decide +kernel
theorem dX8_learnt_137 : decode cX8_learnt 137 = .ok (.iconst (-1), 1) := by decide +kernel
theorem dX8_learnt_138 : decode cX8_learnt 138 = .ok (.ixor, 1) := by decide +kernel
theorem dX8_learnt_139 : decode cX8_learnt 139 = .ok (.iand, 1) := by decide +kernel
theorem dX8_learnt_140 : decode cX8_learnt 140 = .ok (.goto 35, 3) := by decide +kernel
theorem dX8_learnt_143 : decode cX8_learnt 143 = .ok (.iload_n 1, 1) := by decide +kernel
theorem dX8_learnt_144 : decode cX8_learnt 144 = .ok (.iconst 3, 1) := by decide +kernel
theorem dX8_learnt_145 : decode cX8_learnt 145 = .ok (.if_icmp .ne 18, 3) := by decide +kernel
theorem dX8_learnt_148 : decode cX8_learnt 148 = .ok (.iload 5, 2) := by decide +kernel
theorem dX8_learnt_150 : decode cX8_learnt 150 = .ok (.iload 4, 2) := by decide +kernel
theorem dX8_learnt_152 : decode cX8_learnt 152 = .ok (.iconst (-1), 1) := by decide +kernel
theorem dX8_learnt_153 : decode cX8_learnt 153 = .ok (.ixor, 1) := by decide +kernel
theorem dX8_learnt_154 : decode cX8_learnt 154 = .ok (.iand, 1) := by decide +kernel
theorem dX8_learnt_155 : decode cX8_learnt 155 = .ok (.iload 6, 2) := by decide +kernel
theorem dX8_learnt_157 : decode cX8_learnt 157 = .ok (.iconst (-1), 1) := by decide +kernel
theorem dX8_learnt_158 : decode cX8_learnt 158 = .ok (.ixor, 1) := by decide +kernel
theorem dX8_learnt_159 : decode cX8_learnt 159 = .ok (.iand, 1) := by decide +kernel
theorem dX8_learnt_160 : decode cX8_learnt 160 = .ok (.goto 15, 3) := by decide +kernel
theorem dX8_learnt_163 : decode cX8_learnt 163 = .ok (.iload_n 1, 1) := by decide +kernel
theorem dX8_learnt_164 : decode cX8_learnt 164 = .ok (.iconst 4, 1) := by decide +kernel
theorem dX8_learnt_165 : decode cX8_learnt 165 = .ok (.if_icmp .ne 8, 3) := by decide +kernel
theorem dX8_learnt_168 : decode cX8_learnt 168 = .ok (.iload 4, 2) := by decide +kernel
theorem dX8_learnt_170 : decode cX8_learnt 170 = .ok (.goto 5, 3) := by decide +kernel
theorem dX8_learnt_173 : decode cX8_learnt 173 = .ok (.iload 5, 2) := by decide +kernel
theorem dX8_learnt_175 : decode cX8_learnt 175 = .ok (.ireturn, 1) := by decide +kernel
theorem dX8_forget_0 : decode cX8_forget 0 = .ok (.aload_n 0, 1) := by decide +kernel
theorem dX8_forget_1 : decode cX8_forget 1 = .ok (.iconst 0, 1) := by decide +kernel
theorem dX8_forget_2 : decode cX8_forget 2 = .ok (.putfield 42, 3) := by decide +kernel
theorem dX8_forget_5 : decode cX8_forget 5 = .ok (.aload_n 0, 1) := by decide +kernel
theorem dX8_forget_6 : decode cX8_forget 6 = .ok (.getfield 115, 3) := by decide +kernel
theorem dX8_forget_9 : decode cX8_forget 9 = .ok (.istore_n 1, 1) := by decide +kernel
theorem dX8_forget_10 : decode cX8_forget 10 = .ok (.aload_n 0, 1) := by decide +kernel
theorem dX8_forget_11 : decode cX8_forget 11 = .ok (.iconst 0, 1) := by decide +kernel
theorem dX8_forget_12 : decode cX8_forget 12 = .ok (.putfield 115, 3) := by decide +kernel
theorem dX8_forget_15 : decode cX8_forget 15 = .ok (.iload_n 1, 1) := by decide +kernel
theorem dX8_forget_16 : decode cX8_forget 16 = .ok (.ireturn, 1) := by decide +kernel
set_option maxRecDepth 20000 in
theorem ggX8_copy_X8_in : GoodIn wsX8_copy wsX8_in := goodIn_r _ [7] (by decide +kernel) (by decide +kernel)
set_option maxRecDepth 20000 in
theorem gX8_copy_X8_in : GoodIn wsX8_copy (va_wsS RX8 46 yX8_in wsX8_in) := goodIn_app (goodIn_of _ (by decide +kernel)) ggX8_copy_X8_in
theorem dX8_copy_0 : decode cX8_copy 0 = .ok (.aload_n 0, 1) := by decide +kernel
theorem dX8_copy_1 : decode cX8_copy 1 = .ok (.iconst 0, 1) := by decide +kernel
theorem dX8_copy_2 : decode cX8_copy 2 = .ok (.putfield 42, 3) := by decide +kernel
theorem dX8_copy_5 : decode cX8_copy 5 = .ok (.iload_n 1, 1) := by decide +kernel
theorem dX8_copy_6 : decode cX8_copy 6 = .ok (.iconst 0, 1) := by decide +kernel
theorem dX8_copy_7 : decode cX8_copy 7 = .ok (.sipush 255, 3) := by decide +kernel
theorem dX8_copy_10 : decode cX8_copy 10 = .ok (.invokestatic 46, 3) := by decide +kernel
theorem dX8_copy_13 : decode cX8_copy 13 = .ok (.ifCond .ne 5, 3) := by decide +kernel
theorem dX8_copy_16 : decode cX8_copy 16 = .ok (.iconst (-1), 1) := by decide +kernel
theorem dX8_copy_17 : decode cX8_copy 17 = .ok (.ireturn, 1) := by decide +kernel
theorem dX8_copy_18 : decode cX8_copy 18 = .ok (.aload_n 0, 1) := by decide +kernel
theorem dX8_copy_19 : decode cX8_copy 19 = .ok (.getfield 118, 3) := by decide +kernel
theorem dX8_copy_22 : decode cX8_copy 22 = .ok (.bipush 8, 2) := by decide +kernel
theorem dX8_copy_24 : decode cX8_copy 24 = .ok (.if_icmp .ne 6, 3) := by decide +kernel
theorem dX8_copy_27 : decode cX8_copy 27 = .ok (.bipush (-3), 2) := by decide +kernel
theorem dX8_copy_29 : decode cX8_copy 29 = .ok (.ireturn, 1) := by decide +kernel
theorem dX8_copy_30 : decode cX8_copy 30 = .ok (.aload_n 0, 1) := by decide +kernel
theorem dX8_copy_31 : decode cX8_copy 31 = .ok (.getfield 29, 3) := by decide +kernel
theorem dX8_copy_34 : decode cX8_copy 34 = .ok (.aload_n 0, 1) := by decide +kernel
theorem dX8_copy_35 : decode cX8_copy 35 = .ok (.getfield 118, 3) := by decide +kernel
theorem dX8_copy_38 : decode cX8_copy 38 = .ok (.iload_n 1, 1) := by decide +kernel
theorem dX8_copy_39 : decode cX8_copy 39 = .ok (.iastore, 1) := by decide +kernel
theorem dX8_copy_40 : decode cX8_copy 40 = .ok (.aload_n 0, 1) := by decide +kernel
theorem dX8_copy_41 : decode cX8_copy 41 = .ok (.dup, 1) := by decide +kernel
theorem dX8_copy_42 : decode cX8_copy 42 = .ok (.getfield 118, 3) := by decide +kernel
theorem dX8_copy_45 : decode cX8_copy 45 = .ok (.iconst 1, 1) := by decide +kernel
theorem dX8_copy_46 : decode cX8_copy 46 = .ok (.iadd, 1) := by decide +kernel
theorem dX8_copy_47 : decode cX8_copy 47 = .ok (.putfield 118, 3) := by decide +kernel
theorem dX8_copy_50 : decode cX8_copy 50 = .ok (.aload_n 0, 1) := by decide +kernel
theorem dX8_copy_51 : decode cX8_copy 51 = .ok (.getfield 118, 3) := by decide +kernel
theorem dX8_copy_54 : decode cX8_copy 54 = .ok (.iconst 1, 1) := by decide +kernel
theorem dX8_copy_55 : decode cX8_copy 55 = .ok (.isub, 1) := by decide +kernel
theorem dX8_copy_56 : decode cX8_copy 56 = .ok (.ireturn, 1) := by decide +kernel
set_option maxRecDepth 20000 in
theorem ggX8_cameOf_X8_ones : GoodIn wsX8_cameOf wsX8_ones := goodIn_r _ [6] (by decide +kernel) (by decide +kernel)
set_option maxRecDepth 20000 in
theorem gX8_cameOf_X8_ones : GoodIn wsX8_cameOf (va_wsS RX8 147 yX8_ones wsX8_ones) := goodIn_app (goodIn_of _ (by decide +kernel)) ggX8_cameOf_X8_ones
theorem dX8_cameOf_0 : decode cX8_cameOf 0 = .ok (.bipush (-9), 2) := by decide +kernel
theorem dX8_cameOf_2 : decode cX8_cameOf 2 = .ok (.istore_n 2, 1) := by decide +kernel
theorem dX8_cameOf_3 : decode cX8_cameOf 3 = .ok (.iconst 0, 1) := by decide +kernel
theorem dX8_cameOf_4 : decode cX8_cameOf 4 = .ok (.istore_n 3, 1) := by decide +kernel
theorem dX8_cameOf_5 : decode cX8_cameOf 5 = .ok (.iload_n 3, 1) := by decide +kernel
theorem dX8_cameOf_6 : decode cX8_cameOf 6 = .ok (.aload_n 0, 1) := by decide +kernel
theorem dX8_cameOf_7 : decode cX8_cameOf 7 = .ok (.getfield 118, 3) := by decide +kernel
theorem dX8_cameOf_10 : decode cX8_cameOf 10 = .ok (.if_icmp .ge 97, 3) := by decide +kernel
theorem dX8_cameOf_13 : decode cX8_cameOf 13 = .ok (.iload_n 3, 1) := by decide +kernel
theorem dX8_cameOf_14 : decode cX8_cameOf 14 = .ok (.iload_n 1, 1) := by decide +kernel
theorem dX8_cameOf_15 : decode cX8_cameOf 15 = .ok (.if_icmp .eq 45, 3) := by decide +kernel
theorem dX8_cameOf_18 : decode cX8_cameOf 18 = .ok (.aload_n 0, 1) := by decide +kernel
theorem dX8_cameOf_19 : decode cX8_cameOf 19 = .ok (.getfield 29, 3) := by decide +kernel
theorem dX8_cameOf_22 : decode cX8_cameOf 22 = .ok (.iload_n 3, 1) := by decide +kernel
theorem dX8_cameOf_23 : decode cX8_cameOf 23 = .ok (.iaload, 1) := by decide +kernel
theorem dX8_cameOf_24 : decode cX8_cameOf 24 = .ok (.aload_n 0, 1) := by decide +kernel
theorem dX8_cameOf_25 : decode cX8_cameOf 25 = .ok (.getfield 29, 3) := by decide +kernel
theorem dX8_cameOf_28 : decode cX8_cameOf 28 = .ok (.iload_n 1, 1) := by decide +kernel
theorem dX8_cameOf_29 : decode cX8_cameOf 29 = .ok (.iaload, 1) := by decide +kernel
theorem dX8_cameOf_30 : decode cX8_cameOf 30 = .ok (.iconst (-1), 1) := by decide +kernel
theorem dX8_cameOf_31 : decode cX8_cameOf 31 = .ok (.ixor, 1) := by decide +kernel
theorem dX8_cameOf_32 : decode cX8_cameOf 32 = .ok (.iand, 1) := by decide +kernel
theorem dX8_cameOf_33 : decode cX8_cameOf 33 = .ok (.ifCond .ne 27, 3) := by decide +kernel
theorem dX8_cameOf_36 : decode cX8_cameOf 36 = .ok (.aload_n 0, 1) := by decide +kernel
theorem dX8_cameOf_37 : decode cX8_cameOf 37 = .ok (.getfield 29, 3) := by decide +kernel
theorem dX8_cameOf_40 : decode cX8_cameOf 40 = .ok (.iload_n 3, 1) := by decide +kernel
theorem dX8_cameOf_41 : decode cX8_cameOf 41 = .ok (.iaload, 1) := by decide +kernel
theorem dX8_cameOf_42 : decode cX8_cameOf 42 = .ok (.aload_n 0, 1) := by decide +kernel
theorem dX8_cameOf_43 : decode cX8_cameOf 43 = .ok (.getfield 29, 3) := by decide +kernel
theorem dX8_cameOf_46 : decode cX8_cameOf 46 = .ok (.iload_n 1, 1) := by decide +kernel
theorem dX8_cameOf_47 : decode cX8_cameOf 47 = .ok (.iaload, 1) := by decide +kernel
theorem dX8_cameOf_48 : decode cX8_cameOf 48 = .ok (.if_icmp .ne 8, 3) := by decide +kernel
theorem dX8_cameOf_51 : decode cX8_cameOf 51 = .ok (.iload_n 3, 1) := by decide +kernel
theorem dX8_cameOf_52 : decode cX8_cameOf 52 = .ok (.iload_n 1, 1) := by decide +kernel
theorem dX8_cameOf_53 : decode cX8_cameOf 53 = .ok (.if_icmp .ge 7, 3) := by decide +kernel
theorem dX8_cameOf_56 : decode cX8_cameOf 56 = .ok (.iconst 1, 1) := by decide +kernel
theorem dX8_cameOf_57 : decode cX8_cameOf 57 = .ok (.goto 4, 3) := by decide +kernel
theorem dX8_cameOf_60 : decode cX8_cameOf 60 = .ok (.iconst 0, 1) := by decide +kernel
theorem dX8_cameOf_61 : decode cX8_cameOf 61 = .ok (.istore 4, 2) := by decide +kernel
theorem dX8_cameOf_63 : decode cX8_cameOf 63 = .ok (.iload 4, 2) := by decide +kernel
theorem dX8_cameOf_65 : decode cX8_cameOf 65 = .ok (.ifCond .eq 34, 3) := by decide +kernel
theorem dX8_cameOf_68 : decode cX8_cameOf 68 = .ok (.iload_n 2, 1) := by decide +kernel
theorem dX8_cameOf_69 : decode cX8_cameOf 69 = .ok (.bipush (-9), 2) := by decide +kernel
theorem dX8_cameOf_71 : decode cX8_cameOf 71 = .ok (.if_icmp .eq 24, 3) := by decide +kernel
theorem dX8_cameOf_74 : decode cX8_cameOf 74 = .ok (.aload_n 0, 1) := by decide +kernel
theorem dX8_cameOf_75 : decode cX8_cameOf 75 = .ok (.getfield 29, 3) := by decide +kernel
theorem dX8_cameOf_78 : decode cX8_cameOf 78 = .ok (.iload_n 3, 1) := by decide +kernel
theorem dX8_cameOf_79 : decode cX8_cameOf 79 = .ok (.iaload, 1) := by decide +kernel
theorem dX8_cameOf_80 : decode cX8_cameOf 80 = .ok (.invokestatic 147, 3) := by decide +kernel
theorem dX8_cameOf_83 : decode cX8_cameOf 83 = .ok (.aload_n 0, 1) := by decide +kernel
theorem dX8_cameOf_84 : decode cX8_cameOf 84 = .ok (.getfield 29, 3) := by decide +kernel
theorem dX8_cameOf_87 : decode cX8_cameOf 87 = .ok (.iload_n 2, 1) := by decide +kernel
theorem dX8_cameOf_88 : decode cX8_cameOf 88 = .ok (.iaload, 1) := by decide +kernel
theorem dX8_cameOf_89 : decode cX8_cameOf 89 = .ok (.invokestatic 147, 3) := by decide +kernel
theorem dX8_cameOf_92 : decode cX8_cameOf 92 = .ok (.if_icmp .le 7, 3) := by decide +kernel
theorem dX8_cameOf_95 : decode cX8_cameOf 95 = .ok (.iload_n 3, 1) := by decide +kernel
theorem dX8_cameOf_96 : decode cX8_cameOf 96 = .ok (.goto 4, 3) := by decide +kernel
theorem dX8_cameOf_99 : decode cX8_cameOf 99 = .ok (.iload_n 2, 1) := by decide +kernel
theorem dX8_cameOf_100 : decode cX8_cameOf 100 = .ok (.istore_n 2, 1) := by decide +kernel
theorem dX8_cameOf_101 : decode cX8_cameOf 101 = .ok (.iinc 3 1, 3) := by decide +kernel
theorem dX8_cameOf_104 : decode cX8_cameOf 104 = .ok (.goto (-99), 3) := by decide +kernel
theorem dX8_cameOf_107 : decode cX8_cameOf 107 = .ok (.iload_n 2, 1) := by decide +kernel
theorem dX8_cameOf_108 : decode cX8_cameOf 108 = .ok (.ireturn, 1) := by decide +kernel
set_option maxRecDepth 20000 in
theorem ggX8_came_X8_in : GoodIn wsX8_came wsX8_in := goodIn_r _ [7] (by decide +kernel) (by decide +kernel)
set_option maxRecDepth 20000 in
theorem gX8_came_X8_in : GoodIn wsX8_came (va_wsS RX8 46 yX8_in wsX8_in) := goodIn_app (goodIn_of _ (by decide +kernel)) ggX8_came_X8_in
set_option maxRecDepth 20000 in
theorem ggX8_came_X8_cameOf : GoodIn wsX8_came wsX8_cameOf := goodIn_r _ [11, 2, 3, 12, 13, 6, 14, 15, 16, 17, 18, 19, 20, 21, 22, 23, 24, 25, 26, 27, 28, 29, 30, 31, 32, 33, 34, 35, 36, 37] (by decide +kernel) (by decide +kernel)
set_option maxRecDepth 20000 in
theorem gX8_came_X8_cameOf : GoodIn wsX8_came (wsV RX8 184 RX8 yX8_cameOf wsX8_cameOf) := goodIn_app (goodIn_of _ (by decide +kernel)) ggX8_came_X8_cameOf
theorem dX8_came_0 : decode cX8_came 0 = .ok (.aload_n 0, 1) := by decide +kernel
theorem dX8_came_1 : decode cX8_came 1 = .ok (.iconst 0, 1) := by decide +kernel
theorem dX8_came_2 : decode cX8_came 2 = .ok (.putfield 42, 3) := by decide +kernel
theorem dX8_came_5 : decode cX8_came 5 = .ok (.iload_n 1, 1) := by decide +kernel
theorem dX8_came_6 : decode cX8_came 6 = .ok (.iconst 0, 1) := by decide +kernel
theorem dX8_came_7 : decode cX8_came 7 = .ok (.aload_n 0, 1) := by decide +kernel
theorem dX8_came_8 : decode cX8_came 8 = .ok (.getfield 118, 3) := by decide +kernel
theorem dX8_came_11 : decode cX8_came 11 = .ok (.iconst 1, 1) := by decide +kernel
theorem dX8_came_12 : decode cX8_came 12 = .ok (.isub, 1) := by decide +kernel
theorem dX8_came_13 : decode cX8_came 13 = .ok (.invokestatic 46, 3) := by decide +kernel
theorem dX8_came_16 : decode cX8_came 16 = .ok (.ifCond .eq 12, 3) := by decide +kernel
theorem dX8_came_19 : decode cX8_came 19 = .ok (.iload_n 2, 1) := by decide +kernel
theorem dX8_came_20 : decode cX8_came 20 = .ok (.iconst 0, 1) := by decide +kernel
theorem dX8_came_21 : decode cX8_came 21 = .ok (.iconst 2, 1) := by decide +kernel
theorem dX8_came_22 : decode cX8_came 22 = .ok (.invokestatic 46, 3) := by decide +kernel
theorem dX8_came_25 : decode cX8_came 25 = .ok (.ifCond .ne 5, 3) := by decide +kernel
theorem dX8_came_28 : decode cX8_came 28 = .ok (.iconst (-1), 1) := by decide +kernel
theorem dX8_came_29 : decode cX8_came 29 = .ok (.ireturn, 1) := by decide +kernel
theorem dX8_came_30 : decode cX8_came 30 = .ok (.iload_n 2, 1) := by decide +kernel
theorem dX8_came_31 : decode cX8_came 31 = .ok (.iconst 2, 1) := by decide +kernel
theorem dX8_came_32 : decode cX8_came 32 = .ok (.if_icmp .ge 22, 3) := by decide +kernel
theorem dX8_came_35 : decode cX8_came 35 = .ok (.iload_n 2, 1) := by decide +kernel
theorem dX8_came_36 : decode cX8_came 36 = .ok (.ifCond .ne 12, 3) := by decide +kernel
theorem dX8_came_39 : decode cX8_came 39 = .ok (.aload_n 0, 1) := by decide +kernel
theorem dX8_came_40 : decode cX8_came 40 = .ok (.getfield 29, 3) := by decide +kernel
theorem dX8_came_43 : decode cX8_came 43 = .ok (.iload_n 1, 1) := by decide +kernel
theorem dX8_came_44 : decode cX8_came 44 = .ok (.iaload, 1) := by decide +kernel
theorem dX8_came_45 : decode cX8_came 45 = .ok (.goto 8, 3) := by decide +kernel
theorem dX8_came_48 : decode cX8_came 48 = .ok (.aload_n 0, 1) := by decide +kernel
theorem dX8_came_49 : decode cX8_came 49 = .ok (.iload_n 1, 1) := by decide +kernel
theorem dX8_came_50 : decode cX8_came 50 = .ok (.invokevirtual 184, 3) := by decide +kernel
theorem dX8_came_53 : decode cX8_came 53 = .ok (.ireturn, 1) := by decide +kernel
theorem dX8_came_54 : decode cX8_came 54 = .ok (.iconst 0, 1) := by decide +kernel
theorem dX8_came_55 : decode cX8_came 55 = .ok (.istore_n 3, 1) := by decide +kernel
theorem dX8_came_56 : decode cX8_came 56 = .ok (.aload_n 0, 1) := by decide +kernel
theorem dX8_came_57 : decode cX8_came 57 = .ok (.iload_n 1, 1) := by decide +kernel
theorem dX8_came_58 : decode cX8_came 58 = .ok (.invokevirtual 184, 3) := by decide +kernel
theorem dX8_came_61 : decode cX8_came 61 = .ok (.istore 4, 2) := by decide +kernel
theorem dX8_came_63 : decode cX8_came 63 = .ok (.iload 4, 2) := by decide +kernel
theorem dX8_came_65 : decode cX8_came 65 = .ok (.bipush (-9), 2) := by decide +kernel
theorem dX8_came_67 : decode cX8_came 67 = .ok (.if_icmp .eq 17, 3) := by decide +kernel
theorem dX8_came_70 : decode cX8_came 70 = .ok (.iinc 3 1, 3) := by decide +kernel
theorem dX8_came_73 : decode cX8_came 73 = .ok (.aload_n 0, 1) := by decide +kernel
theorem dX8_came_74 : decode cX8_came 74 = .ok (.iload 4, 2) := by decide +kernel
theorem dX8_came_76 : decode cX8_came 76 = .ok (.invokevirtual 184, 3) := by decide +kernel
theorem dX8_came_79 : decode cX8_came 79 = .ok (.istore 4, 2) := by decide +kernel
theorem dX8_came_81 : decode cX8_came 81 = .ok (.goto (-18), 3) := by decide +kernel
theorem dX8_came_84 : decode cX8_came 84 = .ok (.iload_n 3, 1) := by decide +kernel
theorem dX8_came_85 : decode cX8_came 85 = .ok (.ireturn, 1) := by decide +kernel
set_option maxRecDepth 20000 in
theorem ggX8_firsts_X8_cameOf : GoodIn wsX8_firsts wsX8_cameOf := goodIn_r _ [7, 2, 8, 9, 10, 6, 11, 12, 13, 14, 15, 16, 17, 18, 19, 20, 21, 22, 23, 24, 25, 26, 27, 28, 29, 30, 31, 32, 33, 34] (by decide +kernel) (by decide +kernel)
set_option maxRecDepth 20000 in
theorem gX8_firsts_X8_cameOf : GoodIn wsX8_firsts (wsV RX8 184 RX8 yX8_cameOf wsX8_cameOf) := goodIn_app (goodIn_of _ (by decide +kernel)) ggX8_firsts_X8_cameOf
theorem dX8_firsts_0 : decode cX8_firsts 0 = .ok (.aload_n 0, 1) := by decide +kernel
theorem dX8_firsts_1 : decode cX8_firsts 1 = .ok (.iconst 0, 1) := by decide +kernel
theorem dX8_firsts_2 : decode cX8_firsts 2 = .ok (.putfield 42, 3) := by decide +kernel
theorem dX8_firsts_5 : decode cX8_firsts 5 = .ok (.iconst 0, 1) := by decide +kernel
theorem dX8_firsts_6 : decode cX8_firsts 6 = .ok (.istore_n 1, 1) := by decide +kernel
theorem dX8_firsts_7 : decode cX8_firsts 7 = .ok (.iconst 0, 1) := by decide +kernel
theorem dX8_firsts_8 : decode cX8_firsts 8 = .ok (.istore_n 2, 1) := by decide +kernel
theorem dX8_firsts_9 : decode cX8_firsts 9 = .ok (.iload_n 2, 1) := by decide +kernel
theorem dX8_firsts_10 : decode cX8_firsts 10 = .ok (.aload_n 0, 1) := by decide +kernel
theorem dX8_firsts_11 : decode cX8_firsts 11 = .ok (.getfield 118, 3) := by decide +kernel
theorem dX8_firsts_14 : decode cX8_firsts 14 = .ok (.if_icmp .ge 29, 3) := by decide +kernel
theorem dX8_firsts_17 : decode cX8_firsts 17 = .ok (.iload_n 1, 1) := by decide +kernel
theorem dX8_firsts_18 : decode cX8_firsts 18 = .ok (.aload_n 0, 1) := by decide +kernel
theorem dX8_firsts_19 : decode cX8_firsts 19 = .ok (.iload_n 2, 1) := by decide +kernel
theorem dX8_firsts_20 : decode cX8_firsts 20 = .ok (.invokevirtual 184, 3) := by decide +kernel
theorem dX8_firsts_23 : decode cX8_firsts 23 = .ok (.bipush (-9), 2) := by decide +kernel
theorem dX8_firsts_25 : decode cX8_firsts 25 = .ok (.if_icmp .ne 9, 3) := by decide +kernel
theorem dX8_firsts_28 : decode cX8_firsts 28 = .ok (.iconst 1, 1) := by decide +kernel
theorem dX8_firsts_29 : decode cX8_firsts 29 = .ok (.iload_n 2, 1) := by decide +kernel
theorem dX8_firsts_30 : decode cX8_firsts 30 = .ok (.ishl, 1) := by decide +kernel
theorem dX8_firsts_31 : decode cX8_firsts 31 = .ok (.goto 4, 3) := by decide +kernel
theorem dX8_firsts_34 : decode cX8_firsts 34 = .ok (.iconst 0, 1) := by decide +kernel
theorem dX8_firsts_35 : decode cX8_firsts 35 = .ok (.ior, 1) := by decide +kernel
theorem dX8_firsts_36 : decode cX8_firsts 36 = .ok (.istore_n 1, 1) := by decide +kernel
theorem dX8_firsts_37 : decode cX8_firsts 37 = .ok (.iinc 2 1, 3) := by decide +kernel
theorem dX8_firsts_40 : decode cX8_firsts 40 = .ok (.goto (-31), 3) := by decide +kernel
theorem dX8_firsts_43 : decode cX8_firsts 43 = .ok (.iload_n 1, 1) := by decide +kernel
theorem dX8_firsts_44 : decode cX8_firsts 44 = .ok (.ireturn, 1) := by decide +kernel
theorem dX8_burn_0 : decode cX8_burn 0 = .ok (.aload_n 0, 1) := by decide +kernel
theorem dX8_burn_1 : decode cX8_burn 1 = .ok (.iconst 0, 1) := by decide +kernel
theorem dX8_burn_2 : decode cX8_burn 2 = .ok (.putfield 42, 3) := by decide +kernel
theorem dX8_burn_5 : decode cX8_burn 5 = .ok (.aload_n 0, 1) := by decide +kernel
theorem dX8_burn_6 : decode cX8_burn 6 = .ok (.getfield 118, 3) := by decide +kernel
theorem dX8_burn_9 : decode cX8_burn 9 = .ok (.istore_n 1, 1) := by decide +kernel
theorem dX8_burn_10 : decode cX8_burn 10 = .ok (.aload_n 0, 1) := by decide +kernel
theorem dX8_burn_11 : decode cX8_burn 11 = .ok (.iconst 0, 1) := by decide +kernel
theorem dX8_burn_12 : decode cX8_burn 12 = .ok (.putfield 118, 3) := by decide +kernel
theorem dX8_burn_15 : decode cX8_burn 15 = .ok (.iload_n 1, 1) := by decide +kernel
theorem dX8_burn_16 : decode cX8_burn 16 = .ok (.ireturn, 1) := by decide +kernel
set_option maxRecDepth 20000 in
theorem ggX8_rate_X8_in : GoodIn wsX8_rate wsX8_in := goodIn_r _ [13] (by decide +kernel) (by decide +kernel)
set_option maxRecDepth 20000 in
theorem gX8_rate_X8_in : GoodIn wsX8_rate (va_wsS RX8 46 yX8_in wsX8_in) := goodIn_app (goodIn_of _ (by decide +kernel)) ggX8_rate_X8_in
set_option maxRecDepth 20000 in
theorem ggX8_rate_X8_isClerk : GoodIn wsX8_rate wsX8_isClerk := goodIn_r _ [17, 18, 10, 11, 12, 13, 22, 23, 24, 25, 26, 27, 28, 29, 30, 31, 32, 33, 34, 35, 36, 37, 38, 39, 40, 41, 42, 43, 44] (by decide +kernel) (by decide +kernel)
set_option maxRecDepth 20000 in
theorem gX8_rate_X8_isClerk : GoodIn wsX8_rate (wsV RX8 121 RX8 yX8_isClerk wsX8_isClerk) := goodIn_app (goodIn_of _ (by decide +kernel)) ggX8_rate_X8_isClerk
set_option maxRecDepth 20000 in
theorem ggX8_rate_X8_ones : GoodIn wsX8_rate wsX8_ones := goodIn_r _ [21] (by decide +kernel) (by decide +kernel)
set_option maxRecDepth 20000 in
theorem gX8_rate_X8_ones : GoodIn wsX8_rate (va_wsS RX8 147 yX8_ones wsX8_ones) := goodIn_app (goodIn_of _ (by decide +kernel)) ggX8_rate_X8_ones
theorem dX8_rate_0 : decode cX8_rate 0 = .ok (.aload_n 0, 1) := by decide +kernel
theorem dX8_rate_1 : decode cX8_rate 1 = .ok (.iconst 0, 1) := by decide +kernel
theorem dX8_rate_2 : decode cX8_rate 2 = .ok (.putfield 42, 3) := by decide +kernel
theorem dX8_rate_5 : decode cX8_rate 5 = .ok (.iload_n 1, 1) := by decide +kernel
theorem dX8_rate_6 : decode cX8_rate 6 = .ok (.iconst 0, 1) := by decide +kernel
theorem dX8_rate_7 : decode cX8_rate 7 = .ok (.iconst 5, 1) := by decide +kernel
theorem dX8_rate_8 : decode cX8_rate 8 = .ok (.invokestatic 46, 3) := by decide +kernel
theorem dX8_rate_11 : decode cX8_rate 11 = .ok (.ifCond .eq 11, 3) := by decide +kernel
theorem dX8_rate_14 : decode cX8_rate 14 = .ok (.aload_n 0, 1) := by decide +kernel
theorem dX8_rate_15 : decode cX8_rate 15 = .ok (.iload_n 2, 1) := by decide +kernel
theorem dX8_rate_16 : decode cX8_rate 16 = .ok (.invokevirtual 121, 3) := by decide +kernel
theorem dX8_rate_19 : decode cX8_rate 19 = .ok (.ifCond .ne 6, 3) := by decide +kernel
theorem dX8_rate_22 : decode cX8_rate 22 = .ok (.ldc 187, 2) := by decide +kernel
theorem dX8_rate_24 : decode cX8_rate 24 = .ok (.ireturn, 1) := by decide +kernel
theorem dX8_rate_25 : decode cX8_rate 25 = .ok (.aload_n 0, 1) := by decide +kernel
theorem dX8_rate_26 : decode cX8_rate 26 = .ok (.getfield 13, 3) := by decide +kernel
theorem dX8_rate_29 : decode cX8_rate 29 = .ok (.iconst 4, 1) := by decide +kernel
theorem dX8_rate_30 : decode cX8_rate 30 = .ok (.iload_n 2, 1) := by decide +kernel
theorem dX8_rate_31 : decode cX8_rate 31 = .ok (.imul, 1) := by decide +kernel
theorem dX8_rate_32 : decode cX8_rate 32 = .ok (.iaload, 1) := by decide +kernel
theorem dX8_rate_33 : decode cX8_rate 33 = .ok (.iconst 4, 1) := by decide +kernel
theorem dX8_rate_34 : decode cX8_rate 34 = .ok (.isub, 1) := by decide +kernel
theorem dX8_rate_35 : decode cX8_rate 35 = .ok (.istore_n 3, 1) := by decide +kernel
theorem dX8_rate_36 : decode cX8_rate 36 = .ok (.iload_n 3, 1) := by decide +kernel
theorem dX8_rate_37 : decode cX8_rate 37 = .ok (.aload_n 0, 1) := by decide +kernel
theorem dX8_rate_38 : decode cX8_rate 38 = .ok (.getfield 13, 3) := by decide +kernel
theorem dX8_rate_41 : decode cX8_rate 41 = .ok (.iconst 4, 1) := by decide +kernel
theorem dX8_rate_42 : decode cX8_rate 42 = .ok (.iload_n 2, 1) := by decide +kernel
theorem dX8_rate_43 : decode cX8_rate 43 = .ok (.imul, 1) := by decide +kernel
theorem dX8_rate_44 : decode cX8_rate 44 = .ok (.iconst 1, 1) := by decide +kernel
theorem dX8_rate_45 : decode cX8_rate 45 = .ok (.iadd, 1) := by decide +kernel
theorem dX8_rate_46 : decode cX8_rate 46 = .ok (.iaload, 1) := by decide +kernel
theorem dX8_rate_47 : decode cX8_rate 47 = .ok (.invokestatic 147, 3) := by decide +kernel
theorem dX8_rate_50 : decode cX8_rate 50 = .ok (.iadd, 1) := by decide +kernel
theorem dX8_rate_51 : decode cX8_rate 51 = .ok (.istore 4, 2) := by decide +kernel
theorem dX8_rate_53 : decode cX8_rate 53 = .ok (.iload_n 3, 1) := by decide +kernel
theorem dX8_rate_54 : decode cX8_rate 54 = .ok (.aload_n 0, 1) := by decide +kernel
theorem dX8_rate_55 : decode cX8_rate 55 = .ok (.getfield 13, 3) := by decide +kernel
theorem dX8_rate_58 : decode cX8_rate 58 = .ok (.iconst 4, 1) := by decide +kernel
theorem dX8_rate_59 : decode cX8_rate 59 = .ok (.iload_n 2, 1) := by decide +kernel
theorem dX8_rate_60 : decode cX8_rate 60 = .ok (.imul, 1) := by decide +kernel
theorem dX8_rate_61 : decode cX8_rate 61 = .ok (.iconst 2, 1) := by decide +kernel
theorem dX8_rate_62 : decode cX8_rate 62 = .ok (.iadd, 1) := by decide +kernel
theorem dX8_rate_63 : decode cX8_rate 63 = .ok (.iaload, 1) := by decide +kernel
theorem dX8_rate_64 : decode cX8_rate 64 = .ok (.invokestatic 147, 3) := by decide +kernel
theorem dX8_rate_67 : decode cX8_rate 67 = .ok (.isub, 1) := by decide +kernel
theorem dX8_rate_68 : decode cX8_rate 68 = .ok (.istore 5, 2) := by decide +kernel
theorem dX8_rate_70 : decode cX8_rate 70 = .ok (.aload_n 0, 1) := by decide +kernel
theorem dX8_rate_71 : decode cX8_rate 71 = .ok (.dup, 1) := by decide +kernel
theorem dX8_rate_72 : decode cX8_rate 72 = .ok (.getfield 188, 3) := by decide +kernel
theorem dX8_rate_75 : decode cX8_rate 75 = .ok (.iload_n 1, 1) := by decide +kernel
theorem dX8_rate_76 : decode cX8_rate 76 = .ok (.ifCond .ne 7, 3) := by decide +kernel
theorem dX8_rate_79 : decode cX8_rate 79 = .ok (.lconst 1, 1) := by decide +kernel
theorem dX8_rate_80 : decode cX8_rate 80 = .ok (.goto 50, 3) := by decide +kernel
theorem dX8_rate_83 : decode cX8_rate 83 = .ok (.iload_n 1, 1) := by decide +kernel
theorem dX8_rate_84 : decode cX8_rate 84 = .ok (.iconst 1, 1) := by decide +kernel
theorem dX8_rate_85 : decode cX8_rate 85 = .ok (.if_icmp .ne 9, 3) := by decide +kernel
theorem dX8_rate_88 : decode cX8_rate 88 = .ok (.ldc2_w 192, 3) := by decide +kernel
theorem dX8_rate_91 : decode cX8_rate 91 = .ok (.goto 39, 3) := by decide +kernel
theorem dX8_rate_94 : decode cX8_rate 94 = .ok (.iload_n 1, 1) := by decide +kernel
theorem dX8_rate_95 : decode cX8_rate 95 = .ok (.iconst 2, 1) := by decide +kernel
theorem dX8_rate_96 : decode cX8_rate 96 = .ok (.if_icmp .ne 9, 3) := by decide +kernel
theorem dX8_rate_99 : decode cX8_rate 99 = .ok (.ldc2_w 194, 3) := by decide +kernel
theorem dX8_rate_102 : decode cX8_rate 102 = .ok (.goto 28, 3) := by decide +kernel
theorem dX8_rate_105 : decode cX8_rate 105 = .ok (.iload_n 1, 1) := by decide +kernel
theorem dX8_rate_106 : decode cX8_rate 106 = .ok (.iconst 3, 1) := by decide +kernel
theorem dX8_rate_107 : decode cX8_rate 107 = .ok (.if_icmp .ne 9, 3) := by decide +kernel
theorem dX8_rate_110 : decode cX8_rate 110 = .ok (.ldc2_w 196, 3) := by decide +kernel
theorem dX8_rate_113 : decode cX8_rate 113 = .ok (.goto 17, 3) := by decide +kernel
theorem dX8_rate_116 : decode cX8_rate 116 = .ok (.iload_n 1, 1) := by decide +kernel
theorem dX8_rate_117 : decode cX8_rate 117 = .ok (.iconst 4, 1) := by decide +kernel
theorem dX8_rate_118 : decode cX8_rate 118 = .ok (.if_icmp .ne 9, 3) := by decide +kernel
theorem dX8_rate_121 : decode cX8_rate 121 = .ok (.ldc2_w 198, 3) := by decide +kernel
theorem dX8_rate_124 : decode cX8_rate 124 = .ok (.goto 6, 3) := by decide +kernel
theorem dX8_rate_127 : decode cX8_rate 127 = .ok (.ldc2_w 200, 3) := by decide +kernel
theorem dX8_rate_130 : decode cX8_rate 130 = .ok (.ladd, 1) := by decide +kernel
theorem dX8_rate_131 : decode cX8_rate 131 = .ok (.putfield 188, 3) := by decide +kernel
theorem dX8_rate_134 : decode cX8_rate 134 = .ok (.iload_n 1, 1) := by decide +kernel
theorem dX8_rate_135 : decode cX8_rate 135 = .ok (.ifCond .ne 7, 3) := by decide +kernel
theorem dX8_rate_138 : decode cX8_rate 138 = .ok (.iload_n 3, 1) := by decide +kernel
theorem dX8_rate_139 : decode cX8_rate 139 = .ok (.goto 62, 3) := by decide +kernel
theorem dX8_rate_142 : decode cX8_rate 142 = .ok (.iload_n 1, 1) := by decide +kernel
theorem dX8_rate_143 : decode cX8_rate 143 = .ok (.iconst 1, 1) := by decide +kernel
theorem dX8_rate_144 : decode cX8_rate 144 = .ok (.if_icmp .ne 8, 3) := by decide +kernel
theorem dX8_rate_147 : decode cX8_rate 147 = .ok (.iload 4, 2) := by decide +kernel
theorem dX8_rate_149 : decode cX8_rate 149 = .ok (.goto 52, 3) := by decide +kernel
theorem dX8_rate_152 : decode cX8_rate 152 = .ok (.iload_n 1, 1) := by decide +kernel
theorem dX8_rate_153 : decode cX8_rate 153 = .ok (.iconst 2, 1) := by decide +kernel
theorem dX8_rate_154 : decode cX8_rate 154 = .ok (.if_icmp .ne 8, 3) := by decide +kernel
theorem dX8_rate_157 : decode cX8_rate 157 = .ok (.iload 5, 2) := by decide +kernel
theorem dX8_rate_159 : decode cX8_rate 159 = .ok (.goto 42, 3) := by decide +kernel
theorem dX8_rate_162 : decode cX8_rate 162 = .ok (.iload_n 1, 1) := by decide +kernel
theorem dX8_rate_163 : decode cX8_rate 163 = .ok (.iconst 3, 1) := by decide +kernel
theorem dX8_rate_164 : decode cX8_rate 164 = .ok (.if_icmp .ne 10, 3) := by decide +kernel
theorem dX8_rate_167 : decode cX8_rate 167 = .ok (.iconst 2, 1) := by decide +kernel
theorem dX8_rate_168 : decode cX8_rate 168 = .ok (.iload 4, 2) := by decide +kernel
theorem dX8_rate_170 : decode cX8_rate 170 = .ok (.imul, 1) := by decide +kernel
theorem dX8_rate_171 : decode cX8_rate 171 = .ok (.goto 30, 3) := by decide +kernel
theorem dX8_rate_174 : decode cX8_rate 174 = .ok (.iload_n 1, 1) := by decide +kernel
theorem dX8_rate_175 : decode cX8_rate 175 = .ok (.iconst 4, 1) := by decide +kernel
theorem dX8_rate_176 : decode cX8_rate 176 = .ok (.if_icmp .ne 10, 3) := by decide +kernel
theorem dX8_rate_179 : decode cX8_rate 179 = .ok (.iload 5, 2) := by decide +kernel
theorem dX8_rate_181 : decode cX8_rate 181 = .ok (.iload_n 2, 1) := by decide +kernel
theorem dX8_rate_182 : decode cX8_rate 182 = .ok (.iadd, 1) := by decide +kernel
theorem dX8_rate_183 : decode cX8_rate 183 = .ok (.goto 18, 3) := by decide +kernel
theorem dX8_rate_186 : decode cX8_rate 186 = .ok (.iload_n 3, 1) := by decide +kernel
theorem dX8_rate_187 : decode cX8_rate 187 = .ok (.bipush 10, 2) := by decide +kernel
theorem dX8_rate_189 : decode cX8_rate 189 = .ok (.iadd, 1) := by decide +kernel
theorem dX8_rate_190 : decode cX8_rate 190 = .ok (.aload_n 0, 1) := by decide +kernel
theorem dX8_rate_191 : decode cX8_rate 191 = .ok (.getfield 13, 3) := by decide +kernel
theorem dX8_rate_194 : decode cX8_rate 194 = .ok (.iconst 4, 1) := by decide +kernel
theorem dX8_rate_195 : decode cX8_rate 195 = .ok (.iload_n 2, 1) := by decide +kernel
theorem dX8_rate_196 : decode cX8_rate 196 = .ok (.imul, 1) := by decide +kernel
theorem dX8_rate_197 : decode cX8_rate 197 = .ok (.iconst 3, 1) := by decide +kernel
theorem dX8_rate_198 : decode cX8_rate 198 = .ok (.iadd, 1) := by decide +kernel
theorem dX8_rate_199 : decode cX8_rate 199 = .ok (.iaload, 1) := by decide +kernel
theorem dX8_rate_200 : decode cX8_rate 200 = .ok (.isub, 1) := by decide +kernel
theorem dX8_rate_201 : decode cX8_rate 201 = .ok (.ireturn, 1) := by decide +kernel
set_option maxRecDepth 20000 in
theorem ggX8_keep_X8_in : GoodIn wsX8_keep wsX8_in := goodIn_r _ [8] (by decide +kernel) (by decide +kernel)
set_option maxRecDepth 20000 in
theorem gX8_keep_X8_in : GoodIn wsX8_keep (va_wsS RX8 46 yX8_in wsX8_in) := goodIn_app (goodIn_of _ (by decide +kernel)) ggX8_keep_X8_in
theorem dX8_keep_0 : decode cX8_keep 0 = .ok (.aload_n 0, 1) := by decide +kernel
theorem dX8_keep_1 : decode cX8_keep 1 = .ok (.iconst 0, 1) := by decide +kernel
theorem dX8_keep_2 : decode cX8_keep 2 = .ok (.putfield 42, 3) := by decide +kernel
theorem dX8_keep_5 : decode cX8_keep 5 = .ok (.iload_n 1, 1) := by decide +kernel
theorem dX8_keep_6 : decode cX8_keep 6 = .ok (.iconst 0, 1) := by decide +kernel
theorem dX8_keep_7 : decode cX8_keep 7 = .ok (.iconst 1, 1) := by decide +kernel
theorem dX8_keep_8 : decode cX8_keep 8 = .ok (.invokestatic 46, 3) := by decide +kernel
theorem dX8_keep_11 : decode cX8_keep 11 = .ok (.ifCond .ne 5, 3) := by decide +kernel
theorem dX8_keep_14 : decode cX8_keep 14 = .ok (.iconst (-1), 1) := by decide +kernel
theorem dX8_keep_15 : decode cX8_keep 15 = .ok (.ireturn, 1) := by decide +kernel
theorem dX8_keep_16 : decode cX8_keep 16 = .ok (.iconst 0, 1) := by decide +kernel
theorem dX8_keep_17 : decode cX8_keep 17 = .ok (.istore_n 2, 1) := by decide +kernel
theorem dX8_keep_18 : decode cX8_keep 18 = .ok (.iload_n 2, 1) := by decide +kernel
theorem dX8_keep_19 : decode cX8_keep 19 = .ok (.bipush 22, 2) := by decide +kernel
theorem dX8_keep_21 : decode cX8_keep 21 = .ok (.if_icmp .ge 26, 3) := by decide +kernel
theorem dX8_keep_24 : decode cX8_keep 24 = .ok (.aload_n 0, 1) := by decide +kernel
theorem dX8_keep_25 : decode cX8_keep 25 = .ok (.getfield 19, 3) := by decide +kernel
theorem dX8_keep_28 : decode cX8_keep 28 = .ok (.bipush 22, 2) := by decide +kernel
theorem dX8_keep_30 : decode cX8_keep 30 = .ok (.iload_n 1, 1) := by decide +kernel
theorem dX8_keep_31 : decode cX8_keep 31 = .ok (.imul, 1) := by decide +kernel
theorem dX8_keep_32 : decode cX8_keep 32 = .ok (.iload_n 2, 1) := by decide +kernel
theorem dX8_keep_33 : decode cX8_keep 33 = .ok (.iadd, 1) := by decide +kernel
theorem dX8_keep_34 : decode cX8_keep 34 = .ok (.aload_n 0, 1) := by decide +kernel
theorem dX8_keep_35 : decode cX8_keep 35 = .ok (.getfield 16, 3) := by decide +kernel
theorem dX8_keep_38 : decode cX8_keep 38 = .ok (.iload_n 2, 1) := by decide +kernel
theorem dX8_keep_39 : decode cX8_keep 39 = .ok (.iaload, 1) := by decide +kernel
theorem dX8_keep_40 : decode cX8_keep 40 = .ok (.iastore, 1) := by decide +kernel
theorem dX8_keep_41 : decode cX8_keep 41 = .ok (.iinc 2 1, 3) := by decide +kernel
theorem dX8_keep_44 : decode cX8_keep 44 = .ok (.goto (-26), 3) := by decide +kernel
theorem dX8_keep_47 : decode cX8_keep 47 = .ok (.aload_n 0, 1) := by decide +kernel
theorem dX8_keep_48 : decode cX8_keep 48 = .ok (.getfield 22, 3) := by decide +kernel
theorem dX8_keep_51 : decode cX8_keep 51 = .ok (.iload_n 1, 1) := by decide +kernel
theorem dX8_keep_52 : decode cX8_keep 52 = .ok (.iconst 1, 1) := by decide +kernel
theorem dX8_keep_53 : decode cX8_keep 53 = .ok (.bastore, 1) := by decide +kernel
theorem dX8_keep_54 : decode cX8_keep 54 = .ok (.aload_n 0, 1) := by decide +kernel
theorem dX8_keep_55 : decode cX8_keep 55 = .ok (.getfield 16, 3) := by decide +kernel
theorem dX8_keep_58 : decode cX8_keep 58 = .ok (.bipush 20, 2) := by decide +kernel
theorem dX8_keep_60 : decode cX8_keep 60 = .ok (.iaload, 1) := by decide +kernel
theorem dX8_keep_61 : decode cX8_keep 61 = .ok (.ireturn, 1) := by decide +kernel
set_option maxRecDepth 20000 in
theorem ggX8_back_X8_in : GoodIn wsX8_back wsX8_in := goodIn_r _ [8] (by decide +kernel) (by decide +kernel)
set_option maxRecDepth 20000 in
theorem gX8_back_X8_in : GoodIn wsX8_back (va_wsS RX8 46 yX8_in wsX8_in) := goodIn_app (goodIn_of _ (by decide +kernel)) ggX8_back_X8_in
theorem dX8_back_0 : decode cX8_back 0 = .ok (.aload_n 0, 1) := by decide +kernel
theorem dX8_back_1 : decode cX8_back 1 = .ok (.iconst 0, 1) := by decide +kernel
theorem dX8_back_2 : decode cX8_back 2 = .ok (.putfield 42, 3) := by decide +kernel
theorem dX8_back_5 : decode cX8_back 5 = .ok (.iload_n 1, 1) := by decide +kernel
theorem dX8_back_6 : decode cX8_back 6 = .ok (.iconst 0, 1) := by decide +kernel
theorem dX8_back_7 : decode cX8_back 7 = .ok (.iconst 1, 1) := by decide +kernel
theorem dX8_back_8 : decode cX8_back 8 = .ok (.invokestatic 46, 3) := by decide +kernel
theorem dX8_back_11 : decode cX8_back 11 = .ok (.ifCond .ne 5, 3) := by decide +kernel
theorem dX8_back_14 : decode cX8_back 14 = .ok (.iconst (-1), 1) := by decide +kernel
theorem dX8_back_15 : decode cX8_back 15 = .ok (.ireturn, 1) := by decide +kernel
theorem dX8_back_16 : decode cX8_back 16 = .ok (.aload_n 0, 1) := by decide +kernel
theorem dX8_back_17 : decode cX8_back 17 = .ok (.getfield 22, 3) := by decide +kernel
theorem dX8_back_20 : decode cX8_back 20 = .ok (.iload_n 1, 1) := by decide +kernel
theorem dX8_back_21 : decode cX8_back 21 = .ok (.baload, 1) := by decide +kernel
theorem dX8_back_22 : decode cX8_back 22 = .ok (.ifCond .ne 6, 3) := by decide +kernel
theorem dX8_back_25 : decode cX8_back 25 = .ok (.bipush (-2), 2) := by decide +kernel
theorem dX8_back_27 : decode cX8_back 27 = .ok (.ireturn, 1) := by decide +kernel
theorem dX8_back_28 : decode cX8_back 28 = .ok (.iconst 0, 1) := by decide +kernel
theorem dX8_back_29 : decode cX8_back 29 = .ok (.istore_n 2, 1) := by decide +kernel
theorem dX8_back_30 : decode cX8_back 30 = .ok (.iload_n 2, 1) := by decide +kernel
theorem dX8_back_31 : decode cX8_back 31 = .ok (.bipush 22, 2) := by decide +kernel
theorem dX8_back_33 : decode cX8_back 33 = .ok (.if_icmp .ge 26, 3) := by decide +kernel
theorem dX8_back_36 : decode cX8_back 36 = .ok (.aload_n 0, 1) := by decide +kernel
theorem dX8_back_37 : decode cX8_back 37 = .ok (.getfield 16, 3) := by decide +kernel
theorem dX8_back_40 : decode cX8_back 40 = .ok (.iload_n 2, 1) := by decide +kernel
theorem dX8_back_41 : decode cX8_back 41 = .ok (.aload_n 0, 1) := by decide +kernel
theorem dX8_back_42 : decode cX8_back 42 = .ok (.getfield 19, 3) := by decide +kernel
theorem dX8_back_45 : decode cX8_back 45 = .ok (.bipush 22, 2) := by decide +kernel
theorem dX8_back_47 : decode cX8_back 47 = .ok (.iload_n 1, 1) := by decide +kernel
theorem dX8_back_48 : decode cX8_back 48 = .ok (.imul, 1) := by decide +kernel
theorem dX8_back_49 : decode cX8_back 49 = .ok (.iload_n 2, 1) := by decide +kernel
theorem dX8_back_50 : decode cX8_back 50 = .ok (.iadd, 1) := by decide +kernel
theorem dX8_back_51 : decode cX8_back 51 = .ok (.iaload, 1) := by decide +kernel
theorem dX8_back_52 : decode cX8_back 52 = .ok (.iastore, 1) := by decide +kernel
theorem dX8_back_53 : decode cX8_back 53 = .ok (.iinc 2 1, 3) := by decide +kernel
theorem dX8_back_56 : decode cX8_back 56 = .ok (.goto (-26), 3) := by decide +kernel
theorem dX8_back_59 : decode cX8_back 59 = .ok (.aload_n 0, 1) := by decide +kernel
theorem dX8_back_60 : decode cX8_back 60 = .ok (.getfield 16, 3) := by decide +kernel
theorem dX8_back_63 : decode cX8_back 63 = .ok (.bipush 20, 2) := by decide +kernel
theorem dX8_back_65 : decode cX8_back 65 = .ok (.iaload, 1) := by decide +kernel
theorem dX8_back_66 : decode cX8_back 66 = .ok (.ireturn, 1) := by decide +kernel
theorem dX8_count_0 : decode cX8_count 0 = .ok (.aload_n 0, 1) := by decide +kernel
theorem dX8_count_1 : decode cX8_count 1 = .ok (.iconst 0, 1) := by decide +kernel
theorem dX8_count_2 : decode cX8_count 2 = .ok (.putfield 42, 3) := by decide +kernel
theorem dX8_count_5 : decode cX8_count 5 = .ok (.iload_n 1, 1) := by decide +kernel
theorem dX8_count_6 : decode cX8_count 6 = .ok (.ifCond .ne 10, 3) := by decide +kernel
theorem dX8_count_9 : decode cX8_count 9 = .ok (.aload_n 0, 1) := by decide +kernel
theorem dX8_count_10 : decode cX8_count 10 = .ok (.getfield 112, 3) := by decide +kernel
theorem dX8_count_13 : decode cX8_count 13 = .ok (.goto 55, 3) := by decide +kernel
theorem dX8_count_16 : decode cX8_count 16 = .ok (.iload_n 1, 1) := by decide +kernel
theorem dX8_count_17 : decode cX8_count 17 = .ok (.iconst 1, 1) := by decide +kernel
theorem dX8_count_18 : decode cX8_count 18 = .ok (.if_icmp .ne 13, 3) := by decide +kernel
theorem dX8_count_21 : decode cX8_count 21 = .ok (.aload_n 0, 1) := by decide +kernel
theorem dX8_count_22 : decode cX8_count 22 = .ok (.getfield 16, 3) := by decide +kernel
theorem dX8_count_25 : decode cX8_count 25 = .ok (.bipush 20, 2) := by decide +kernel
theorem dX8_count_27 : decode cX8_count 27 = .ok (.iaload, 1) := by decide +kernel
theorem dX8_count_28 : decode cX8_count 28 = .ok (.goto 40, 3) := by decide +kernel
theorem dX8_count_31 : decode cX8_count 31 = .ok (.iload_n 1, 1) := by decide +kernel
theorem dX8_count_32 : decode cX8_count 32 = .ok (.iconst 2, 1) := by decide +kernel
theorem dX8_count_33 : decode cX8_count 33 = .ok (.if_icmp .ne 10, 3) := by decide +kernel
theorem dX8_count_36 : decode cX8_count 36 = .ok (.aload_n 0, 1) := by decide +kernel
theorem dX8_count_37 : decode cX8_count 37 = .ok (.getfield 115, 3) := by decide +kernel
theorem dX8_count_40 : decode cX8_count 40 = .ok (.goto 28, 3) := by decide +kernel
theorem dX8_count_43 : decode cX8_count 43 = .ok (.iload_n 1, 1) := by decide +kernel
theorem dX8_count_44 : decode cX8_count 44 = .ok (.iconst 3, 1) := by decide +kernel
theorem dX8_count_45 : decode cX8_count 45 = .ok (.if_icmp .ne 10, 3) := by decide +kernel
theorem dX8_count_48 : decode cX8_count 48 = .ok (.aload_n 0, 1) := by decide +kernel
theorem dX8_count_49 : decode cX8_count 49 = .ok (.getfield 118, 3) := by decide +kernel
theorem dX8_count_52 : decode cX8_count 52 = .ok (.goto 16, 3) := by decide +kernel
theorem dX8_count_55 : decode cX8_count 55 = .ok (.iload_n 1, 1) := by decide +kernel
theorem dX8_count_56 : decode cX8_count 56 = .ok (.iconst 4, 1) := by decide +kernel
theorem dX8_count_57 : decode cX8_count 57 = .ok (.if_icmp .ne 10, 3) := by decide +kernel
theorem dX8_count_60 : decode cX8_count 60 = .ok (.aload_n 0, 1) := by decide +kernel
theorem dX8_count_61 : decode cX8_count 61 = .ok (.getfield 50, 3) := by decide +kernel
theorem dX8_count_64 : decode cX8_count 64 = .ok (.goto 4, 3) := by decide +kernel
theorem dX8_count_67 : decode cX8_count 67 = .ok (.iconst (-1), 1) := by decide +kernel
theorem dX8_count_68 : decode cX8_count 68 = .ok (.ireturn, 1) := by decide +kernel
theorem dX8_trace_0 : decode cX8_trace 0 = .ok (.aload_n 0, 1) := by decide +kernel
theorem dX8_trace_1 : decode cX8_trace 1 = .ok (.iconst 0, 1) := by decide +kernel
theorem dX8_trace_2 : decode cX8_trace 2 = .ok (.putfield 42, 3) := by decide +kernel
theorem dX8_trace_5 : decode cX8_trace 5 = .ok (.aload_n 0, 1) := by decide +kernel
theorem dX8_trace_6 : decode cX8_trace 6 = .ok (.getfield 188, 3) := by decide +kernel
theorem dX8_trace_9 : decode cX8_trace 9 = .ok (.lreturn, 1) := by decide +kernel
theorem dJ6_bitCount_0f7a4_0 : decode cJ6_bitCount_0f7a4 0 = .ok (.iload_n 0, 1) := by decide +kernel
theorem dJ6_bitCount_0f7a4_1 : decode cJ6_bitCount_0f7a4 1 = .ok (.iload_n 0, 1) := by decide +kernel
theorem dJ6_bitCount_0f7a4_2 : decode cJ6_bitCount_0f7a4 2 = .ok (.iconst 1, 1) := by decide +kernel
theorem dJ6_bitCount_0f7a4_3 : decode cJ6_bitCount_0f7a4 3 = .ok (.iushr, 1) := by decide +kernel
theorem dJ6_bitCount_0f7a4_4 : decode cJ6_bitCount_0f7a4 4 = .ok (.ldc_w 265, 3) := by decide +kernel
theorem dJ6_bitCount_0f7a4_7 : decode cJ6_bitCount_0f7a4 7 = .ok (.iand, 1) := by decide +kernel
theorem dJ6_bitCount_0f7a4_8 : decode cJ6_bitCount_0f7a4 8 = .ok (.isub, 1) := by decide +kernel
theorem dJ6_bitCount_0f7a4_9 : decode cJ6_bitCount_0f7a4 9 = .ok (.istore_n 0, 1) := by decide +kernel
theorem dJ6_bitCount_0f7a4_10 : decode cJ6_bitCount_0f7a4 10 = .ok (.iload_n 0, 1) := by decide +kernel
theorem dJ6_bitCount_0f7a4_11 : decode cJ6_bitCount_0f7a4 11 = .ok (.ldc_w 266, 3) := by decide +kernel
theorem dJ6_bitCount_0f7a4_14 : decode cJ6_bitCount_0f7a4 14 = .ok (.iand, 1) := by decide +kernel
theorem dJ6_bitCount_0f7a4_15 : decode cJ6_bitCount_0f7a4 15 = .ok (.iload_n 0, 1) := by decide +kernel
theorem dJ6_bitCount_0f7a4_16 : decode cJ6_bitCount_0f7a4 16 = .ok (.iconst 2, 1) := by decide +kernel
theorem dJ6_bitCount_0f7a4_17 : decode cJ6_bitCount_0f7a4 17 = .ok (.iushr, 1) := by decide +kernel
theorem dJ6_bitCount_0f7a4_18 : decode cJ6_bitCount_0f7a4 18 = .ok (.ldc_w 266, 3) := by decide +kernel
theorem dJ6_bitCount_0f7a4_21 : decode cJ6_bitCount_0f7a4 21 = .ok (.iand, 1) := by decide +kernel
theorem dJ6_bitCount_0f7a4_22 : decode cJ6_bitCount_0f7a4 22 = .ok (.iadd, 1) := by decide +kernel
theorem dJ6_bitCount_0f7a4_23 : decode cJ6_bitCount_0f7a4 23 = .ok (.istore_n 0, 1) := by decide +kernel
theorem dJ6_bitCount_0f7a4_24 : decode cJ6_bitCount_0f7a4 24 = .ok (.iload_n 0, 1) := by decide +kernel
theorem dJ6_bitCount_0f7a4_25 : decode cJ6_bitCount_0f7a4 25 = .ok (.iload_n 0, 1) := by decide +kernel
theorem dJ6_bitCount_0f7a4_26 : decode cJ6_bitCount_0f7a4 26 = .ok (.iconst 4, 1) := by decide +kernel
theorem dJ6_bitCount_0f7a4_27 : decode cJ6_bitCount_0f7a4 27 = .ok (.iushr, 1) := by decide +kernel
theorem dJ6_bitCount_0f7a4_28 : decode cJ6_bitCount_0f7a4 28 = .ok (.iadd, 1) := by decide +kernel
theorem dJ6_bitCount_0f7a4_29 : decode cJ6_bitCount_0f7a4 29 = .ok (.ldc_w 267, 3) := by decide +kernel
theorem dJ6_bitCount_0f7a4_32 : decode cJ6_bitCount_0f7a4 32 = .ok (.iand, 1) := by decide +kernel
theorem dJ6_bitCount_0f7a4_33 : decode cJ6_bitCount_0f7a4 33 = .ok (.istore_n 0, 1) := by decide +kernel
theorem dJ6_bitCount_0f7a4_34 : decode cJ6_bitCount_0f7a4 34 = .ok (.iload_n 0, 1) := by decide +kernel
theorem dJ6_bitCount_0f7a4_35 : decode cJ6_bitCount_0f7a4 35 = .ok (.iload_n 0, 1) := by decide +kernel
theorem dJ6_bitCount_0f7a4_36 : decode cJ6_bitCount_0f7a4 36 = .ok (.bipush 8, 2) := by decide +kernel
theorem dJ6_bitCount_0f7a4_38 : decode cJ6_bitCount_0f7a4 38 = .ok (.iushr, 1) := by decide +kernel
theorem dJ6_bitCount_0f7a4_39 : decode cJ6_bitCount_0f7a4 39 = .ok (.iadd, 1) := by decide +kernel
theorem dJ6_bitCount_0f7a4_40 : decode cJ6_bitCount_0f7a4 40 = .ok (.istore_n 0, 1) := by decide +kernel
theorem dJ6_bitCount_0f7a4_41 : decode cJ6_bitCount_0f7a4 41 = .ok (.iload_n 0, 1) := by decide +kernel
theorem dJ6_bitCount_0f7a4_42 : decode cJ6_bitCount_0f7a4 42 = .ok (.iload_n 0, 1) := by decide +kernel
theorem dJ6_bitCount_0f7a4_43 : decode cJ6_bitCount_0f7a4 43 = .ok (.bipush 16, 2) := by decide +kernel
theorem dJ6_bitCount_0f7a4_45 : decode cJ6_bitCount_0f7a4 45 = .ok (.iushr, 1) := by decide +kernel
theorem dJ6_bitCount_0f7a4_46 : decode cJ6_bitCount_0f7a4 46 = .ok (.iadd, 1) := by decide +kernel
theorem dJ6_bitCount_0f7a4_47 : decode cJ6_bitCount_0f7a4 47 = .ok (.istore_n 0, 1) := by decide +kernel
theorem dJ6_bitCount_0f7a4_48 : decode cJ6_bitCount_0f7a4 48 = .ok (.iload_n 0, 1) := by decide +kernel
theorem dJ6_bitCount_0f7a4_49 : decode cJ6_bitCount_0f7a4 49 = .ok (.bipush 63, 2) := by decide +kernel
theorem dJ6_bitCount_0f7a4_51 : decode cJ6_bitCount_0f7a4 51 = .ok (.iand, 1) := by decide +kernel
theorem dJ6_bitCount_0f7a4_52 : decode cJ6_bitCount_0f7a4 52 = .ok (.ireturn, 1) := by decide +kernel
theorem dJ9_abs_0f7a4_0 : decode cJ9_abs_0f7a4 0 = .ok (.iload_n 0, 1) := by decide +kernel
theorem dJ9_abs_0f7a4_1 : decode cJ9_abs_0f7a4 1 = .ok (.ifCond .ge 8, 3) := by decide +kernel
theorem dJ9_abs_0f7a4_4 : decode cJ9_abs_0f7a4 4 = .ok (.iload_n 0, 1) := by decide +kernel
theorem dJ9_abs_0f7a4_5 : decode cJ9_abs_0f7a4 5 = .ok (.ineg, 1) := by decide +kernel
theorem dJ9_abs_0f7a4_6 : decode cJ9_abs_0f7a4 6 = .ok (.goto 4, 3) := by decide +kernel
theorem dJ9_abs_0f7a4_9 : decode cJ9_abs_0f7a4 9 = .ok (.iload_n 0, 1) := by decide +kernel
theorem dJ9_abs_0f7a4_10 : decode cJ9_abs_0f7a4 10 = .ok (.ireturn, 1) := by decide +kernel
theorem dJ9_max_7cf53_0 : decode cJ9_max_7cf53 0 = .ok (.iload_n 0, 1) := by decide +kernel
theorem dJ9_max_7cf53_1 : decode cJ9_max_7cf53 1 = .ok (.iload_n 1, 1) := by decide +kernel
theorem dJ9_max_7cf53_2 : decode cJ9_max_7cf53 2 = .ok (.if_icmp .lt 7, 3) := by decide +kernel
theorem dJ9_max_7cf53_5 : decode cJ9_max_7cf53 5 = .ok (.iload_n 0, 1) := by decide +kernel
theorem dJ9_max_7cf53_6 : decode cJ9_max_7cf53 6 = .ok (.goto 4, 3) := by decide +kernel
theorem dJ9_max_7cf53_9 : decode cJ9_max_7cf53 9 = .ok (.iload_n 1, 1) := by decide +kernel
theorem dJ9_max_7cf53_10 : decode cJ9_max_7cf53 10 = .ok (.ireturn, 1) := by decide +kernel
theorem dJ9_min_7cf53_0 : decode cJ9_min_7cf53 0 = .ok (.iload_n 0, 1) := by decide +kernel
theorem dJ9_min_7cf53_1 : decode cJ9_min_7cf53 1 = .ok (.iload_n 1, 1) := by decide +kernel
theorem dJ9_min_7cf53_2 : decode cJ9_min_7cf53 2 = .ok (.if_icmp .gt 7, 3) := by decide +kernel
theorem dJ9_min_7cf53_5 : decode cJ9_min_7cf53 5 = .ok (.iload_n 0, 1) := by decide +kernel
theorem dJ9_min_7cf53_6 : decode cJ9_min_7cf53 6 = .ok (.goto 4, 3) := by decide +kernel
theorem dJ9_min_7cf53_9 : decode cJ9_min_7cf53 9 = .ok (.iload_n 1, 1) := by decide +kernel
theorem dJ9_min_7cf53_10 : decode cJ9_min_7cf53 10 = .ok (.ireturn, 1) := by decide +kernel
set_option maxRecDepth 20000 in
theorem ggJ0_length_8abf5_J0_coder_7d493 : GoodIn wsJ0_length_8abf5 wsJ0_coder_7d493 := goodIn_r _ [6, 7, 8] (by decide +kernel) (by decide +kernel)
set_option maxRecDepth 20000 in
theorem gJ0_length_8abf5_J0_coder_7d493 : GoodIn wsJ0_length_8abf5 (wsV RJ0 335 RJ0 yJ0_coder_7d493 wsJ0_coder_7d493) := goodIn_app (goodIn_of _ (by decide +kernel)) ggJ0_length_8abf5_J0_coder_7d493
theorem dJ0_length_8abf5_0 : decode cJ0_length_8abf5 0 = .ok (.aload_n 0, 1) := by decide +kernel
theorem dJ0_length_8abf5_1 : decode cJ0_length_8abf5 1 = .ok (.getfield 9, 3) := by decide +kernel
theorem dJ0_length_8abf5_4 : decode cJ0_length_8abf5 4 = .ok (.arraylength, 1) := by decide +kernel
theorem dJ0_length_8abf5_5 : decode cJ0_length_8abf5 5 = .ok (.aload_n 0, 1) := by decide +kernel
theorem dJ0_length_8abf5_6 : decode cJ0_length_8abf5 6 = .ok (.invokevirtual 335, 3) := by decide +kernel
theorem dJ0_length_8abf5_9 : decode cJ0_length_8abf5 9 = .ok (.ishr, 1) := by decide +kernel
theorem dJ0_length_8abf5_10 : decode cJ0_length_8abf5 10 = .ok (.ireturn, 1) := by decide +kernel
set_option maxRecDepth 20000 in
theorem ggJ0_charAt_5068e_J0_isLatin1_aae02 : GoodIn wsJ0_charAt_5068e wsJ0_isLatin1_aae02 := goodIn_r _ [6, 7, 8] (by decide +kernel) (by decide +kernel)
set_option maxRecDepth 20000 in
theorem gJ0_charAt_5068e_J0_isLatin1_aae02 : GoodIn wsJ0_charAt_5068e (wsV RJ0 492 RJ0 yJ0_isLatin1_aae02 wsJ0_isLatin1_aae02) := goodIn_app (goodIn_of _ (by decide +kernel)) ggJ0_charAt_5068e_J0_isLatin1_aae02
set_option maxRecDepth 20000 in
theorem ggJ0_charAt_5068e_J1_charAt_3b067 : GoodIn wsJ0_charAt_5068e wsJ1_charAt_3b067 := goodIn_r _ [12, 13, 14, 5, 15, 16, 17, 18, 19, 20] (by decide +kernel) (by decide +kernel)
set_option maxRecDepth 20000 in
theorem gJ0_charAt_5068e_J1_charAt_3b067 : GoodIn wsJ0_charAt_5068e (va_wsS RJ0 495 yJ1_charAt_3b067 wsJ1_charAt_3b067) := goodIn_app (goodIn_of _ (by decide +kernel)) ggJ0_charAt_5068e_J1_charAt_3b067
set_option maxRecDepth 20000 in
theorem ggJ0_charAt_5068e_J2_charAt_3b067 : GoodIn wsJ0_charAt_5068e wsJ2_charAt_3b067 := goodIn_r _ [24, 25, 26, 23, 27, 28, 29, 30, 31, 14, 5, 15, 16, 17, 18, 19, 20, 32, 33, 34, 35, 36, 37] (by decide +kernel) (by decide +kernel)
set_option maxRecDepth 20000 in
theorem gJ0_charAt_5068e_J2_charAt_3b067 : GoodIn wsJ0_charAt_5068e (va_wsS RJ0 498 yJ2_charAt_3b067 wsJ2_charAt_3b067) := goodIn_app (goodIn_of _ (by decide +kernel)) ggJ0_charAt_5068e_J2_charAt_3b067
theorem dJ0_charAt_5068e_0 : decode cJ0_charAt_5068e 0 = .ok (.aload_n 0, 1) := by decide +kernel
theorem dJ0_charAt_5068e_1 : decode cJ0_charAt_5068e 1 = .ok (.invokevirtual 492, 3) := by decide +kernel
theorem dJ0_charAt_5068e_4 : decode cJ0_charAt_5068e 4 = .ok (.ifCond .eq 12, 3) := by decide +kernel
theorem dJ0_charAt_5068e_7 : decode cJ0_charAt_5068e 7 = .ok (.aload_n 0, 1) := by decide +kernel
theorem dJ0_charAt_5068e_8 : decode cJ0_charAt_5068e 8 = .ok (.getfield 9, 3) := by decide +kernel
theorem dJ0_charAt_5068e_11 : decode cJ0_charAt_5068e 11 = .ok (.iload_n 1, 1) := by decide +kernel
theorem dJ0_charAt_5068e_12 : decode cJ0_charAt_5068e 12 = .ok (.invokestatic 495, 3) := by decide +kernel
theorem dJ0_charAt_5068e_15 : decode cJ0_charAt_5068e 15 = .ok (.ireturn, 1) := by decide +kernel
theorem dJ0_charAt_5068e_16 : decode cJ0_charAt_5068e 16 = .ok (.aload_n 0, 1) := by decide +kernel
theorem dJ0_charAt_5068e_17 : decode cJ0_charAt_5068e 17 = .ok (.getfield 9, 3) := by decide +kernel
theorem dJ0_charAt_5068e_20 : decode cJ0_charAt_5068e 20 = .ok (.iload_n 1, 1) := by decide +kernel
theorem dJ0_charAt_5068e_21 : decode cJ0_charAt_5068e 21 = .ok (.invokestatic 498, 3) := by decide +kernel
theorem dJ0_charAt_5068e_24 : decode cJ0_charAt_5068e 24 = .ok (.ireturn, 1) := by decide +kernel
theorem dJ0_coder_7d493_0 : decode cJ0_coder_7d493 0 = .ok (.getstatic 38, 3) := by decide +kernel
theorem dJ0_coder_7d493_3 : decode cJ0_coder_7d493 3 = .ok (.ifCond .eq 10, 3) := by decide +kernel
theorem dJ0_coder_7d493_6 : decode cJ0_coder_7d493 6 = .ok (.aload_n 0, 1) := by decide +kernel
theorem dJ0_coder_7d493_7 : decode cJ0_coder_7d493 7 = .ok (.getfield 15, 3) := by decide +kernel
theorem dJ0_coder_7d493_10 : decode cJ0_coder_7d493 10 = .ok (.goto 4, 3) := by decide +kernel
theorem dJ0_coder_7d493_13 : decode cJ0_coder_7d493 13 = .ok (.iconst 1, 1) := by decide +kernel
theorem dJ0_coder_7d493_14 : decode cJ0_coder_7d493 14 = .ok (.ireturn, 1) := by decide +kernel
theorem dJ0_isLatin1_aae02_0 : decode cJ0_isLatin1_aae02 0 = .ok (.getstatic 38, 3) := by decide +kernel
theorem dJ0_isLatin1_aae02_3 : decode cJ0_isLatin1_aae02 3 = .ok (.ifCond .eq 14, 3) := by decide +kernel
theorem dJ0_isLatin1_aae02_6 : decode cJ0_isLatin1_aae02 6 = .ok (.aload_n 0, 1) := by decide +kernel
theorem dJ0_isLatin1_aae02_7 : decode cJ0_isLatin1_aae02 7 = .ok (.getfield 15, 3) := by decide +kernel
theorem dJ0_isLatin1_aae02_10 : decode cJ0_isLatin1_aae02 10 = .ok (.ifCond .ne 7, 3) := by decide +kernel
theorem dJ0_isLatin1_aae02_13 : decode cJ0_isLatin1_aae02 13 = .ok (.iconst 1, 1) := by decide +kernel
theorem dJ0_isLatin1_aae02_14 : decode cJ0_isLatin1_aae02 14 = .ok (.goto 4, 3) := by decide +kernel
theorem dJ0_isLatin1_aae02_17 : decode cJ0_isLatin1_aae02 17 = .ok (.iconst 0, 1) := by decide +kernel
theorem dJ0_isLatin1_aae02_18 : decode cJ0_isLatin1_aae02 18 = .ok (.ireturn, 1) := by decide +kernel
set_option maxRecDepth 20000 in
theorem ggJ0_checkIndex_df160_J3_checkIndex_8e157 : GoodIn wsJ0_checkIndex_df160 wsJ3_checkIndex_8e157 := goodIn_r _ [5] (by decide +kernel) (by decide +kernel)
set_option maxRecDepth 20000 in
theorem gJ0_checkIndex_df160_J3_checkIndex_8e157 : GoodIn wsJ0_checkIndex_df160 (va_wsS RJ0 1059 yJ3_checkIndex_8e157 wsJ3_checkIndex_8e157) := goodIn_app (goodIn_of _ (by decide +kernel)) ggJ0_checkIndex_df160_J3_checkIndex_8e157
theorem dJ0_checkIndex_df160_0 : decode cJ0_checkIndex_df160 0 = .ok (.iload_n 0, 1) := by decide +kernel
theorem dJ0_checkIndex_df160_1 : decode cJ0_checkIndex_df160 1 = .ok (.iload_n 1, 1) := by decide +kernel
theorem dJ0_checkIndex_df160_2 : decode cJ0_checkIndex_df160 2 = .ok (.getstatic 1053, 3) := by decide +kernel
theorem dJ0_checkIndex_df160_5 : decode cJ0_checkIndex_df160 5 = .ok (.invokestatic 1059, 3) := by decide +kernel
theorem dJ0_checkIndex_df160_8 : decode cJ0_checkIndex_df160 8 = .ok (.pop, 1) := by decide +kernel
theorem dJ0_checkIndex_df160_9 : decode cJ0_checkIndex_df160 9 = .ok (.return_, 1) := by decide +kernel
set_option maxRecDepth 20000 in
theorem ggJ1_charAt_3b067_J0_checkIndex_df160 : GoodIn wsJ1_charAt_3b067 wsJ0_checkIndex_df160 := goodIn_r _ [4, 5, 6, 7, 8, 9] (by decide +kernel) (by decide +kernel)
set_option maxRecDepth 20000 in
theorem gJ1_charAt_3b067_J0_checkIndex_df160 : GoodIn wsJ1_charAt_3b067 (va_wsS RJ1 9 yJ0_checkIndex_df160 wsJ0_checkIndex_df160) := goodIn_app (goodIn_of _ (by decide +kernel)) ggJ1_charAt_3b067_J0_checkIndex_df160
theorem dJ1_charAt_3b067_0 : decode cJ1_charAt_3b067 0 = .ok (.iload_n 1, 1) := by decide +kernel
theorem dJ1_charAt_3b067_1 : decode cJ1_charAt_3b067 1 = .ok (.aload_n 0, 1) := by decide +kernel
theorem dJ1_charAt_3b067_2 : decode cJ1_charAt_3b067 2 = .ok (.arraylength, 1) := by decide +kernel
theorem dJ1_charAt_3b067_3 : decode cJ1_charAt_3b067 3 = .ok (.invokestatic 9, 3) := by decide +kernel
theorem dJ1_charAt_3b067_6 : decode cJ1_charAt_3b067 6 = .ok (.aload_n 0, 1) := by decide +kernel
theorem dJ1_charAt_3b067_7 : decode cJ1_charAt_3b067 7 = .ok (.iload_n 1, 1) := by decide +kernel
theorem dJ1_charAt_3b067_8 : decode cJ1_charAt_3b067 8 = .ok (.baload, 1) := by decide +kernel
theorem dJ1_charAt_3b067_9 : decode cJ1_charAt_3b067 9 = .ok (.sipush 255, 3) := by decide +kernel
theorem dJ1_charAt_3b067_12 : decode cJ1_charAt_3b067 12 = .ok (.iand, 1) := by decide +kernel
theorem dJ1_charAt_3b067_13 : decode cJ1_charAt_3b067 13 = .ok (.i2c, 1) := by decide +kernel
theorem dJ1_charAt_3b067_14 : decode cJ1_charAt_3b067 14 = .ok (.ireturn, 1) := by decide +kernel
set_option maxRecDepth 20000 in
theorem ggJ2_getChar_3b067_J2_length_9d52b : GoodIn wsJ2_getChar_3b067 wsJ2_length_9d52b := goodIn_r _ [7] (by decide +kernel) (by decide +kernel)
set_option maxRecDepth 20000 in
theorem gJ2_getChar_3b067_J2_length_9d52b : GoodIn wsJ2_getChar_3b067 (va_wsS RJ2 48 yJ2_length_9d52b wsJ2_length_9d52b) := goodIn_app (goodIn_of _ (by decide +kernel)) ggJ2_getChar_3b067_J2_length_9d52b
theorem dJ2_getChar_3b067_0 : decode cJ2_getChar_3b067 0 = .ok (.getstatic 44, 3) := by decide +kernel
theorem dJ2_getChar_3b067_3 : decode cJ2_getChar_3b067 3 = .ok (.ifCond .ne 25, 3) := by decide +kernel
theorem dJ2_getChar_3b067_6 : decode cJ2_getChar_3b067 6 = .ok (.iload_n 1, 1) := by decide +kernel
theorem dJ2_getChar_3b067_7 : decode cJ2_getChar_3b067 7 = .ok (.ifCond .lt 11, 3) := by decide +kernel
theorem dJ2_getChar_3b067_10 : decode cJ2_getChar_3b067 10 = .ok (.iload_n 1, 1) := by decide +kernel
theorem dJ2_getChar_3b067_11 : decode cJ2_getChar_3b067 11 = .ok (.aload_n 0, 1) := by decide +kernel
theorem dJ2_getChar_3b067_12 : decode cJ2_getChar_3b067 12 = .ok (.invokestatic 48, 3) := by decide +kernel
theorem dJ2_getChar_3b067_15 : decode cJ2_getChar_3b067 15 = .ok (.if_icmp .lt 13, 3) := by decide +kernel
theorem dJ2_getChar_3b067_18 : decode cJ2_getChar_3b067 18 = .ok (.new 52, 3) := by decide +kernel
theorem dJ2_getChar_3b067_21 : decode cJ2_getChar_3b067 21 = .ok (.dup, 1) := by decide +kernel
theorem dJ2_getChar_3b067_22 : decode cJ2_getChar_3b067 22 = .ok (.ldc 54, 2) := by decide +kernel
theorem dJ2_getChar_3b067_24 : decode cJ2_getChar_3b067 24 = .ok (.invokespecial 56, 3) := by decide +kernel
theorem dJ2_getChar_3b067_27 : decode cJ2_getChar_3b067 27 = .ok (.athrow, 1) := by decide +kernel
theorem dJ2_getChar_3b067_28 : decode cJ2_getChar_3b067 28 = .ok (.iload_n 1, 1) := by decide +kernel
theorem dJ2_getChar_3b067_29 : decode cJ2_getChar_3b067 29 = .ok (.iconst 1, 1) := by decide +kernel
theorem dJ2_getChar_3b067_30 : decode cJ2_getChar_3b067 30 = .ok (.ishl, 1) := by decide +kernel
theorem dJ2_getChar_3b067_31 : decode cJ2_getChar_3b067 31 = .ok (.istore_n 1, 1) := by decide +kernel
theorem dJ2_getChar_3b067_32 : decode cJ2_getChar_3b067 32 = .ok (.aload_n 0, 1) := by decide +kernel
theorem dJ2_getChar_3b067_33 : decode cJ2_getChar_3b067 33 = .ok (.iload_n 1, 1) := by decide +kernel
theorem dJ2_getChar_3b067_34 : decode cJ2_getChar_3b067 34 = .ok (.iinc 1 1, 3) := by decide +kernel
theorem dJ2_getChar_3b067_37 : decode cJ2_getChar_3b067 37 = .ok (.baload, 1) := by decide +kernel
theorem dJ2_getChar_3b067_38 : decode cJ2_getChar_3b067 38 = .ok (.sipush 255, 3) := by decide +kernel
theorem dJ2_getChar_3b067_41 : decode cJ2_getChar_3b067 41 = .ok (.iand, 1) := by decide +kernel
theorem dJ2_getChar_3b067_42 : decode cJ2_getChar_3b067 42 = .ok (.getstatic 59, 3) := by decide +kernel
theorem dJ2_getChar_3b067_45 : decode cJ2_getChar_3b067 45 = .ok (.ishl, 1) := by decide +kernel
theorem dJ2_getChar_3b067_46 : decode cJ2_getChar_3b067 46 = .ok (.aload_n 0, 1) := by decide +kernel
theorem dJ2_getChar_3b067_47 : decode cJ2_getChar_3b067 47 = .ok (.iload_n 1, 1) := by decide +kernel
theorem dJ2_getChar_3b067_48 : decode cJ2_getChar_3b067 48 = .ok (.baload, 1) := by decide +kernel
theorem dJ2_getChar_3b067_49 : decode cJ2_getChar_3b067 49 = .ok (.sipush 255, 3) := by decide +kernel
theorem dJ2_getChar_3b067_52 : decode cJ2_getChar_3b067 52 = .ok (.iand, 1) := by decide +kernel
theorem dJ2_getChar_3b067_53 : decode cJ2_getChar_3b067 53 = .ok (.getstatic 63, 3) := by decide +kernel
theorem dJ2_getChar_3b067_56 : decode cJ2_getChar_3b067 56 = .ok (.ishl, 1) := by decide +kernel
theorem dJ2_getChar_3b067_57 : decode cJ2_getChar_3b067 57 = .ok (.ior, 1) := by decide +kernel
theorem dJ2_getChar_3b067_58 : decode cJ2_getChar_3b067 58 = .ok (.i2c, 1) := by decide +kernel
theorem dJ2_getChar_3b067_59 : decode cJ2_getChar_3b067 59 = .ok (.ireturn, 1) := by decide +kernel
theorem dJ2_length_9d52b_0 : decode cJ2_length_9d52b 0 = .ok (.aload_n 0, 1) := by decide +kernel
theorem dJ2_length_9d52b_1 : decode cJ2_length_9d52b 1 = .ok (.arraylength, 1) := by decide +kernel
theorem dJ2_length_9d52b_2 : decode cJ2_length_9d52b 2 = .ok (.iconst 1, 1) := by decide +kernel
theorem dJ2_length_9d52b_3 : decode cJ2_length_9d52b 3 = .ok (.ishr, 1) := by decide +kernel
theorem dJ2_length_9d52b_4 : decode cJ2_length_9d52b 4 = .ok (.ireturn, 1) := by decide +kernel
set_option maxRecDepth 20000 in
theorem ggJ2_charAt_3b067_J2_checkIndex_2214a : GoodIn wsJ2_charAt_3b067 wsJ2_checkIndex_2214a := goodIn_r _ [4, 5, 6, 3, 7, 8, 9, 10, 11, 12, 13, 14, 15, 16] (by decide +kernel) (by decide +kernel)
set_option maxRecDepth 20000 in
theorem gJ2_charAt_3b067_J2_checkIndex_2214a : GoodIn wsJ2_charAt_3b067 (va_wsS RJ2 67 yJ2_checkIndex_2214a wsJ2_checkIndex_2214a) := goodIn_app (goodIn_of _ (by decide +kernel)) ggJ2_charAt_3b067_J2_checkIndex_2214a
set_option maxRecDepth 20000 in
theorem ggJ2_charAt_3b067_J2_getChar_3b067 : GoodIn wsJ2_charAt_3b067 wsJ2_getChar_3b067 := goodIn_r _ [19, 20, 21, 22, 5, 6, 3, 7] (by decide +kernel) (by decide +kernel)
set_option maxRecDepth 20000 in
theorem gJ2_charAt_3b067_J2_getChar_3b067 : GoodIn wsJ2_charAt_3b067 (va_wsS RJ2 71 yJ2_getChar_3b067 wsJ2_getChar_3b067) := goodIn_app (goodIn_of _ (by decide +kernel)) ggJ2_charAt_3b067_J2_getChar_3b067
theorem dJ2_charAt_3b067_0 : decode cJ2_charAt_3b067 0 = .ok (.iload_n 1, 1) := by decide +kernel
theorem dJ2_charAt_3b067_1 : decode cJ2_charAt_3b067 1 = .ok (.aload_n 0, 1) := by decide +kernel
theorem dJ2_charAt_3b067_2 : decode cJ2_charAt_3b067 2 = .ok (.invokestatic 67, 3) := by decide +kernel
theorem dJ2_charAt_3b067_5 : decode cJ2_charAt_3b067 5 = .ok (.aload_n 0, 1) := by decide +kernel
theorem dJ2_charAt_3b067_6 : decode cJ2_charAt_3b067 6 = .ok (.iload_n 1, 1) := by decide +kernel
theorem dJ2_charAt_3b067_7 : decode cJ2_charAt_3b067 7 = .ok (.invokestatic 71, 3) := by decide +kernel
theorem dJ2_charAt_3b067_10 : decode cJ2_charAt_3b067 10 = .ok (.ireturn, 1) := by decide +kernel
set_option maxRecDepth 20000 in
theorem ggJ2_checkIndex_2214a_J2_length_9d52b : GoodIn wsJ2_checkIndex_2214a wsJ2_length_9d52b := goodIn_r _ [4] (by decide +kernel) (by decide +kernel)
set_option maxRecDepth 20000 in
theorem gJ2_checkIndex_2214a_J2_length_9d52b : GoodIn wsJ2_checkIndex_2214a (va_wsS RJ2 48 yJ2_length_9d52b wsJ2_length_9d52b) := goodIn_app (goodIn_of _ (by decide +kernel)) ggJ2_checkIndex_2214a_J2_length_9d52b
set_option maxRecDepth 20000 in
theorem ggJ2_checkIndex_2214a_J0_checkIndex_df160 : GoodIn wsJ2_checkIndex_2214a wsJ0_checkIndex_df160 := goodIn_r _ [8, 9, 10, 11, 12, 13] (by decide +kernel) (by decide +kernel)
set_option maxRecDepth 20000 in
theorem gJ2_checkIndex_2214a_J0_checkIndex_df160 : GoodIn wsJ2_checkIndex_2214a (va_wsS RJ2 414 yJ0_checkIndex_df160 wsJ0_checkIndex_df160) := goodIn_app (goodIn_of _ (by decide +kernel)) ggJ2_checkIndex_2214a_J0_checkIndex_df160
theorem dJ2_checkIndex_2214a_0 : decode cJ2_checkIndex_2214a 0 = .ok (.iload_n 0, 1) := by decide +kernel
theorem dJ2_checkIndex_2214a_1 : decode cJ2_checkIndex_2214a 1 = .ok (.aload_n 1, 1) := by decide +kernel
theorem dJ2_checkIndex_2214a_2 : decode cJ2_checkIndex_2214a 2 = .ok (.invokestatic 48, 3) := by decide +kernel
theorem dJ2_checkIndex_2214a_5 : decode cJ2_checkIndex_2214a 5 = .ok (.invokestatic 414, 3) := by decide +kernel
theorem dJ2_checkIndex_2214a_8 : decode cJ2_checkIndex_2214a 8 = .ok (.return_, 1) := by decide +kernel
theorem dJ3_checkIndex_8e157_0 : decode cJ3_checkIndex_8e157 0 = .ok (.iload_n 0, 1) := by decide +kernel
theorem dJ3_checkIndex_8e157_1 : decode cJ3_checkIndex_8e157 1 = .ok (.ifCond .lt 8, 3) := by decide +kernel
theorem dJ3_checkIndex_8e157_4 : decode cJ3_checkIndex_8e157 4 = .ok (.iload_n 0, 1) := by decide +kernel
theorem dJ3_checkIndex_8e157_5 : decode cJ3_checkIndex_8e157 5 = .ok (.iload_n 1, 1) := by decide +kernel
theorem dJ3_checkIndex_8e157_6 : decode cJ3_checkIndex_8e157 6 = .ok (.if_icmp .lt 10, 3) := by decide +kernel
theorem dJ3_checkIndex_8e157_9 : decode cJ3_checkIndex_8e157 9 = .ok (.aload_n 2, 1) := by decide +kernel
theorem dJ3_checkIndex_8e157_10 : decode cJ3_checkIndex_8e157 10 = .ok (.iload_n 0, 1) := by decide +kernel
theorem dJ3_checkIndex_8e157_11 : decode cJ3_checkIndex_8e157 11 = .ok (.iload_n 1, 1) := by decide +kernel
theorem dJ3_checkIndex_8e157_12 : decode cJ3_checkIndex_8e157 12 = .ok (.invokestatic 95, 3) := by decide +kernel
theorem dJ3_checkIndex_8e157_15 : decode cJ3_checkIndex_8e157 15 = .ok (.athrow, 1) := by decide +kernel
theorem dJ3_checkIndex_8e157_16 : decode cJ3_checkIndex_8e157 16 = .ok (.iload_n 0, 1) := by decide +kernel
theorem dJ3_checkIndex_8e157_17 : decode cJ3_checkIndex_8e157 17 = .ok (.ireturn, 1) := by decide +kernel
set_option maxRecDepth 20000 in
theorem ggL_law_X7_init : GoodIn wsL_law wsX7_init := goodIn_r _ [9, 10, 11, 12, 13, 14, 15, 16, 17, 18, 19, 20, 21, 22, 23, 24, 25, 26, 27, 28, 29, 30, 31, 32, 33, 34, 35, 36, 37, 38, 39, 40, 41, 42, 43, 44, 45, 46, 47, 48, 49, 50, 51, 52, 53, 54, 55, 56, 57, 58, 59, 60, 61, 62, 63, 64, 65, 66, 67, 68, 69, 70, 71, 72, 73, 74, 75, 76, 77, 78, 79, 80, 81, 82, 83, 84, 85, 86, 87, 88, 89, 90, 91, 92, 93, 94, 95, 96, 97, 98, 99, 100, 101, 102, 103, 104, 105, 106, 107, 108, 846, 847, 848, 849, 850, 814, 815, 816, 817, 818, 819, 820, 821, 822, 851, 852, 853, 854, 855, 856, 857, 858, 859, 860, 861, 862, 863, 864, 865, 866, 867, 868, 869, 870, 871, 872, 873, 874, 875] (by decide +kernel) (by decide +kernel)
set_option maxRecDepth 20000 in
theorem gL_law_X7_init : GoodIn wsL_law (wsX7_init) := ggL_law_X7_init
set_option maxRecDepth 20000 in
theorem ggL_law_X8_init : GoodIn wsL_law wsX8_init := goodIn_r _ [111, 112, 11, 12, 52, 113, 114, 115, 116, 117, 118, 119, 120, 121, 122, 123, 124, 125, 5, 126, 823, 824, 825, 826, 827, 828, 829, 830, 831, 832, 833, 834, 835, 836, 837, 838, 839, 840, 841, 842, 843, 844, 845] (by decide +kernel) (by decide +kernel)
set_option maxRecDepth 20000 in
theorem gL_law_X8_init : GoodIn wsL_law (wsX8_init) := ggL_law_X8_init
set_option maxRecDepth 20000 in
theorem ggL_law_X7_type : GoodIn wsL_law wsX7_type := goodIn_r _ [130, 16, 131, 132, 133, 15, 134, 45, 44, 814, 815, 816, 817, 818, 819, 820, 821, 822, 846, 847, 848, 849, 850] (by decide +kernel) (by decide +kernel)
set_option maxRecDepth 20000 in
theorem gL_law_X7_type : GoodIn wsL_law (wsV RL 15 RX7 yX7_type wsX7_type) := goodIn_app (goodIn_of _ (by decide +kernel)) ggL_law_X7_type
set_option maxRecDepth 20000 in
theorem ggL_law_X8_type : GoodIn wsL_law wsX8_type := goodIn_r _ [138, 139, 140, 113, 141, 142, 143, 5, 144, 823, 824, 825, 826, 827, 828, 829, 830, 831, 832, 833, 834, 835, 836, 837, 838, 839, 840, 841, 842, 843, 844, 845] (by decide +kernel) (by decide +kernel)
set_option maxRecDepth 20000 in
theorem gL_law_X8_type : GoodIn wsL_law (wsV RL 19 RX8 yX8_type wsX8_type) := goodIn_app (goodIn_of _ (by decide +kernel)) ggL_law_X8_type
set_option maxRecDepth 20000 in
theorem ggL_law_X7_clear : GoodIn wsL_law wsX7_clear := goodIn_r _ [148, 16, 814, 815, 816, 817, 818, 819, 820, 821, 822, 846, 847, 848, 849, 850] (by decide +kernel) (by decide +kernel)
set_option maxRecDepth 20000 in
theorem gL_law_X7_clear : GoodIn wsL_law (wsV RL 20 RX7 yX7_clear wsX7_clear) := goodIn_app (goodIn_of _ (by decide +kernel)) ggL_law_X7_clear
set_option maxRecDepth 20000 in
theorem ggL_law_X8_clear : GoodIn wsL_law wsX8_clear := goodIn_r _ [152, 139, 140, 823, 824, 825, 826, 827, 828, 829, 830, 831, 832, 833, 834, 835, 836, 837, 838, 839, 840, 841, 842, 843, 844, 845] (by decide +kernel) (by decide +kernel)
set_option maxRecDepth 20000 in
theorem gL_law_X8_clear : GoodIn wsL_law (wsV RL 24 RX8 yX8_clear wsX8_clear) := goodIn_app (goodIn_of _ (by decide +kernel)) ggL_law_X8_clear
set_option maxRecDepth 20000 in
theorem ggL_law_X7_chancery : GoodIn wsL_law wsX7_chancery := goodIn_r _ [156, 16, 38, 37, 157, 158, 159, 15, 160, 46, 47, 90, 36, 91, 92, 93, 94, 95, 96, 161, 162, 163, 164, 45, 44, 165, 166, 167, 168, 169, 170, 171, 172, 173, 174, 175, 176, 177, 178, 179, 180, 181, 182, 183, 184, 185, 186, 187, 188, 189, 190, 191, 192, 193, 194, 195, 196, 197, 198, 199, 200, 201, 202, 203, 204, 205, 206, 207, 208, 209, 210, 211, 212, 213, 214, 215, 216, 217, 218, 219, 220, 221, 222, 223, 224, 225, 226, 227, 228, 229, 230, 231, 232, 48, 233, 234, 235, 236, 237, 238, 239, 240, 83, 241, 242, 243, 244, 245, 246, 247, 248, 2, 249, 20, 25, 29, 21, 97, 98, 99, 19, 100, 56, 101, 102, 103, 104, 53, 54, 55, 105, 106, 107, 108, 814, 815, 816, 817, 818, 819, 820, 821, 822, 846, 847, 848, 849, 850, 867, 868, 869, 870, 871, 872, 873, 874, 875, 856, 857, 858, 859, 860, 861, 862, 851, 852, 853, 854, 855] (by decide +kernel) (by decide +kernel)
set_option maxRecDepth 20000 in
theorem gL_law_X7_chancery : GoodIn wsL_law (wsV RL 25 RX7 yX7_chancery wsX7_chancery) := goodIn_app (goodIn_of _ (by decide +kernel)) ggL_law_X7_chancery
set_option maxRecDepth 20000 in
theorem ggL_law_X8_chancery : GoodIn wsL_law wsX8_chancery := goodIn_r _ [253, 139, 254, 255, 256, 257, 258, 259, 260, 114, 140, 261, 262, 118, 263, 264, 265, 5, 266, 267, 268, 269, 270, 271, 113, 142, 143, 144, 272, 273, 274, 275, 276, 277, 278, 279, 280, 281, 282, 283, 284, 285, 286, 287, 288, 289, 290, 291, 292, 293, 294, 295, 296, 297, 123, 124, 125, 126, 115, 823, 824, 825, 826, 827, 828, 829, 830, 831, 832, 833, 834, 835, 836, 837, 838, 839, 840, 841, 842, 843, 844, 845] (by decide +kernel) (by decide +kernel)
set_option maxRecDepth 20000 in
theorem gL_law_X8_chancery : GoodIn wsL_law (wsV RL 28 RX8 yX8_chancery wsX8_chancery) := goodIn_app (goodIn_of _ (by decide +kernel)) ggL_law_X8_chancery
set_option maxRecDepth 20000 in
theorem ggL_law_X7_clerk : GoodIn wsL_law wsX7_clerk := goodIn_r _ [301, 37, 302, 303, 304, 36, 305, 93, 83, 814, 815, 816, 817, 818, 819, 820, 821, 822, 872, 873, 874, 875, 867, 868, 869, 870, 871] (by decide +kernel) (by decide +kernel)
set_option maxRecDepth 20000 in
theorem gL_law_X7_clerk : GoodIn wsL_law (wsV RL 29 RX7 yX7_clerk wsX7_clerk) := goodIn_app (goodIn_of _ (by decide +kernel)) ggL_law_X7_clerk
set_option maxRecDepth 20000 in
theorem ggL_law_X8_clerk : GoodIn wsL_law wsX8_clerk := goodIn_r _ [309, 139, 114, 310, 311, 312, 5, 313, 260, 142, 143, 144, 823, 824, 825, 826, 827, 828, 829, 830, 831, 832, 833, 834, 835, 836, 837, 838, 839, 840, 841, 842, 843, 844, 845] (by decide +kernel) (by decide +kernel)
set_option maxRecDepth 20000 in
theorem gL_law_X8_clerk : GoodIn wsL_law (wsV RL 33 RX8 yX8_clerk wsX8_clerk) := goodIn_app (goodIn_of _ (by decide +kernel)) ggL_law_X8_clerk
set_option maxRecDepth 20000 in
theorem ggL_law_X7_line : GoodIn wsL_law wsX7_line := goodIn_r _ [317, 20, 814, 815, 816, 817, 818, 819, 820, 821, 822, 851, 852, 853, 854, 855] (by decide +kernel) (by decide +kernel)
set_option maxRecDepth 20000 in
theorem gL_law_X7_line : GoodIn wsL_law (wsV RL 34 RX7 yX7_line wsX7_line) := goodIn_app (goodIn_of _ (by decide +kernel)) ggL_law_X7_line
set_option maxRecDepth 20000 in
theorem ggL_law_X8_line : GoodIn wsL_law wsX8_line := goodIn_r _ [321, 139, 115, 142, 143, 5, 144, 823, 824, 825, 826, 827, 828, 829, 830, 831, 832, 833, 834, 835, 836, 837, 838, 839, 840, 841, 842, 843, 844, 845] (by decide +kernel) (by decide +kernel)
set_option maxRecDepth 20000 in
theorem gL_law_X8_line : GoodIn wsL_law (wsV RL 37 RX8 yX8_line wsX8_line) := goodIn_app (goodIn_of _ (by decide +kernel)) ggL_law_X8_line
set_option maxRecDepth 20000 in
theorem ggL_law_X7_makes : GoodIn wsL_law wsX7_makes := goodIn_r _ [325, 37, 302, 303, 304, 36, 305, 93, 83, 326, 327, 2, 328, 329, 330, 331, 332, 333, 334, 85, 335, 336, 337, 338, 339, 340, 341, 342, 343, 344, 345, 346, 347, 348, 349, 350, 351, 352, 353, 354, 814, 815, 816, 817, 818, 819, 820, 821, 822, 867, 868, 869, 870, 871, 872, 873, 874, 875] (by decide +kernel) (by decide +kernel)
set_option maxRecDepth 20000 in
theorem gL_law_X7_makes : GoodIn wsL_law (wsV RL 38 RX7 yX7_makes wsX7_makes) := goodIn_app (goodIn_of _ (by decide +kernel)) ggL_law_X7_makes
set_option maxRecDepth 20000 in
theorem ggL_law_X8_makes : GoodIn wsL_law wsX8_makes := goodIn_r _ [358, 139, 310, 311, 312, 5, 313, 260, 142, 143, 144, 359, 360, 361, 362, 114, 363, 364, 365, 366, 823, 824, 825, 826, 827, 828, 829, 830, 831, 832, 833, 834, 835, 836, 837, 838, 839, 840, 841, 842, 843, 844, 845] (by decide +kernel) (by decide +kernel)
set_option maxRecDepth 20000 in
theorem gL_law_X8_makes : GoodIn wsL_law (wsV RL 42 RX8 yX8_makes wsX8_makes) := goodIn_app (goodIn_of _ (by decide +kernel)) ggL_law_X8_makes
set_option maxRecDepth 20000 in
theorem ggL_law_X7_write : GoodIn wsL_law wsX7_write := goodIn_r _ [370, 37, 20, 302, 303, 304, 36, 305, 93, 83, 371, 106, 107, 19, 108, 56, 372, 373, 374, 375, 53, 376, 377, 378, 379, 380, 381, 382, 383, 54, 384, 385, 386, 387, 57, 388, 332, 333, 334, 85, 335, 336, 337, 2, 338, 339, 340, 341, 342, 343, 344, 345, 346, 347, 348, 349, 350, 351, 389, 102, 103, 104, 55, 105, 352, 353, 354, 814, 815, 816, 817, 818, 819, 820, 821, 822, 872, 873, 874, 875, 867, 868, 869, 870, 871, 851, 852, 853, 854, 855] (by decide +kernel) (by decide +kernel)
set_option maxRecDepth 20000 in
theorem gL_law_X7_write : GoodIn wsL_law (wsV RL 43 RX7 yX7_write wsX7_write) := goodIn_app (goodIn_of _ (by decide +kernel)) ggL_law_X7_write
set_option maxRecDepth 20000 in
theorem ggL_law_X8_write : GoodIn wsL_law wsX8_write := goodIn_r _ [393, 139, 115, 394, 395, 114, 310, 311, 312, 5, 313, 260, 142, 143, 144, 396, 397, 398, 399, 359, 360, 361, 362, 363, 364, 365, 366, 400, 401, 402, 403, 823, 824, 825, 826, 827, 828, 829, 830, 831, 832, 833, 834, 835, 836, 837, 838, 839, 840, 841, 842, 843, 844, 845] (by decide +kernel) (by decide +kernel)
set_option maxRecDepth 20000 in
theorem gL_law_X8_write : GoodIn wsL_law (wsV RL 47 RX8 yX8_write wsX8_write) := goodIn_app (goodIn_of _ (by decide +kernel)) ggL_law_X8_write
set_option maxRecDepth 20000 in
theorem ggL_law_X7_forge : GoodIn wsL_law wsX7_forge := goodIn_r _ [407, 20, 326, 327, 2, 328, 329, 330, 331, 371, 106, 107, 19, 108, 56, 389, 102, 103, 104, 53, 54, 55, 105, 814, 815, 816, 817, 818, 819, 820, 821, 822, 851, 852, 853, 854, 855] (by decide +kernel) (by decide +kernel)
set_option maxRecDepth 20000 in
theorem gL_law_X7_forge : GoodIn wsL_law (wsV RL 48 RX7 yX7_forge wsX7_forge) := goodIn_app (goodIn_of _ (by decide +kernel)) ggL_law_X7_forge
set_option maxRecDepth 20000 in
theorem ggL_law_X8_forge : GoodIn wsL_law wsX8_forge := goodIn_r _ [411, 139, 115, 142, 143, 5, 144, 400, 401, 402, 403, 823, 824, 825, 826, 827, 828, 829, 830, 831, 832, 833, 834, 835, 836, 837, 838, 839, 840, 841, 842, 843, 844, 845] (by decide +kernel) (by decide +kernel)
set_option maxRecDepth 20000 in
theorem gL_law_X8_forge : GoodIn wsL_law (wsV RL 51 RX8 yX8_forge wsX8_forge) := goodIn_app (goodIn_of _ (by decide +kernel)) ggL_law_X8_forge
set_option maxRecDepth 20000 in
theorem ggL_law_X7_undo : GoodIn wsL_law wsX7_undo := goodIn_r _ [415, 20, 814, 815, 816, 817, 818, 819, 820, 821, 822, 851, 852, 853, 854, 855] (by decide +kernel) (by decide +kernel)
set_option maxRecDepth 20000 in
theorem gL_law_X7_undo : GoodIn wsL_law (wsV RL 52 RX7 yX7_undo wsX7_undo) := goodIn_app (goodIn_of _ (by decide +kernel)) ggL_law_X7_undo
set_option maxRecDepth 20000 in
theorem ggL_law_X8_undo : GoodIn wsL_law wsX8_undo := goodIn_r _ [419, 139, 115, 823, 824, 825, 826, 827, 828, 829, 830, 831, 832, 833, 834, 835, 836, 837, 838, 839, 840, 841, 842, 843, 844, 845] (by decide +kernel) (by decide +kernel)
set_option maxRecDepth 20000 in
theorem gL_law_X8_undo : GoodIn wsL_law (wsV RL 55 RX8 yX8_undo wsX8_undo) := goodIn_app (goodIn_of _ (by decide +kernel)) ggL_law_X8_undo
set_option maxRecDepth 20000 in
theorem ggL_law_X7_lot : GoodIn wsL_law wsX7_lot := goodIn_r _ [423, 20, 814, 815, 816, 817, 818, 819, 820, 821, 822, 851, 852, 853, 854, 855] (by decide +kernel) (by decide +kernel)
set_option maxRecDepth 20000 in
theorem gL_law_X7_lot : GoodIn wsL_law (wsV RL 56 RX7 yX7_lot wsX7_lot) := goodIn_app (goodIn_of _ (by decide +kernel)) ggL_law_X7_lot
set_option maxRecDepth 20000 in
theorem ggL_law_X8_lot : GoodIn wsL_law wsX8_lot := goodIn_r _ [427, 139, 115, 823, 824, 825, 826, 827, 828, 829, 830, 831, 832, 833, 834, 835, 836, 837, 838, 839, 840, 841, 842, 843, 844, 845] (by decide +kernel) (by decide +kernel)
set_option maxRecDepth 20000 in
theorem gL_law_X8_lot : GoodIn wsL_law (wsV RL 59 RX8 yX8_lot wsX8_lot) := goodIn_app (goodIn_of _ (by decide +kernel)) ggL_law_X8_lot
set_option maxRecDepth 20000 in
theorem ggL_law_X7_turned : GoodIn wsL_law wsX7_turned := goodIn_r _ [431, 20, 432, 433, 2, 434, 814, 815, 816, 817, 818, 819, 820, 821, 822, 851, 852, 853, 854, 855] (by decide +kernel) (by decide +kernel)
set_option maxRecDepth 20000 in
theorem gL_law_X7_turned : GoodIn wsL_law (wsV RL 60 RX7 yX7_turned wsX7_turned) := goodIn_app (goodIn_of _ (by decide +kernel)) ggL_law_X7_turned
set_option maxRecDepth 20000 in
theorem ggL_law_X8_turned : GoodIn wsL_law wsX8_turned := goodIn_r _ [438, 139, 115, 823, 824, 825, 826, 827, 828, 829, 830, 831, 832, 833, 834, 835, 836, 837, 838, 839, 840, 841, 842, 843, 844, 845] (by decide +kernel) (by decide +kernel)
set_option maxRecDepth 20000 in
theorem gL_law_X8_turned : GoodIn wsL_law (wsV RL 63 RX8 yX8_turned wsX8_turned) := goodIn_app (goodIn_of _ (by decide +kernel)) ggL_law_X8_turned
set_option maxRecDepth 20000 in
theorem ggL_law_X7_who : GoodIn wsL_law wsX7_who := goodIn_r _ [442, 443, 444, 445, 2, 446, 20, 447, 448, 449, 450, 37, 451, 452, 453, 454, 302, 303, 304, 36, 305, 93, 83, 455, 456, 457, 85, 458, 459, 460, 333, 334, 335, 336, 337, 338, 339, 340, 341, 342, 343, 344, 345, 461, 347, 348, 349, 350, 351, 462, 463, 464, 465, 814, 815, 816, 817, 818, 819, 820, 821, 822, 851, 852, 853, 854, 855, 867, 868, 869, 870, 871, 872, 873, 874, 875] (by decide +kernel) (by decide +kernel)
set_option maxRecDepth 20000 in
theorem gL_law_X7_who : GoodIn wsL_law (wsV RL 64 RX7 yX7_who wsX7_who) := goodIn_app (goodIn_of _ (by decide +kernel)) ggL_law_X7_who
set_option maxRecDepth 20000 in
theorem ggL_law_X8_who : GoodIn wsL_law wsX8_who := goodIn_r _ [469, 139, 115, 260, 142, 143, 5, 144, 470, 471, 472, 473, 474, 475, 476, 477, 114, 359, 360, 361, 362, 363, 364, 365, 366, 823, 824, 825, 826, 827, 828, 829, 830, 831, 832, 833, 834, 835, 836, 837, 838, 839, 840, 841, 842, 843, 844, 845] (by decide +kernel) (by decide +kernel)
set_option maxRecDepth 20000 in
theorem gL_law_X8_who : GoodIn wsL_law (wsV RL 67 RX8 yX8_who wsX8_who) := goodIn_app (goodIn_of _ (by decide +kernel)) ggL_law_X8_who
set_option maxRecDepth 20000 in
theorem ggL_law_X7_rows : GoodIn wsL_law wsX7_rows := goodIn_r _ [481, 20, 447, 448, 449, 2, 450, 37, 451, 452, 453, 454, 302, 303, 304, 36, 305, 93, 83, 443, 444, 445, 446, 455, 456, 457, 85, 458, 459, 460, 333, 334, 335, 336, 337, 338, 339, 340, 341, 342, 343, 344, 345, 461, 347, 348, 349, 350, 351, 482, 483, 484, 485, 486, 487, 488, 814, 815, 816, 817, 818, 819, 820, 821, 822, 851, 852, 853, 854, 855, 867, 868, 869, 870, 871, 872, 873, 874, 875] (by decide +kernel) (by decide +kernel)
set_option maxRecDepth 20000 in
theorem gL_law_X7_rows : GoodIn wsL_law (wsV RL 68 RX7 yX7_rows wsX7_rows) := goodIn_app (goodIn_of _ (by decide +kernel)) ggL_law_X7_rows
set_option maxRecDepth 20000 in
theorem ggL_law_X8_rows : GoodIn wsL_law wsX8_rows := goodIn_r _ [492, 139, 115, 470, 471, 472, 5, 473, 260, 474, 475, 476, 477, 114, 359, 360, 361, 362, 363, 364, 365, 366, 493, 494, 495, 823, 824, 825, 826, 827, 828, 829, 830, 831, 832, 833, 834, 835, 836, 837, 838, 839, 840, 841, 842, 843, 844, 845] (by decide +kernel) (by decide +kernel)
set_option maxRecDepth 20000 in
theorem gL_law_X8_rows : GoodIn wsL_law (wsV RL 71 RX8 yX8_rows wsX8_rows) := goodIn_app (goodIn_of _ (by decide +kernel)) ggL_law_X8_rows
set_option maxRecDepth 20000 in
theorem ggL_law_X7_odds : GoodIn wsL_law wsX7_odds := goodIn_r _ [499, 37, 302, 303, 304, 36, 305, 93, 83, 443, 444, 445, 2, 446, 20, 500, 501, 502, 503, 451, 452, 453, 454, 455, 456, 457, 85, 458, 459, 460, 333, 334, 335, 336, 337, 338, 339, 340, 341, 342, 343, 344, 345, 461, 347, 348, 349, 350, 351, 504, 505, 506, 814, 815, 816, 817, 818, 819, 820, 821, 822, 867, 868, 869, 870, 871, 851, 852, 853, 854, 855, 872, 873, 874, 875] (by decide +kernel) (by decide +kernel)
set_option maxRecDepth 20000 in
theorem gL_law_X7_odds : GoodIn wsL_law (wsV RL 72 RX7 yX7_odds wsX7_odds) := goodIn_app (goodIn_of _ (by decide +kernel)) ggL_law_X7_odds
set_option maxRecDepth 20000 in
theorem ggL_law_X8_odds : GoodIn wsL_law wsX8_odds := goodIn_r _ [510, 139, 115, 260, 310, 311, 312, 5, 313, 142, 143, 144, 474, 475, 476, 477, 114, 359, 360, 361, 362, 363, 364, 365, 366, 511, 512, 513, 823, 824, 825, 826, 827, 828, 829, 830, 831, 832, 833, 834, 835, 836, 837, 838, 839, 840, 841, 842, 843, 844, 845] (by decide +kernel) (by decide +kernel)
set_option maxRecDepth 20000 in
theorem gL_law_X8_odds : GoodIn wsL_law (wsV RL 75 RX8 yX8_odds wsX8_odds) := goodIn_app (goodIn_of _ (by decide +kernel)) ggL_law_X8_odds
set_option maxRecDepth 20000 in
theorem ggL_law_X7_order : GoodIn wsL_law wsX7_order := goodIn_r _ [517, 37, 33, 20, 518, 519, 520, 36, 521, 93, 329, 330, 2, 331, 372, 373, 374, 19, 375, 53, 56, 376, 377, 378, 379, 522, 523, 524, 32, 525, 77, 526, 527, 528, 529, 76, 74, 530, 531, 532, 533, 534, 535, 341, 536, 537, 344, 345, 538, 303, 304, 305, 83, 539, 333, 334, 85, 335, 336, 337, 338, 339, 340, 342, 343, 540, 541, 542, 543, 75, 544, 545, 546, 547, 548, 549, 550, 551, 552, 553, 554, 555, 556, 557, 558, 559, 814, 815, 816, 817, 818, 819, 820, 821, 822, 867, 868, 869, 870, 871, 851, 852, 853, 854, 855, 863, 864, 865, 866, 872, 873, 874, 875] (by decide +kernel) (by decide +kernel)
set_option maxRecDepth 20000 in
theorem gL_law_X7_order : GoodIn wsL_law (wsV RL 76 RX7 yX7_order wsX7_order) := goodIn_app (goodIn_of _ (by decide +kernel)) ggL_law_X7_order
set_option maxRecDepth 20000 in
theorem ggL_law_X8_order : GoodIn wsL_law wsX8_order := goodIn_r _ [563, 139, 564, 565, 566, 5, 567, 260, 142, 143, 144, 568, 569, 570, 571, 572, 122, 573, 574, 575, 576, 121, 577, 578, 579, 580, 396, 397, 398, 399, 115, 363, 364, 365, 366, 114, 581, 582, 583, 584, 585, 586, 587, 588, 589, 590, 591, 823, 824, 825, 826, 827, 828, 829, 830, 831, 832, 833, 834, 835, 836, 837, 838, 839, 840, 841, 842, 843, 844, 845] (by decide +kernel) (by decide +kernel)
set_option maxRecDepth 20000 in
theorem gL_law_X8_order : GoodIn wsL_law (wsV RL 79 RX8 yX8_order wsX8_order) := goodIn_app (goodIn_of _ (by decide +kernel)) ggL_law_X8_order
set_option maxRecDepth 20000 in
theorem ggL_law_X7_drift : GoodIn wsL_law wsX7_drift := goodIn_r _ [595, 37, 33, 20, 518, 519, 520, 36, 521, 93, 372, 373, 374, 19, 375, 53, 56, 376, 377, 378, 379, 522, 523, 524, 32, 525, 77, 526, 527, 528, 529, 76, 74, 530, 531, 532, 533, 534, 535, 341, 536, 537, 344, 345, 538, 303, 304, 305, 83, 539, 333, 334, 85, 335, 336, 337, 2, 338, 339, 340, 342, 343, 540, 541, 542, 543, 75, 544, 545, 546, 547, 548, 549, 550, 551, 552, 553, 554, 555, 556, 557, 558, 559, 814, 815, 816, 817, 818, 819, 820, 821, 822, 867, 868, 869, 870, 871, 851, 852, 853, 854, 855, 863, 864, 865, 866, 872, 873, 874, 875] (by decide +kernel) (by decide +kernel)
set_option maxRecDepth 20000 in
theorem gL_law_X7_drift : GoodIn wsL_law (wsV RL 80 RX7 yX7_drift wsX7_drift) := goodIn_app (goodIn_of _ (by decide +kernel)) ggL_law_X7_drift
set_option maxRecDepth 20000 in
theorem ggL_law_X8_drift : GoodIn wsL_law wsX8_drift := goodIn_r _ [599, 139, 564, 565, 566, 5, 567, 260, 142, 143, 144, 568, 569, 570, 571, 572, 122, 573, 574, 575, 576, 121, 577, 578, 579, 580, 396, 397, 398, 399, 115, 363, 364, 365, 366, 114, 581, 582, 583, 584, 585, 586, 587, 588, 589, 590, 591, 823, 824, 825, 826, 827, 828, 829, 830, 831, 832, 833, 834, 835, 836, 837, 838, 839, 840, 841, 842, 843, 844, 845] (by decide +kernel) (by decide +kernel)
set_option maxRecDepth 20000 in
theorem gL_law_X8_drift : GoodIn wsL_law (wsV RL 83 RX8 yX8_drift wsX8_drift) := goodIn_app (goodIn_of _ (by decide +kernel)) ggL_law_X8_drift
set_option maxRecDepth 20000 in
theorem ggL_law_X7_sign : GoodIn wsL_law wsX7_sign := goodIn_r _ [603, 25, 326, 327, 2, 328, 329, 330, 331, 604, 605, 606, 24, 607, 65, 608, 609, 610, 611, 61, 62, 63, 64, 612, 814, 815, 816, 817, 818, 819, 820, 821, 822, 856, 857, 858, 859, 860] (by decide +kernel) (by decide +kernel)
set_option maxRecDepth 20000 in
theorem gL_law_X7_sign : GoodIn wsL_law (wsV RL 84 RX7 yX7_sign wsX7_sign) := goodIn_app (goodIn_of _ (by decide +kernel)) ggL_law_X7_sign
set_option maxRecDepth 20000 in
theorem ggL_law_X8_sign : GoodIn wsL_law wsX8_sign := goodIn_r _ [616, 139, 261, 119, 142, 143, 5, 144, 823, 824, 825, 826, 827, 828, 829, 830, 831, 832, 833, 834, 835, 836, 837, 838, 839, 840, 841, 842, 843, 844, 845] (by decide +kernel) (by decide +kernel)
set_option maxRecDepth 20000 in
theorem gL_law_X8_sign : GoodIn wsL_law (wsV RL 88 RX8 yX8_sign wsX8_sign) := goodIn_app (goodIn_of _ (by decide +kernel)) ggL_law_X8_sign
set_option maxRecDepth 20000 in
theorem ggL_law_X7_learnt : GoodIn wsL_law wsX7_learnt := goodIn_r _ [620, 25, 621, 622, 623, 24, 624, 625, 626, 627, 628, 65, 61, 63, 337, 2, 338, 339, 340, 341, 342, 343, 344, 345, 629, 630, 631, 632, 633, 634, 635, 636, 64, 637, 638, 639, 640, 641, 642, 643, 644, 62, 645, 646, 647, 648, 649, 650, 651, 814, 815, 816, 817, 818, 819, 820, 821, 822, 856, 857, 858, 859, 860] (by decide +kernel) (by decide +kernel)
set_option maxRecDepth 20000 in
theorem gL_law_X7_learnt : GoodIn wsL_law (wsV RL 89 RX7 yX7_learnt wsX7_learnt) := goodIn_app (goodIn_of _ (by decide +kernel)) ggL_law_X7_learnt
set_option maxRecDepth 20000 in
theorem ggL_law_X8_learnt : GoodIn wsL_law wsX8_learnt := goodIn_r _ [655, 139, 142, 143, 5, 144, 656, 657, 658, 659, 261, 119, 660, 661, 662, 663, 823, 824, 825, 826, 827, 828, 829, 830, 831, 832, 833, 834, 835, 836, 837, 838, 839, 840, 841, 842, 843, 844, 845] (by decide +kernel) (by decide +kernel)
set_option maxRecDepth 20000 in
theorem gL_law_X8_learnt : GoodIn wsL_law (wsV RL 92 RX8 yX8_learnt wsX8_learnt) := goodIn_app (goodIn_of _ (by decide +kernel)) ggL_law_X8_learnt
set_option maxRecDepth 20000 in
theorem ggL_law_X7_forget : GoodIn wsL_law wsX7_forget := goodIn_r _ [667, 25, 814, 815, 816, 817, 818, 819, 820, 821, 822, 856, 857, 858, 859, 860] (by decide +kernel) (by decide +kernel)
set_option maxRecDepth 20000 in
theorem gL_law_X7_forget : GoodIn wsL_law (wsV RL 93 RX7 yX7_forget wsX7_forget) := goodIn_app (goodIn_of _ (by decide +kernel)) ggL_law_X7_forget
set_option maxRecDepth 20000 in
theorem ggL_law_X8_forget : GoodIn wsL_law wsX8_forget := goodIn_r _ [671, 139, 261, 823, 824, 825, 826, 827, 828, 829, 830, 831, 832, 833, 834, 835, 836, 837, 838, 839, 840, 841, 842, 843, 844, 845] (by decide +kernel) (by decide +kernel)
set_option maxRecDepth 20000 in
theorem gL_law_X8_forget : GoodIn wsL_law (wsV RL 96 RX8 yX8_forget wsX8_forget) := goodIn_app (goodIn_of _ (by decide +kernel)) ggL_law_X8_forget
set_option maxRecDepth 20000 in
theorem ggL_law_X7_copy : GoodIn wsL_law wsX7_copy := goodIn_r _ [675, 29, 676, 677, 678, 28, 679, 70, 680, 681, 682, 683, 69, 684, 814, 815, 816, 817, 818, 819, 820, 821, 822, 861, 862] (by decide +kernel) (by decide +kernel)
set_option maxRecDepth 20000 in
theorem gL_law_X7_copy : GoodIn wsL_law (wsV RL 97 RX7 yX7_copy wsX7_copy) := goodIn_app (goodIn_of _ (by decide +kernel)) ggL_law_X7_copy
set_option maxRecDepth 20000 in
theorem ggL_law_X8_copy : GoodIn wsL_law wsX8_copy := goodIn_r _ [688, 139, 262, 120, 142, 143, 5, 144, 823, 824, 825, 826, 827, 828, 829, 830, 831, 832, 833, 834, 835, 836, 837, 838, 839, 840, 841, 842, 843, 844, 845] (by decide +kernel) (by decide +kernel)
set_option maxRecDepth 20000 in
theorem gL_law_X8_copy : GoodIn wsL_law (wsV RL 100 RX8 yX8_copy wsX8_copy) := goodIn_app (goodIn_of _ (by decide +kernel)) ggL_law_X8_copy
set_option maxRecDepth 20000 in
theorem ggL_law_X7_came : GoodIn wsL_law wsX7_came := goodIn_r _ [692, 29, 693, 694, 695, 28, 696, 70, 69, 697, 698, 699, 700, 701, 483, 484, 485, 486, 487, 488, 702, 703, 704, 705, 706, 814, 815, 816, 817, 818, 819, 820, 821, 822, 861, 862] (by decide +kernel) (by decide +kernel)
set_option maxRecDepth 20000 in
theorem gL_law_X7_came : GoodIn wsL_law (wsV RL 101 RX7 yX7_came wsX7_came) := goodIn_app (goodIn_of _ (by decide +kernel)) ggL_law_X7_came
set_option maxRecDepth 20000 in
theorem ggL_law_X8_came : GoodIn wsL_law wsX8_came := goodIn_r _ [710, 139, 262, 120, 142, 143, 5, 144, 711, 712, 713, 714, 493, 494, 495, 823, 824, 825, 826, 827, 828, 829, 830, 831, 832, 833, 834, 835, 836, 837, 838, 839, 840, 841, 842, 843, 844, 845] (by decide +kernel) (by decide +kernel)
set_option maxRecDepth 20000 in
theorem gL_law_X8_came : GoodIn wsL_law (wsV RL 104 RX8 yX8_came wsX8_came) := goodIn_app (goodIn_of _ (by decide +kernel)) ggL_law_X8_came
set_option maxRecDepth 20000 in
theorem ggL_law_X7_firsts : GoodIn wsL_law wsX7_firsts := goodIn_r _ [718, 29, 693, 694, 695, 28, 696, 70, 69, 697, 698, 699, 700, 701, 483, 484, 485, 486, 487, 488, 814, 815, 816, 817, 818, 819, 820, 821, 822, 861, 862] (by decide +kernel) (by decide +kernel)
set_option maxRecDepth 20000 in
theorem gL_law_X7_firsts : GoodIn wsL_law (wsV RL 105 RX7 yX7_firsts wsX7_firsts) := goodIn_app (goodIn_of _ (by decide +kernel)) ggL_law_X7_firsts
set_option maxRecDepth 20000 in
theorem ggL_law_X8_firsts : GoodIn wsL_law wsX8_firsts := goodIn_r _ [722, 139, 262, 711, 712, 713, 5, 714, 120, 493, 494, 495, 823, 824, 825, 826, 827, 828, 829, 830, 831, 832, 833, 834, 835, 836, 837, 838, 839, 840, 841, 842, 843, 844, 845] (by decide +kernel) (by decide +kernel)
set_option maxRecDepth 20000 in
theorem gL_law_X8_firsts : GoodIn wsL_law (wsV RL 108 RX8 yX8_firsts wsX8_firsts) := goodIn_app (goodIn_of _ (by decide +kernel)) ggL_law_X8_firsts
set_option maxRecDepth 20000 in
theorem ggL_law_X7_burn : GoodIn wsL_law wsX7_burn := goodIn_r _ [726, 29, 814, 815, 816, 817, 818, 819, 820, 821, 822, 861, 862] (by decide +kernel) (by decide +kernel)
set_option maxRecDepth 20000 in
theorem gL_law_X7_burn : GoodIn wsL_law (wsV RL 109 RX7 yX7_burn wsX7_burn) := goodIn_app (goodIn_of _ (by decide +kernel)) ggL_law_X7_burn
set_option maxRecDepth 20000 in
theorem ggL_law_X8_burn : GoodIn wsL_law wsX8_burn := goodIn_r _ [730, 139, 262, 823, 824, 825, 826, 827, 828, 829, 830, 831, 832, 833, 834, 835, 836, 837, 838, 839, 840, 841, 842, 843, 844, 845] (by decide +kernel) (by decide +kernel)
set_option maxRecDepth 20000 in
theorem gL_law_X8_burn : GoodIn wsL_law (wsV RL 112 RX8 yX8_burn wsX8_burn) := goodIn_app (goodIn_of _ (by decide +kernel)) ggL_law_X8_burn
set_option maxRecDepth 20000 in
theorem ggL_law_X7_rate : GoodIn wsL_law wsX7_rate := goodIn_r _ [734, 37, 735, 302, 303, 304, 36, 305, 93, 83, 736, 737, 738, 2, 739, 39, 740, 741, 742, 743, 744, 482, 483, 484, 485, 486, 487, 488, 745, 746, 747, 748, 749, 750, 751, 752, 753, 754, 755, 756, 757, 758, 759, 760, 761, 762, 763, 764, 814, 815, 816, 817, 818, 819, 820, 821, 822, 867, 868, 869, 870, 871, 872, 873, 874, 875] (by decide +kernel) (by decide +kernel)
set_option maxRecDepth 20000 in
theorem gL_law_X7_rate : GoodIn wsL_law (wsV RL 113 RX7 yX7_rate wsX7_rate) := goodIn_app (goodIn_of _ (by decide +kernel)) ggL_law_X7_rate
set_option maxRecDepth 20000 in
theorem ggL_law_X8_rate : GoodIn wsL_law wsX8_rate := goodIn_r _ [768, 139, 769, 114, 770, 771, 772, 773, 774, 775, 142, 143, 5, 144, 310, 311, 312, 313, 260, 493, 494, 495, 823, 824, 825, 826, 827, 828, 829, 830, 831, 832, 833, 834, 835, 836, 837, 838, 839, 840, 841, 842, 843, 844, 845] (by decide +kernel) (by decide +kernel)
set_option maxRecDepth 20000 in
theorem gL_law_X8_rate : GoodIn wsL_law (wsV RL 116 RX8 yX8_rate wsX8_rate) := goodIn_app (goodIn_of _ (by decide +kernel)) ggL_law_X8_rate
set_option maxRecDepth 20000 in
theorem ggL_law_X7_keep : GoodIn wsL_law wsX7_keep := goodIn_r _ [779, 21, 20, 780, 781, 782, 19, 783, 53, 784, 545, 546, 547, 54, 55, 56, 57, 814, 815, 816, 817, 818, 819, 820, 821, 822, 851, 852, 853, 854, 855] (by decide +kernel) (by decide +kernel)
set_option maxRecDepth 20000 in
theorem gL_law_X7_keep : GoodIn wsL_law (wsV RL 117 RX7 yX7_keep wsX7_keep) := goodIn_app (goodIn_of _ (by decide +kernel)) ggL_law_X7_keep
set_option maxRecDepth 20000 in
theorem ggL_law_X8_keep : GoodIn wsL_law wsX8_keep := goodIn_r _ [788, 139, 116, 115, 118, 142, 143, 5, 144, 823, 824, 825, 826, 827, 828, 829, 830, 831, 832, 833, 834, 835, 836, 837, 838, 839, 840, 841, 842, 843, 844, 845] (by decide +kernel) (by decide +kernel)
set_option maxRecDepth 20000 in
theorem gL_law_X8_keep : GoodIn wsL_law (wsV RL 120 RX8 yX8_keep wsX8_keep) := goodIn_app (goodIn_of _ (by decide +kernel)) ggL_law_X8_keep
set_option maxRecDepth 20000 in
theorem ggL_law_X7_back : GoodIn wsL_law wsX7_back := goodIn_r _ [792, 21, 20, 793, 377, 378, 19, 379, 56, 780, 781, 782, 783, 53, 784, 545, 546, 547, 54, 55, 57, 814, 815, 816, 817, 818, 819, 820, 821, 822, 851, 852, 853, 854, 855] (by decide +kernel) (by decide +kernel)
set_option maxRecDepth 20000 in
theorem gL_law_X7_back : GoodIn wsL_law (wsV RL 121 RX7 yX7_back wsX7_back) := goodIn_app (goodIn_of _ (by decide +kernel)) ggL_law_X7_back
set_option maxRecDepth 20000 in
theorem ggL_law_X8_back : GoodIn wsL_law wsX8_back := goodIn_r _ [797, 139, 118, 115, 116, 142, 143, 5, 144, 823, 824, 825, 826, 827, 828, 829, 830, 831, 832, 833, 834, 835, 836, 837, 838, 839, 840, 841, 842, 843, 844, 845] (by decide +kernel) (by decide +kernel)
set_option maxRecDepth 20000 in
theorem gL_law_X8_back : GoodIn wsL_law (wsV RL 124 RX8 yX8_back wsX8_back) := goodIn_app (goodIn_of _ (by decide +kernel)) ggL_law_X8_back
set_option maxRecDepth 20000 in
theorem ggL_law_X7_count : GoodIn wsL_law wsX7_count := goodIn_r _ [801, 37, 20, 25, 29, 16, 814, 815, 816, 817, 818, 819, 820, 821, 822, 867, 868, 869, 870, 871, 851, 852, 853, 854, 855, 856, 857, 858, 859, 860, 861, 862, 846, 847, 848, 849, 850] (by decide +kernel) (by decide +kernel)
set_option maxRecDepth 20000 in
theorem gL_law_X7_count : GoodIn wsL_law (wsV RL 125 RX7 yX7_count wsX7_count) := goodIn_app (goodIn_of _ (by decide +kernel)) ggL_law_X7_count
set_option maxRecDepth 20000 in
theorem ggL_law_X8_count : GoodIn wsL_law wsX8_count := goodIn_r _ [805, 139, 260, 115, 261, 262, 140, 823, 824, 825, 826, 827, 828, 829, 830, 831, 832, 833, 834, 835, 836, 837, 838, 839, 840, 841, 842, 843, 844, 845] (by decide +kernel) (by decide +kernel)
set_option maxRecDepth 20000 in
theorem gL_law_X8_count : GoodIn wsL_law (wsV RL 128 RX8 yX8_count wsX8_count) := goodIn_app (goodIn_of _ (by decide +kernel)) ggL_law_X8_count
set_option maxRecDepth 20000 in
theorem ggL_law_X7_trace : GoodIn wsL_law wsX7_trace := goodIn_r _ [809, 39, 814, 815, 816, 817, 818, 819, 820, 821, 822] (by decide +kernel) (by decide +kernel)
set_option maxRecDepth 20000 in
theorem gL_law_X7_trace : GoodIn wsL_law (wsV RL 129 RX7 yX7_trace wsX7_trace) := goodIn_app (goodIn_of _ (by decide +kernel)) ggL_law_X7_trace
set_option maxRecDepth 20000 in
theorem ggL_law_X8_trace : GoodIn wsL_law wsX8_trace := goodIn_r _ [813, 139, 770, 823, 824, 825, 826, 827, 828, 829, 830, 831, 832, 833, 834, 835, 836, 837, 838, 839, 840, 841, 842, 843, 844, 845] (by decide +kernel) (by decide +kernel)
set_option maxRecDepth 20000 in
theorem gL_law_X8_trace : GoodIn wsL_law (wsV RL 133 RX8 yX8_trace wsX8_trace) := goodIn_app (goodIn_of _ (by decide +kernel)) ggL_law_X8_trace
theorem dL_law_0 : decode cL_law 0 = .ok (.new 7, 3) := by decide +kernel
theorem dL_law_3 : decode cL_law 3 = .ok (.dup, 1) := by decide +kernel
theorem dL_law_4 : decode cL_law 4 = .ok (.invokespecial 9, 3) := by decide +kernel
theorem dL_law_7 : decode cL_law 7 = .ok (.astore_n 1, 1) := by decide +kernel
theorem dL_law_8 : decode cL_law 8 = .ok (.new 10, 3) := by decide +kernel
theorem dL_law_11 : decode cL_law 11 = .ok (.dup, 1) := by decide +kernel
theorem dL_law_12 : decode cL_law 12 = .ok (.invokespecial 12, 3) := by decide +kernel
theorem dL_law_15 : decode cL_law 15 = .ok (.astore_n 2, 1) := by decide +kernel
theorem dL_law_16 : decode cL_law 16 = .ok (.iconst 0, 1) := by decide +kernel
theorem dL_law_17 : decode cL_law 17 = .ok (.istore_n 3, 1) := by decide +kernel
theorem dL_law_18 : decode cL_law 18 = .ok (.iload_n 3, 1) := by decide +kernel
theorem dL_law_19 : decode cL_law 19 = .ok (.aload_n 0, 1) := by decide +kernel
theorem dL_law_20 : decode cL_law 20 = .ok (.arraylength, 1) := by decide +kernel
theorem dL_law_21 : decode cL_law 21 = .ok (.iconst 5, 1) := by decide +kernel
theorem dL_law_22 : decode cL_law 22 = .ok (.isub, 1) := by decide +kernel
theorem dL_law_23 : decode cL_law 23 = .ok (.if_icmp .gt 898, 3) := by decide +kernel
theorem dL_law_26 : decode cL_law 26 = .ok (.aload_n 0, 1) := by decide +kernel
theorem dL_law_27 : decode cL_law 27 = .ok (.iload_n 3, 1) := by decide +kernel
theorem dL_law_28 : decode cL_law 28 = .ok (.iaload, 1) := by decide +kernel
theorem dL_law_29 : decode cL_law 29 = .ok (.bipush 31, 2) := by decide +kernel
theorem dL_law_31 : decode cL_law 31 = .ok (.iand, 1) := by decide +kernel
theorem dL_law_32 : decode cL_law 32 = .ok (.tableswitch 883 0 27 #[128, 191, 204, 217, 250, 283, 326, 349, 382, 395, 418, 431, 464, 477, 520, 563, 596, 649, 672, 685, 708, 741, 754, 767, 800, 823, 846, 869], 128) := by decide +kernel
theorem dL_law_160 : decode cL_law 160 = .ok (.aload_n 1, 1) := by decide +kernel
theorem dL_law_161 : decode cL_law 161 = .ok (.aload_n 0, 1) := by decide +kernel
theorem dL_law_162 : decode cL_law 162 = .ok (.iload_n 3, 1) := by decide +kernel
theorem dL_law_163 : decode cL_law 163 = .ok (.iconst 1, 1) := by decide +kernel
theorem dL_law_164 : decode cL_law 164 = .ok (.iadd, 1) := by decide +kernel
theorem dL_law_165 : decode cL_law 165 = .ok (.iaload, 1) := by decide +kernel
theorem dL_law_166 : decode cL_law 166 = .ok (.i2l, 1) := by decide +kernel
theorem dL_law_167 : decode cL_law 167 = .ok (.bipush 32, 2) := by decide +kernel
theorem dL_law_169 : decode cL_law 169 = .ok (.lshl, 1) := by decide +kernel
theorem dL_law_170 : decode cL_law 170 = .ok (.aload_n 0, 1) := by decide +kernel
theorem dL_law_171 : decode cL_law 171 = .ok (.iload_n 3, 1) := by decide +kernel
theorem dL_law_172 : decode cL_law 172 = .ok (.iconst 2, 1) := by decide +kernel
theorem dL_law_173 : decode cL_law 173 = .ok (.iadd, 1) := by decide +kernel
theorem dL_law_174 : decode cL_law 174 = .ok (.iaload, 1) := by decide +kernel
theorem dL_law_175 : decode cL_law 175 = .ok (.i2l, 1) := by decide +kernel
theorem dL_law_176 : decode cL_law 176 = .ok (.ldc2_w 13, 3) := by decide +kernel
theorem dL_law_179 : decode cL_law 179 = .ok (.land, 1) := by decide +kernel
theorem dL_law_180 : decode cL_law 180 = .ok (.lor, 1) := by decide +kernel
theorem dL_law_181 : decode cL_law 181 = .ok (.aload_n 0, 1) := by decide +kernel
theorem dL_law_182 : decode cL_law 182 = .ok (.iload_n 3, 1) := by decide +kernel
theorem dL_law_183 : decode cL_law 183 = .ok (.iconst 3, 1) := by decide +kernel
theorem dL_law_184 : decode cL_law 184 = .ok (.iadd, 1) := by decide +kernel
theorem dL_law_185 : decode cL_law 185 = .ok (.iaload, 1) := by decide +kernel
theorem dL_law_186 : decode cL_law 186 = .ok (.invokevirtual 15, 3) := by decide +kernel
theorem dL_law_189 : decode cL_law 189 = .ok (.aload_n 2, 1) := by decide +kernel
theorem dL_law_190 : decode cL_law 190 = .ok (.aload_n 0, 1) := by decide +kernel
theorem dL_law_191 : decode cL_law 191 = .ok (.iload_n 3, 1) := by decide +kernel
theorem dL_law_192 : decode cL_law 192 = .ok (.iconst 1, 1) := by decide +kernel
theorem dL_law_193 : decode cL_law 193 = .ok (.iadd, 1) := by decide +kernel
theorem dL_law_194 : decode cL_law 194 = .ok (.iaload, 1) := by decide +kernel
theorem dL_law_195 : decode cL_law 195 = .ok (.i2l, 1) := by decide +kernel
theorem dL_law_196 : decode cL_law 196 = .ok (.bipush 32, 2) := by decide +kernel
theorem dL_law_198 : decode cL_law 198 = .ok (.lshl, 1) := by decide +kernel
theorem dL_law_199 : decode cL_law 199 = .ok (.aload_n 0, 1) := by decide +kernel
theorem dL_law_200 : decode cL_law 200 = .ok (.iload_n 3, 1) := by decide +kernel
theorem dL_law_201 : decode cL_law 201 = .ok (.iconst 2, 1) := by decide +kernel
theorem dL_law_202 : decode cL_law 202 = .ok (.iadd, 1) := by decide +kernel
theorem dL_law_203 : decode cL_law 203 = .ok (.iaload, 1) := by decide +kernel
theorem dL_law_204 : decode cL_law 204 = .ok (.i2l, 1) := by decide +kernel
theorem dL_law_205 : decode cL_law 205 = .ok (.ldc2_w 13, 3) := by decide +kernel
theorem dL_law_208 : decode cL_law 208 = .ok (.land, 1) := by decide +kernel
theorem dL_law_209 : decode cL_law 209 = .ok (.lor, 1) := by decide +kernel
theorem dL_law_210 : decode cL_law 210 = .ok (.aload_n 0, 1) := by decide +kernel
theorem dL_law_211 : decode cL_law 211 = .ok (.iload_n 3, 1) := by decide +kernel
theorem dL_law_212 : decode cL_law 212 = .ok (.iconst 3, 1) := by decide +kernel
theorem dL_law_213 : decode cL_law 213 = .ok (.iadd, 1) := by decide +kernel
theorem dL_law_214 : decode cL_law 214 = .ok (.iaload, 1) := by decide +kernel
theorem dL_law_215 : decode cL_law 215 = .ok (.invokevirtual 19, 3) := by decide +kernel
theorem dL_law_218 : decode cL_law 218 = .ok (.if_icmp .eq 697, 3) := by decide +kernel
theorem dL_law_221 : decode cL_law 221 = .ok (.iconst 0, 1) := by decide +kernel
theorem dL_law_222 : decode cL_law 222 = .ok (.ireturn, 1) := by decide +kernel
theorem dL_law_223 : decode cL_law 223 = .ok (.aload_n 1, 1) := by decide +kernel
theorem dL_law_224 : decode cL_law 224 = .ok (.invokevirtual 20, 3) := by decide +kernel
theorem dL_law_227 : decode cL_law 227 = .ok (.aload_n 2, 1) := by decide +kernel
theorem dL_law_228 : decode cL_law 228 = .ok (.invokevirtual 24, 3) := by decide +kernel
theorem dL_law_231 : decode cL_law 231 = .ok (.if_icmp .eq 684, 3) := by decide +kernel
theorem dL_law_234 : decode cL_law 234 = .ok (.iconst 0, 1) := by decide +kernel
theorem dL_law_235 : decode cL_law 235 = .ok (.ireturn, 1) := by decide +kernel
theorem dL_law_236 : decode cL_law 236 = .ok (.aload_n 1, 1) := by decide +kernel
theorem dL_law_237 : decode cL_law 237 = .ok (.invokevirtual 25, 3) := by decide +kernel
theorem dL_law_240 : decode cL_law 240 = .ok (.aload_n 2, 1) := by decide +kernel
theorem dL_law_241 : decode cL_law 241 = .ok (.invokevirtual 28, 3) := by decide +kernel
theorem dL_law_244 : decode cL_law 244 = .ok (.if_icmp .eq 671, 3) := by decide +kernel
theorem dL_law_247 : decode cL_law 247 = .ok (.iconst 0, 1) := by decide +kernel
theorem dL_law_248 : decode cL_law 248 = .ok (.ireturn, 1) := by decide +kernel
theorem dL_law_249 : decode cL_law 249 = .ok (.aload_n 1, 1) := by decide +kernel
theorem dL_law_250 : decode cL_law 250 = .ok (.aload_n 0, 1) := by decide +kernel
theorem dL_law_251 : decode cL_law 251 = .ok (.iload_n 3, 1) := by decide +kernel
theorem dL_law_252 : decode cL_law 252 = .ok (.iconst 1, 1) := by decide +kernel
theorem dL_law_253 : decode cL_law 253 = .ok (.iadd, 1) := by decide +kernel
theorem dL_law_254 : decode cL_law 254 = .ok (.iaload, 1) := by decide +kernel
theorem dL_law_255 : decode cL_law 255 = .ok (.aload_n 0, 1) := by decide +kernel
theorem dL_law_256 : decode cL_law 256 = .ok (.iload_n 3, 1) := by decide +kernel
theorem dL_law_257 : decode cL_law 257 = .ok (.iconst 2, 1) := by decide +kernel
theorem dL_law_258 : decode cL_law 258 = .ok (.iadd, 1) := by decide +kernel
theorem dL_law_259 : decode cL_law 259 = .ok (.iaload, 1) := by decide +kernel
theorem dL_law_260 : decode cL_law 260 = .ok (.invokevirtual 29, 3) := by decide +kernel
theorem dL_law_263 : decode cL_law 263 = .ok (.aload_n 2, 1) := by decide +kernel
theorem dL_law_264 : decode cL_law 264 = .ok (.aload_n 0, 1) := by decide +kernel
theorem dL_law_265 : decode cL_law 265 = .ok (.iload_n 3, 1) := by decide +kernel
theorem dL_law_266 : decode cL_law 266 = .ok (.iconst 1, 1) := by decide +kernel
theorem dL_law_267 : decode cL_law 267 = .ok (.iadd, 1) := by decide +kernel
theorem dL_law_268 : decode cL_law 268 = .ok (.iaload, 1) := by decide +kernel
theorem dL_law_269 : decode cL_law 269 = .ok (.aload_n 0, 1) := by decide +kernel
theorem dL_law_270 : decode cL_law 270 = .ok (.iload_n 3, 1) := by decide +kernel
theorem dL_law_271 : decode cL_law 271 = .ok (.iconst 2, 1) := by decide +kernel
theorem dL_law_272 : decode cL_law 272 = .ok (.iadd, 1) := by decide +kernel
theorem dL_law_273 : decode cL_law 273 = .ok (.iaload, 1) := by decide +kernel
theorem dL_law_274 : decode cL_law 274 = .ok (.invokevirtual 33, 3) := by decide +kernel
theorem dL_law_277 : decode cL_law 277 = .ok (.if_icmp .eq 638, 3) := by decide +kernel
theorem dL_law_280 : decode cL_law 280 = .ok (.iconst 0, 1) := by decide +kernel
theorem dL_law_281 : decode cL_law 281 = .ok (.ireturn, 1) := by decide +kernel
theorem dL_law_282 : decode cL_law 282 = .ok (.aload_n 1, 1) := by decide +kernel
theorem dL_law_283 : decode cL_law 283 = .ok (.aload_n 0, 1) := by decide +kernel
theorem dL_law_284 : decode cL_law 284 = .ok (.iload_n 3, 1) := by decide +kernel
theorem dL_law_285 : decode cL_law 285 = .ok (.iconst 1, 1) := by decide +kernel
theorem dL_law_286 : decode cL_law 286 = .ok (.iadd, 1) := by decide +kernel
theorem dL_law_287 : decode cL_law 287 = .ok (.iaload, 1) := by decide +kernel
theorem dL_law_288 : decode cL_law 288 = .ok (.aload_n 0, 1) := by decide +kernel
theorem dL_law_289 : decode cL_law 289 = .ok (.iload_n 3, 1) := by decide +kernel
theorem dL_law_290 : decode cL_law 290 = .ok (.iconst 2, 1) := by decide +kernel
theorem dL_law_291 : decode cL_law 291 = .ok (.iadd, 1) := by decide +kernel
theorem dL_law_292 : decode cL_law 292 = .ok (.iaload, 1) := by decide +kernel
theorem dL_law_293 : decode cL_law 293 = .ok (.invokevirtual 34, 3) := by decide +kernel
theorem dL_law_296 : decode cL_law 296 = .ok (.aload_n 2, 1) := by decide +kernel
theorem dL_law_297 : decode cL_law 297 = .ok (.aload_n 0, 1) := by decide +kernel
theorem dL_law_298 : decode cL_law 298 = .ok (.iload_n 3, 1) := by decide +kernel
theorem dL_law_299 : decode cL_law 299 = .ok (.iconst 1, 1) := by decide +kernel
theorem dL_law_300 : decode cL_law 300 = .ok (.iadd, 1) := by decide +kernel
theorem dL_law_301 : decode cL_law 301 = .ok (.iaload, 1) := by decide +kernel
theorem dL_law_302 : decode cL_law 302 = .ok (.aload_n 0, 1) := by decide +kernel
theorem dL_law_303 : decode cL_law 303 = .ok (.iload_n 3, 1) := by decide +kernel
theorem dL_law_304 : decode cL_law 304 = .ok (.iconst 2, 1) := by decide +kernel
theorem dL_law_305 : decode cL_law 305 = .ok (.iadd, 1) := by decide +kernel
theorem dL_law_306 : decode cL_law 306 = .ok (.iaload, 1) := by decide +kernel
theorem dL_law_307 : decode cL_law 307 = .ok (.invokevirtual 37, 3) := by decide +kernel
theorem dL_law_310 : decode cL_law 310 = .ok (.if_icmp .eq 605, 3) := by decide +kernel
theorem dL_law_313 : decode cL_law 313 = .ok (.iconst 0, 1) := by decide +kernel
theorem dL_law_314 : decode cL_law 314 = .ok (.ireturn, 1) := by decide +kernel
theorem dL_law_315 : decode cL_law 315 = .ok (.aload_n 1, 1) := by decide +kernel
theorem dL_law_316 : decode cL_law 316 = .ok (.aload_n 0, 1) := by decide +kernel
theorem dL_law_317 : decode cL_law 317 = .ok (.iload_n 3, 1) := by decide +kernel
theorem dL_law_318 : decode cL_law 318 = .ok (.iconst 1, 1) := by decide +kernel
theorem dL_law_319 : decode cL_law 319 = .ok (.iadd, 1) := by decide +kernel
theorem dL_law_320 : decode cL_law 320 = .ok (.iaload, 1) := by decide +kernel
theorem dL_law_321 : decode cL_law 321 = .ok (.aload_n 0, 1) := by decide +kernel
theorem dL_law_322 : decode cL_law 322 = .ok (.iload_n 3, 1) := by decide +kernel
theorem dL_law_323 : decode cL_law 323 = .ok (.iconst 2, 1) := by decide +kernel
theorem dL_law_324 : decode cL_law 324 = .ok (.iadd, 1) := by decide +kernel
theorem dL_law_325 : decode cL_law 325 = .ok (.iaload, 1) := by decide +kernel
theorem dL_law_326 : decode cL_law 326 = .ok (.aload_n 0, 1) := by decide +kernel
theorem dL_law_327 : decode cL_law 327 = .ok (.iload_n 3, 1) := by decide +kernel
theorem dL_law_328 : decode cL_law 328 = .ok (.iconst 3, 1) := by decide +kernel
theorem dL_law_329 : decode cL_law 329 = .ok (.iadd, 1) := by decide +kernel
theorem dL_law_330 : decode cL_law 330 = .ok (.iaload, 1) := by decide +kernel
theorem dL_law_331 : decode cL_law 331 = .ok (.invokevirtual 38, 3) := by decide +kernel
theorem dL_law_334 : decode cL_law 334 = .ok (.aload_n 2, 1) := by decide +kernel
theorem dL_law_335 : decode cL_law 335 = .ok (.aload_n 0, 1) := by decide +kernel
theorem dL_law_336 : decode cL_law 336 = .ok (.iload_n 3, 1) := by decide +kernel
theorem dL_law_337 : decode cL_law 337 = .ok (.iconst 1, 1) := by decide +kernel
theorem dL_law_338 : decode cL_law 338 = .ok (.iadd, 1) := by decide +kernel
theorem dL_law_339 : decode cL_law 339 = .ok (.iaload, 1) := by decide +kernel
theorem dL_law_340 : decode cL_law 340 = .ok (.aload_n 0, 1) := by decide +kernel
theorem dL_law_341 : decode cL_law 341 = .ok (.iload_n 3, 1) := by decide +kernel
theorem dL_law_342 : decode cL_law 342 = .ok (.iconst 2, 1) := by decide +kernel
theorem dL_law_343 : decode cL_law 343 = .ok (.iadd, 1) := by decide +kernel
theorem dL_law_344 : decode cL_law 344 = .ok (.iaload, 1) := by decide +kernel
theorem dL_law_345 : decode cL_law 345 = .ok (.aload_n 0, 1) := by decide +kernel
theorem dL_law_346 : decode cL_law 346 = .ok (.iload_n 3, 1) := by decide +kernel
theorem dL_law_347 : decode cL_law 347 = .ok (.iconst 3, 1) := by decide +kernel
theorem dL_law_348 : decode cL_law 348 = .ok (.iadd, 1) := by decide +kernel
theorem dL_law_349 : decode cL_law 349 = .ok (.iaload, 1) := by decide +kernel
theorem dL_law_350 : decode cL_law 350 = .ok (.invokevirtual 42, 3) := by decide +kernel
theorem dL_law_353 : decode cL_law 353 = .ok (.if_icmp .eq 562, 3) := by decide +kernel
theorem dL_law_356 : decode cL_law 356 = .ok (.iconst 0, 1) := by decide +kernel
theorem dL_law_357 : decode cL_law 357 = .ok (.ireturn, 1) := by decide +kernel
theorem dL_law_358 : decode cL_law 358 = .ok (.aload_n 1, 1) := by decide +kernel
theorem dL_law_359 : decode cL_law 359 = .ok (.aload_n 0, 1) := by decide +kernel
theorem dL_law_360 : decode cL_law 360 = .ok (.iload_n 3, 1) := by decide +kernel
theorem dL_law_361 : decode cL_law 361 = .ok (.iconst 1, 1) := by decide +kernel
theorem dL_law_362 : decode cL_law 362 = .ok (.iadd, 1) := by decide +kernel
theorem dL_law_363 : decode cL_law 363 = .ok (.iaload, 1) := by decide +kernel
theorem dL_law_364 : decode cL_law 364 = .ok (.invokevirtual 43, 3) := by decide +kernel
theorem dL_law_367 : decode cL_law 367 = .ok (.aload_n 2, 1) := by decide +kernel
theorem dL_law_368 : decode cL_law 368 = .ok (.aload_n 0, 1) := by decide +kernel
theorem dL_law_369 : decode cL_law 369 = .ok (.iload_n 3, 1) := by decide +kernel
theorem dL_law_370 : decode cL_law 370 = .ok (.iconst 1, 1) := by decide +kernel
theorem dL_law_371 : decode cL_law 371 = .ok (.iadd, 1) := by decide +kernel
theorem dL_law_372 : decode cL_law 372 = .ok (.iaload, 1) := by decide +kernel
theorem dL_law_373 : decode cL_law 373 = .ok (.invokevirtual 47, 3) := by decide +kernel
theorem dL_law_376 : decode cL_law 376 = .ok (.if_icmp .eq 539, 3) := by decide +kernel
theorem dL_law_379 : decode cL_law 379 = .ok (.iconst 0, 1) := by decide +kernel
theorem dL_law_380 : decode cL_law 380 = .ok (.ireturn, 1) := by decide +kernel
theorem dL_law_381 : decode cL_law 381 = .ok (.aload_n 1, 1) := by decide +kernel
theorem dL_law_382 : decode cL_law 382 = .ok (.aload_n 0, 1) := by decide +kernel
theorem dL_law_383 : decode cL_law 383 = .ok (.iload_n 3, 1) := by decide +kernel
theorem dL_law_384 : decode cL_law 384 = .ok (.iconst 1, 1) := by decide +kernel
theorem dL_law_385 : decode cL_law 385 = .ok (.iadd, 1) := by decide +kernel
theorem dL_law_386 : decode cL_law 386 = .ok (.iaload, 1) := by decide +kernel
theorem dL_law_387 : decode cL_law 387 = .ok (.aload_n 0, 1) := by decide +kernel
theorem dL_law_388 : decode cL_law 388 = .ok (.iload_n 3, 1) := by decide +kernel
theorem dL_law_389 : decode cL_law 389 = .ok (.iconst 2, 1) := by decide +kernel
theorem dL_law_390 : decode cL_law 390 = .ok (.iadd, 1) := by decide +kernel
theorem dL_law_391 : decode cL_law 391 = .ok (.iaload, 1) := by decide +kernel
theorem dL_law_392 : decode cL_law 392 = .ok (.invokevirtual 48, 3) := by decide +kernel
theorem dL_law_395 : decode cL_law 395 = .ok (.aload_n 2, 1) := by decide +kernel
theorem dL_law_396 : decode cL_law 396 = .ok (.aload_n 0, 1) := by decide +kernel
theorem dL_law_397 : decode cL_law 397 = .ok (.iload_n 3, 1) := by decide +kernel
theorem dL_law_398 : decode cL_law 398 = .ok (.iconst 1, 1) := by decide +kernel
theorem dL_law_399 : decode cL_law 399 = .ok (.iadd, 1) := by decide +kernel
theorem dL_law_400 : decode cL_law 400 = .ok (.iaload, 1) := by decide +kernel
theorem dL_law_401 : decode cL_law 401 = .ok (.aload_n 0, 1) := by decide +kernel
theorem dL_law_402 : decode cL_law 402 = .ok (.iload_n 3, 1) := by decide +kernel
theorem dL_law_403 : decode cL_law 403 = .ok (.iconst 2, 1) := by decide +kernel
theorem dL_law_404 : decode cL_law 404 = .ok (.iadd, 1) := by decide +kernel
theorem dL_law_405 : decode cL_law 405 = .ok (.iaload, 1) := by decide +kernel
theorem dL_law_406 : decode cL_law 406 = .ok (.invokevirtual 51, 3) := by decide +kernel
theorem dL_law_409 : decode cL_law 409 = .ok (.if_icmp .eq 506, 3) := by decide +kernel
theorem dL_law_412 : decode cL_law 412 = .ok (.iconst 0, 1) := by decide +kernel
theorem dL_law_413 : decode cL_law 413 = .ok (.ireturn, 1) := by decide +kernel
theorem dL_law_414 : decode cL_law 414 = .ok (.aload_n 1, 1) := by decide +kernel
theorem dL_law_415 : decode cL_law 415 = .ok (.invokevirtual 52, 3) := by decide +kernel
theorem dL_law_418 : decode cL_law 418 = .ok (.aload_n 2, 1) := by decide +kernel
theorem dL_law_419 : decode cL_law 419 = .ok (.invokevirtual 55, 3) := by decide +kernel
theorem dL_law_422 : decode cL_law 422 = .ok (.if_icmp .eq 493, 3) := by decide +kernel
theorem dL_law_425 : decode cL_law 425 = .ok (.iconst 0, 1) := by decide +kernel
theorem dL_law_426 : decode cL_law 426 = .ok (.ireturn, 1) := by decide +kernel
theorem dL_law_427 : decode cL_law 427 = .ok (.aload_n 1, 1) := by decide +kernel
theorem dL_law_428 : decode cL_law 428 = .ok (.aload_n 0, 1) := by decide +kernel
theorem dL_law_429 : decode cL_law 429 = .ok (.iload_n 3, 1) := by decide +kernel
theorem dL_law_430 : decode cL_law 430 = .ok (.iconst 1, 1) := by decide +kernel
theorem dL_law_431 : decode cL_law 431 = .ok (.iadd, 1) := by decide +kernel
theorem dL_law_432 : decode cL_law 432 = .ok (.iaload, 1) := by decide +kernel
theorem dL_law_433 : decode cL_law 433 = .ok (.invokevirtual 56, 3) := by decide +kernel
theorem dL_law_436 : decode cL_law 436 = .ok (.aload_n 2, 1) := by decide +kernel
theorem dL_law_437 : decode cL_law 437 = .ok (.aload_n 0, 1) := by decide +kernel
theorem dL_law_438 : decode cL_law 438 = .ok (.iload_n 3, 1) := by decide +kernel
theorem dL_law_439 : decode cL_law 439 = .ok (.iconst 1, 1) := by decide +kernel
theorem dL_law_440 : decode cL_law 440 = .ok (.iadd, 1) := by decide +kernel
theorem dL_law_441 : decode cL_law 441 = .ok (.iaload, 1) := by decide +kernel
theorem dL_law_442 : decode cL_law 442 = .ok (.invokevirtual 59, 3) := by decide +kernel
theorem dL_law_445 : decode cL_law 445 = .ok (.if_icmp .eq 470, 3) := by decide +kernel
theorem dL_law_448 : decode cL_law 448 = .ok (.iconst 0, 1) := by decide +kernel
theorem dL_law_449 : decode cL_law 449 = .ok (.ireturn, 1) := by decide +kernel
theorem dL_law_450 : decode cL_law 450 = .ok (.aload_n 1, 1) := by decide +kernel
theorem dL_law_451 : decode cL_law 451 = .ok (.invokevirtual 60, 3) := by decide +kernel
theorem dL_law_454 : decode cL_law 454 = .ok (.aload_n 2, 1) := by decide +kernel
theorem dL_law_455 : decode cL_law 455 = .ok (.invokevirtual 63, 3) := by decide +kernel
theorem dL_law_458 : decode cL_law 458 = .ok (.if_icmp .eq 457, 3) := by decide +kernel
theorem dL_law_461 : decode cL_law 461 = .ok (.iconst 0, 1) := by decide +kernel
theorem dL_law_462 : decode cL_law 462 = .ok (.ireturn, 1) := by decide +kernel
theorem dL_law_463 : decode cL_law 463 = .ok (.aload_n 1, 1) := by decide +kernel
theorem dL_law_464 : decode cL_law 464 = .ok (.aload_n 0, 1) := by decide +kernel
theorem dL_law_465 : decode cL_law 465 = .ok (.iload_n 3, 1) := by decide +kernel
theorem dL_law_466 : decode cL_law 466 = .ok (.iconst 1, 1) := by decide +kernel
theorem dL_law_467 : decode cL_law 467 = .ok (.iadd, 1) := by decide +kernel
theorem dL_law_468 : decode cL_law 468 = .ok (.iaload, 1) := by decide +kernel
theorem dL_law_469 : decode cL_law 469 = .ok (.aload_n 0, 1) := by decide +kernel
theorem dL_law_470 : decode cL_law 470 = .ok (.iload_n 3, 1) := by decide +kernel
theorem dL_law_471 : decode cL_law 471 = .ok (.iconst 2, 1) := by decide +kernel
theorem dL_law_472 : decode cL_law 472 = .ok (.iadd, 1) := by decide +kernel
theorem dL_law_473 : decode cL_law 473 = .ok (.iaload, 1) := by decide +kernel
theorem dL_law_474 : decode cL_law 474 = .ok (.invokevirtual 64, 3) := by decide +kernel
theorem dL_law_477 : decode cL_law 477 = .ok (.aload_n 2, 1) := by decide +kernel
theorem dL_law_478 : decode cL_law 478 = .ok (.aload_n 0, 1) := by decide +kernel
theorem dL_law_479 : decode cL_law 479 = .ok (.iload_n 3, 1) := by decide +kernel
theorem dL_law_480 : decode cL_law 480 = .ok (.iconst 1, 1) := by decide +kernel
theorem dL_law_481 : decode cL_law 481 = .ok (.iadd, 1) := by decide +kernel
theorem dL_law_482 : decode cL_law 482 = .ok (.iaload, 1) := by decide +kernel
theorem dL_law_483 : decode cL_law 483 = .ok (.aload_n 0, 1) := by decide +kernel
theorem dL_law_484 : decode cL_law 484 = .ok (.iload_n 3, 1) := by decide +kernel
theorem dL_law_485 : decode cL_law 485 = .ok (.iconst 2, 1) := by decide +kernel
theorem dL_law_486 : decode cL_law 486 = .ok (.iadd, 1) := by decide +kernel
theorem dL_law_487 : decode cL_law 487 = .ok (.iaload, 1) := by decide +kernel
theorem dL_law_488 : decode cL_law 488 = .ok (.invokevirtual 67, 3) := by decide +kernel
theorem dL_law_491 : decode cL_law 491 = .ok (.if_icmp .eq 424, 3) := by decide +kernel
theorem dL_law_494 : decode cL_law 494 = .ok (.iconst 0, 1) := by decide +kernel
theorem dL_law_495 : decode cL_law 495 = .ok (.ireturn, 1) := by decide +kernel
theorem dL_law_496 : decode cL_law 496 = .ok (.aload_n 1, 1) := by decide +kernel
theorem dL_law_497 : decode cL_law 497 = .ok (.invokevirtual 68, 3) := by decide +kernel
theorem dL_law_500 : decode cL_law 500 = .ok (.aload_n 2, 1) := by decide +kernel
theorem dL_law_501 : decode cL_law 501 = .ok (.invokevirtual 71, 3) := by decide +kernel
theorem dL_law_504 : decode cL_law 504 = .ok (.if_icmp .eq 411, 3) := by decide +kernel
theorem dL_law_507 : decode cL_law 507 = .ok (.iconst 0, 1) := by decide +kernel
theorem dL_law_508 : decode cL_law 508 = .ok (.ireturn, 1) := by decide +kernel
theorem dL_law_509 : decode cL_law 509 = .ok (.aload_n 1, 1) := by decide +kernel
theorem dL_law_510 : decode cL_law 510 = .ok (.aload_n 0, 1) := by decide +kernel
theorem dL_law_511 : decode cL_law 511 = .ok (.iload_n 3, 1) := by decide +kernel
theorem dL_law_512 : decode cL_law 512 = .ok (.iconst 1, 1) := by decide +kernel
theorem dL_law_513 : decode cL_law 513 = .ok (.iadd, 1) := by decide +kernel
theorem dL_law_514 : decode cL_law 514 = .ok (.iaload, 1) := by decide +kernel
theorem dL_law_515 : decode cL_law 515 = .ok (.aload_n 0, 1) := by decide +kernel
theorem dL_law_516 : decode cL_law 516 = .ok (.iload_n 3, 1) := by decide +kernel
theorem dL_law_517 : decode cL_law 517 = .ok (.iconst 2, 1) := by decide +kernel
theorem dL_law_518 : decode cL_law 518 = .ok (.iadd, 1) := by decide +kernel
theorem dL_law_519 : decode cL_law 519 = .ok (.iaload, 1) := by decide +kernel
theorem dL_law_520 : decode cL_law 520 = .ok (.aload_n 0, 1) := by decide +kernel
theorem dL_law_521 : decode cL_law 521 = .ok (.iload_n 3, 1) := by decide +kernel
theorem dL_law_522 : decode cL_law 522 = .ok (.iconst 3, 1) := by decide +kernel
theorem dL_law_523 : decode cL_law 523 = .ok (.iadd, 1) := by decide +kernel
theorem dL_law_524 : decode cL_law 524 = .ok (.iaload, 1) := by decide +kernel
theorem dL_law_525 : decode cL_law 525 = .ok (.invokevirtual 72, 3) := by decide +kernel
theorem dL_law_528 : decode cL_law 528 = .ok (.aload_n 2, 1) := by decide +kernel
theorem dL_law_529 : decode cL_law 529 = .ok (.aload_n 0, 1) := by decide +kernel
theorem dL_law_530 : decode cL_law 530 = .ok (.iload_n 3, 1) := by decide +kernel
theorem dL_law_531 : decode cL_law 531 = .ok (.iconst 1, 1) := by decide +kernel
theorem dL_law_532 : decode cL_law 532 = .ok (.iadd, 1) := by decide +kernel
theorem dL_law_533 : decode cL_law 533 = .ok (.iaload, 1) := by decide +kernel
theorem dL_law_534 : decode cL_law 534 = .ok (.aload_n 0, 1) := by decide +kernel
theorem dL_law_535 : decode cL_law 535 = .ok (.iload_n 3, 1) := by decide +kernel
theorem dL_law_536 : decode cL_law 536 = .ok (.iconst 2, 1) := by decide +kernel
theorem dL_law_537 : decode cL_law 537 = .ok (.iadd, 1) := by decide +kernel
theorem dL_law_538 : decode cL_law 538 = .ok (.iaload, 1) := by decide +kernel
theorem dL_law_539 : decode cL_law 539 = .ok (.aload_n 0, 1) := by decide +kernel
theorem dL_law_540 : decode cL_law 540 = .ok (.iload_n 3, 1) := by decide +kernel
theorem dL_law_541 : decode cL_law 541 = .ok (.iconst 3, 1) := by decide +kernel
theorem dL_law_542 : decode cL_law 542 = .ok (.iadd, 1) := by decide +kernel
theorem dL_law_543 : decode cL_law 543 = .ok (.iaload, 1) := by decide +kernel
theorem dL_law_544 : decode cL_law 544 = .ok (.invokevirtual 75, 3) := by decide +kernel
theorem dL_law_547 : decode cL_law 547 = .ok (.if_icmp .eq 368, 3) := by decide +kernel
theorem dL_law_550 : decode cL_law 550 = .ok (.iconst 0, 1) := by decide +kernel
theorem dL_law_551 : decode cL_law 551 = .ok (.ireturn, 1) := by decide +kernel
theorem dL_law_552 : decode cL_law 552 = .ok (.aload_n 1, 1) := by decide +kernel
theorem dL_law_553 : decode cL_law 553 = .ok (.aload_n 0, 1) := by decide +kernel
theorem dL_law_554 : decode cL_law 554 = .ok (.iload_n 3, 1) := by decide +kernel
theorem dL_law_555 : decode cL_law 555 = .ok (.iconst 1, 1) := by decide +kernel
theorem dL_law_556 : decode cL_law 556 = .ok (.iadd, 1) := by decide +kernel
theorem dL_law_557 : decode cL_law 557 = .ok (.iaload, 1) := by decide +kernel
theorem dL_law_558 : decode cL_law 558 = .ok (.aload_n 0, 1) := by decide +kernel
theorem dL_law_559 : decode cL_law 559 = .ok (.iload_n 3, 1) := by decide +kernel
theorem dL_law_560 : decode cL_law 560 = .ok (.iconst 2, 1) := by decide +kernel
theorem dL_law_561 : decode cL_law 561 = .ok (.iadd, 1) := by decide +kernel
theorem dL_law_562 : decode cL_law 562 = .ok (.iaload, 1) := by decide +kernel
theorem dL_law_563 : decode cL_law 563 = .ok (.aload_n 0, 1) := by decide +kernel
theorem dL_law_564 : decode cL_law 564 = .ok (.iload_n 3, 1) := by decide +kernel
theorem dL_law_565 : decode cL_law 565 = .ok (.iconst 3, 1) := by decide +kernel
theorem dL_law_566 : decode cL_law 566 = .ok (.iadd, 1) := by decide +kernel
theorem dL_law_567 : decode cL_law 567 = .ok (.iaload, 1) := by decide +kernel
theorem dL_law_568 : decode cL_law 568 = .ok (.invokevirtual 76, 3) := by decide +kernel
theorem dL_law_571 : decode cL_law 571 = .ok (.aload_n 2, 1) := by decide +kernel
theorem dL_law_572 : decode cL_law 572 = .ok (.aload_n 0, 1) := by decide +kernel
theorem dL_law_573 : decode cL_law 573 = .ok (.iload_n 3, 1) := by decide +kernel
theorem dL_law_574 : decode cL_law 574 = .ok (.iconst 1, 1) := by decide +kernel
theorem dL_law_575 : decode cL_law 575 = .ok (.iadd, 1) := by decide +kernel
theorem dL_law_576 : decode cL_law 576 = .ok (.iaload, 1) := by decide +kernel
theorem dL_law_577 : decode cL_law 577 = .ok (.aload_n 0, 1) := by decide +kernel
theorem dL_law_578 : decode cL_law 578 = .ok (.iload_n 3, 1) := by decide +kernel
theorem dL_law_579 : decode cL_law 579 = .ok (.iconst 2, 1) := by decide +kernel
theorem dL_law_580 : decode cL_law 580 = .ok (.iadd, 1) := by decide +kernel
theorem dL_law_581 : decode cL_law 581 = .ok (.iaload, 1) := by decide +kernel
theorem dL_law_582 : decode cL_law 582 = .ok (.aload_n 0, 1) := by decide +kernel
theorem dL_law_583 : decode cL_law 583 = .ok (.iload_n 3, 1) := by decide +kernel
theorem dL_law_584 : decode cL_law 584 = .ok (.iconst 3, 1) := by decide +kernel
theorem dL_law_585 : decode cL_law 585 = .ok (.iadd, 1) := by decide +kernel
theorem dL_law_586 : decode cL_law 586 = .ok (.iaload, 1) := by decide +kernel
theorem dL_law_587 : decode cL_law 587 = .ok (.invokevirtual 79, 3) := by decide +kernel
theorem dL_law_590 : decode cL_law 590 = .ok (.if_icmp .eq 325, 3) := by decide +kernel
theorem dL_law_593 : decode cL_law 593 = .ok (.iconst 0, 1) := by decide +kernel
theorem dL_law_594 : decode cL_law 594 = .ok (.ireturn, 1) := by decide +kernel
theorem dL_law_595 : decode cL_law 595 = .ok (.aload_n 1, 1) := by decide +kernel
theorem dL_law_596 : decode cL_law 596 = .ok (.aload_n 0, 1) := by decide +kernel
theorem dL_law_597 : decode cL_law 597 = .ok (.iload_n 3, 1) := by decide +kernel
theorem dL_law_598 : decode cL_law 598 = .ok (.iconst 1, 1) := by decide +kernel
theorem dL_law_599 : decode cL_law 599 = .ok (.iadd, 1) := by decide +kernel
theorem dL_law_600 : decode cL_law 600 = .ok (.iaload, 1) := by decide +kernel
theorem dL_law_601 : decode cL_law 601 = .ok (.aload_n 0, 1) := by decide +kernel
theorem dL_law_602 : decode cL_law 602 = .ok (.iload_n 3, 1) := by decide +kernel
theorem dL_law_603 : decode cL_law 603 = .ok (.iconst 2, 1) := by decide +kernel
theorem dL_law_604 : decode cL_law 604 = .ok (.iadd, 1) := by decide +kernel
theorem dL_law_605 : decode cL_law 605 = .ok (.iaload, 1) := by decide +kernel
theorem dL_law_606 : decode cL_law 606 = .ok (.invokevirtual 80, 3) := by decide +kernel
theorem dL_law_609 : decode cL_law 609 = .ok (.aload_n 2, 1) := by decide +kernel
theorem dL_law_610 : decode cL_law 610 = .ok (.aload_n 0, 1) := by decide +kernel
theorem dL_law_611 : decode cL_law 611 = .ok (.iload_n 3, 1) := by decide +kernel
theorem dL_law_612 : decode cL_law 612 = .ok (.iconst 1, 1) := by decide +kernel
theorem dL_law_613 : decode cL_law 613 = .ok (.iadd, 1) := by decide +kernel
theorem dL_law_614 : decode cL_law 614 = .ok (.iaload, 1) := by decide +kernel
theorem dL_law_615 : decode cL_law 615 = .ok (.aload_n 0, 1) := by decide +kernel
theorem dL_law_616 : decode cL_law 616 = .ok (.iload_n 3, 1) := by decide +kernel
theorem dL_law_617 : decode cL_law 617 = .ok (.iconst 2, 1) := by decide +kernel
theorem dL_law_618 : decode cL_law 618 = .ok (.iadd, 1) := by decide +kernel
theorem dL_law_619 : decode cL_law 619 = .ok (.iaload, 1) := by decide +kernel
theorem dL_law_620 : decode cL_law 620 = .ok (.invokevirtual 83, 3) := by decide +kernel
theorem dL_law_623 : decode cL_law 623 = .ok (.if_icmp .eq 292, 3) := by decide +kernel
theorem dL_law_626 : decode cL_law 626 = .ok (.iconst 0, 1) := by decide +kernel
theorem dL_law_627 : decode cL_law 627 = .ok (.ireturn, 1) := by decide +kernel
theorem dL_law_628 : decode cL_law 628 = .ok (.aload_n 1, 1) := by decide +kernel
theorem dL_law_629 : decode cL_law 629 = .ok (.aload_n 0, 1) := by decide +kernel
theorem dL_law_630 : decode cL_law 630 = .ok (.iload_n 3, 1) := by decide +kernel
theorem dL_law_631 : decode cL_law 631 = .ok (.iconst 1, 1) := by decide +kernel
theorem dL_law_632 : decode cL_law 632 = .ok (.iadd, 1) := by decide +kernel
theorem dL_law_633 : decode cL_law 633 = .ok (.iaload, 1) := by decide +kernel
theorem dL_law_634 : decode cL_law 634 = .ok (.aload_n 0, 1) := by decide +kernel
theorem dL_law_635 : decode cL_law 635 = .ok (.iload_n 3, 1) := by decide +kernel
theorem dL_law_636 : decode cL_law 636 = .ok (.iconst 2, 1) := by decide +kernel
theorem dL_law_637 : decode cL_law 637 = .ok (.iadd, 1) := by decide +kernel
theorem dL_law_638 : decode cL_law 638 = .ok (.iaload, 1) := by decide +kernel
theorem dL_law_639 : decode cL_law 639 = .ok (.aload_n 0, 1) := by decide +kernel
theorem dL_law_640 : decode cL_law 640 = .ok (.iload_n 3, 1) := by decide +kernel
theorem dL_law_641 : decode cL_law 641 = .ok (.iconst 3, 1) := by decide +kernel
theorem dL_law_642 : decode cL_law 642 = .ok (.iadd, 1) := by decide +kernel
theorem dL_law_643 : decode cL_law 643 = .ok (.iaload, 1) := by decide +kernel
theorem dL_law_644 : decode cL_law 644 = .ok (.aload_n 0, 1) := by decide +kernel
theorem dL_law_645 : decode cL_law 645 = .ok (.iload_n 3, 1) := by decide +kernel
theorem dL_law_646 : decode cL_law 646 = .ok (.iconst 4, 1) := by decide +kernel
theorem dL_law_647 : decode cL_law 647 = .ok (.iadd, 1) := by decide +kernel
theorem dL_law_648 : decode cL_law 648 = .ok (.iaload, 1) := by decide +kernel
theorem dL_law_649 : decode cL_law 649 = .ok (.invokevirtual 84, 3) := by decide +kernel
theorem dL_law_652 : decode cL_law 652 = .ok (.aload_n 2, 1) := by decide +kernel
theorem dL_law_653 : decode cL_law 653 = .ok (.aload_n 0, 1) := by decide +kernel
theorem dL_law_654 : decode cL_law 654 = .ok (.iload_n 3, 1) := by decide +kernel
theorem dL_law_655 : decode cL_law 655 = .ok (.iconst 1, 1) := by decide +kernel
theorem dL_law_656 : decode cL_law 656 = .ok (.iadd, 1) := by decide +kernel
theorem dL_law_657 : decode cL_law 657 = .ok (.iaload, 1) := by decide +kernel
theorem dL_law_658 : decode cL_law 658 = .ok (.aload_n 0, 1) := by decide +kernel
theorem dL_law_659 : decode cL_law 659 = .ok (.iload_n 3, 1) := by decide +kernel
theorem dL_law_660 : decode cL_law 660 = .ok (.iconst 2, 1) := by decide +kernel
theorem dL_law_661 : decode cL_law 661 = .ok (.iadd, 1) := by decide +kernel
theorem dL_law_662 : decode cL_law 662 = .ok (.iaload, 1) := by decide +kernel
theorem dL_law_663 : decode cL_law 663 = .ok (.aload_n 0, 1) := by decide +kernel
theorem dL_law_664 : decode cL_law 664 = .ok (.iload_n 3, 1) := by decide +kernel
theorem dL_law_665 : decode cL_law 665 = .ok (.iconst 3, 1) := by decide +kernel
theorem dL_law_666 : decode cL_law 666 = .ok (.iadd, 1) := by decide +kernel
theorem dL_law_667 : decode cL_law 667 = .ok (.iaload, 1) := by decide +kernel
theorem dL_law_668 : decode cL_law 668 = .ok (.aload_n 0, 1) := by decide +kernel
theorem dL_law_669 : decode cL_law 669 = .ok (.iload_n 3, 1) := by decide +kernel
theorem dL_law_670 : decode cL_law 670 = .ok (.iconst 4, 1) := by decide +kernel
theorem dL_law_671 : decode cL_law 671 = .ok (.iadd, 1) := by decide +kernel
theorem dL_law_672 : decode cL_law 672 = .ok (.iaload, 1) := by decide +kernel
theorem dL_law_673 : decode cL_law 673 = .ok (.invokevirtual 88, 3) := by decide +kernel
theorem dL_law_676 : decode cL_law 676 = .ok (.if_icmp .eq 239, 3) := by decide +kernel
theorem dL_law_679 : decode cL_law 679 = .ok (.iconst 0, 1) := by decide +kernel
theorem dL_law_680 : decode cL_law 680 = .ok (.ireturn, 1) := by decide +kernel
theorem dL_law_681 : decode cL_law 681 = .ok (.aload_n 1, 1) := by decide +kernel
theorem dL_law_682 : decode cL_law 682 = .ok (.aload_n 0, 1) := by decide +kernel
theorem dL_law_683 : decode cL_law 683 = .ok (.iload_n 3, 1) := by decide +kernel
theorem dL_law_684 : decode cL_law 684 = .ok (.iconst 1, 1) := by decide +kernel
theorem dL_law_685 : decode cL_law 685 = .ok (.iadd, 1) := by decide +kernel
theorem dL_law_686 : decode cL_law 686 = .ok (.iaload, 1) := by decide +kernel
theorem dL_law_687 : decode cL_law 687 = .ok (.invokevirtual 89, 3) := by decide +kernel
theorem dL_law_690 : decode cL_law 690 = .ok (.aload_n 2, 1) := by decide +kernel
theorem dL_law_691 : decode cL_law 691 = .ok (.aload_n 0, 1) := by decide +kernel
theorem dL_law_692 : decode cL_law 692 = .ok (.iload_n 3, 1) := by decide +kernel
theorem dL_law_693 : decode cL_law 693 = .ok (.iconst 1, 1) := by decide +kernel
theorem dL_law_694 : decode cL_law 694 = .ok (.iadd, 1) := by decide +kernel
theorem dL_law_695 : decode cL_law 695 = .ok (.iaload, 1) := by decide +kernel
theorem dL_law_696 : decode cL_law 696 = .ok (.invokevirtual 92, 3) := by decide +kernel
theorem dL_law_699 : decode cL_law 699 = .ok (.if_icmp .eq 216, 3) := by decide +kernel
theorem dL_law_702 : decode cL_law 702 = .ok (.iconst 0, 1) := by decide +kernel
theorem dL_law_703 : decode cL_law 703 = .ok (.ireturn, 1) := by decide +kernel
theorem dL_law_704 : decode cL_law 704 = .ok (.aload_n 1, 1) := by decide +kernel
theorem dL_law_705 : decode cL_law 705 = .ok (.invokevirtual 93, 3) := by decide +kernel
theorem dL_law_708 : decode cL_law 708 = .ok (.aload_n 2, 1) := by decide +kernel
theorem dL_law_709 : decode cL_law 709 = .ok (.invokevirtual 96, 3) := by decide +kernel
theorem dL_law_712 : decode cL_law 712 = .ok (.if_icmp .eq 203, 3) := by decide +kernel
theorem dL_law_715 : decode cL_law 715 = .ok (.iconst 0, 1) := by decide +kernel
theorem dL_law_716 : decode cL_law 716 = .ok (.ireturn, 1) := by decide +kernel
theorem dL_law_717 : decode cL_law 717 = .ok (.aload_n 1, 1) := by decide +kernel
theorem dL_law_718 : decode cL_law 718 = .ok (.aload_n 0, 1) := by decide +kernel
theorem dL_law_719 : decode cL_law 719 = .ok (.iload_n 3, 1) := by decide +kernel
theorem dL_law_720 : decode cL_law 720 = .ok (.iconst 1, 1) := by decide +kernel
theorem dL_law_721 : decode cL_law 721 = .ok (.iadd, 1) := by decide +kernel
theorem dL_law_722 : decode cL_law 722 = .ok (.iaload, 1) := by decide +kernel
theorem dL_law_723 : decode cL_law 723 = .ok (.invokevirtual 97, 3) := by decide +kernel
theorem dL_law_726 : decode cL_law 726 = .ok (.aload_n 2, 1) := by decide +kernel
theorem dL_law_727 : decode cL_law 727 = .ok (.aload_n 0, 1) := by decide +kernel
theorem dL_law_728 : decode cL_law 728 = .ok (.iload_n 3, 1) := by decide +kernel
theorem dL_law_729 : decode cL_law 729 = .ok (.iconst 1, 1) := by decide +kernel
theorem dL_law_730 : decode cL_law 730 = .ok (.iadd, 1) := by decide +kernel
theorem dL_law_731 : decode cL_law 731 = .ok (.iaload, 1) := by decide +kernel
theorem dL_law_732 : decode cL_law 732 = .ok (.invokevirtual 100, 3) := by decide +kernel
theorem dL_law_735 : decode cL_law 735 = .ok (.if_icmp .eq 180, 3) := by decide +kernel
theorem dL_law_738 : decode cL_law 738 = .ok (.iconst 0, 1) := by decide +kernel
theorem dL_law_739 : decode cL_law 739 = .ok (.ireturn, 1) := by decide +kernel
theorem dL_law_740 : decode cL_law 740 = .ok (.aload_n 1, 1) := by decide +kernel
theorem dL_law_741 : decode cL_law 741 = .ok (.aload_n 0, 1) := by decide +kernel
theorem dL_law_742 : decode cL_law 742 = .ok (.iload_n 3, 1) := by decide +kernel
theorem dL_law_743 : decode cL_law 743 = .ok (.iconst 1, 1) := by decide +kernel
theorem dL_law_744 : decode cL_law 744 = .ok (.iadd, 1) := by decide +kernel
theorem dL_law_745 : decode cL_law 745 = .ok (.iaload, 1) := by decide +kernel
theorem dL_law_746 : decode cL_law 746 = .ok (.aload_n 0, 1) := by decide +kernel
theorem dL_law_747 : decode cL_law 747 = .ok (.iload_n 3, 1) := by decide +kernel
theorem dL_law_748 : decode cL_law 748 = .ok (.iconst 2, 1) := by decide +kernel
theorem dL_law_749 : decode cL_law 749 = .ok (.iadd, 1) := by decide +kernel
theorem dL_law_750 : decode cL_law 750 = .ok (.iaload, 1) := by decide +kernel
theorem dL_law_751 : decode cL_law 751 = .ok (.invokevirtual 101, 3) := by decide +kernel
theorem dL_law_754 : decode cL_law 754 = .ok (.aload_n 2, 1) := by decide +kernel
theorem dL_law_755 : decode cL_law 755 = .ok (.aload_n 0, 1) := by decide +kernel
theorem dL_law_756 : decode cL_law 756 = .ok (.iload_n 3, 1) := by decide +kernel
theorem dL_law_757 : decode cL_law 757 = .ok (.iconst 1, 1) := by decide +kernel
theorem dL_law_758 : decode cL_law 758 = .ok (.iadd, 1) := by decide +kernel
theorem dL_law_759 : decode cL_law 759 = .ok (.iaload, 1) := by decide +kernel
theorem dL_law_760 : decode cL_law 760 = .ok (.aload_n 0, 1) := by decide +kernel
theorem dL_law_761 : decode cL_law 761 = .ok (.iload_n 3, 1) := by decide +kernel
theorem dL_law_762 : decode cL_law 762 = .ok (.iconst 2, 1) := by decide +kernel
theorem dL_law_763 : decode cL_law 763 = .ok (.iadd, 1) := by decide +kernel
theorem dL_law_764 : decode cL_law 764 = .ok (.iaload, 1) := by decide +kernel
theorem dL_law_765 : decode cL_law 765 = .ok (.invokevirtual 104, 3) := by decide +kernel
theorem dL_law_768 : decode cL_law 768 = .ok (.if_icmp .eq 147, 3) := by decide +kernel
theorem dL_law_771 : decode cL_law 771 = .ok (.iconst 0, 1) := by decide +kernel
theorem dL_law_772 : decode cL_law 772 = .ok (.ireturn, 1) := by decide +kernel
theorem dL_law_773 : decode cL_law 773 = .ok (.aload_n 1, 1) := by decide +kernel
theorem dL_law_774 : decode cL_law 774 = .ok (.invokevirtual 105, 3) := by decide +kernel
theorem dL_law_777 : decode cL_law 777 = .ok (.aload_n 2, 1) := by decide +kernel
theorem dL_law_778 : decode cL_law 778 = .ok (.invokevirtual 108, 3) := by decide +kernel
theorem dL_law_781 : decode cL_law 781 = .ok (.if_icmp .eq 134, 3) := by decide +kernel
theorem dL_law_784 : decode cL_law 784 = .ok (.iconst 0, 1) := by decide +kernel
theorem dL_law_785 : decode cL_law 785 = .ok (.ireturn, 1) := by decide +kernel
theorem dL_law_786 : decode cL_law 786 = .ok (.aload_n 1, 1) := by decide +kernel
theorem dL_law_787 : decode cL_law 787 = .ok (.invokevirtual 109, 3) := by decide +kernel
theorem dL_law_790 : decode cL_law 790 = .ok (.aload_n 2, 1) := by decide +kernel
theorem dL_law_791 : decode cL_law 791 = .ok (.invokevirtual 112, 3) := by decide +kernel
theorem dL_law_794 : decode cL_law 794 = .ok (.if_icmp .eq 121, 3) := by decide +kernel
theorem dL_law_797 : decode cL_law 797 = .ok (.iconst 0, 1) := by decide +kernel
theorem dL_law_798 : decode cL_law 798 = .ok (.ireturn, 1) := by decide +kernel
theorem dL_law_799 : decode cL_law 799 = .ok (.aload_n 1, 1) := by decide +kernel
theorem dL_law_800 : decode cL_law 800 = .ok (.aload_n 0, 1) := by decide +kernel
theorem dL_law_801 : decode cL_law 801 = .ok (.iload_n 3, 1) := by decide +kernel
theorem dL_law_802 : decode cL_law 802 = .ok (.iconst 1, 1) := by decide +kernel
theorem dL_law_803 : decode cL_law 803 = .ok (.iadd, 1) := by decide +kernel
theorem dL_law_804 : decode cL_law 804 = .ok (.iaload, 1) := by decide +kernel
theorem dL_law_805 : decode cL_law 805 = .ok (.aload_n 0, 1) := by decide +kernel
theorem dL_law_806 : decode cL_law 806 = .ok (.iload_n 3, 1) := by decide +kernel
theorem dL_law_807 : decode cL_law 807 = .ok (.iconst 2, 1) := by decide +kernel
theorem dL_law_808 : decode cL_law 808 = .ok (.iadd, 1) := by decide +kernel
theorem dL_law_809 : decode cL_law 809 = .ok (.iaload, 1) := by decide +kernel
theorem dL_law_810 : decode cL_law 810 = .ok (.invokevirtual 113, 3) := by decide +kernel
theorem dL_law_813 : decode cL_law 813 = .ok (.aload_n 2, 1) := by decide +kernel
theorem dL_law_814 : decode cL_law 814 = .ok (.aload_n 0, 1) := by decide +kernel
theorem dL_law_815 : decode cL_law 815 = .ok (.iload_n 3, 1) := by decide +kernel
theorem dL_law_816 : decode cL_law 816 = .ok (.iconst 1, 1) := by decide +kernel
theorem dL_law_817 : decode cL_law 817 = .ok (.iadd, 1) := by decide +kernel
theorem dL_law_818 : decode cL_law 818 = .ok (.iaload, 1) := by decide +kernel
theorem dL_law_819 : decode cL_law 819 = .ok (.aload_n 0, 1) := by decide +kernel
theorem dL_law_820 : decode cL_law 820 = .ok (.iload_n 3, 1) := by decide +kernel
theorem dL_law_821 : decode cL_law 821 = .ok (.iconst 2, 1) := by decide +kernel
theorem dL_law_822 : decode cL_law 822 = .ok (.iadd, 1) := by decide +kernel
theorem dL_law_823 : decode cL_law 823 = .ok (.iaload, 1) := by decide +kernel
theorem dL_law_824 : decode cL_law 824 = .ok (.invokevirtual 116, 3) := by decide +kernel
theorem dL_law_827 : decode cL_law 827 = .ok (.if_icmp .eq 88, 3) := by decide +kernel
theorem dL_law_830 : decode cL_law 830 = .ok (.iconst 0, 1) := by decide +kernel
theorem dL_law_831 : decode cL_law 831 = .ok (.ireturn, 1) := by decide +kernel
theorem dL_law_832 : decode cL_law 832 = .ok (.aload_n 1, 1) := by decide +kernel
theorem dL_law_833 : decode cL_law 833 = .ok (.aload_n 0, 1) := by decide +kernel
theorem dL_law_834 : decode cL_law 834 = .ok (.iload_n 3, 1) := by decide +kernel
theorem dL_law_835 : decode cL_law 835 = .ok (.iconst 1, 1) := by decide +kernel
theorem dL_law_836 : decode cL_law 836 = .ok (.iadd, 1) := by decide +kernel
theorem dL_law_837 : decode cL_law 837 = .ok (.iaload, 1) := by decide +kernel
theorem dL_law_838 : decode cL_law 838 = .ok (.invokevirtual 117, 3) := by decide +kernel
theorem dL_law_841 : decode cL_law 841 = .ok (.aload_n 2, 1) := by decide +kernel
theorem dL_law_842 : decode cL_law 842 = .ok (.aload_n 0, 1) := by decide +kernel
theorem dL_law_843 : decode cL_law 843 = .ok (.iload_n 3, 1) := by decide +kernel
theorem dL_law_844 : decode cL_law 844 = .ok (.iconst 1, 1) := by decide +kernel
theorem dL_law_845 : decode cL_law 845 = .ok (.iadd, 1) := by decide +kernel
theorem dL_law_846 : decode cL_law 846 = .ok (.iaload, 1) := by decide +kernel
theorem dL_law_847 : decode cL_law 847 = .ok (.invokevirtual 120, 3) := by decide +kernel
theorem dL_law_850 : decode cL_law 850 = .ok (.if_icmp .eq 65, 3) := by decide +kernel
theorem dL_law_853 : decode cL_law 853 = .ok (.iconst 0, 1) := by decide +kernel
theorem dL_law_854 : decode cL_law 854 = .ok (.ireturn, 1) := by decide +kernel
theorem dL_law_855 : decode cL_law 855 = .ok (.aload_n 1, 1) := by decide +kernel
theorem dL_law_856 : decode cL_law 856 = .ok (.aload_n 0, 1) := by decide +kernel
theorem dL_law_857 : decode cL_law 857 = .ok (.iload_n 3, 1) := by decide +kernel
theorem dL_law_858 : decode cL_law 858 = .ok (.iconst 1, 1) := by decide +kernel
theorem dL_law_859 : decode cL_law 859 = .ok (.iadd, 1) := by decide +kernel
theorem dL_law_860 : decode cL_law 860 = .ok (.iaload, 1) := by decide +kernel
theorem dL_law_861 : decode cL_law 861 = .ok (.invokevirtual 121, 3) := by decide +kernel
theorem dL_law_864 : decode cL_law 864 = .ok (.aload_n 2, 1) := by decide +kernel
theorem dL_law_865 : decode cL_law 865 = .ok (.aload_n 0, 1) := by decide +kernel
theorem dL_law_866 : decode cL_law 866 = .ok (.iload_n 3, 1) := by decide +kernel
theorem dL_law_867 : decode cL_law 867 = .ok (.iconst 1, 1) := by decide +kernel
theorem dL_law_868 : decode cL_law 868 = .ok (.iadd, 1) := by decide +kernel
theorem dL_law_869 : decode cL_law 869 = .ok (.iaload, 1) := by decide +kernel
theorem dL_law_870 : decode cL_law 870 = .ok (.invokevirtual 124, 3) := by decide +kernel
theorem dL_law_873 : decode cL_law 873 = .ok (.if_icmp .eq 42, 3) := by decide +kernel
theorem dL_law_876 : decode cL_law 876 = .ok (.iconst 0, 1) := by decide +kernel
theorem dL_law_877 : decode cL_law 877 = .ok (.ireturn, 1) := by decide +kernel
theorem dL_law_878 : decode cL_law 878 = .ok (.aload_n 1, 1) := by decide +kernel
theorem dL_law_879 : decode cL_law 879 = .ok (.aload_n 0, 1) := by decide +kernel
theorem dL_law_880 : decode cL_law 880 = .ok (.iload_n 3, 1) := by decide +kernel
theorem dL_law_881 : decode cL_law 881 = .ok (.iconst 1, 1) := by decide +kernel
theorem dL_law_882 : decode cL_law 882 = .ok (.iadd, 1) := by decide +kernel
theorem dL_law_883 : decode cL_law 883 = .ok (.iaload, 1) := by decide +kernel
theorem dL_law_884 : decode cL_law 884 = .ok (.invokevirtual 125, 3) := by decide +kernel
theorem dL_law_887 : decode cL_law 887 = .ok (.aload_n 2, 1) := by decide +kernel
theorem dL_law_888 : decode cL_law 888 = .ok (.aload_n 0, 1) := by decide +kernel
theorem dL_law_889 : decode cL_law 889 = .ok (.iload_n 3, 1) := by decide +kernel
theorem dL_law_890 : decode cL_law 890 = .ok (.iconst 1, 1) := by decide +kernel
theorem dL_law_891 : decode cL_law 891 = .ok (.iadd, 1) := by decide +kernel
theorem dL_law_892 : decode cL_law 892 = .ok (.iaload, 1) := by decide +kernel
theorem dL_law_893 : decode cL_law 893 = .ok (.invokevirtual 128, 3) := by decide +kernel
theorem dL_law_896 : decode cL_law 896 = .ok (.if_icmp .eq 19, 3) := by decide +kernel
theorem dL_law_899 : decode cL_law 899 = .ok (.iconst 0, 1) := by decide +kernel
theorem dL_law_900 : decode cL_law 900 = .ok (.ireturn, 1) := by decide +kernel
theorem dL_law_901 : decode cL_law 901 = .ok (.aload_n 1, 1) := by decide +kernel
theorem dL_law_902 : decode cL_law 902 = .ok (.invokevirtual 129, 3) := by decide +kernel
theorem dL_law_905 : decode cL_law 905 = .ok (.aload_n 2, 1) := by decide +kernel
theorem dL_law_906 : decode cL_law 906 = .ok (.invokevirtual 133, 3) := by decide +kernel
theorem dL_law_909 : decode cL_law 909 = .ok (.lcmp, 1) := by decide +kernel
theorem dL_law_910 : decode cL_law 910 = .ok (.ifCond .eq 5, 3) := by decide +kernel
theorem dL_law_913 : decode cL_law 913 = .ok (.iconst 0, 1) := by decide +kernel
theorem dL_law_914 : decode cL_law 914 = .ok (.ireturn, 1) := by decide +kernel
theorem dL_law_915 : decode cL_law 915 = .ok (.iinc 3 5, 3) := by decide +kernel
theorem dL_law_918 : decode cL_law 918 = .ok (.goto (-900), 3) := by decide +kernel
theorem dL_law_921 : decode cL_law 921 = .ok (.iconst 1, 1) := by decide +kernel
theorem dL_law_922 : decode cL_law 922 = .ok (.ireturn, 1) := by decide +kernel
end
section
/-! What every contract of mine stands on: the links between nest mates, the two texts, the classes of the arrays (zK, zE), a contract (zC), a call (zcV, zcS), and small rows that read a mirror (a function that does what the bytecode does). -/
def zNF : List (String × Nat × String × String × String × String) := [("NineHands", 73, "NineHands$Text", "length", "I", "NineHands"), ("NineHands", 108, "NineHands$Letter", "tones", "[I", "NineHands"), ("NineHands", 112, "NineHands$Letter", "marks", "[I", "NineHands"), ("NineHands", 115, "NineHands$Letter", "writers", "[I", "NineHands"), ("NineHands", 105, "NineHands$Letter", "lines", "I", "NineHands"), ("NineHands", 151, "NineHands$Letter", "luck", "I", "NineHands"), ("NineHands", 198, "NineHands$Samples", "count", "I", "NineHands"), ("NineHands", 224, "NineHands$Copies", "slips", "[I", "NineHands"), ("NineHands", 223, "NineHands$Copies", "count", "I", "NineHands"), ("NineHands", 91, "NineHands$Clerk", "lean", "I", "NineHands"), ("NineHands$Office", 39, "NineHands$Clerk", "lean", "I", "NineHands"), ("NineHands", 96, "NineHands$Clerk", "sets", "I", "NineHands"), ("NineHands$Office", 42, "NineHands$Clerk", "sets", "I", "NineHands"), ("NineHands", 99, "NineHands$Clerk", "drops", "I", "NineHands"), ("NineHands$Office", 45, "NineHands$Clerk", "drops", "I", "NineHands"), ("NineHands", 102, "NineHands$Clerk", "keeps", "I", "NineHands"), ("NineHands$Office", 48, "NineHands$Clerk", "keeps", "I", "NineHands"), ("NineHands", 261, "NineHands$Office", "count", "I", "NineHands"), ("NineHands$Text", 56, "NineHands$Office", "letterTold", "Z", "NineHands"), ("NineHands", 62, "NineHands$Office", "firstTone", "I", "NineHands"), ("NineHands$Text", 71, "NineHands$Office", "firstTone", "I", "NineHands"), ("NineHands", 66, "NineHands$Office", "firstMarks", "I", "NineHands"), ("NineHands$Text", 74, "NineHands$Office", "firstMarks", "I", "NineHands")]
def zNM : List (String × Nat × MethodName × String) := [("NineHands", 9, ⟨"NineHands$Text", "<init>", "()V"⟩, "NineHands"), ("NineHands", 18, ⟨"NineHands$Letter", "<init>", "()V"⟩, "NineHands"), ("NineHands", 29, ⟨"NineHands$Samples", "<init>", "()V"⟩, "NineHands"), ("NineHands", 36, ⟨"NineHands$Copies", "<init>", "()V"⟩, "NineHands"), ("NineHands", 43, ⟨"NineHands$Orders", "<init>", "()V"⟩, "NineHands"), ("NineHands$Office", 17, ⟨"NineHands$Clerk", "<init>", "()V"⟩, "NineHands"), ("NineHands$Text", 28, ⟨"NineHands$Office", "begin", "()V"⟩, "NineHands"), ("NineHands$Clerk", 15, ⟨"NineHands", "leant", "(II)I"⟩, "NineHands"), ("NineHands$Samples", 36, ⟨"NineHands", "leant", "(II)I"⟩, "NineHands")]
def zNf (q : String × Nat × String × String × String × String) : Cond := .fieldLinkNest q.1 q.2.1 q.2.2.1 q.2.2.2.1 q.2.2.2.2.1 q.2.2.2.2.2
def zNm (q : String × Nat × MethodName × String) : Cond := .methodLinkNest q.1 q.2.1 q.2.2.1 q.2.2.2
theorem zNF_in : ∀ q ∈ zNF, zNf q ∈ lw_tbl := by decide +kernel
theorem zNM_in : ∀ q ∈ zNM, zNm q ∈ lw_tbl := by decide +kernel
def zNw (U : State) : Prop := (∀ q ∈ zNF, va_Nw (zNf q) U) ∧ ∀ q ∈ zNM, va_Nw (zNm q) U
theorem zNw.warm {s U : State} (hW : s.WarmedH U.vm) (h : zNw s) : zNw U := ⟨fun q hq => va_Nw.warmF hW (h.1 q hq), fun q hq => va_Nw.warmM hW (h.2 q hq)⟩
theorem zNw.same {u U : State} (hv : u.vm = U.vm) (h : zNw u) : zNw U := ⟨fun q hq => va_Nw.same (w := zNf q) rfl hv (h.1 q hq), fun q hq => va_Nw.same (w := zNm q) rfl hv (h.2 q hq)⟩
abbrev zLen : List Nat := [5, 6]
abbrev zByt : List (List Int32) := [[99, 108, 101, 114, 107], [108, 101, 116, 116, 101, 114]]
abbrev zG : Type := va_G × (ClassId × ClassId × ClassId × ClassId × ClassId) × (Nat → Nat) × (Nat → Nat)
abbrev zTy (G : zG) : List (ClassId × FieldType) := [(G.2.1.1, .int), (G.2.1.2.1, .byte), (G.2.1.2.2.1, .boolean), (G.2.1.2.2.2.1, .object "NineHands$Clerk"), (G.2.1.2.2.2.2, .object "NineHands$Letter")]
abbrev zCI (G : zG) : ClassId := G.2.1.1
abbrev zCB (G : zG) : ClassId := G.2.1.2.1
abbrev zCZ (G : zG) : ClassId := G.2.1.2.2.1
abbrev zCC (G : zG) : ClassId := G.2.1.2.2.2.1
abbrev zCL (G : zG) : ClassId := G.2.1.2.2.2.2
/-- what stays whatever is run: classes, arrays' classes, links, the two texts as constants -/
def zK (G : zG) (U : State) : Prop := va_K G.1 vwCl (zTy G) U ∧ zNw U ∧ vk_R "NineHands$Text" 41 "clerk" (G.2.2.1 0) U ∧ vk_R "NineHands$Text" 54 "letter" (G.2.2.1 1) U
theorem zK.warm {G : zG} {s U : State} (hW : s.WarmedH U.vm) (h : zK G s) : zK G U := ⟨va_K.moved hW.alike h.1, h.2.1.warm hW, h.2.2.1.warm hW, h.2.2.2.warm hW⟩
theorem zK.same {G : zG} {u U : State} (hv : u.vm = U.vm) (h : zK G u) : zK G U := ⟨va_K.moved (by rw [hv]; exact Vm.Alike.refl U.vm) h.1, h.2.1.same hv, h.2.2.1.same hv.symm, h.2.2.2.same hv.symm⟩
/-- what stands in cells that no world holds: the two texts, two statics of the JDK -/
def zE (G : zG) (A : Nat → Prop) (U : State) : Prop := vk_S 2 zLen zByt G.2.2.1 G.2.2.2 A U U.heap ∧ va_Z "java/lang/String" "COMPACT_STRINGS" "Z" (.int 1) A U U.heap ∧ va_Zq "jdk/internal/util/Preconditions" "SIOOBE_FORMATTER" "Ljava/util/function/BiFunction;" A U U.heap
theorem zE.go {G : zG} {A B : Nat → Prop} {u U : State} (hvm : u.vm.Alike U.vm) (hq : ∀ a : Nat, a < u.heap.size → ¬ A a → U.heap[a]? = u.heap[a]?) (hAB : ∀ q, B q → A q) (h : zE G A u) : zE G B U :=
  ⟨((vk_S.moved hvm h.1).kept hq).narrow hAB, ((va_Z.moved hvm h.2.1).kept hq).narrow hAB, ((va_Zq.moved hvm h.2.2).kept hq).narrow hAB⟩
/-- a method's end: its answer, its world, its frame -/
def zQ (r : Option Value) (G : zG) (ws : va_W) (A : Nat → Prop) : Array Value → State → Outcome → State → Prop := fun _ st oc t => oc = .returned r ∧ va_P G.1 vwCl ws t.heap ∧ va_D A ws ∧ va_F A st t
def zPre (G : zG) (sz : Nat) (ws : va_W) (U : State) : Prop := U.heap.size = sz ∧ va_P G.1 vwCl ws U.heap ∧ zK G U ∧ va_D (fun _ => True) ws ∧ zE G (va_A ws sz) U
/-- a contract: from the world ws to the world ws', with the answer r; no cell is made -/
def zC (l : Launch) (y : MethodName) (w : List Cond) (fr lo : Nat) (G : zG) (av : List Value) (ws : va_W) (r : Option Value) (ws' : va_W) : Prop :=
  ∀ sz : Nat, Met l y w { frames := fr, cells := 0, slots := 0, locals := lo } (va_Pc av (zPre G sz ws)) (zQ r G ws' (va_A ws sz)) 0 0 (va_A ws sz)
theorem zBlind {G : zG} {sz : Nat} {av : List Value} {ws : va_W} : FrameBlind (va_Pc av (zPre G sz ws)) := by
  intro a U g mk q
  obtain ⟨q0, q1, qP, qK, qD, qE⟩ := q
  exact ⟨q0, q1, qP, zK.same (u := U) (U := U.calling g mk a) rfl qK, qD, zE.go (u := U) (U := U.calling g mk a) (Vm.Alike.refl U.vm) (fun _ _ _ => rfl) (fun _ h => h) qE⟩
/-- some cells of a world anew -/
def zput (ws : va_W) : List Nat → va_W → va_W
  | i :: is, x :: xs => zput (ws.set i x) is xs
  | _, _ => ws
theorem zput_get : ∀ (is : List Nat) (xs ws : va_W) (k : Nat) (q : Nat × va_E), (zput ws is xs)[k]? = some q → (∃ j : Nat, xs[j]? = some q) ∨ (ws[k]? = some q ∧ (is.length ≤ xs.length → k ∉ is))
  | [], xs, ws, k, q, h => Or.inr ⟨by simpa [zput] using h, fun _ => by simp⟩
  | i :: is, [], ws, k, q, h => Or.inr ⟨by simpa [zput] using h, fun hl => by simp at hl⟩
  | i :: is, x :: xs, ws, k, q, h => by
    rw [zput] at h
    rcases zput_get is xs (ws.set i x) k q h with ⟨j, hj⟩ | ⟨h1, h2⟩
    · exact Or.inl ⟨j + 1, by rw [List.getElem?_cons_succ]; exact hj⟩
    · by_cases hk : i = k
      · subst hk
        have hl : i < (ws.set i x).length := (List.getElem?_eq_some_iff.mp h1).1
        rw [List.length_set] at hl
        rw [List.getElem?_set_self hl] at h1
        exact Or.inl ⟨0, by rw [List.getElem?_cons_zero]; exact h1⟩
      · rw [List.getElem?_set_ne hk] at h1
        refine Or.inr ⟨h1, fun hl hm => ?_⟩
        rcases List.mem_cons.mp hm with e | e
        · exact hk e.symm
        · exact h2 (by simpa using hl) e
theorem zput_adr : ∀ (is : List Nat) (xs ws : va_W), is.map (fun i => (ws[i]?).map (·.1)) = xs.map (fun x => some x.1) → (zput ws is xs).map (·.1) = ws.map (·.1)
  | [], xs, ws, _ => by simp [zput]
  | i :: is, [], ws, h => by simp at h
  | i :: is, x :: xs, ws, h => by
    rw [zput]
    simp only [List.map_cons, List.cons.injEq] at h
    have e : (ws.set i x).map (·.1) = ws.map (·.1) := by
      rw [List.map_set]
      apply List.ext_getElem?
      intro k
      by_cases hk : i = k
      · subst hk
        by_cases hl : i < (ws.map (·.1)).length
        · rw [List.getElem?_set_self hl, List.getElem?_map]
          exact h.1.symm
        · rw [List.getElem?_eq_none (by simpa using hl), List.getElem?_eq_none (by simpa using hl)]
      · rw [List.getElem?_set_ne hk]
    rw [zput_adr is xs (ws.set i x), e]
    rw [← h.2]
    apply List.map_congr_left
    intro k _
    rw [← List.getElem?_map, ← List.getElem?_map, e]
theorem zD_adr {A : Nat → Prop} {ws ws' : va_W} (h : va_D A ws) (e : ws'.map (·.1) = ws.map (·.1)) : va_D A ws' := by
  have key : ∀ (k : Nat) (q : Nat × va_E), ws'[k]? = some q → ∃ q0, ws[k]? = some q0 ∧ q0.1 = q.1 := by
    intro k q hk
    have h1 : (ws'.map (·.1))[k]? = some q.1 := by rw [List.getElem?_map, hk]; rfl
    rw [e, List.getElem?_map] at h1
    cases hw : ws[k]? with
    | none => rw [hw] at h1; cases h1
    | some q0 => rw [hw] at h1; exact ⟨q0, rfl, Option.some.inj h1⟩
  refine ⟨fun i j p q hi hj hpq => ?_, fun k q hk => ?_⟩
  · obtain ⟨p0, a1, a2⟩ := key i p hi
    obtain ⟨q0, b1, b2⟩ := key j q hj
    exact h.1 i j p0 q0 a1 b1 (a2.trans (hpq.trans b2.symm))
  · obtain ⟨q0, a1, a2⟩ := key k q hk
    rw [← a2]
    exact h.2 k q0 a1
/-- behind a call: the callee's cells anew, the others as they were -/
theorem zjoin {A : Nat → Prop} {D : va_G} {cl : List vw_C} {ws wc wc' ws' : va_W} {H H1 : Heap} (hP : va_P D cl ws H) (hD : va_D A ws) (isC : List Nat) (hC : isC.map (fun i => ws[i]?) = wc.map some)
    (ha : wc'.map (·.1) = wc.map (·.1)) (hw : zput ws isC wc' = ws') (hk : ∀ q : Nat, q < H.size → ¬ va_A wc H.size q → H1[q]? = H[q]?) (hP1 : va_P D cl wc' H1) : va_P D cl ws' H1 ∧ va_D A ws' := by
  subst hw
  have hlen : isC.length = wc'.length := by
    have h1 := congrArg List.length hC
    have h2 := congrArg List.length ha
    simp only [List.length_map] at h1 h2
    omega
  constructor
  · intro k q hq
    rcases zput_get isC wc' ws k q hq with ⟨j, hj⟩ | ⟨h1, h2⟩
    · exact hP1 j q hj
    · refine (hP k q h1).kept (hk q.1 (hP k q h1).lt ?_)
      rintro (⟨j, e, hj⟩ | hsz)
      · have h3 : (isC.map (fun i => ws[i]?))[j]? = some (some (q.1, e)) := by rw [hC, List.getElem?_map, hj]; rfl
        rw [List.getElem?_map] at h3
        cases hi : isC[j]? with
        | none => rw [hi] at h3; cases h3
        | some i =>
          rw [hi] at h3
          have h4 := Option.some.inj h3
          have h5 := hD.1 k i q (q.1, e) h1 h4 rfl
          exact h2 (by omega) (h5 ▸ List.mem_of_getElem? hi)
      · have := (hP k q h1).lt
        omega
  · refine zD_adr hD (zput_adr isC wc' ws ?_)
    have h1 : isC.map (fun i => (ws[i]?).map (·.1)) = (isC.map (fun i => ws[i]?)).map (fun o => o.map (·.1)) := by rw [List.map_map]; rfl
    rw [h1, hC, List.map_map]
    have h2 : wc.map ((fun o => Option.map (·.1) o) ∘ some) = (wc.map (·.1)).map some := by rw [List.map_map]; rfl
    rw [h2, ← ha, List.map_map]
    rfl
/-- one cell of a world, read alone: the world stays -/
theorem zput_same {ws : va_W} {k : Nat} {x : Nat × va_E} (h : ws[k]? = some x) : zput ws [k] [x] = ws := by
  show ws.set k x = ws
  apply List.ext_getElem?
  intro j
  by_cases hj : k = j
  · subst hj
    rw [List.getElem?_set_self (List.getElem?_eq_some_iff.mp h).1, h]
  · rw [List.getElem?_set_ne hj]
section ZC
variable {p : Program} {l : Launch} {e : Env} {R : Room} {s : State} {m : MethodId} {args : Array Value} {below : List Frame} {meth : Method} {c : Code} {H : Heap} {locs : List Loc} {cells slots : Nat} {Q : State → Prop}
variable {cc : ByteArray} {pc nL : Nat} {ls : Array Slot} {rest st0 : List Value} {A : Nat → Prop}
theorem zafter {G : zG} {wc wc' ws ws' : va_W} {r : Option Value} {av : Array Value} (hr : va_Run p l e R s m args below meth c H locs cells slots 0 0 (F0 m pc ls st0) rest (zQ r G wc' (va_A wc H.size) av) (va_A wc H.size))
    (hP : va_P G.1 vwCl ws H) (hD : va_D A ws) (hS : va_S A s.heap H locs) (hA : ∀ q, s.heap.size ≤ q → A q) (isC : List Nat) (hC : isC.map (fun i => ws[i]?) = wc.map some)
    (ha : wc'.map (·.1) = wc.map (·.1)) (hw : zput ws isC wc' = ws')
    {st1 : List Value} (hst1 : r.toList ++ rest = st1) (kk : ∀ (H1 : Heap) (locs1 : List Loc), va_P G.1 vwCl ws' H1 → va_D A ws' → va_S A s.heap H1 locs1 → W p l e R s m args below meth c H1 locs1 cells slots Q (F0 m (pc + 3) ls st1)) : W p l e R s m args below meth c H locs cells slots Q (F0 m pc ls st0) := by
  have hF := va_free (wc := wc) hD hS hA isC hC
  intro T hT X
  obtain ⟨v, st₀, t, T', L, h0, X', hL, e1, e2, ⟨hv, hP1, hD1, hz, hk⟩, st⟩ := hr T hT X
  have hv : v = r := Outcome.returned.inj hv
  subst hv
  subst hst1
  rw [h0] at hz hk
  obtain ⟨hP2, hD2⟩ := zjoin (H1 := t.heap) hP hD isC hC ha hw hk hP1
  obtain ⟨t2, a1, b1⟩ := kk T'.heap (locs ++ L) (by rw [e1]; exact hP2) hD2
    ⟨Nat.le_trans hS.1 (by rw [e1]; exact hz), fun q h1 h2 => by rw [e1, hk q (Nat.lt_of_lt_of_le h1 hS.1) (fun z => h2 (hF q z))]; exact hS.2.1 q h1 h2, fun q hq => by
      rcases List.mem_append.mp hq with h | h
      · exact hS.2.2 q h
      · exact hF _ (hL q h)⟩ T' rfl X'
  exact ⟨t2, st t2 a1, b1⟩
theorem zpre {G : zG} {wc ws : va_W} {U : State} (hK : zK G s) (hE : zE G A s) (hP : va_P G.1 vwCl ws H) (hD : va_D A ws) (hS : va_S A s.heap H locs) (hA : ∀ q, s.heap.size ≤ q → A q) (isC : List Nat) (hnd : va_nd isC = true) (hC : isC.map (fun i => ws[i]?) = wc.map some) (hU : U.heap = H) (hW : s.WarmedH U.vm) : zPre G H.size wc U := by
  have hF := va_free (wc := wc) hD hS hA isC hC
  have h1 : isC.filterMap (fun i => ws[i]?) = wc := by
    have h2 : isC.filterMap (fun i => ws[i]?) = (isC.map (fun i => ws[i]?)).filterMap id := by rw [List.filterMap_map]; rfl
    rw [h2, hC, List.filterMap_map]
    show wc.filterMap some = wc
    exact List.filterMap_some
  refine ⟨by rw [hU], by rw [hU]; exact hP.sub isC h1, hK.warm hW, (hD.sub isC hnd hC).weaken (fun _ _ _ _ => trivial), ?_⟩
  exact hE.go hW.alike (fun a h1 h2 => by rw [hU]; exact hS.2.1 a h1 h2) hF
theorem zcV {own C : String} {index maxL n fr lo : Nat} {y : MethodName} {bytes : ByteArray} {ret : Option FieldType} {w Ts : List Cond} {G : zG} {b : Nat} {As : List Value} {wc wc' ws ws' : va_W} {r : Option Value}
    (S : CallFix p m c cc nL s args Ts own) (hM : zC l y w fr lo G (.ref b :: As) wc r wc') (cw : CallW R s args own C index y bytes maxL ret w { frames := fr, cells := 0, slots := 0, locals := lo } 0 0 n)
    (hK : zK G s) (hE : zE G A s) (hP : va_P G.1 vwCl ws H) (hD : va_D A ws) (hS : va_S A s.heap H locs) (hA : ∀ q, s.heap.size ≤ q → A q) (isC : List Nat) (hnd : va_nd isC = true) (hC : isC.map (fun i => ws[i]?) = wc.map some)
    (qr ci : Nat) {fs : List Value} {q : vw_C} (hcl : vwCl[ci]? = some q) (hqr : wc[qr]? = some (b, .inr (ci, fs))) (hq1 : q.1 = C)
    (ha : wc'.map (·.1) = wc.map (·.1)) (hw : zput ws isC wc' = ws')
    (hstack : st0 = As.reverse ++ .ref b :: rest) (hsz : ls.size = nL) (hn : As.length = n) (hroom : (rest.map fun v => v.category).sum ≤ 8) (hdg : decode cc pc = .ok (.invokevirtual index, 3)) (hce : cells ≤ R.cells) (hsl : slots ≤ R.slots)
    {st1 : List Value} (hst1 : r.toList ++ rest = st1) (kk : ∀ (H1 : Heap) (locs1 : List Loc), va_P G.1 vwCl ws' H1 → va_D A ws' → va_S A s.heap H1 locs1 → W p l e R s m args below meth c H1 locs1 cells slots Q (F0 m (pc + 3) ls st1)) : W p l e R s m args below meth c H locs cells slots Q (F0 m pc ls st0) := by
  refine zafter (va_runV S (hM H.size) cw ⟨zBlind, ?_, fun U hU hW => ⟨rfl, zpre hK hE hP hD hS hA isC hnd hC hU hW⟩⟩ rfl hn hsz hstack (lv_room hroom) hdg ⟨hce, hsl⟩) hP hD hS hA isC hC ha hw hst1 kk
  have h1 := (zpre (U := { s with heap := H }) hK hE hP hD hS hA isC hnd hC rfl (State.WarmedH.refl s)).2.1
  obtain ⟨cell, h2, h3, h4⟩ := va_recv hK.1 h1 hcl hqr
  exact ⟨cell, h2, h3, by rw [← hq1]; exact h4⟩
theorem zcS {own : String} {index maxL n fr lo : Nat} {y : MethodName} {bytes : ByteArray} {ret : Option FieldType} {w Ts : List Cond} {G : zG} {As : List Value} {wc wc' ws ws' : va_W} {r : Option Value}
    (S : CallFix p m c cc nL s args Ts own) (hM : zC l y w fr lo G As wc r wc') (cw : CallB R s args own index y bytes maxL ret w { frames := fr, cells := 0, slots := 0, locals := lo } 0 0 n ∧ (Cond.static y).before args s = true)
    (hK : zK G s) (hE : zE G A s) (hP : va_P G.1 vwCl ws H) (hD : va_D A ws) (hS : va_S A s.heap H locs) (hA : ∀ q, s.heap.size ≤ q → A q) (isC : List Nat) (hnd : va_nd isC = true) (hC : isC.map (fun i => ws[i]?) = wc.map some)
    (ha : wc'.map (·.1) = wc.map (·.1)) (hw : zput ws isC wc' = ws')
    (hstack : st0 = As.reverse ++ rest) (hsz : ls.size = nL) (hn : As.length = n) (hroom : (rest.map fun v => v.category).sum ≤ 8) (hdg : decode cc pc = .ok (.invokestatic index, 3)) (hce : cells ≤ R.cells) (hsl : slots ≤ R.slots)
    {st1 : List Value} (hst1 : r.toList ++ rest = st1) (kk : ∀ (H1 : Heap) (locs1 : List Loc), va_P G.1 vwCl ws' H1 → va_D A ws' → va_S A s.heap H1 locs1 → W p l e R s m args below meth c H1 locs1 cells slots Q (F0 m (pc + 3) ls st1)) : W p l e R s m args below meth c H locs cells slots Q (F0 m pc ls st0) :=
  zafter (va_runS S (hM H.size) cw ⟨zBlind, fun U hU hW => ⟨rfl, zpre hK hE hP hD hS hA isC hnd hC hU hW⟩⟩ rfl hn hsz hstack (lv_room hroom) hdg ⟨hce, hsl⟩) hP hD hS hA isC hC ha hw hst1 kk
theorem zcVN {own C host : String} {index maxL n fr lo : Nat} {y : MethodName} {bytes : ByteArray} {ret : Option FieldType} {w Ts : List Cond} {G : zG} {b : Nat} {As : List Value} {wc wc' ws ws' : va_W} {r : Option Value}
    (S : CallFix p m c cc nL s args Ts own) (hM : zC l y w fr lo G (.ref b :: As) wc r wc') (cw : va_CN R s args own index y host bytes maxL ret w { frames := fr, cells := 0, slots := 0, locals := lo } 0 0 n ∧ (Cond.instanceMethod y).before args s = true ∧ (Cond.selects C y y).before args s = true)
    (hK : zK G s) (hE : zE G A s) (hP : va_P G.1 vwCl ws H) (hD : va_D A ws) (hS : va_S A s.heap H locs) (hA : ∀ q, s.heap.size ≤ q → A q) (isC : List Nat) (hnd : va_nd isC = true) (hC : isC.map (fun i => ws[i]?) = wc.map some)
    (qr ci : Nat) {fs : List Value} {q : vw_C} (hcl : vwCl[ci]? = some q) (hqr : wc[qr]? = some (b, .inr (ci, fs))) (hq1 : q.1 = C)
    (ha : wc'.map (·.1) = wc.map (·.1)) (hw : zput ws isC wc' = ws')
    (hstack : st0 = As.reverse ++ .ref b :: rest) (hsz : ls.size = nL) (hn : As.length = n) (hroom : (rest.map fun v => v.category).sum ≤ 8) (hdg : decode cc pc = .ok (.invokevirtual index, 3)) (hce : cells ≤ R.cells) (hsl : slots ≤ R.slots)
    {st1 : List Value} (hst1 : r.toList ++ rest = st1) (kk : ∀ (H1 : Heap) (locs1 : List Loc), va_P G.1 vwCl ws' H1 → va_D A ws' → va_S A s.heap H1 locs1 → W p l e R s m args below meth c H1 locs1 cells slots Q (F0 m (pc + 3) ls st1)) : W p l e R s m args below meth c H locs cells slots Q (F0 m pc ls st0) := by
  refine zafter (va_runVN S (hM H.size) cw ⟨zBlind, ?_, fun U hU hW => ⟨rfl, zpre hK hE hP hD hS hA isC hnd hC hU hW⟩⟩ rfl hn hsz hstack (lv_room hroom) hdg ⟨hce, hsl⟩) hP hD hS hA isC hC ha hw hst1 kk
  have h1 := (zpre (U := { s with heap := H }) hK hE hP hD hS hA isC hnd hC rfl (State.WarmedH.refl s)).2.1
  obtain ⟨cell, h2, h3, h4⟩ := va_recv hK.1 h1 hcl hqr
  exact ⟨cell, h2, h3, by rw [← hq1]; exact h4⟩
theorem zcSN {own host : String} {index maxL n fr lo : Nat} {y : MethodName} {bytes : ByteArray} {ret : Option FieldType} {w Ts : List Cond} {G : zG} {As : List Value} {wc wc' ws ws' : va_W} {r : Option Value}
    (S : CallFix p m c cc nL s args Ts own) (hM : zC l y w fr lo G As wc r wc') (cw : va_CN R s args own index y host bytes maxL ret w { frames := fr, cells := 0, slots := 0, locals := lo } 0 0 n ∧ (Cond.static y).before args s = true ∧ True)
    (hK : zK G s) (hE : zE G A s) (hP : va_P G.1 vwCl ws H) (hD : va_D A ws) (hS : va_S A s.heap H locs) (hA : ∀ q, s.heap.size ≤ q → A q) (isC : List Nat) (hnd : va_nd isC = true) (hC : isC.map (fun i => ws[i]?) = wc.map some)
    (ha : wc'.map (·.1) = wc.map (·.1)) (hw : zput ws isC wc' = ws')
    (hstack : st0 = As.reverse ++ rest) (hsz : ls.size = nL) (hn : As.length = n) (hroom : (rest.map fun v => v.category).sum ≤ 8) (hdg : decode cc pc = .ok (.invokestatic index, 3)) (hce : cells ≤ R.cells) (hsl : slots ≤ R.slots)
    {st1 : List Value} (hst1 : r.toList ++ rest = st1) (kk : ∀ (H1 : Heap) (locs1 : List Loc), va_P G.1 vwCl ws' H1 → va_D A ws' → va_S A s.heap H1 locs1 → W p l e R s m args below meth c H1 locs1 cells slots Q (F0 m (pc + 3) ls st1)) : W p l e R s m args below meth c H locs cells slots Q (F0 m pc ls st0) :=
  zafter (va_runSN S (hM H.size) cw ⟨zBlind, fun U hU hW => ⟨rfl, zpre hK hE hP hD hS hA isC hnd hC hU hW⟩⟩ rfl hn hsz hstack (lv_room hroom) hdg ⟨hce, hsl⟩) hP hD hS hA isC hC ha hw hst1 kk
theorem zcVs {own C : String} {index maxL n fr lo : Nat} {y : MethodName} {bytes : ByteArray} {ret : Option FieldType} {w Ts : List Cond} {G : zG} {b : Nat} {As : List Value} {ws : va_W} {r : Option Value}
    (S : CallFix p m c cc nL s args Ts own) (hM : zC l y w fr lo G (.ref b :: As) [] r []) (cw : CallW R s args own C index y bytes maxL ret w { frames := fr, cells := 0, slots := 0, locals := lo } 0 0 n)
    (hK : zK G s) (hE : zE G A s) (hP : va_P G.1 vwCl ws H) (hD : va_D A ws) (hS : va_S A s.heap H locs) (hA : ∀ q, s.heap.size ≤ q → A q)
    (hrecv : ∃ cell : Cell, H[b]? = some cell ∧ cell.vm.isStatics = false ∧ s.vm.findClass C = some cell.cls)
    (hstack : st0 = As.reverse ++ .ref b :: rest) (hsz : ls.size = nL) (hn : As.length = n) (hroom : (rest.map fun v => v.category).sum ≤ 8) (hdg : decode cc pc = .ok (.invokevirtual index, 3)) (hce : cells ≤ R.cells) (hsl : slots ≤ R.slots)
    {st1 : List Value} (hst1 : r.toList ++ rest = st1) (kk : ∀ (H1 : Heap) (locs1 : List Loc), va_P G.1 vwCl ws H1 → va_D A ws → va_S A s.heap H1 locs1 → W p l e R s m args below meth c H1 locs1 cells slots Q (F0 m (pc + 3) ls st1)) : W p l e R s m args below meth c H locs cells slots Q (F0 m pc ls st0) :=
  zafter (va_runV S (hM H.size) cw ⟨zBlind, hrecv, fun U hU hW => ⟨rfl, zpre hK hE hP hD hS hA [] rfl rfl hU hW⟩⟩ rfl hn hsz hstack (lv_room hroom) hdg ⟨hce, hsl⟩) hP hD hS hA [] rfl rfl rfl hst1 kk
/-- a method's end -/
theorem zend {G : zG} {ws' : va_W} {r : Option Value} {t : State} (hP : va_P G.1 vwCl ws' H) (hD : va_D A ws') (hS : va_S A s.heap H locs) (ht : t.heap = H) : zQ r G ws' A args s (.returned r) t := ⟨rfl, by rw [ht]; exact hP, hD, hS.F ht⟩
variable {D : va_G} {cl : List vw_C} {tys : List (ClassId × FieldType)} {ws : va_W} {a : Nat}
theorem zald (hexec : p.tables.exec = Jvm.exec) (hb : c.code = cc) (hK : va_K D cl tys s) (hP : va_P D cl ws H) (q0 t0 : Nat) {cA : ClassId} {n : Nat} {f : Nat → Int32} (ha : ws[q0]? = some (a, .inl (cA, n, .inl f))) (ht : tys[t0]? = some (cA, .int)) {i : Int32} (hin : vp_in i n) {j : Nat} (hj : i.toNatClampNeg = j) (hdg : decode cc pc = .ok (.iaload, 1))
    (kk : W p l e R s m args below meth c H locs cells slots Q (F0 m (pc + 1) ls (.int (f j) :: rest))) : W p l e R s m args below meth c H locs cells slots Q (F0 m pc ls (.int i :: .ref a :: rest)) := va_iald hexec hb hK hP q0 t0 ha ht hin hdg (by rw [hj]; exact kk)
theorem zbld (hexec : p.tables.exec = Jvm.exec) (hb : c.code = cc) (hK : va_K D cl tys s) (hP : va_P D cl ws H) (q0 t0 : Nat) {cA : ClassId} {n : Nat} {f : Nat → Int32} (ha : ws[q0]? = some (a, .inl (cA, n, .inl f))) (ht : tys[t0]? = some (cA, .byte)) {i : Int32} (hin : vp_in i n) {j : Nat} (hj : i.toNatClampNeg = j) (hdg : decode cc pc = .ok (.baload, 1))
    (kk : W p l e R s m args below meth c H locs cells slots Q (F0 m (pc + 1) ls (.int (f j) :: rest))) : W p l e R s m args below meth c H locs cells slots Q (F0 m pc ls (.int i :: .ref a :: rest)) := va_bald hexec hb hK hP q0 t0 ha ht hin hdg (by rw [hj]; exact kk)
theorem zzld (hexec : p.tables.exec = Jvm.exec) (hb : c.code = cc) (hK : va_K D cl tys s) (hP : va_P D cl ws H) (q0 t0 : Nat) {cA : ClassId} {n : Nat} {f : Nat → Int32} (ha : ws[q0]? = some (a, .inl (cA, n, .inl f))) (ht : tys[t0]? = some (cA, .boolean)) {i : Int32} (hin : vp_in i n) {j : Nat} (hj : i.toNatClampNeg = j) (hdg : decode cc pc = .ok (.baload, 1))
    (kk : W p l e R s m args below meth c H locs cells slots Q (F0 m (pc + 1) ls (.int (f j) :: rest))) : W p l e R s m args below meth c H locs cells slots Q (F0 m pc ls (.int i :: .ref a :: rest)) := va_zald hexec hb hK hP q0 t0 ha ht hin hdg (by rw [hj]; exact kk)
theorem zast {H0 : Heap} (hexec : p.tables.exec = Jvm.exec) (hb : c.code = cc) (hK : va_K D cl tys s) (hP : va_P D cl ws H) (hD : va_D A ws) (hS : va_S A H0 H locs) (q0 t0 : Nat) {cA : ClassId} {n : Nat} {f : Nat → Int32} (ha : ws[q0]? = some (a, .inl (cA, n, .inl f))) (ht : tys[t0]? = some (cA, .int)) {i x : Int32} (hin : vp_in i n) {j : Nat} (hj : i.toNatClampNeg = j) {ws' : va_W} (hw : ws.set q0 (a, .inl (cA, n, .inl (upd f j x))) = ws') (hdg : decode cc pc = .ok (.iastore, 1))
    (kk : ∀ (H1 : Heap) (locs1 : List Loc), va_P D cl ws' H1 → va_D A ws' → va_S A H0 H1 locs1 → W p l e R s m args below meth c H1 locs1 cells slots Q (F0 m (pc + 1) ls rest)) : W p l e R s m args below meth c H locs cells slots Q (F0 m pc ls (.int x :: .int i :: .ref a :: rest)) := by
  subst hj; subst hw
  exact va_iast hexec hb hK hP hD hS q0 t0 ha ht hin hdg kk
theorem zbst {H0 : Heap} (hexec : p.tables.exec = Jvm.exec) (hb : c.code = cc) (hK : va_K D cl tys s) (hP : va_P D cl ws H) (hD : va_D A ws) (hS : va_S A H0 H locs) (q0 t0 : Nat) {cA : ClassId} {n : Nat} {f : Nat → Int32} (ha : ws[q0]? = some (a, .inl (cA, n, .inl f))) (ht : tys[t0]? = some (cA, .byte)) {i x y : Int32} (hin : vp_in i n) {j : Nat} (hj : i.toNatClampNeg = j) (hy : vp_nar .byte x = y) {ws' : va_W} (hw : ws.set q0 (a, .inl (cA, n, .inl (upd f j y))) = ws') (hdg : decode cc pc = .ok (.bastore, 1))
    (kk : ∀ (H1 : Heap) (locs1 : List Loc), va_P D cl ws' H1 → va_D A ws' → va_S A H0 H1 locs1 → W p l e R s m args below meth c H1 locs1 cells slots Q (F0 m (pc + 1) ls rest)) : W p l e R s m args below meth c H locs cells slots Q (F0 m pc ls (.int x :: .int i :: .ref a :: rest)) := by
  subst hj; subst hy; subst hw
  exact va_bast hexec hb hK hP hD hS q0 t0 ha ht hin hdg kk
theorem zzst {H0 : Heap} (hexec : p.tables.exec = Jvm.exec) (hb : c.code = cc) (hK : va_K D cl tys s) (hP : va_P D cl ws H) (hD : va_D A ws) (hS : va_S A H0 H locs) (q0 t0 : Nat) {cA : ClassId} {n : Nat} {f : Nat → Int32} (ha : ws[q0]? = some (a, .inl (cA, n, .inl f))) (ht : tys[t0]? = some (cA, .boolean)) {i x y : Int32} (hin : vp_in i n) {j : Nat} (hj : i.toNatClampNeg = j) (hy : vp_nar .boolean x = y) {ws' : va_W} (hw : ws.set q0 (a, .inl (cA, n, .inl (upd f j y))) = ws') (hdg : decode cc pc = .ok (.bastore, 1))
    (kk : ∀ (H1 : Heap) (locs1 : List Loc), va_P D cl ws' H1 → va_D A ws' → va_S A H0 H1 locs1 → W p l e R s m args below meth c H1 locs1 cells slots Q (F0 m (pc + 1) ls rest)) : W p l e R s m args below meth c H locs cells slots Q (F0 m pc ls (.int x :: .int i :: .ref a :: rest)) := by
  subst hj; subst hy; subst hw
  exact va_zast hexec hb hK hP hD hS q0 t0 ha ht hin hdg kk
theorem zaldq (hexec : p.tables.exec = Jvm.exec) (hb : c.code = cc) (hK : va_K D cl tys s) (hP : va_P D cl ws H) (q0 t0 : Nat) {cA : ClassId} {C : String} {n : Nat} {f : Nat → Option Nat} (ha : ws[q0]? = some (a, .inl (cA, n, .inr (.inr (.inr (.inr f)))))) (ht : tys[t0]? = some (cA, .object C)) {i : Int32} (hin : vp_in i n) {q : Nat} (hq : f i.toNatClampNeg = some q) (hdg : decode cc pc = .ok (.aaload, 1))
    (kk : W p l e R s m args below meth c H locs cells slots Q (F0 m (pc + 1) ls (.ref q :: rest))) : W p l e R s m args below meth c H locs cells slots Q (F0 m pc ls (.int i :: .ref a :: rest)) := va_aldq hexec hb hK hP q0 t0 ha ht hin hdg (by rw [hq]; exact kk)
theorem zput1 {H0 : Heap} {own ref C : String} {T : u_T} {N ci index : Nat} {Ts : List Cond} (hexec : p.tables.exec = Jvm.exec) (hb : c.code = cc) (hts : ∀ w ∈ Ts, w.before args s = true) (hin : ∀ w ∈ u_ws C T N, w ∈ Ts) (ty0 : Nat → FieldType) (hty : ∀ k, k < N → parseFieldDescriptor (T k).2.2.1 = some (ty0 k)) (hnm : ∀ a, a < N → ∀ b, b < N → a ≠ b → (T a).2.1 ≠ (T b).2.1) (hown : s.vm.findClass own = some m.cls) (hK : va_K D cl tys s) (hP : va_P D cl ws H) (hD : va_D A ws) (hS0 : va_S A H0 H locs) (q0 : Nat) {fs : List Value} (he : ws[q0]? = some (a, .inr (ci, fs))) (hc : cl[ci]? = some (C, T, N)) (k : Nat) (hk : k < N) (hlink : (Cond.fieldLink own index ref (T k).2.1 (T k).2.2.1).before args s = true) (hsame : ∀ x, s.fieldFound? (T k).1 (T k).2.1 (T k).2.2.1 = some x → s.fieldFound? ref (T k).2.1 (T k).2.2.1 = some x) (hfin : (T k).2.2.2 = false) {ty : FieldType} {v : Value} (hd : parseFieldDescriptor (T k).2.2.1 = some ty) (hn : narrow ty v = v) (hfit : fits ty v = true) (hl : k < fs.length) {ws' : va_W} (hw : ws.set q0 (a, .inr (ci, fs.set k v)) = ws')
    (hdg : decode cc pc = .ok (.putfield index, 3)) (kk : ∀ (H1 : Heap) (locs1 : List Loc), va_P D cl ws' H1 → va_D A ws' → va_S A H0 H1 locs1 → W p l e R s m args below meth c H1 locs1 cells slots Q (F0 m (pc + 3) ls rest)) : W p l e R s m args below meth c H locs cells slots Q (F0 m pc ls (v :: .ref a :: rest)) := by
  subst hw
  exact va_put hexec hb hts hin ty0 hty hnm hown hK hP hD hS0 q0 he hc k hk hlink hsame hfin hd hn hfit hl hdg kk
theorem zputN {H0 : Heap} {own ref C host : String} {T : u_T} {N ci index : Nat} {Ts : List Cond} (hexec : p.tables.exec = Jvm.exec) (hb : c.code = cc) (hts : ∀ w ∈ Ts, w.before args s = true) (hin : ∀ w ∈ u_ws C T N, w ∈ Ts) (ty0 : Nat → FieldType) (hty : ∀ k, k < N → parseFieldDescriptor (T k).2.2.1 = some (ty0 k)) (hnm : ∀ a, a < N → ∀ b, b < N → a ≠ b → (T a).2.1 ≠ (T b).2.1) (hown : s.vm.findClass own = some m.cls) (hK : va_K D cl tys s) (hP : va_P D cl ws H) (hD : va_D A ws) (hS0 : va_S A H0 H locs) (q0 : Nat) {fs : List Value} (he : ws[q0]? = some (a, .inr (ci, fs))) (hc : cl[ci]? = some (C, T, N)) (k : Nat) (hk : k < N) (hlink : (Cond.fieldLinkNest own index ref (T k).2.1 (T k).2.2.1 host).before args s = true) (hsame : ∀ x, s.fieldFound? (T k).1 (T k).2.1 (T k).2.2.1 = some x → s.fieldFound? ref (T k).2.1 (T k).2.2.1 = some x) (hfin : (T k).2.2.2 = false) {ty : FieldType} {v : Value} (hd : parseFieldDescriptor (T k).2.2.1 = some ty) (hn : narrow ty v = v) (hfit : fits ty v = true) (hl : k < fs.length) {ws' : va_W} (hw : ws.set q0 (a, .inr (ci, fs.set k v)) = ws')
    (hdg : decode cc pc = .ok (.putfield index, 3)) (kk : ∀ (H1 : Heap) (locs1 : List Loc), va_P D cl ws' H1 → va_D A ws' → va_S A H0 H1 locs1 → W p l e R s m args below meth c H1 locs1 cells slots Q (F0 m (pc + 3) ls rest)) : W p l e R s m args below meth c H locs cells slots Q (F0 m pc ls (v :: .ref a :: rest)) := by
  subst hw
  exact va_putN hexec hb hts hin ty0 hty hnm hown hK hP hD hS0 q0 he hc k hk hlink hsame hfin hd hn hfit hl hdg kk
theorem zcpy {H0 : Heap} (hexec : p.tables.exec = Jvm.exec) (hb : c.code = cc) (hml : c.maxLocals = ls.size) {own : String} {index : Nat} (hown : s.vm.findClass own = some m.cls) (hlink : (Cond.methodLink own index arraycopyName).before args s = true) (hnat : (Cond.native arraycopyName).before args s = true) (hstat : (Cond.static arraycopyName).before args s = true) (hini : (Cond.initialized "java/lang/System").before args s = true)
    (hK : va_K D cl tys s) (hP : va_P D cl ws H) (hD : va_D A ws) (hS : va_S A H0 H locs) (q0 q1 t0 : Nat) {a0 : Nat} {c0 : ClassId} {n0 : Nat} {f g : Nat → Int32} (ha0 : ws[q0]? = some (a0, .inl (c0, n0, .inl f))) (ha1 : ws[q1]? = some (a, .inl (c0, n0, .inl g))) (ht0 : tys[t0]? = some (c0, .int))
    {n : Int32} (h3 : ¬ n < 0) {k : Nat} (hk : n.toNatClampNeg = k) (h4 : k ≤ n0) {ws' : va_W} (hw : ws.set q1 (a, .inl (c0, n0, .inl (va_cpy f g 0 0 k))) = ws')
    (hframes : 1 ≤ R.frames) (hlocals : (rest.map fun v => v.category).sum + (nativeFrameWords "java/lang/System" "arraycopy" 5 + 11) ≤ R.locals) (hdg : decode cc pc = .ok (.invokestatic index, 3))
    (kk : ∀ (H1 : Heap) (locs1 : List Loc), va_P D cl ws' H1 → va_D A ws' → va_S A H0 H1 locs1 → W p l e R s m args below meth c H1 locs1 cells slots Q (F0 m (pc + 3) ls rest)) : W p l e R s m args below meth c H locs cells slots Q (F0 m pc ls (.int n :: .int 0 :: .ref a :: .int 0 :: .ref a0 :: rest)) := by
  subst hk; subst hw
  exact va_copyi hexec hb hml hown hlink hnat hstat hini hK hP hD hS q0 q1 t0 t0 ha0 ha1 ht0 ht0 rfl (by decide) (by decide) h3 (by simpa using h4) (by simpa using h4) (fun _ _ => rfl) hframes hlocals hdg kk
end ZC
-- rows that read a mirror
theorem zt {c : Prop} [Decidable c] {α : Type} {a b r : α} (hc : c) (h : (if c then a else b) = r) : a = r := by rw [if_pos hc] at h; exact h
theorem zf {c : Prop} [Decidable c] {α : Type} {a b r : α} (hc : ¬ c) (h : (if c then a else b) = r) : b = r := by rw [if_neg hc] at h; exact h
theorem zg {c : Prop} [Decidable c] {α : Type} {a : Option α} {r : α} (h : (if c then a else none) = some r) : c ∧ a = some r := by
  by_cases hc : c
  · rw [if_pos hc] at h; exact ⟨hc, h⟩
  · rw [if_neg hc] at h; cases h
def zb1 {α ω : Type} (o : Option α) (k : α → Option ω) : Option ω := o.bind k
def zb2 {α1 α2 ω : Type} (o : Option (α1 × α2)) (k : α1 → α2 → Option ω) : Option ω := o.bind (fun x => k x.1 x.2)
def zb3 {α1 α2 α3 ω : Type} (o : Option (α1 × α2 × α3)) (k : α1 → α2 → α3 → Option ω) : Option ω := o.bind (fun x => k x.1 x.2.1 x.2.2)
def zb4 {α1 α2 α3 α4 ω : Type} (o : Option (α1 × α2 × α3 × α4)) (k : α1 → α2 → α3 → α4 → Option ω) : Option ω := o.bind (fun x => k x.1 x.2.1 x.2.2.1 x.2.2.2)
def zb5 {α1 α2 α3 α4 α5 ω : Type} (o : Option (α1 × α2 × α3 × α4 × α5)) (k : α1 → α2 → α3 → α4 → α5 → Option ω) : Option ω := o.bind (fun x => k x.1 x.2.1 x.2.2.1 x.2.2.2.1 x.2.2.2.2)
def zb6 {α1 α2 α3 α4 α5 α6 ω : Type} (o : Option (α1 × α2 × α3 × α4 × α5 × α6)) (k : α1 → α2 → α3 → α4 → α5 → α6 → Option ω) : Option ω := o.bind (fun x => k x.1 x.2.1 x.2.2.1 x.2.2.2.1 x.2.2.2.2.1 x.2.2.2.2.2)
def zb7 {α1 α2 α3 α4 α5 α6 α7 ω : Type} (o : Option (α1 × α2 × α3 × α4 × α5 × α6 × α7)) (k : α1 → α2 → α3 → α4 → α5 → α6 → α7 → Option ω) : Option ω := o.bind (fun x => k x.1 x.2.1 x.2.2.1 x.2.2.2.1 x.2.2.2.2.1 x.2.2.2.2.2.1 x.2.2.2.2.2.2)
def zb8 {α1 α2 α3 α4 α5 α6 α7 α8 ω : Type} (o : Option (α1 × α2 × α3 × α4 × α5 × α6 × α7 × α8)) (k : α1 → α2 → α3 → α4 → α5 → α6 → α7 → α8 → Option ω) : Option ω := o.bind (fun x => k x.1 x.2.1 x.2.2.1 x.2.2.2.1 x.2.2.2.2.1 x.2.2.2.2.2.1 x.2.2.2.2.2.2.1 x.2.2.2.2.2.2.2)
def zb9 {α1 α2 α3 α4 α5 α6 α7 α8 α9 ω : Type} (o : Option (α1 × α2 × α3 × α4 × α5 × α6 × α7 × α8 × α9)) (k : α1 → α2 → α3 → α4 → α5 → α6 → α7 → α8 → α9 → Option ω) : Option ω := o.bind (fun x => k x.1 x.2.1 x.2.2.1 x.2.2.2.1 x.2.2.2.2.1 x.2.2.2.2.2.1 x.2.2.2.2.2.2.1 x.2.2.2.2.2.2.2.1 x.2.2.2.2.2.2.2.2)
def zb10 {α1 α2 α3 α4 α5 α6 α7 α8 α9 α10 ω : Type} (o : Option (α1 × α2 × α3 × α4 × α5 × α6 × α7 × α8 × α9 × α10)) (k : α1 → α2 → α3 → α4 → α5 → α6 → α7 → α8 → α9 → α10 → Option ω) : Option ω := o.bind (fun x => k x.1 x.2.1 x.2.2.1 x.2.2.2.1 x.2.2.2.2.1 x.2.2.2.2.2.1 x.2.2.2.2.2.2.1 x.2.2.2.2.2.2.2.1 x.2.2.2.2.2.2.2.2.1 x.2.2.2.2.2.2.2.2.2)
def zb11 {α1 α2 α3 α4 α5 α6 α7 α8 α9 α10 α11 ω : Type} (o : Option (α1 × α2 × α3 × α4 × α5 × α6 × α7 × α8 × α9 × α10 × α11)) (k : α1 → α2 → α3 → α4 → α5 → α6 → α7 → α8 → α9 → α10 → α11 → Option ω) : Option ω := o.bind (fun x => k x.1 x.2.1 x.2.2.1 x.2.2.2.1 x.2.2.2.2.1 x.2.2.2.2.2.1 x.2.2.2.2.2.2.1 x.2.2.2.2.2.2.2.1 x.2.2.2.2.2.2.2.2.1 x.2.2.2.2.2.2.2.2.2.1 x.2.2.2.2.2.2.2.2.2.2)
def zb12 {α1 α2 α3 α4 α5 α6 α7 α8 α9 α10 α11 α12 ω : Type} (o : Option (α1 × α2 × α3 × α4 × α5 × α6 × α7 × α8 × α9 × α10 × α11 × α12)) (k : α1 → α2 → α3 → α4 → α5 → α6 → α7 → α8 → α9 → α10 → α11 → α12 → Option ω) : Option ω := o.bind (fun x => k x.1 x.2.1 x.2.2.1 x.2.2.2.1 x.2.2.2.2.1 x.2.2.2.2.2.1 x.2.2.2.2.2.2.1 x.2.2.2.2.2.2.2.1 x.2.2.2.2.2.2.2.2.1 x.2.2.2.2.2.2.2.2.2.1 x.2.2.2.2.2.2.2.2.2.2.1 x.2.2.2.2.2.2.2.2.2.2.2)
def zb13 {α1 α2 α3 α4 α5 α6 α7 α8 α9 α10 α11 α12 α13 ω : Type} (o : Option (α1 × α2 × α3 × α4 × α5 × α6 × α7 × α8 × α9 × α10 × α11 × α12 × α13)) (k : α1 → α2 → α3 → α4 → α5 → α6 → α7 → α8 → α9 → α10 → α11 → α12 → α13 → Option ω) : Option ω := o.bind (fun x => k x.1 x.2.1 x.2.2.1 x.2.2.2.1 x.2.2.2.2.1 x.2.2.2.2.2.1 x.2.2.2.2.2.2.1 x.2.2.2.2.2.2.2.1 x.2.2.2.2.2.2.2.2.1 x.2.2.2.2.2.2.2.2.2.1 x.2.2.2.2.2.2.2.2.2.2.1 x.2.2.2.2.2.2.2.2.2.2.2.1 x.2.2.2.2.2.2.2.2.2.2.2.2)
def zb14 {α1 α2 α3 α4 α5 α6 α7 α8 α9 α10 α11 α12 α13 α14 ω : Type} (o : Option (α1 × α2 × α3 × α4 × α5 × α6 × α7 × α8 × α9 × α10 × α11 × α12 × α13 × α14)) (k : α1 → α2 → α3 → α4 → α5 → α6 → α7 → α8 → α9 → α10 → α11 → α12 → α13 → α14 → Option ω) : Option ω := o.bind (fun x => k x.1 x.2.1 x.2.2.1 x.2.2.2.1 x.2.2.2.2.1 x.2.2.2.2.2.1 x.2.2.2.2.2.2.1 x.2.2.2.2.2.2.2.1 x.2.2.2.2.2.2.2.2.1 x.2.2.2.2.2.2.2.2.2.1 x.2.2.2.2.2.2.2.2.2.2.1 x.2.2.2.2.2.2.2.2.2.2.2.1 x.2.2.2.2.2.2.2.2.2.2.2.2.1 x.2.2.2.2.2.2.2.2.2.2.2.2.2)
def zb15 {α1 α2 α3 α4 α5 α6 α7 α8 α9 α10 α11 α12 α13 α14 α15 ω : Type} (o : Option (α1 × α2 × α3 × α4 × α5 × α6 × α7 × α8 × α9 × α10 × α11 × α12 × α13 × α14 × α15)) (k : α1 → α2 → α3 → α4 → α5 → α6 → α7 → α8 → α9 → α10 → α11 → α12 → α13 → α14 → α15 → Option ω) : Option ω := o.bind (fun x => k x.1 x.2.1 x.2.2.1 x.2.2.2.1 x.2.2.2.2.1 x.2.2.2.2.2.1 x.2.2.2.2.2.2.1 x.2.2.2.2.2.2.2.1 x.2.2.2.2.2.2.2.2.1 x.2.2.2.2.2.2.2.2.2.1 x.2.2.2.2.2.2.2.2.2.2.1 x.2.2.2.2.2.2.2.2.2.2.2.1 x.2.2.2.2.2.2.2.2.2.2.2.2.1 x.2.2.2.2.2.2.2.2.2.2.2.2.2.1 x.2.2.2.2.2.2.2.2.2.2.2.2.2.2)
theorem zb1_e {α1 ω : Type} {o : Option α1} {k : α1 → Option ω} {r : ω} (h : zb1 o k = some r) : ∃ a1, o = some a1 ∧ k a1 = some r := by
  cases o with
  | none => cases h
  | some x => exact ⟨x, rfl, h⟩
theorem zb1_s {α1 ω : Type} {o : Option α1} {k : α1 → Option ω} {a1 : α1} (h : o = some a1) : zb1 o k = k a1 := by rw [h]; rfl
theorem zb2_e {α1 α2 ω : Type} {o : Option (α1 × α2)} {k : α1 → α2 → Option ω} {r : ω} (h : zb2 o k = some r) : ∃ a1 a2, o = some (a1, a2) ∧ k a1 a2 = some r := by
  cases o with
  | none => cases h
  | some x => exact ⟨x.1, x.2, rfl, h⟩
theorem zb2_s {α1 α2 ω : Type} {o : Option (α1 × α2)} {k : α1 → α2 → Option ω} {a1 : α1} {a2 : α2} (h : o = some (a1, a2)) : zb2 o k = k a1 a2 := by rw [h]; rfl
theorem zb3_e {α1 α2 α3 ω : Type} {o : Option (α1 × α2 × α3)} {k : α1 → α2 → α3 → Option ω} {r : ω} (h : zb3 o k = some r) : ∃ a1 a2 a3, o = some (a1, a2, a3) ∧ k a1 a2 a3 = some r := by
  cases o with
  | none => cases h
  | some x => exact ⟨x.1, x.2.1, x.2.2, rfl, h⟩
theorem zb3_s {α1 α2 α3 ω : Type} {o : Option (α1 × α2 × α3)} {k : α1 → α2 → α3 → Option ω} {a1 : α1} {a2 : α2} {a3 : α3} (h : o = some (a1, a2, a3)) : zb3 o k = k a1 a2 a3 := by rw [h]; rfl
theorem zb4_e {α1 α2 α3 α4 ω : Type} {o : Option (α1 × α2 × α3 × α4)} {k : α1 → α2 → α3 → α4 → Option ω} {r : ω} (h : zb4 o k = some r) : ∃ a1 a2 a3 a4, o = some (a1, a2, a3, a4) ∧ k a1 a2 a3 a4 = some r := by
  cases o with
  | none => cases h
  | some x => exact ⟨x.1, x.2.1, x.2.2.1, x.2.2.2, rfl, h⟩
theorem zb4_s {α1 α2 α3 α4 ω : Type} {o : Option (α1 × α2 × α3 × α4)} {k : α1 → α2 → α3 → α4 → Option ω} {a1 : α1} {a2 : α2} {a3 : α3} {a4 : α4} (h : o = some (a1, a2, a3, a4)) : zb4 o k = k a1 a2 a3 a4 := by rw [h]; rfl
theorem zb5_e {α1 α2 α3 α4 α5 ω : Type} {o : Option (α1 × α2 × α3 × α4 × α5)} {k : α1 → α2 → α3 → α4 → α5 → Option ω} {r : ω} (h : zb5 o k = some r) : ∃ a1 a2 a3 a4 a5, o = some (a1, a2, a3, a4, a5) ∧ k a1 a2 a3 a4 a5 = some r := by
  cases o with
  | none => cases h
  | some x => exact ⟨x.1, x.2.1, x.2.2.1, x.2.2.2.1, x.2.2.2.2, rfl, h⟩
theorem zb5_s {α1 α2 α3 α4 α5 ω : Type} {o : Option (α1 × α2 × α3 × α4 × α5)} {k : α1 → α2 → α3 → α4 → α5 → Option ω} {a1 : α1} {a2 : α2} {a3 : α3} {a4 : α4} {a5 : α5} (h : o = some (a1, a2, a3, a4, a5)) : zb5 o k = k a1 a2 a3 a4 a5 := by rw [h]; rfl
theorem zb6_e {α1 α2 α3 α4 α5 α6 ω : Type} {o : Option (α1 × α2 × α3 × α4 × α5 × α6)} {k : α1 → α2 → α3 → α4 → α5 → α6 → Option ω} {r : ω} (h : zb6 o k = some r) : ∃ a1 a2 a3 a4 a5 a6, o = some (a1, a2, a3, a4, a5, a6) ∧ k a1 a2 a3 a4 a5 a6 = some r := by
  cases o with
  | none => cases h
  | some x => exact ⟨x.1, x.2.1, x.2.2.1, x.2.2.2.1, x.2.2.2.2.1, x.2.2.2.2.2, rfl, h⟩
theorem zb6_s {α1 α2 α3 α4 α5 α6 ω : Type} {o : Option (α1 × α2 × α3 × α4 × α5 × α6)} {k : α1 → α2 → α3 → α4 → α5 → α6 → Option ω} {a1 : α1} {a2 : α2} {a3 : α3} {a4 : α4} {a5 : α5} {a6 : α6} (h : o = some (a1, a2, a3, a4, a5, a6)) : zb6 o k = k a1 a2 a3 a4 a5 a6 := by rw [h]; rfl
theorem zb7_e {α1 α2 α3 α4 α5 α6 α7 ω : Type} {o : Option (α1 × α2 × α3 × α4 × α5 × α6 × α7)} {k : α1 → α2 → α3 → α4 → α5 → α6 → α7 → Option ω} {r : ω} (h : zb7 o k = some r) : ∃ a1 a2 a3 a4 a5 a6 a7, o = some (a1, a2, a3, a4, a5, a6, a7) ∧ k a1 a2 a3 a4 a5 a6 a7 = some r := by
  cases o with
  | none => cases h
  | some x => exact ⟨x.1, x.2.1, x.2.2.1, x.2.2.2.1, x.2.2.2.2.1, x.2.2.2.2.2.1, x.2.2.2.2.2.2, rfl, h⟩
theorem zb7_s {α1 α2 α3 α4 α5 α6 α7 ω : Type} {o : Option (α1 × α2 × α3 × α4 × α5 × α6 × α7)} {k : α1 → α2 → α3 → α4 → α5 → α6 → α7 → Option ω} {a1 : α1} {a2 : α2} {a3 : α3} {a4 : α4} {a5 : α5} {a6 : α6} {a7 : α7} (h : o = some (a1, a2, a3, a4, a5, a6, a7)) : zb7 o k = k a1 a2 a3 a4 a5 a6 a7 := by rw [h]; rfl
theorem zb8_e {α1 α2 α3 α4 α5 α6 α7 α8 ω : Type} {o : Option (α1 × α2 × α3 × α4 × α5 × α6 × α7 × α8)} {k : α1 → α2 → α3 → α4 → α5 → α6 → α7 → α8 → Option ω} {r : ω} (h : zb8 o k = some r) : ∃ a1 a2 a3 a4 a5 a6 a7 a8, o = some (a1, a2, a3, a4, a5, a6, a7, a8) ∧ k a1 a2 a3 a4 a5 a6 a7 a8 = some r := by
  cases o with
  | none => cases h
  | some x => exact ⟨x.1, x.2.1, x.2.2.1, x.2.2.2.1, x.2.2.2.2.1, x.2.2.2.2.2.1, x.2.2.2.2.2.2.1, x.2.2.2.2.2.2.2, rfl, h⟩
theorem zb8_s {α1 α2 α3 α4 α5 α6 α7 α8 ω : Type} {o : Option (α1 × α2 × α3 × α4 × α5 × α6 × α7 × α8)} {k : α1 → α2 → α3 → α4 → α5 → α6 → α7 → α8 → Option ω} {a1 : α1} {a2 : α2} {a3 : α3} {a4 : α4} {a5 : α5} {a6 : α6} {a7 : α7} {a8 : α8} (h : o = some (a1, a2, a3, a4, a5, a6, a7, a8)) : zb8 o k = k a1 a2 a3 a4 a5 a6 a7 a8 := by rw [h]; rfl
theorem zb9_e {α1 α2 α3 α4 α5 α6 α7 α8 α9 ω : Type} {o : Option (α1 × α2 × α3 × α4 × α5 × α6 × α7 × α8 × α9)} {k : α1 → α2 → α3 → α4 → α5 → α6 → α7 → α8 → α9 → Option ω} {r : ω} (h : zb9 o k = some r) : ∃ a1 a2 a3 a4 a5 a6 a7 a8 a9, o = some (a1, a2, a3, a4, a5, a6, a7, a8, a9) ∧ k a1 a2 a3 a4 a5 a6 a7 a8 a9 = some r := by
  cases o with
  | none => cases h
  | some x => exact ⟨x.1, x.2.1, x.2.2.1, x.2.2.2.1, x.2.2.2.2.1, x.2.2.2.2.2.1, x.2.2.2.2.2.2.1, x.2.2.2.2.2.2.2.1, x.2.2.2.2.2.2.2.2, rfl, h⟩
theorem zb9_s {α1 α2 α3 α4 α5 α6 α7 α8 α9 ω : Type} {o : Option (α1 × α2 × α3 × α4 × α5 × α6 × α7 × α8 × α9)} {k : α1 → α2 → α3 → α4 → α5 → α6 → α7 → α8 → α9 → Option ω} {a1 : α1} {a2 : α2} {a3 : α3} {a4 : α4} {a5 : α5} {a6 : α6} {a7 : α7} {a8 : α8} {a9 : α9} (h : o = some (a1, a2, a3, a4, a5, a6, a7, a8, a9)) : zb9 o k = k a1 a2 a3 a4 a5 a6 a7 a8 a9 := by rw [h]; rfl
theorem zb10_e {α1 α2 α3 α4 α5 α6 α7 α8 α9 α10 ω : Type} {o : Option (α1 × α2 × α3 × α4 × α5 × α6 × α7 × α8 × α9 × α10)} {k : α1 → α2 → α3 → α4 → α5 → α6 → α7 → α8 → α9 → α10 → Option ω} {r : ω} (h : zb10 o k = some r) : ∃ a1 a2 a3 a4 a5 a6 a7 a8 a9 a10, o = some (a1, a2, a3, a4, a5, a6, a7, a8, a9, a10) ∧ k a1 a2 a3 a4 a5 a6 a7 a8 a9 a10 = some r := by
  cases o with
  | none => cases h
  | some x => exact ⟨x.1, x.2.1, x.2.2.1, x.2.2.2.1, x.2.2.2.2.1, x.2.2.2.2.2.1, x.2.2.2.2.2.2.1, x.2.2.2.2.2.2.2.1, x.2.2.2.2.2.2.2.2.1, x.2.2.2.2.2.2.2.2.2, rfl, h⟩
theorem zb10_s {α1 α2 α3 α4 α5 α6 α7 α8 α9 α10 ω : Type} {o : Option (α1 × α2 × α3 × α4 × α5 × α6 × α7 × α8 × α9 × α10)} {k : α1 → α2 → α3 → α4 → α5 → α6 → α7 → α8 → α9 → α10 → Option ω} {a1 : α1} {a2 : α2} {a3 : α3} {a4 : α4} {a5 : α5} {a6 : α6} {a7 : α7} {a8 : α8} {a9 : α9} {a10 : α10} (h : o = some (a1, a2, a3, a4, a5, a6, a7, a8, a9, a10)) : zb10 o k = k a1 a2 a3 a4 a5 a6 a7 a8 a9 a10 := by rw [h]; rfl
theorem zb11_e {α1 α2 α3 α4 α5 α6 α7 α8 α9 α10 α11 ω : Type} {o : Option (α1 × α2 × α3 × α4 × α5 × α6 × α7 × α8 × α9 × α10 × α11)} {k : α1 → α2 → α3 → α4 → α5 → α6 → α7 → α8 → α9 → α10 → α11 → Option ω} {r : ω} (h : zb11 o k = some r) : ∃ a1 a2 a3 a4 a5 a6 a7 a8 a9 a10 a11, o = some (a1, a2, a3, a4, a5, a6, a7, a8, a9, a10, a11) ∧ k a1 a2 a3 a4 a5 a6 a7 a8 a9 a10 a11 = some r := by
  cases o with
  | none => cases h
  | some x => exact ⟨x.1, x.2.1, x.2.2.1, x.2.2.2.1, x.2.2.2.2.1, x.2.2.2.2.2.1, x.2.2.2.2.2.2.1, x.2.2.2.2.2.2.2.1, x.2.2.2.2.2.2.2.2.1, x.2.2.2.2.2.2.2.2.2.1, x.2.2.2.2.2.2.2.2.2.2, rfl, h⟩
theorem zb11_s {α1 α2 α3 α4 α5 α6 α7 α8 α9 α10 α11 ω : Type} {o : Option (α1 × α2 × α3 × α4 × α5 × α6 × α7 × α8 × α9 × α10 × α11)} {k : α1 → α2 → α3 → α4 → α5 → α6 → α7 → α8 → α9 → α10 → α11 → Option ω} {a1 : α1} {a2 : α2} {a3 : α3} {a4 : α4} {a5 : α5} {a6 : α6} {a7 : α7} {a8 : α8} {a9 : α9} {a10 : α10} {a11 : α11} (h : o = some (a1, a2, a3, a4, a5, a6, a7, a8, a9, a10, a11)) : zb11 o k = k a1 a2 a3 a4 a5 a6 a7 a8 a9 a10 a11 := by rw [h]; rfl
theorem zb12_e {α1 α2 α3 α4 α5 α6 α7 α8 α9 α10 α11 α12 ω : Type} {o : Option (α1 × α2 × α3 × α4 × α5 × α6 × α7 × α8 × α9 × α10 × α11 × α12)} {k : α1 → α2 → α3 → α4 → α5 → α6 → α7 → α8 → α9 → α10 → α11 → α12 → Option ω} {r : ω} (h : zb12 o k = some r) : ∃ a1 a2 a3 a4 a5 a6 a7 a8 a9 a10 a11 a12, o = some (a1, a2, a3, a4, a5, a6, a7, a8, a9, a10, a11, a12) ∧ k a1 a2 a3 a4 a5 a6 a7 a8 a9 a10 a11 a12 = some r := by
  cases o with
  | none => cases h
  | some x => exact ⟨x.1, x.2.1, x.2.2.1, x.2.2.2.1, x.2.2.2.2.1, x.2.2.2.2.2.1, x.2.2.2.2.2.2.1, x.2.2.2.2.2.2.2.1, x.2.2.2.2.2.2.2.2.1, x.2.2.2.2.2.2.2.2.2.1, x.2.2.2.2.2.2.2.2.2.2.1, x.2.2.2.2.2.2.2.2.2.2.2, rfl, h⟩
theorem zb12_s {α1 α2 α3 α4 α5 α6 α7 α8 α9 α10 α11 α12 ω : Type} {o : Option (α1 × α2 × α3 × α4 × α5 × α6 × α7 × α8 × α9 × α10 × α11 × α12)} {k : α1 → α2 → α3 → α4 → α5 → α6 → α7 → α8 → α9 → α10 → α11 → α12 → Option ω} {a1 : α1} {a2 : α2} {a3 : α3} {a4 : α4} {a5 : α5} {a6 : α6} {a7 : α7} {a8 : α8} {a9 : α9} {a10 : α10} {a11 : α11} {a12 : α12} (h : o = some (a1, a2, a3, a4, a5, a6, a7, a8, a9, a10, a11, a12)) : zb12 o k = k a1 a2 a3 a4 a5 a6 a7 a8 a9 a10 a11 a12 := by rw [h]; rfl
theorem zb13_e {α1 α2 α3 α4 α5 α6 α7 α8 α9 α10 α11 α12 α13 ω : Type} {o : Option (α1 × α2 × α3 × α4 × α5 × α6 × α7 × α8 × α9 × α10 × α11 × α12 × α13)} {k : α1 → α2 → α3 → α4 → α5 → α6 → α7 → α8 → α9 → α10 → α11 → α12 → α13 → Option ω} {r : ω} (h : zb13 o k = some r) : ∃ a1 a2 a3 a4 a5 a6 a7 a8 a9 a10 a11 a12 a13, o = some (a1, a2, a3, a4, a5, a6, a7, a8, a9, a10, a11, a12, a13) ∧ k a1 a2 a3 a4 a5 a6 a7 a8 a9 a10 a11 a12 a13 = some r := by
  cases o with
  | none => cases h
  | some x => exact ⟨x.1, x.2.1, x.2.2.1, x.2.2.2.1, x.2.2.2.2.1, x.2.2.2.2.2.1, x.2.2.2.2.2.2.1, x.2.2.2.2.2.2.2.1, x.2.2.2.2.2.2.2.2.1, x.2.2.2.2.2.2.2.2.2.1, x.2.2.2.2.2.2.2.2.2.2.1, x.2.2.2.2.2.2.2.2.2.2.2.1, x.2.2.2.2.2.2.2.2.2.2.2.2, rfl, h⟩
theorem zb13_s {α1 α2 α3 α4 α5 α6 α7 α8 α9 α10 α11 α12 α13 ω : Type} {o : Option (α1 × α2 × α3 × α4 × α5 × α6 × α7 × α8 × α9 × α10 × α11 × α12 × α13)} {k : α1 → α2 → α3 → α4 → α5 → α6 → α7 → α8 → α9 → α10 → α11 → α12 → α13 → Option ω} {a1 : α1} {a2 : α2} {a3 : α3} {a4 : α4} {a5 : α5} {a6 : α6} {a7 : α7} {a8 : α8} {a9 : α9} {a10 : α10} {a11 : α11} {a12 : α12} {a13 : α13} (h : o = some (a1, a2, a3, a4, a5, a6, a7, a8, a9, a10, a11, a12, a13)) : zb13 o k = k a1 a2 a3 a4 a5 a6 a7 a8 a9 a10 a11 a12 a13 := by rw [h]; rfl
theorem zb14_e {α1 α2 α3 α4 α5 α6 α7 α8 α9 α10 α11 α12 α13 α14 ω : Type} {o : Option (α1 × α2 × α3 × α4 × α5 × α6 × α7 × α8 × α9 × α10 × α11 × α12 × α13 × α14)} {k : α1 → α2 → α3 → α4 → α5 → α6 → α7 → α8 → α9 → α10 → α11 → α12 → α13 → α14 → Option ω} {r : ω} (h : zb14 o k = some r) : ∃ a1 a2 a3 a4 a5 a6 a7 a8 a9 a10 a11 a12 a13 a14, o = some (a1, a2, a3, a4, a5, a6, a7, a8, a9, a10, a11, a12, a13, a14) ∧ k a1 a2 a3 a4 a5 a6 a7 a8 a9 a10 a11 a12 a13 a14 = some r := by
  cases o with
  | none => cases h
  | some x => exact ⟨x.1, x.2.1, x.2.2.1, x.2.2.2.1, x.2.2.2.2.1, x.2.2.2.2.2.1, x.2.2.2.2.2.2.1, x.2.2.2.2.2.2.2.1, x.2.2.2.2.2.2.2.2.1, x.2.2.2.2.2.2.2.2.2.1, x.2.2.2.2.2.2.2.2.2.2.1, x.2.2.2.2.2.2.2.2.2.2.2.1, x.2.2.2.2.2.2.2.2.2.2.2.2.1, x.2.2.2.2.2.2.2.2.2.2.2.2.2, rfl, h⟩
theorem zb14_s {α1 α2 α3 α4 α5 α6 α7 α8 α9 α10 α11 α12 α13 α14 ω : Type} {o : Option (α1 × α2 × α3 × α4 × α5 × α6 × α7 × α8 × α9 × α10 × α11 × α12 × α13 × α14)} {k : α1 → α2 → α3 → α4 → α5 → α6 → α7 → α8 → α9 → α10 → α11 → α12 → α13 → α14 → Option ω} {a1 : α1} {a2 : α2} {a3 : α3} {a4 : α4} {a5 : α5} {a6 : α6} {a7 : α7} {a8 : α8} {a9 : α9} {a10 : α10} {a11 : α11} {a12 : α12} {a13 : α13} {a14 : α14} (h : o = some (a1, a2, a3, a4, a5, a6, a7, a8, a9, a10, a11, a12, a13, a14)) : zb14 o k = k a1 a2 a3 a4 a5 a6 a7 a8 a9 a10 a11 a12 a13 a14 := by rw [h]; rfl
theorem zb15_e {α1 α2 α3 α4 α5 α6 α7 α8 α9 α10 α11 α12 α13 α14 α15 ω : Type} {o : Option (α1 × α2 × α3 × α4 × α5 × α6 × α7 × α8 × α9 × α10 × α11 × α12 × α13 × α14 × α15)} {k : α1 → α2 → α3 → α4 → α5 → α6 → α7 → α8 → α9 → α10 → α11 → α12 → α13 → α14 → α15 → Option ω} {r : ω} (h : zb15 o k = some r) : ∃ a1 a2 a3 a4 a5 a6 a7 a8 a9 a10 a11 a12 a13 a14 a15, o = some (a1, a2, a3, a4, a5, a6, a7, a8, a9, a10, a11, a12, a13, a14, a15) ∧ k a1 a2 a3 a4 a5 a6 a7 a8 a9 a10 a11 a12 a13 a14 a15 = some r := by
  cases o with
  | none => cases h
  | some x => exact ⟨x.1, x.2.1, x.2.2.1, x.2.2.2.1, x.2.2.2.2.1, x.2.2.2.2.2.1, x.2.2.2.2.2.2.1, x.2.2.2.2.2.2.2.1, x.2.2.2.2.2.2.2.2.1, x.2.2.2.2.2.2.2.2.2.1, x.2.2.2.2.2.2.2.2.2.2.1, x.2.2.2.2.2.2.2.2.2.2.2.1, x.2.2.2.2.2.2.2.2.2.2.2.2.1, x.2.2.2.2.2.2.2.2.2.2.2.2.2.1, x.2.2.2.2.2.2.2.2.2.2.2.2.2.2, rfl, h⟩
theorem zb15_s {α1 α2 α3 α4 α5 α6 α7 α8 α9 α10 α11 α12 α13 α14 α15 ω : Type} {o : Option (α1 × α2 × α3 × α4 × α5 × α6 × α7 × α8 × α9 × α10 × α11 × α12 × α13 × α14 × α15)} {k : α1 → α2 → α3 → α4 → α5 → α6 → α7 → α8 → α9 → α10 → α11 → α12 → α13 → α14 → α15 → Option ω} {a1 : α1} {a2 : α2} {a3 : α3} {a4 : α4} {a5 : α5} {a6 : α6} {a7 : α7} {a8 : α8} {a9 : α9} {a10 : α10} {a11 : α11} {a12 : α12} {a13 : α13} {a14 : α14} {a15 : α15} (h : o = some (a1, a2, a3, a4, a5, a6, a7, a8, a9, a10, a11, a12, a13, a14, a15)) : zb15 o k = k a1 a2 a3 a4 a5 a6 a7 a8 a9 a10 a11 a12 a13 a14 a15 := by rw [h]; rfl

-- the six clerks of an office
def zclk (ca : Nat → Nat) (le se dr ke : Nat → Int32) (j : Nat) : Nat × va_E := (ca j, .inr (0, [.int (le j), .int (se j), .int (dr j), .int (ke j)]))
abbrev zclks (ca : Nat → Nat) (le se dr ke : Nat → Int32) : va_W := [zclk ca le se dr ke 0, zclk ca le se dr ke 1, zclk ca le se dr ke 2, zclk ca le se dr ke 3, zclk ca le se dr ke 4, zclk ca le se dr ke 5]
theorem zclks_at (ca : Nat → Nat) (le se dr ke : Nat → Int32) : ∀ j, j < 6 → (zclks ca le se dr ke)[j]? = some (ca j, .inr (0, [.int (le j), .int (se j), .int (dr j), .int (ke j)]))
  | 0, _ => rfl
  | 1, _ => rfl
  | 2, _ => rfl
  | 3, _ => rfl
  | 4, _ => rfl
  | 5, _ => rfl
  | n + 6, h => by omega
theorem zclks_in {fx : va_W} {ca : Nat → Nat} {le se dr ke : Nat → Int32} {P : Nat} (hP : fx.length = P) {j : Nat} (hj : j < 6) : (fx ++ zclks ca le se dr ke)[P + j]? = some (ca j, .inr (0, [.int (le j), .int (se j), .int (dr j), .int (ke j)])) := by
  rw [List.getElem?_append_right (by omega), show P + j - fx.length = j by omega]
  exact zclks_at ca le se dr ke j hj
theorem zclks_map {fx : va_W} {ca : Nat → Nat} {le se dr ke : Nat → Int32} {P : Nat} (hP : fx.length = P) {j : Nat} (hj : j < 6) : [P + j].map (fun i => (fx ++ zclks ca le se dr ke)[i]?) = [(ca j, (.inr (0, [.int (le j), .int (se j), .int (dr j), .int (ke j)]) : va_E))].map some := by
  show [(fx ++ zclks ca le se dr ke)[P + j]?] = _
  rw [zclks_in hP hj]
  rfl
theorem zclks_put {fx : va_W} {ca : Nat → Nat} {le se dr ke : Nat → Int32} {P : Nat} (hP : fx.length = P) {j : Nat} (hj : j < 6) : zput (fx ++ zclks ca le se dr ke) [P + j] [(ca j, .inr (0, [.int (le j), .int (se j), .int (dr j), .int (ke j)]))] = fx ++ zclks ca le se dr ke := zput_same (zclks_in hP hj)
theorem zclks_len {fx : va_W} {ca : Nat → Nat} {le se dr ke le2 se2 dr2 ke2 : Nat → Int32} {P : Nat} (hP : fx.length = P) {j : Nat} (hj : j < 6) (e : Nat × va_E) (he : e = zclk ca le2 se2 dr2 ke2 j) (h : ∀ i, i < 6 → i ≠ j → le2 i = le i ∧ se2 i = se i ∧ dr2 i = dr i ∧ ke2 i = ke i) : (fx ++ zclks ca le se dr ke).set (P + j) e = fx ++ zclks ca le2 se2 dr2 ke2 := by
  subst he
  have hset : (fx ++ zclks ca le se dr ke).set (P + j) (zclk ca le2 se2 dr2 ke2 j) = fx ++ (zclks ca le se dr ke).set j (zclk ca le2 se2 dr2 ke2 j) := by
    rw [List.set_append_right _ _ (by omega), show P + j - fx.length = j by omega]
  rw [hset]
  congr 1
  have eqs : ∀ i, i < 6 → i ≠ j → zclk ca le se dr ke i = zclk ca le2 se2 dr2 ke2 i := fun i hi hne => by
    obtain ⟨h1, h2, h3, h4⟩ := h i hi hne
    simp only [zclk, h1, h2, h3, h4]
  match j, hj with
  | 0, _ => simp only [zclks, List.set_cons_zero, eqs 1 (by omega) (by omega), eqs 2 (by omega) (by omega), eqs 3 (by omega) (by omega), eqs 4 (by omega) (by omega), eqs 5 (by omega) (by omega)]
  | 1, _ => simp only [zclks, List.set_cons_succ, List.set_cons_zero, eqs 0 (by omega) (by omega), eqs 2 (by omega) (by omega), eqs 3 (by omega) (by omega), eqs 4 (by omega) (by omega), eqs 5 (by omega) (by omega)]
  | 2, _ => simp only [zclks, List.set_cons_succ, List.set_cons_zero, eqs 1 (by omega) (by omega), eqs 0 (by omega) (by omega), eqs 3 (by omega) (by omega), eqs 4 (by omega) (by omega), eqs 5 (by omega) (by omega)]
  | 3, _ => simp only [zclks, List.set_cons_succ, List.set_cons_zero, eqs 1 (by omega) (by omega), eqs 2 (by omega) (by omega), eqs 0 (by omega) (by omega), eqs 4 (by omega) (by omega), eqs 5 (by omega) (by omega)]
  | 4, _ => simp only [zclks, List.set_cons_succ, List.set_cons_zero, eqs 1 (by omega) (by omega), eqs 2 (by omega) (by omega), eqs 3 (by omega) (by omega), eqs 0 (by omega) (by omega), eqs 5 (by omega) (by omega)]
  | 5, _ => simp only [zclks, List.set_cons_succ, List.set_cons_zero, eqs 1 (by omega) (by omega), eqs 2 (by omega) (by omega), eqs 3 (by omega) (by omega), eqs 4 (by omega) (by omega), eqs 0 (by omega) (by omega)]
  | n + 6, h6 => omega
/-- the two images -/
def zim (a b : Nat) : Nat → Option Nat := fun k => if k = 0 then some a else some b
abbrev zin (i : Int32) (n : Nat) : Prop := ¬ (i < 0 ∨ n ≤ i.toNatClampNeg)
theorem zin_lt {i : Int32} {n : Nat} (h : zin i n) : i.toNatClampNeg < n := Nat.not_le.mp fun q => h (Or.inr q)
theorem zbool {v : Int32} (h : v = 0 ∨ v = 1) : narrow .boolean (.int v) = .int v := by rcases h with rfl | rfl <;> rfl
theorem zchar {v : Int32} (h : (v.toUInt32 % 65536).toInt32 = v) : narrow .char (.int v) = .int v := by have h2 := pk_nc v; rw [h] at h2; exact h2
end
section
abbrev w_X7_leant (G : zG) : va_W := []
def fX7_leant (x1 : Int32) (x2 : Int32) : Option Int32 := (some ((if (0 : Int32) < (if ((x1 + x2) - (4 : Int32)) < (9 : Int32) then ((x1 + x2) - (4 : Int32)) else (9 : Int32)) then (if ((x1 + x2) - (4 : Int32)) < (9 : Int32) then ((x1 + x2) - (4 : Int32)) else (9 : Int32)) else (0 : Int32))))
set_option maxHeartbeats 4000000 in
set_option maxRecDepth 100000 in
theorem c_X7_leant (l : Launch) (G : zG) (x1 : Int32) (x2 : Int32) (rv : Int32) (h : fX7_leant x1 x2 = some rv) : zC l yX7_leant wsX7_leant 1 24 G [.int x1, .int x2] (w_X7_leant G ) (some (.int rv)) (w_X7_leant G ) := by
  refine fun sz => Met.ofW (cc := cX7_leant) (maxL := 2) (ret := (some .int)) (by decide) rfl ?_
  intro p e s m args below meth c s₁ B hml hv
  obtain ⟨rfl, hsz, hP, hK, hD0, hE⟩ := hv
  have hx := B.exec
  have hb := B.bytes
  have hr := B.returns
  have hts := atoms_spec (ws := wsX7_leant) B.pre
  have hown : s.vm.findClass RX7 = some m.cls := findClass_of_methodNamed B.named
  have hlocks := B.notSynchronized
  subst hsz
  have hD := hD0.self (sz := s.heap.size)
  generalize hAe : va_A (w_X7_leant G ) s.heap.size = A at hD hE ⊢
  have hA : ∀ q : Nat, s.heap.size ≤ q → A q := fun q h => by rw [← hAe]; exact Or.inr h
  have hS : va_S A s.heap s.heap [] := va_S.rf
  have hl := lv_entry ([.int x1, .int x2]) (n := 2) (Nat.le_of_ble_eq_true rfl)
  rw [lg_entry_eq]
  generalize (lg_sl ([.int x1, .int x2]) ++ List.replicate (2 - (lg_sl ([.int x1, .int x2])).length) Slot.unset).toArray = ls at hl ⊢
  have hl : lv_has ls 2 [(0, .int x1), (1, .int x2)] := hl
  have hP : va_P G.1 vwCl (w_X7_leant G ) s.heap := hP
  rw [fX7_leant] at h
  refine lv_iconst (v := (0 : Int32)) hx hb dX7_leant_0 (by decide) ?_
  refine lv_bipush (v := (9 : Int32)) hx hb dX7_leant_1 (by decide) ?_
  refine lv_iload_n hx hb dX7_leant_3 rfl (lv_at hl 0 rfl) ?_
  refine lv_iload_n hx hb dX7_leant_4 rfl (lv_at hl 1 rfl) ?_
  refine lv_iadd hx hb dX7_leant_5 ?_
  refine lv_iconst (v := (4 : Int32)) hx hb dX7_leant_6 (by decide) ?_
  refine lv_isub hx hb dX7_leant_7 ?_
  refine va_mmin hx hb (hml.trans hl.1.symm) hown (hts (.methodLink RX7 262 Lib.Math.min.name) (by decide +kernel)) (hts (.static Lib.Math.min.name) (by decide +kernel)) (hts (.initialized "java/lang/Math") (by decide +kernel)) (hts (.code Lib.Math.min.name Lib.Math.min.code 2 (some .int)) (by decide +kernel)) (Nat.le_of_ble_eq_true rfl) (Nat.le_of_ble_eq_true rfl) (Nat.zero_le _) (Nat.zero_le _) dX7_leant_8 ?_
  refine va_mmax hx hb (hml.trans hl.1.symm) hown (hts (.methodLink RX7 267 Lib.Math.max.name) (by decide +kernel)) (hts (.static Lib.Math.max.name) (by decide +kernel)) (hts (.initialized "java/lang/Math") (by decide +kernel)) (hts (.code Lib.Math.max.name Lib.Math.max.code 2 (some .int)) (by decide +kernel)) (Nat.le_of_ble_eq_true rfl) (Nat.le_of_ble_eq_true rfl) (Nat.zero_le _) (Nat.zero_le _) dX7_leant_11 ?_
  cases h
  exact W.iret hx hb hr (fun t9 ht9 _ => zend hP hD hS ht9) hS.2.2 dX7_leant_14
abbrev w_X0_toneBehind (G : zG) (a : Nat) (v_lean : Int32) (v_sets : Int32) (v_drops : Int32) (v_keeps : Int32) : va_W := [(a, .inr (0, [.int v_lean, .int v_sets, .int v_drops, .int v_keeps]))]
def fX0_toneBehind (v_lean : Int32) (x1 : Int32) : Option Int32 := (zb1 (fX7_leant x1 v_lean) (fun (y5 : Int32) => (some (y5))))
theorem in_X0_toneBehind_X0 : ∀ w ∈ wsX00, w ∈ wsX0_toneBehind := by decide +kernel
set_option maxHeartbeats 4000000 in
set_option maxRecDepth 100000 in
theorem c_X0_toneBehind (l : Launch) (G : zG) (a : Nat) (v_lean : Int32) (v_sets : Int32) (v_drops : Int32) (v_keeps : Int32) (x1 : Int32) (rv : Int32) (h : fX0_toneBehind v_lean x1 = some rv) : zC l yX0_toneBehind wsX0_toneBehind 2 45 G [.ref a, .int x1] (w_X0_toneBehind G a v_lean v_sets v_drops v_keeps) (some (.int rv)) (w_X0_toneBehind G a v_lean v_sets v_drops v_keeps) := by
  refine fun sz => Met.ofW (cc := cX0_toneBehind) (maxL := 2) (ret := (some .int)) (by decide) rfl ?_
  intro p e s m args below meth c s₁ B hml hv
  obtain ⟨rfl, hsz, hP, hK, hD0, hE⟩ := hv
  have hx := B.exec
  have hb := B.bytes
  have hr := B.returns
  have hts := atoms_spec (ws := wsX0_toneBehind) B.pre
  have hown : s.vm.findClass RX0 = some m.cls := findClass_of_methodNamed B.named
  have hlocks := B.notSynchronized
  subst hsz
  have hD := hD0.self (sz := s.heap.size)
  generalize hAe : va_A (w_X0_toneBehind G a v_lean v_sets v_drops v_keeps) s.heap.size = A at hD hE ⊢
  have hA : ∀ q : Nat, s.heap.size ≤ q → A q := fun q h => by rw [← hAe]; exact Or.inr h
  have hS : va_S A s.heap s.heap [] := va_S.rf
  have hl := lv_entry ([.ref a, .int x1]) (n := 2) (Nat.le_of_ble_eq_true rfl)
  rw [lg_entry_eq]
  generalize (lg_sl ([.ref a, .int x1]) ++ List.replicate (2 - (lg_sl ([.ref a, .int x1])).length) Slot.unset).toArray = ls at hl ⊢
  have hl : lv_has ls 2 [(0, .ref a), (1, .int x1)] := hl
  have hP : va_P G.1 vwCl (w_X0_toneBehind G a v_lean v_sets v_drops v_keeps) s.heap := hP
  rw [fX0_toneBehind] at h
  refine lv_iload_n hx hb dX0_toneBehind_0 rfl (lv_at hl 1 rfl) ?_
  refine lv_aload_n hx hb dX0_toneBehind_1 rfl (lv_at hl 0 rfl) ?_
  refine va_get (D := G.1) (ci := 0) (v := .int v_lean) (C := RX0) (T := TX0) (N := 4) hx hb hts in_X0_toneBehind_X0 hown hK.1 hP 0 rfl rfl 0 (by decide) (hts (.fieldLink RX0 9 "NineHands$Clerk" "lean" "I") (by decide +kernel)) (fun _ h9 => h9) rfl dX0_toneBehind_2 ?_
  obtain ⟨y5, hc5, h⟩ := zb1_e h
  refine zcSN (As := [.int x1, .int v_lean]) (rest := []) (ws' := (w_X0_toneBehind G a v_lean v_sets v_drops v_keeps)) (st1 := [.int y5]) ⟨hx, hb, hml, hown, hts⟩ (c_X7_leant l G x1 v_lean y5 hc5) ⟨va_cnB 2 hts gX0_toneBehind_X7_leant_n15 rfl rfl rfl (hK.2.1.2 ("NineHands$Clerk", 15, yX7_leant, "NineHands") (by decide +kernel)) (hts (.initialized RX7) (by decide +kernel)) (by decide +kernel) ⟨Nat.le_of_ble_eq_true rfl, Nat.le_of_ble_eq_true rfl⟩, (hts (.static yX7_leant) (by decide +kernel)), trivial⟩ hK hE hP hD hS hA [] rfl rfl rfl rfl rfl hl.1 rfl (Nat.le_of_ble_eq_true rfl) dX0_toneBehind_5 (Nat.zero_le _) (Nat.zero_le _) rfl (fun H locs hP hD hS => ?_)
  cases h
  exact W.iret hx hb hr (fun t9 ht9 _ => zend hP hD hS ht9) hS.2.2 dX0_toneBehind_8
abbrev w_X0_marksBehind (G : zG) (a : Nat) (v_lean : Int32) (v_sets : Int32) (v_drops : Int32) (v_keeps : Int32) : va_W := [(a, .inr (0, [.int v_lean, .int v_sets, .int v_drops, .int v_keeps]))]
def fX0_marksBehind (v_sets : Int32) (v_drops : Int32) (x1 : Int32) : Option Int32 := (some (((x1 ||| v_sets) &&& (v_drops ^^^ ((-1) : Int32)))))
theorem in_X0_marksBehind_X0 : ∀ w ∈ wsX00, w ∈ wsX0_marksBehind := by decide +kernel
set_option maxHeartbeats 4000000 in
set_option maxRecDepth 100000 in
theorem c_X0_marksBehind (l : Launch) (G : zG) (a : Nat) (v_lean : Int32) (v_sets : Int32) (v_drops : Int32) (v_keeps : Int32) (x1 : Int32) (rv : Int32) (h : fX0_marksBehind v_sets v_drops x1 = some rv) : zC l yX0_marksBehind wsX0_marksBehind 0 0 G [.ref a, .int x1] (w_X0_marksBehind G a v_lean v_sets v_drops v_keeps) (some (.int rv)) (w_X0_marksBehind G a v_lean v_sets v_drops v_keeps) := by
  refine fun sz => Met.ofW (cc := cX0_marksBehind) (maxL := 2) (ret := (some .int)) (by decide) rfl ?_
  intro p e s m args below meth c s₁ B hml hv
  obtain ⟨rfl, hsz, hP, hK, hD0, hE⟩ := hv
  have hx := B.exec
  have hb := B.bytes
  have hr := B.returns
  have hts := atoms_spec (ws := wsX0_marksBehind) B.pre
  have hown : s.vm.findClass RX0 = some m.cls := findClass_of_methodNamed B.named
  have hlocks := B.notSynchronized
  subst hsz
  have hD := hD0.self (sz := s.heap.size)
  generalize hAe : va_A (w_X0_marksBehind G a v_lean v_sets v_drops v_keeps) s.heap.size = A at hD hE ⊢
  have hA : ∀ q : Nat, s.heap.size ≤ q → A q := fun q h => by rw [← hAe]; exact Or.inr h
  have hS : va_S A s.heap s.heap [] := va_S.rf
  have hl := lv_entry ([.ref a, .int x1]) (n := 2) (Nat.le_of_ble_eq_true rfl)
  rw [lg_entry_eq]
  generalize (lg_sl ([.ref a, .int x1]) ++ List.replicate (2 - (lg_sl ([.ref a, .int x1])).length) Slot.unset).toArray = ls at hl ⊢
  have hl : lv_has ls 2 [(0, .ref a), (1, .int x1)] := hl
  have hP : va_P G.1 vwCl (w_X0_marksBehind G a v_lean v_sets v_drops v_keeps) s.heap := hP
  rw [fX0_marksBehind] at h
  refine lv_iload_n hx hb dX0_marksBehind_0 rfl (lv_at hl 1 rfl) ?_
  refine lv_aload_n hx hb dX0_marksBehind_1 rfl (lv_at hl 0 rfl) ?_
  refine va_get (D := G.1) (ci := 0) (v := .int v_sets) (C := RX0) (T := TX0) (N := 4) hx hb hts in_X0_marksBehind_X0 hown hK.1 hP 0 rfl rfl 1 (by decide) (hts (.fieldLink RX0 19 "NineHands$Clerk" "sets" "I") (by decide +kernel)) (fun _ h9 => h9) rfl dX0_marksBehind_2 ?_
  refine lv_ior hx hb dX0_marksBehind_5 ?_
  refine lv_aload_n hx hb dX0_marksBehind_6 rfl (lv_at hl 0 rfl) ?_
  refine va_get (D := G.1) (ci := 0) (v := .int v_drops) (C := RX0) (T := TX0) (N := 4) hx hb hts in_X0_marksBehind_X0 hown hK.1 hP 0 rfl rfl 2 (by decide) (hts (.fieldLink RX0 22 "NineHands$Clerk" "drops" "I") (by decide +kernel)) (fun _ h9 => h9) rfl dX0_marksBehind_7 ?_
  refine lv_iconst (v := ((-1) : Int32)) hx hb dX0_marksBehind_10 (by decide) ?_
  refine lv_ixor hx hb dX0_marksBehind_11 ?_
  refine lv_iand hx hb dX0_marksBehind_12 ?_
  cases h
  exact W.iret hx hb hr (fun t9 ht9 _ => zend hP hD hS ht9) hS.2.2 dX0_marksBehind_13
abbrev w_X0_waysTo (G : zG) (a : Nat) (v_lean : Int32) (v_sets : Int32) (v_drops : Int32) (v_keeps : Int32) : va_W := [(a, .inr (0, [.int v_lean, .int v_sets, .int v_drops, .int v_keeps]))]
def fX0_waysTo_J31 (l1_31 : Int32) (l2_31 : Int32) (l3_31 : Int32) (l4_31 : Int32) (v_keeps_31 : Int32) (l5_31 : Int32) : Option Int32 := (if l1_31 = l3_31 then (if l2_31 = l4_31 then (some ((l5_31 + ((10 : Int32) - v_keeps_31)))) else (some (l5_31))) else (some (l5_31)))
def fX0_waysTo (v_lean : Int32) (v_sets : Int32) (v_drops : Int32) (v_keeps : Int32) (x1 : Int32) (x2 : Int32) (x3 : Int32) (x4 : Int32) : Option Int32 := (zb1 (fX0_toneBehind v_lean x1) (fun (y5 : Int32) => (if y5 = x3 then (zb1 (fX0_marksBehind v_sets v_drops x2) (fun (y14 : Int32) => (if y14 = x4 then (fX0_waysTo_J31 x1 x2 x3 x4 v_keeps ((0 : Int32) + v_keeps)) else (fX0_waysTo_J31 x1 x2 x3 x4 v_keeps (0 : Int32))))) else (fX0_waysTo_J31 x1 x2 x3 x4 v_keeps (0 : Int32)))))
theorem in_X0_waysTo_X0 : ∀ w ∈ wsX00, w ∈ wsX0_waysTo := by decide +kernel
set_option maxHeartbeats 4000000 in
set_option maxRecDepth 100000 in
theorem c_X0_waysTo (l : Launch) (G : zG) (a : Nat) (v_lean : Int32) (v_sets : Int32) (v_drops : Int32) (v_keeps : Int32) (x1 : Int32) (x2 : Int32) (x3 : Int32) (x4 : Int32) (rv : Int32) (h : fX0_waysTo v_lean v_sets v_drops v_keeps x1 x2 x3 x4 = some rv) : zC l yX0_waysTo wsX0_waysTo 3 66 G [.ref a, .int x1, .int x2, .int x3, .int x4] (w_X0_waysTo G a v_lean v_sets v_drops v_keeps) (some (.int rv)) (w_X0_waysTo G a v_lean v_sets v_drops v_keeps) := by
  refine fun sz => Met.ofW (cc := cX0_waysTo) (maxL := 6) (ret := (some .int)) (by decide) rfl ?_
  intro p e s m args below meth c s₁ B hml hv
  obtain ⟨rfl, hsz, hP, hK, hD0, hE⟩ := hv
  have hx := B.exec
  have hb := B.bytes
  have hr := B.returns
  have hts := atoms_spec (ws := wsX0_waysTo) B.pre
  have hown : s.vm.findClass RX0 = some m.cls := findClass_of_methodNamed B.named
  have hlocks := B.notSynchronized
  subst hsz
  have hD := hD0.self (sz := s.heap.size)
  generalize hAe : va_A (w_X0_waysTo G a v_lean v_sets v_drops v_keeps) s.heap.size = A at hD hE ⊢
  have hA : ∀ q : Nat, s.heap.size ≤ q → A q := fun q h => by rw [← hAe]; exact Or.inr h
  have hS : va_S A s.heap s.heap [] := va_S.rf
  have hl := lv_entry ([.ref a, .int x1, .int x2, .int x3, .int x4]) (n := 6) (Nat.le_of_ble_eq_true rfl)
  rw [lg_entry_eq]
  generalize (lg_sl ([.ref a, .int x1, .int x2, .int x3, .int x4]) ++ List.replicate (6 - (lg_sl ([.ref a, .int x1, .int x2, .int x3, .int x4])).length) Slot.unset).toArray = ls at hl ⊢
  have hl : lv_has ls 6 [(0, .ref a), (1, .int x1), (2, .int x2), (3, .int x3), (4, .int x4)] := hl
  have hP : va_P G.1 vwCl (w_X0_waysTo G a v_lean v_sets v_drops v_keeps) s.heap := hP
  rw [fX0_waysTo] at h
  have join_31 : ∀ (l5_31 : Int32) (H : Heap) (locs : List Loc) (ls : Array Slot), fX0_waysTo_J31 x1 x2 x3 x4 v_keeps l5_31 = some rv → va_P G.1 vwCl (w_X0_waysTo G a v_lean v_sets v_drops v_keeps) H → va_D A (w_X0_waysTo G a v_lean v_sets v_drops v_keeps) → va_S A s.heap H locs → lv_has ls 6 [(0, .ref a), (1, .int x1), (2, .int x2), (3, .int x3), (4, .int x4), (5, .int l5_31)] → W p l e (headSpec wsX0_waysTo { frames := 3, cells := 0, slots := 0, locals := 66 }).room s m ([.ref a, .int x1, .int x2, .int x3, .int x4] : List Value).toArray below meth c H locs 0 0 (MQ below (zQ (some (.int rv)) G (w_X0_waysTo G a v_lean v_sets v_drops v_keeps) A) ([.ref a, .int x1, .int x2, .int x3, .int x4] : List Value).toArray s 0 0 A) (F0 m 31 ls []) := by
    intro l5_31 H locs ls h hP hD hS hl
    rw [fX0_waysTo_J31] at h
    refine lv_iload_n hx hb dX0_waysTo_31 rfl (lv_at hl 1 rfl) ?_
    refine lv_iload_n hx hb dX0_waysTo_32 rfl (lv_at hl 3 rfl) ?_
    refine lv_icmp_ne (tgt := 54) hx hb dX0_waysTo_33 (by decide) (fun c33 => ?_) (fun c33 => ?_)
    · have h := zf c33 h
      refine lv_iload hx hb dX0_waysTo_54 (lv_at hl 5 rfl) ?_
      cases h
      exact W.iret hx hb hr (fun t9 ht9 _ => zend hP hD hS ht9) hS.2.2 dX0_waysTo_56
    · have h := zt c33 h
      refine lv_iload_n hx hb dX0_waysTo_36 rfl (lv_at hl 2 rfl) ?_
      refine lv_iload hx hb dX0_waysTo_37 (lv_at hl 4 rfl) ?_
      refine lv_icmp_ne (tgt := 54) hx hb dX0_waysTo_39 (by decide) (fun c39 => ?_) (fun c39 => ?_)
      · have h := zf c39 h
        refine lv_iload hx hb dX0_waysTo_54 (lv_at hl 5 rfl) ?_
        cases h
        exact W.iret hx hb hr (fun t9 ht9 _ => zend hP hD hS ht9) hS.2.2 dX0_waysTo_56
      · have h := zt c39 h
        refine lv_iload hx hb dX0_waysTo_42 (lv_at hl 5 rfl) ?_
        refine lv_bipush (v := (10 : Int32)) hx hb dX0_waysTo_44 (by decide) ?_
        refine lv_aload_n hx hb dX0_waysTo_46 rfl (lv_at hl 0 rfl) ?_
        refine va_get (D := G.1) (ci := 0) (v := .int v_keeps) (C := RX0) (T := TX0) (N := 4) hx hb hts in_X0_waysTo_X0 hown hK.1 hP 0 rfl rfl 3 (by decide) (hts (.fieldLink RX0 32 "NineHands$Clerk" "keeps" "I") (by decide +kernel)) (fun _ h9 => h9) rfl dX0_waysTo_47 ?_
        refine lv_isub hx hb dX0_waysTo_50 ?_
        refine lv_iadd hx hb dX0_waysTo_51 ?_
        refine lv_istore (lv' := [(5, .int (l5_31 + ((10 : Int32) - v_keeps))), (0, .ref a), (1, .int x1), (2, .int x2), (3, .int x3), (4, .int x4)]) hx hb dX0_waysTo_52 hl (by decide) rfl (fun ls hl => ?_)
        refine lv_iload hx hb dX0_waysTo_54 (lv_at hl 0 rfl) ?_
        cases h
        exact W.iret hx hb hr (fun t9 ht9 _ => zend hP hD hS ht9) hS.2.2 dX0_waysTo_56
  refine lv_iconst (v := (0 : Int32)) hx hb dX0_waysTo_0 (by decide) ?_
  refine lv_istore (lv' := [(5, .int (0 : Int32)), (0, .ref a), (1, .int x1), (2, .int x2), (3, .int x3), (4, .int x4)]) hx hb dX0_waysTo_1 hl (by decide) rfl (fun ls hl => ?_)
  refine lv_aload_n hx hb dX0_waysTo_3 rfl (lv_at hl 1 rfl) ?_
  refine lv_iload_n hx hb dX0_waysTo_4 rfl (lv_at hl 2 rfl) ?_
  obtain ⟨y5, hc5, h⟩ := zb1_e h
  refine zcV (As := [.int x1]) (rest := []) (ws' := (w_X0_waysTo G a v_lean v_sets v_drops v_keeps)) (st1 := [.int y5]) ⟨hx, hb, hml, hown, hts⟩ (c_X0_toneBehind l G a v_lean v_sets v_drops v_keeps x1 y5 hc5) (cwV 1 hts gX0_waysTo_X0_toneBehind rfl rfl rfl (by decide +kernel) ⟨Nat.le_of_ble_eq_true rfl, Nat.le_of_ble_eq_true rfl⟩) hK hE hP hD hS hA [0] rfl rfl 0 0 rfl rfl rfl rfl rfl rfl hl.1 rfl (Nat.le_of_ble_eq_true rfl) dX0_waysTo_5 (Nat.zero_le _) (Nat.zero_le _) rfl (fun H locs hP hD hS => ?_)
  refine lv_iload_n hx hb dX0_waysTo_8 rfl (lv_at hl 4 rfl) ?_
  refine lv_icmp_ne (tgt := 31) hx hb dX0_waysTo_9 (by decide) (fun c9 => ?_) (fun c9 => ?_)
  · have h := zf c9 h
    exact join_31 _ _ _ _ h hP hD hS (lv_sub hl [1, 2, 3, 4, 5, 0] rfl)
  · have h := zt c9 h
    refine lv_aload_n hx hb dX0_waysTo_12 rfl (lv_at hl 1 rfl) ?_
    refine lv_iload_n hx hb dX0_waysTo_13 rfl (lv_at hl 3 rfl) ?_
    obtain ⟨y14, hc14, h⟩ := zb1_e h
    refine zcV (As := [.int x2]) (rest := []) (ws' := (w_X0_waysTo G a v_lean v_sets v_drops v_keeps)) (st1 := [.int y14]) ⟨hx, hb, hml, hown, hts⟩ (c_X0_marksBehind l G a v_lean v_sets v_drops v_keeps x2 y14 hc14) (cwV 1 hts gX0_waysTo_X0_marksBehind rfl rfl rfl (by decide +kernel) ⟨Nat.le_of_ble_eq_true rfl, Nat.le_of_ble_eq_true rfl⟩) hK hE hP hD hS hA [0] rfl rfl 0 0 rfl rfl rfl rfl rfl rfl hl.1 rfl (Nat.le_of_ble_eq_true rfl) dX0_waysTo_14 (Nat.zero_le _) (Nat.zero_le _) rfl (fun H locs hP hD hS => ?_)
    refine lv_iload hx hb dX0_waysTo_17 (lv_at hl 5 rfl) ?_
    refine lv_icmp_ne (tgt := 31) hx hb dX0_waysTo_19 (by decide) (fun c19 => ?_) (fun c19 => ?_)
    · have h := zf c19 h
      exact join_31 _ _ _ _ h hP hD hS (lv_sub hl [1, 2, 3, 4, 5, 0] rfl)
    · have h := zt c19 h
      refine lv_iload hx hb dX0_waysTo_22 (lv_at hl 0 rfl) ?_
      refine lv_aload_n hx hb dX0_waysTo_24 rfl (lv_at hl 1 rfl) ?_
      refine va_get (D := G.1) (ci := 0) (v := .int v_keeps) (C := RX0) (T := TX0) (N := 4) hx hb hts in_X0_waysTo_X0 hown hK.1 hP 0 rfl rfl 3 (by decide) (hts (.fieldLink RX0 32 "NineHands$Clerk" "keeps" "I") (by decide +kernel)) (fun _ h9 => h9) rfl dX0_waysTo_25 ?_
      refine lv_iadd hx hb dX0_waysTo_28 ?_
      refine lv_istore (lv' := [(5, .int ((0 : Int32) + v_keeps)), (0, .ref a), (1, .int x1), (2, .int x2), (3, .int x3), (4, .int x4)]) hx hb dX0_waysTo_29 hl (by decide) rfl (fun ls hl => ?_)
      exact join_31 _ _ _ _ h hP hD hS (lv_sub hl [1, 2, 3, 4, 5, 0] rfl)
abbrev w_X1_isFull (G : zG) (a : Nat) (a_slips : Nat) (v_count : Int32) : va_W := [(a, .inr (1, [.ref a_slips, .int v_count]))]
def fX1_isFull (v_count : Int32) : Option Int32 := (if v_count < (8 : Int32) then (some ((0 : Int32))) else (some ((1 : Int32))))
theorem in_X1_isFull_X1 : ∀ w ∈ wsX10, w ∈ wsX1_isFull := by decide +kernel
set_option maxHeartbeats 4000000 in
set_option maxRecDepth 100000 in
theorem c_X1_isFull (l : Launch) (G : zG) (a : Nat) (a_slips : Nat) (v_count : Int32) (rv : Int32) (h : fX1_isFull v_count = some rv) : zC l yX1_isFull wsX1_isFull 0 0 G [.ref a] (w_X1_isFull G a a_slips v_count) (some (.int rv)) (w_X1_isFull G a a_slips v_count) := by
  refine fun sz => Met.ofW (cc := cX1_isFull) (maxL := 1) (ret := (some .boolean)) (by decide) rfl ?_
  intro p e s m args below meth c s₁ B hml hv
  obtain ⟨rfl, hsz, hP, hK, hD0, hE⟩ := hv
  have hx := B.exec
  have hb := B.bytes
  have hr := B.returns
  have hts := atoms_spec (ws := wsX1_isFull) B.pre
  have hown : s.vm.findClass RX1 = some m.cls := findClass_of_methodNamed B.named
  have hlocks := B.notSynchronized
  subst hsz
  have hD := hD0.self (sz := s.heap.size)
  generalize hAe : va_A (w_X1_isFull G a a_slips v_count) s.heap.size = A at hD hE ⊢
  have hA : ∀ q : Nat, s.heap.size ≤ q → A q := fun q h => by rw [← hAe]; exact Or.inr h
  have hS : va_S A s.heap s.heap [] := va_S.rf
  have hl := lv_entry ([.ref a]) (n := 1) (Nat.le_of_ble_eq_true rfl)
  rw [lg_entry_eq]
  generalize (lg_sl ([.ref a]) ++ List.replicate (1 - (lg_sl ([.ref a])).length) Slot.unset).toArray = ls at hl ⊢
  have hl : lv_has ls 1 [(0, .ref a)] := hl
  have hP : va_P G.1 vwCl (w_X1_isFull G a a_slips v_count) s.heap := hP
  rw [fX1_isFull] at h
  refine lv_aload_n hx hb dX1_isFull_0 rfl (lv_at hl 0 rfl) ?_
  refine va_get (D := G.1) (ci := 1) (v := .int v_count) (C := RX1) (T := TX1) (N := 2) hx hb hts in_X1_isFull_X1 hown hK.1 hP 0 rfl rfl 1 (by decide) (hts (.fieldLink RX1 15 "NineHands$Copies" "count" "I") (by decide +kernel)) (fun _ h9 => h9) rfl dX1_isFull_1 ?_
  refine lv_bipush (v := (8 : Int32)) hx hb dX1_isFull_4 (by decide) ?_
  refine lv_icmp_lt (tgt := 13) hx hb dX1_isFull_6 (by decide) (fun c6 => ?_) (fun c6 => ?_)
  · have h := zt c6 h
    refine lv_iconst (v := (0 : Int32)) hx hb dX1_isFull_13 (by decide) ?_
    cases h
    exact W.zret (ty := .boolean) hx hb hr rfl (fun t9 ht9 _ => zend hP hD hS ht9) hS.2.2 dX1_isFull_14
  · have h := zf c6 h
    refine lv_iconst (v := (1 : Int32)) hx hb dX1_isFull_9 (by decide) ?_
    refine lv_goto (tgt := 14) hx hb dX1_isFull_10 (by decide) ?_
    cases h
    exact W.zret (ty := .boolean) hx hb hr rfl (fun t9 ht9 _ => zend hP hD hS ht9) hS.2.2 dX1_isFull_14
abbrev w_X1_add (G : zG) (a : Nat) (a_slips : Nat) (v_count : Int32) (f_slips : (Nat → Int32)) : va_W := [(a, .inr (1, [.ref a_slips, .int v_count])), (a_slips, .inl (zCI G, 8, .inl f_slips))]
def fX1_add (v_count : Int32) (f_slips : (Nat → Int32)) (x1 : Int32) : Option (Int32 × (Nat → Int32)) := (zb1 (fX1_isFull v_count) (fun (y1 : Int32) => (if y1 = (0 : Int32) then (if zin v_count 8 then (some ((v_count + (1 : Int32)), (upd f_slips (v_count).toNatClampNeg x1))) else none) else (some (v_count, f_slips)))))
theorem in_X1_add_X1 : ∀ w ∈ wsX10, w ∈ wsX1_add := by decide +kernel
set_option maxHeartbeats 4000000 in
set_option maxRecDepth 100000 in
theorem c_X1_add (l : Launch) (G : zG) (a : Nat) (a_slips : Nat) (v_count : Int32) (f_slips : (Nat → Int32)) (x1 : Int32) (ov_count : Int32) (of_slips : (Nat → Int32)) (h : fX1_add v_count f_slips x1 = some (ov_count, of_slips)) : zC l yX1_add wsX1_add 1 20 G [.ref a, .int x1] (w_X1_add G a a_slips v_count f_slips) none (w_X1_add G a a_slips ov_count of_slips) := by
  refine fun sz => Met.ofW (cc := cX1_add) (maxL := 2) (ret := none) (by decide) rfl ?_
  intro p e s m args below meth c s₁ B hml hv
  obtain ⟨rfl, hsz, hP, hK, hD0, hE⟩ := hv
  have hx := B.exec
  have hb := B.bytes
  have hr := B.returns
  have hts := atoms_spec (ws := wsX1_add) B.pre
  have hown : s.vm.findClass RX1 = some m.cls := findClass_of_methodNamed B.named
  have hlocks := B.notSynchronized
  subst hsz
  have hD := hD0.self (sz := s.heap.size)
  generalize hAe : va_A (w_X1_add G a a_slips v_count f_slips) s.heap.size = A at hD hE ⊢
  have hA : ∀ q : Nat, s.heap.size ≤ q → A q := fun q h => by rw [← hAe]; exact Or.inr h
  have hS : va_S A s.heap s.heap [] := va_S.rf
  have hl := lv_entry ([.ref a, .int x1]) (n := 2) (Nat.le_of_ble_eq_true rfl)
  rw [lg_entry_eq]
  generalize (lg_sl ([.ref a, .int x1]) ++ List.replicate (2 - (lg_sl ([.ref a, .int x1])).length) Slot.unset).toArray = ls at hl ⊢
  have hl : lv_has ls 2 [(0, .ref a), (1, .int x1)] := hl
  have hP : va_P G.1 vwCl (w_X1_add G a a_slips v_count f_slips) s.heap := hP
  rw [fX1_add] at h
  refine lv_aload_n hx hb dX1_add_0 rfl (lv_at hl 0 rfl) ?_
  obtain ⟨y1, hc1, h⟩ := zb1_e h
  refine zcV (As := []) (rest := []) (ws' := (w_X1_add G a a_slips v_count f_slips)) (st1 := [.int y1]) ⟨hx, hb, hml, hown, hts⟩ (c_X1_isFull l G a a_slips v_count y1 hc1) (cwV 0 hts gX1_add_X1_isFull rfl rfl rfl (by decide +kernel) ⟨Nat.le_of_ble_eq_true rfl, Nat.le_of_ble_eq_true rfl⟩) hK hE hP hD hS hA [0] rfl rfl 0 1 rfl rfl rfl rfl rfl rfl hl.1 rfl (Nat.le_of_ble_eq_true rfl) dX1_add_1 (Nat.zero_le _) (Nat.zero_le _) rfl (fun H locs hP hD hS => ?_)
  refine lv_if_eq (tgt := 8) hx hb dX1_add_4 (by decide) (fun c4 => ?_) (fun c4 => ?_)
  · have h := zt c4 h
    refine lv_aload_n hx hb dX1_add_8 rfl (lv_at hl 0 rfl) ?_
    refine va_get (D := G.1) (ci := 1) (v := .ref a_slips) (C := RX1) (T := TX1) (N := 2) hx hb hts in_X1_add_X1 hown hK.1 hP 0 rfl rfl 0 (by decide) (hts (.fieldLink RX1 9 "NineHands$Copies" "slips" "[I") (by decide +kernel)) (fun _ h9 => h9) rfl dX1_add_9 ?_
    refine lv_aload_n hx hb dX1_add_12 rfl (lv_at hl 0 rfl) ?_
    refine va_get (D := G.1) (ci := 1) (v := .int v_count) (C := RX1) (T := TX1) (N := 2) hx hb hts in_X1_add_X1 hown hK.1 hP 0 rfl rfl 1 (by decide) (hts (.fieldLink RX1 15 "NineHands$Copies" "count" "I") (by decide +kernel)) (fun _ h9 => h9) rfl dX1_add_13 ?_
    refine lv_iload_n hx hb dX1_add_16 rfl (lv_at hl 1 rfl) ?_
    obtain ⟨g17, h⟩ := zg h
    refine zast hx hb hK.1 hP hD hS 1 0 rfl rfl g17 (j := (v_count).toNatClampNeg) rfl (ws' := (w_X1_add G a a_slips v_count (upd f_slips (v_count).toNatClampNeg x1))) rfl dX1_add_17 (fun H locs hP hD hS => ?_)
    refine lv_aload_n hx hb dX1_add_18 rfl (lv_at hl 0 rfl) ?_
    refine lv_dup hx hb dX1_add_19 rfl ?_
    refine va_get (D := G.1) (ci := 1) (v := .int v_count) (C := RX1) (T := TX1) (N := 2) hx hb hts in_X1_add_X1 hown hK.1 hP 0 rfl rfl 1 (by decide) (hts (.fieldLink RX1 15 "NineHands$Copies" "count" "I") (by decide +kernel)) (fun _ h9 => h9) rfl dX1_add_20 ?_
    refine lv_iconst (v := (1 : Int32)) hx hb dX1_add_23 (by decide) ?_
    refine lv_iadd hx hb dX1_add_24 ?_
    refine zput1 (D := G.1) (ci := 1) (C := RX1) (T := TX1) (N := 2) (ty := .int) (ws' := (w_X1_add G a a_slips (v_count + (1 : Int32)) (upd f_slips (v_count).toNatClampNeg x1))) hx hb hts in_X1_add_X1 tyX1 tyX1_ok nmX1 hown hK.1 hP hD hS 0 rfl rfl 1 (by decide) (hts (.fieldLink RX1 15 "NineHands$Copies" "count" "I") (by decide +kernel)) (fun _ h9 => h9) rfl (by decide +kernel) rfl rfl (Nat.le_of_ble_eq_true rfl) rfl dX1_add_25 (fun H locs hP hD hS => ?_)
    cases h
    exact W.vret hx hb hr (fun t9 ht9 _ => zend hP hD hS ht9) hS.2.2 dX1_add_28
  · have h := zf c4 h
    cases h
    exact W.vret hx hb hr (fun t9 ht9 _ => zend hP hD hS ht9) hS.2.2 dX1_add_7
abbrev w_X1_canComeOf (G : zG) (a : Nat) (a_slips : Nat) (v_count : Int32) (f_slips : (Nat → Int32)) : va_W := [(a, .inr (1, [.ref a_slips, .int v_count])), (a_slips, .inl (zCI G, 8, .inl f_slips))]
def fX1_canComeOf (f_slips : (Nat → Int32)) (x1 : Int32) (x2 : Int32) : Option Int32 := (if x2 = x1 then (some ((0 : Int32))) else (if zin x2 8 then (if zin x1 8 then (if ((f_slips (x2).toNatClampNeg) &&& ((f_slips (x1).toNatClampNeg) ^^^ ((-1) : Int32))) = (0 : Int32) then (if (f_slips (x2).toNatClampNeg) = (f_slips (x1).toNatClampNeg) then (if x1 ≤ x2 then (some ((0 : Int32))) else (some ((1 : Int32)))) else (some ((1 : Int32)))) else (some ((0 : Int32)))) else none) else none))
theorem in_X1_canComeOf_X1 : ∀ w ∈ wsX10, w ∈ wsX1_canComeOf := by decide +kernel
set_option maxHeartbeats 4000000 in
set_option maxRecDepth 100000 in
theorem c_X1_canComeOf (l : Launch) (G : zG) (a : Nat) (a_slips : Nat) (v_count : Int32) (f_slips : (Nat → Int32)) (x1 : Int32) (x2 : Int32) (rv : Int32) (h : fX1_canComeOf f_slips x1 x2 = some rv) : zC l yX1_canComeOf wsX1_canComeOf 0 0 G [.ref a, .int x1, .int x2] (w_X1_canComeOf G a a_slips v_count f_slips) (some (.int rv)) (w_X1_canComeOf G a a_slips v_count f_slips) := by
  refine fun sz => Met.ofW (cc := cX1_canComeOf) (maxL := 3) (ret := (some .boolean)) (by decide) rfl ?_
  intro p e s m args below meth c s₁ B hml hv
  obtain ⟨rfl, hsz, hP, hK, hD0, hE⟩ := hv
  have hx := B.exec
  have hb := B.bytes
  have hr := B.returns
  have hts := atoms_spec (ws := wsX1_canComeOf) B.pre
  have hown : s.vm.findClass RX1 = some m.cls := findClass_of_methodNamed B.named
  have hlocks := B.notSynchronized
  subst hsz
  have hD := hD0.self (sz := s.heap.size)
  generalize hAe : va_A (w_X1_canComeOf G a a_slips v_count f_slips) s.heap.size = A at hD hE ⊢
  have hA : ∀ q : Nat, s.heap.size ≤ q → A q := fun q h => by rw [← hAe]; exact Or.inr h
  have hS : va_S A s.heap s.heap [] := va_S.rf
  have hl := lv_entry ([.ref a, .int x1, .int x2]) (n := 3) (Nat.le_of_ble_eq_true rfl)
  rw [lg_entry_eq]
  generalize (lg_sl ([.ref a, .int x1, .int x2]) ++ List.replicate (3 - (lg_sl ([.ref a, .int x1, .int x2])).length) Slot.unset).toArray = ls at hl ⊢
  have hl : lv_has ls 3 [(0, .ref a), (1, .int x1), (2, .int x2)] := hl
  have hP : va_P G.1 vwCl (w_X1_canComeOf G a a_slips v_count f_slips) s.heap := hP
  rw [fX1_canComeOf] at h
  refine lv_iload_n hx hb dX1_canComeOf_0 rfl (lv_at hl 2 rfl) ?_
  refine lv_iload_n hx hb dX1_canComeOf_1 rfl (lv_at hl 1 rfl) ?_
  refine lv_icmp_eq (tgt := 23) hx hb dX1_canComeOf_2 (by decide) (fun c2 => ?_) (fun c2 => ?_)
  · have h := zt c2 h
    refine lv_iconst (v := (0 : Int32)) hx hb dX1_canComeOf_23 (by decide) ?_
    cases h
    exact W.zret (ty := .boolean) hx hb hr rfl (fun t9 ht9 _ => zend hP hD hS ht9) hS.2.2 dX1_canComeOf_24
  · have h := zf c2 h
    refine lv_aload_n hx hb dX1_canComeOf_5 rfl (lv_at hl 0 rfl) ?_
    refine va_get (D := G.1) (ci := 1) (v := .ref a_slips) (C := RX1) (T := TX1) (N := 2) hx hb hts in_X1_canComeOf_X1 hown hK.1 hP 0 rfl rfl 0 (by decide) (hts (.fieldLink RX1 9 "NineHands$Copies" "slips" "[I") (by decide +kernel)) (fun _ h9 => h9) rfl dX1_canComeOf_6 ?_
    refine lv_iload_n hx hb dX1_canComeOf_9 rfl (lv_at hl 2 rfl) ?_
    obtain ⟨g10, h⟩ := zg h
    refine zald hx hb hK.1 hP 1 0 rfl rfl g10 (j := (x2).toNatClampNeg) rfl dX1_canComeOf_10 ?_
    refine lv_aload_n hx hb dX1_canComeOf_11 rfl (lv_at hl 0 rfl) ?_
    refine va_get (D := G.1) (ci := 1) (v := .ref a_slips) (C := RX1) (T := TX1) (N := 2) hx hb hts in_X1_canComeOf_X1 hown hK.1 hP 0 rfl rfl 0 (by decide) (hts (.fieldLink RX1 9 "NineHands$Copies" "slips" "[I") (by decide +kernel)) (fun _ h9 => h9) rfl dX1_canComeOf_12 ?_
    refine lv_iload_n hx hb dX1_canComeOf_15 rfl (lv_at hl 1 rfl) ?_
    obtain ⟨g16, h⟩ := zg h
    refine zald hx hb hK.1 hP 1 0 rfl rfl g16 (j := (x1).toNatClampNeg) rfl dX1_canComeOf_16 ?_
    refine lv_iconst (v := ((-1) : Int32)) hx hb dX1_canComeOf_17 (by decide) ?_
    refine lv_ixor hx hb dX1_canComeOf_18 ?_
    refine lv_iand hx hb dX1_canComeOf_19 ?_
    refine lv_if_eq (tgt := 25) hx hb dX1_canComeOf_20 (by decide) (fun c20 => ?_) (fun c20 => ?_)
    · have h := zt c20 h
      refine lv_aload_n hx hb dX1_canComeOf_25 rfl (lv_at hl 0 rfl) ?_
      refine va_get (D := G.1) (ci := 1) (v := .ref a_slips) (C := RX1) (T := TX1) (N := 2) hx hb hts in_X1_canComeOf_X1 hown hK.1 hP 0 rfl rfl 0 (by decide) (hts (.fieldLink RX1 9 "NineHands$Copies" "slips" "[I") (by decide +kernel)) (fun _ h9 => h9) rfl dX1_canComeOf_26 ?_
      refine lv_iload_n hx hb dX1_canComeOf_29 rfl (lv_at hl 2 rfl) ?_
      refine zald hx hb hK.1 hP 1 0 rfl rfl g10 (j := (x2).toNatClampNeg) rfl dX1_canComeOf_30 ?_
      refine lv_aload_n hx hb dX1_canComeOf_31 rfl (lv_at hl 0 rfl) ?_
      refine va_get (D := G.1) (ci := 1) (v := .ref a_slips) (C := RX1) (T := TX1) (N := 2) hx hb hts in_X1_canComeOf_X1 hown hK.1 hP 0 rfl rfl 0 (by decide) (hts (.fieldLink RX1 9 "NineHands$Copies" "slips" "[I") (by decide +kernel)) (fun _ h9 => h9) rfl dX1_canComeOf_32 ?_
      refine lv_iload_n hx hb dX1_canComeOf_35 rfl (lv_at hl 1 rfl) ?_
      refine zald hx hb hK.1 hP 1 0 rfl rfl g16 (j := (x1).toNatClampNeg) rfl dX1_canComeOf_36 ?_
      refine lv_icmp_ne (tgt := 45) hx hb dX1_canComeOf_37 (by decide) (fun c37 => ?_) (fun c37 => ?_)
      · have h := zf c37 h
        refine lv_iconst (v := (1 : Int32)) hx hb dX1_canComeOf_45 (by decide) ?_
        refine lv_goto (tgt := 50) hx hb dX1_canComeOf_46 (by decide) ?_
        cases h
        exact W.zret (ty := .boolean) hx hb hr rfl (fun t9 ht9 _ => zend hP hD hS ht9) hS.2.2 dX1_canComeOf_50
      · have h := zt c37 h
        refine lv_iload_n hx hb dX1_canComeOf_40 rfl (lv_at hl 2 rfl) ?_
        refine lv_iload_n hx hb dX1_canComeOf_41 rfl (lv_at hl 1 rfl) ?_
        refine lv_icmp_ge (tgt := 49) hx hb dX1_canComeOf_42 (by decide) (fun c42 => ?_) (fun c42 => ?_)
        · have h := zt c42 h
          refine lv_iconst (v := (0 : Int32)) hx hb dX1_canComeOf_49 (by decide) ?_
          cases h
          exact W.zret (ty := .boolean) hx hb hr rfl (fun t9 ht9 _ => zend hP hD hS ht9) hS.2.2 dX1_canComeOf_50
        · have h := zf c42 h
          refine lv_iconst (v := (1 : Int32)) hx hb dX1_canComeOf_45 (by decide) ?_
          refine lv_goto (tgt := 50) hx hb dX1_canComeOf_46 (by decide) ?_
          cases h
          exact W.zret (ty := .boolean) hx hb hr rfl (fun t9 ht9 _ => zend hP hD hS ht9) hS.2.2 dX1_canComeOf_50
    · have h := zf c20 h
      refine lv_iconst (v := (0 : Int32)) hx hb dX1_canComeOf_23 (by decide) ?_
      cases h
      exact W.zret (ty := .boolean) hx hb hr rfl (fun t9 ht9 _ => zend hP hD hS ht9) hS.2.2 dX1_canComeOf_24
abbrev w_J6_bitCount_0f7a4 (G : zG) : va_W := []
def fJ6_bitCount_0f7a4 (x1 : Int32) : Option Int32 := (some (((((((((x1 - ((((x1).toUInt32 >>> (((1 : Int32)).toUInt32 &&& Int32.toUInt32 31)).toInt32) &&& (1431655765 : Int32))) &&& (858993459 : Int32)) + (((((x1 - ((((x1).toUInt32 >>> (((1 : Int32)).toUInt32 &&& Int32.toUInt32 31)).toInt32) &&& (1431655765 : Int32)))).toUInt32 >>> (((2 : Int32)).toUInt32 &&& Int32.toUInt32 31)).toInt32) &&& (858993459 : Int32))) + ((((((x1 - ((((x1).toUInt32 >>> (((1 : Int32)).toUInt32 &&& Int32.toUInt32 31)).toInt32) &&& (1431655765 : Int32))) &&& (858993459 : Int32)) + (((((x1 - ((((x1).toUInt32 >>> (((1 : Int32)).toUInt32 &&& Int32.toUInt32 31)).toInt32) &&& (1431655765 : Int32)))).toUInt32 >>> (((2 : Int32)).toUInt32 &&& Int32.toUInt32 31)).toInt32) &&& (858993459 : Int32)))).toUInt32 >>> (((4 : Int32)).toUInt32 &&& Int32.toUInt32 31)).toInt32)) &&& (252645135 : Int32)) + ((((((((x1 - ((((x1).toUInt32 >>> (((1 : Int32)).toUInt32 &&& Int32.toUInt32 31)).toInt32) &&& (1431655765 : Int32))) &&& (858993459 : Int32)) + (((((x1 - ((((x1).toUInt32 >>> (((1 : Int32)).toUInt32 &&& Int32.toUInt32 31)).toInt32) &&& (1431655765 : Int32)))).toUInt32 >>> (((2 : Int32)).toUInt32 &&& Int32.toUInt32 31)).toInt32) &&& (858993459 : Int32))) + ((((((x1 - ((((x1).toUInt32 >>> (((1 : Int32)).toUInt32 &&& Int32.toUInt32 31)).toInt32) &&& (1431655765 : Int32))) &&& (858993459 : Int32)) + (((((x1 - ((((x1).toUInt32 >>> (((1 : Int32)).toUInt32 &&& Int32.toUInt32 31)).toInt32) &&& (1431655765 : Int32)))).toUInt32 >>> (((2 : Int32)).toUInt32 &&& Int32.toUInt32 31)).toInt32) &&& (858993459 : Int32)))).toUInt32 >>> (((4 : Int32)).toUInt32 &&& Int32.toUInt32 31)).toInt32)) &&& (252645135 : Int32))).toUInt32 >>> (((8 : Int32)).toUInt32 &&& Int32.toUInt32 31)).toInt32)) + (((((((((x1 - ((((x1).toUInt32 >>> (((1 : Int32)).toUInt32 &&& Int32.toUInt32 31)).toInt32) &&& (1431655765 : Int32))) &&& (858993459 : Int32)) + (((((x1 - ((((x1).toUInt32 >>> (((1 : Int32)).toUInt32 &&& Int32.toUInt32 31)).toInt32) &&& (1431655765 : Int32)))).toUInt32 >>> (((2 : Int32)).toUInt32 &&& Int32.toUInt32 31)).toInt32) &&& (858993459 : Int32))) + ((((((x1 - ((((x1).toUInt32 >>> (((1 : Int32)).toUInt32 &&& Int32.toUInt32 31)).toInt32) &&& (1431655765 : Int32))) &&& (858993459 : Int32)) + (((((x1 - ((((x1).toUInt32 >>> (((1 : Int32)).toUInt32 &&& Int32.toUInt32 31)).toInt32) &&& (1431655765 : Int32)))).toUInt32 >>> (((2 : Int32)).toUInt32 &&& Int32.toUInt32 31)).toInt32) &&& (858993459 : Int32)))).toUInt32 >>> (((4 : Int32)).toUInt32 &&& Int32.toUInt32 31)).toInt32)) &&& (252645135 : Int32)) + ((((((((x1 - ((((x1).toUInt32 >>> (((1 : Int32)).toUInt32 &&& Int32.toUInt32 31)).toInt32) &&& (1431655765 : Int32))) &&& (858993459 : Int32)) + (((((x1 - ((((x1).toUInt32 >>> (((1 : Int32)).toUInt32 &&& Int32.toUInt32 31)).toInt32) &&& (1431655765 : Int32)))).toUInt32 >>> (((2 : Int32)).toUInt32 &&& Int32.toUInt32 31)).toInt32) &&& (858993459 : Int32))) + ((((((x1 - ((((x1).toUInt32 >>> (((1 : Int32)).toUInt32 &&& Int32.toUInt32 31)).toInt32) &&& (1431655765 : Int32))) &&& (858993459 : Int32)) + (((((x1 - ((((x1).toUInt32 >>> (((1 : Int32)).toUInt32 &&& Int32.toUInt32 31)).toInt32) &&& (1431655765 : Int32)))).toUInt32 >>> (((2 : Int32)).toUInt32 &&& Int32.toUInt32 31)).toInt32) &&& (858993459 : Int32)))).toUInt32 >>> (((4 : Int32)).toUInt32 &&& Int32.toUInt32 31)).toInt32)) &&& (252645135 : Int32))).toUInt32 >>> (((8 : Int32)).toUInt32 &&& Int32.toUInt32 31)).toInt32))).toUInt32 >>> (((16 : Int32)).toUInt32 &&& Int32.toUInt32 31)).toInt32)) &&& (63 : Int32))))
set_option maxHeartbeats 4000000 in
set_option maxRecDepth 100000 in
theorem c_J6_bitCount_0f7a4 (l : Launch) (G : zG) (x1 : Int32) (rv : Int32) (h : fJ6_bitCount_0f7a4 x1 = some rv) : zC l yJ6_bitCount_0f7a4 wsJ6_bitCount_0f7a4 0 0 G [.int x1] (w_J6_bitCount_0f7a4 G ) (some (.int rv)) (w_J6_bitCount_0f7a4 G ) := by
  refine fun sz => Met.ofW (cc := cJ6_bitCount_0f7a4) (maxL := 1) (ret := (some .int)) (by decide) rfl ?_
  intro p e s m args below meth c s₁ B hml hv
  obtain ⟨rfl, hsz, hP, hK, hD0, hE⟩ := hv
  have hx := B.exec
  have hb := B.bytes
  have hr := B.returns
  have hts := atoms_spec (ws := wsJ6_bitCount_0f7a4) B.pre
  have hown : s.vm.findClass RJ6 = some m.cls := findClass_of_methodNamed B.named
  have hlocks := B.notSynchronized
  subst hsz
  have hD := hD0.self (sz := s.heap.size)
  generalize hAe : va_A (w_J6_bitCount_0f7a4 G ) s.heap.size = A at hD hE ⊢
  have hA : ∀ q : Nat, s.heap.size ≤ q → A q := fun q h => by rw [← hAe]; exact Or.inr h
  have hS : va_S A s.heap s.heap [] := va_S.rf
  have hl := lv_entry ([.int x1]) (n := 1) (Nat.le_of_ble_eq_true rfl)
  rw [lg_entry_eq]
  generalize (lg_sl ([.int x1]) ++ List.replicate (1 - (lg_sl ([.int x1])).length) Slot.unset).toArray = ls at hl ⊢
  have hl : lv_has ls 1 [(0, .int x1)] := hl
  have hP : va_P G.1 vwCl (w_J6_bitCount_0f7a4 G ) s.heap := hP
  rw [fJ6_bitCount_0f7a4] at h
  refine lv_iload_n hx hb dJ6_bitCount_0f7a4_0 rfl (lv_at hl 0 rfl) ?_
  refine lv_iload_n hx hb dJ6_bitCount_0f7a4_1 rfl (lv_at hl 0 rfl) ?_
  refine lv_iconst (v := (1 : Int32)) hx hb dJ6_bitCount_0f7a4_2 (by decide) ?_
  refine lv_iushr (v := (((x1).toUInt32 >>> (((1 : Int32)).toUInt32 &&& Int32.toUInt32 31)).toInt32)) hx hb dJ6_bitCount_0f7a4_3 rfl ?_
  refine lv_ldcw hx hb hown (hts (.constant RJ6 265 (1431655765)) (by decide +kernel)) dJ6_bitCount_0f7a4_4 ?_
  refine lv_iand hx hb dJ6_bitCount_0f7a4_7 ?_
  refine lv_isub hx hb dJ6_bitCount_0f7a4_8 ?_
  refine lv_istore_n (lv' := [(0, .int (x1 - ((((x1).toUInt32 >>> (((1 : Int32)).toUInt32 &&& Int32.toUInt32 31)).toInt32) &&& (1431655765 : Int32))))]) hx hb dJ6_bitCount_0f7a4_9 rfl hl (by decide) rfl (fun ls hl => ?_)
  refine lv_iload_n hx hb dJ6_bitCount_0f7a4_10 rfl (lv_at hl 0 rfl) ?_
  refine lv_ldcw hx hb hown (hts (.constant RJ6 266 (858993459)) (by decide +kernel)) dJ6_bitCount_0f7a4_11 ?_
  refine lv_iand hx hb dJ6_bitCount_0f7a4_14 ?_
  refine lv_iload_n hx hb dJ6_bitCount_0f7a4_15 rfl (lv_at hl 0 rfl) ?_
  refine lv_iconst (v := (2 : Int32)) hx hb dJ6_bitCount_0f7a4_16 (by decide) ?_
  refine lv_iushr (v := ((((x1 - ((((x1).toUInt32 >>> (((1 : Int32)).toUInt32 &&& Int32.toUInt32 31)).toInt32) &&& (1431655765 : Int32)))).toUInt32 >>> (((2 : Int32)).toUInt32 &&& Int32.toUInt32 31)).toInt32)) hx hb dJ6_bitCount_0f7a4_17 rfl ?_
  refine lv_ldcw hx hb hown (hts (.constant RJ6 266 (858993459)) (by decide +kernel)) dJ6_bitCount_0f7a4_18 ?_
  refine lv_iand hx hb dJ6_bitCount_0f7a4_21 ?_
  refine lv_iadd hx hb dJ6_bitCount_0f7a4_22 ?_
  refine lv_istore_n (lv' := [(0, .int (((x1 - ((((x1).toUInt32 >>> (((1 : Int32)).toUInt32 &&& Int32.toUInt32 31)).toInt32) &&& (1431655765 : Int32))) &&& (858993459 : Int32)) + (((((x1 - ((((x1).toUInt32 >>> (((1 : Int32)).toUInt32 &&& Int32.toUInt32 31)).toInt32) &&& (1431655765 : Int32)))).toUInt32 >>> (((2 : Int32)).toUInt32 &&& Int32.toUInt32 31)).toInt32) &&& (858993459 : Int32))))]) hx hb dJ6_bitCount_0f7a4_23 rfl hl (by decide) rfl (fun ls hl => ?_)
  refine lv_iload_n hx hb dJ6_bitCount_0f7a4_24 rfl (lv_at hl 0 rfl) ?_
  refine lv_iload_n hx hb dJ6_bitCount_0f7a4_25 rfl (lv_at hl 0 rfl) ?_
  refine lv_iconst (v := (4 : Int32)) hx hb dJ6_bitCount_0f7a4_26 (by decide) ?_
  refine lv_iushr (v := ((((((x1 - ((((x1).toUInt32 >>> (((1 : Int32)).toUInt32 &&& Int32.toUInt32 31)).toInt32) &&& (1431655765 : Int32))) &&& (858993459 : Int32)) + (((((x1 - ((((x1).toUInt32 >>> (((1 : Int32)).toUInt32 &&& Int32.toUInt32 31)).toInt32) &&& (1431655765 : Int32)))).toUInt32 >>> (((2 : Int32)).toUInt32 &&& Int32.toUInt32 31)).toInt32) &&& (858993459 : Int32)))).toUInt32 >>> (((4 : Int32)).toUInt32 &&& Int32.toUInt32 31)).toInt32)) hx hb dJ6_bitCount_0f7a4_27 rfl ?_
  refine lv_iadd hx hb dJ6_bitCount_0f7a4_28 ?_
  refine lv_ldcw hx hb hown (hts (.constant RJ6 267 (252645135)) (by decide +kernel)) dJ6_bitCount_0f7a4_29 ?_
  refine lv_iand hx hb dJ6_bitCount_0f7a4_32 ?_
  refine lv_istore_n (lv' := [(0, .int (((((x1 - ((((x1).toUInt32 >>> (((1 : Int32)).toUInt32 &&& Int32.toUInt32 31)).toInt32) &&& (1431655765 : Int32))) &&& (858993459 : Int32)) + (((((x1 - ((((x1).toUInt32 >>> (((1 : Int32)).toUInt32 &&& Int32.toUInt32 31)).toInt32) &&& (1431655765 : Int32)))).toUInt32 >>> (((2 : Int32)).toUInt32 &&& Int32.toUInt32 31)).toInt32) &&& (858993459 : Int32))) + ((((((x1 - ((((x1).toUInt32 >>> (((1 : Int32)).toUInt32 &&& Int32.toUInt32 31)).toInt32) &&& (1431655765 : Int32))) &&& (858993459 : Int32)) + (((((x1 - ((((x1).toUInt32 >>> (((1 : Int32)).toUInt32 &&& Int32.toUInt32 31)).toInt32) &&& (1431655765 : Int32)))).toUInt32 >>> (((2 : Int32)).toUInt32 &&& Int32.toUInt32 31)).toInt32) &&& (858993459 : Int32)))).toUInt32 >>> (((4 : Int32)).toUInt32 &&& Int32.toUInt32 31)).toInt32)) &&& (252645135 : Int32)))]) hx hb dJ6_bitCount_0f7a4_33 rfl hl (by decide) rfl (fun ls hl => ?_)
  refine lv_iload_n hx hb dJ6_bitCount_0f7a4_34 rfl (lv_at hl 0 rfl) ?_
  refine lv_iload_n hx hb dJ6_bitCount_0f7a4_35 rfl (lv_at hl 0 rfl) ?_
  refine lv_bipush (v := (8 : Int32)) hx hb dJ6_bitCount_0f7a4_36 (by decide) ?_
  refine lv_iushr (v := ((((((((x1 - ((((x1).toUInt32 >>> (((1 : Int32)).toUInt32 &&& Int32.toUInt32 31)).toInt32) &&& (1431655765 : Int32))) &&& (858993459 : Int32)) + (((((x1 - ((((x1).toUInt32 >>> (((1 : Int32)).toUInt32 &&& Int32.toUInt32 31)).toInt32) &&& (1431655765 : Int32)))).toUInt32 >>> (((2 : Int32)).toUInt32 &&& Int32.toUInt32 31)).toInt32) &&& (858993459 : Int32))) + ((((((x1 - ((((x1).toUInt32 >>> (((1 : Int32)).toUInt32 &&& Int32.toUInt32 31)).toInt32) &&& (1431655765 : Int32))) &&& (858993459 : Int32)) + (((((x1 - ((((x1).toUInt32 >>> (((1 : Int32)).toUInt32 &&& Int32.toUInt32 31)).toInt32) &&& (1431655765 : Int32)))).toUInt32 >>> (((2 : Int32)).toUInt32 &&& Int32.toUInt32 31)).toInt32) &&& (858993459 : Int32)))).toUInt32 >>> (((4 : Int32)).toUInt32 &&& Int32.toUInt32 31)).toInt32)) &&& (252645135 : Int32))).toUInt32 >>> (((8 : Int32)).toUInt32 &&& Int32.toUInt32 31)).toInt32)) hx hb dJ6_bitCount_0f7a4_38 rfl ?_
  refine lv_iadd hx hb dJ6_bitCount_0f7a4_39 ?_
  refine lv_istore_n (lv' := [(0, .int ((((((x1 - ((((x1).toUInt32 >>> (((1 : Int32)).toUInt32 &&& Int32.toUInt32 31)).toInt32) &&& (1431655765 : Int32))) &&& (858993459 : Int32)) + (((((x1 - ((((x1).toUInt32 >>> (((1 : Int32)).toUInt32 &&& Int32.toUInt32 31)).toInt32) &&& (1431655765 : Int32)))).toUInt32 >>> (((2 : Int32)).toUInt32 &&& Int32.toUInt32 31)).toInt32) &&& (858993459 : Int32))) + ((((((x1 - ((((x1).toUInt32 >>> (((1 : Int32)).toUInt32 &&& Int32.toUInt32 31)).toInt32) &&& (1431655765 : Int32))) &&& (858993459 : Int32)) + (((((x1 - ((((x1).toUInt32 >>> (((1 : Int32)).toUInt32 &&& Int32.toUInt32 31)).toInt32) &&& (1431655765 : Int32)))).toUInt32 >>> (((2 : Int32)).toUInt32 &&& Int32.toUInt32 31)).toInt32) &&& (858993459 : Int32)))).toUInt32 >>> (((4 : Int32)).toUInt32 &&& Int32.toUInt32 31)).toInt32)) &&& (252645135 : Int32)) + ((((((((x1 - ((((x1).toUInt32 >>> (((1 : Int32)).toUInt32 &&& Int32.toUInt32 31)).toInt32) &&& (1431655765 : Int32))) &&& (858993459 : Int32)) + (((((x1 - ((((x1).toUInt32 >>> (((1 : Int32)).toUInt32 &&& Int32.toUInt32 31)).toInt32) &&& (1431655765 : Int32)))).toUInt32 >>> (((2 : Int32)).toUInt32 &&& Int32.toUInt32 31)).toInt32) &&& (858993459 : Int32))) + ((((((x1 - ((((x1).toUInt32 >>> (((1 : Int32)).toUInt32 &&& Int32.toUInt32 31)).toInt32) &&& (1431655765 : Int32))) &&& (858993459 : Int32)) + (((((x1 - ((((x1).toUInt32 >>> (((1 : Int32)).toUInt32 &&& Int32.toUInt32 31)).toInt32) &&& (1431655765 : Int32)))).toUInt32 >>> (((2 : Int32)).toUInt32 &&& Int32.toUInt32 31)).toInt32) &&& (858993459 : Int32)))).toUInt32 >>> (((4 : Int32)).toUInt32 &&& Int32.toUInt32 31)).toInt32)) &&& (252645135 : Int32))).toUInt32 >>> (((8 : Int32)).toUInt32 &&& Int32.toUInt32 31)).toInt32)))]) hx hb dJ6_bitCount_0f7a4_40 rfl hl (by decide) rfl (fun ls hl => ?_)
  refine lv_iload_n hx hb dJ6_bitCount_0f7a4_41 rfl (lv_at hl 0 rfl) ?_
  refine lv_iload_n hx hb dJ6_bitCount_0f7a4_42 rfl (lv_at hl 0 rfl) ?_
  refine lv_bipush (v := (16 : Int32)) hx hb dJ6_bitCount_0f7a4_43 (by decide) ?_
  refine lv_iushr (v := (((((((((x1 - ((((x1).toUInt32 >>> (((1 : Int32)).toUInt32 &&& Int32.toUInt32 31)).toInt32) &&& (1431655765 : Int32))) &&& (858993459 : Int32)) + (((((x1 - ((((x1).toUInt32 >>> (((1 : Int32)).toUInt32 &&& Int32.toUInt32 31)).toInt32) &&& (1431655765 : Int32)))).toUInt32 >>> (((2 : Int32)).toUInt32 &&& Int32.toUInt32 31)).toInt32) &&& (858993459 : Int32))) + ((((((x1 - ((((x1).toUInt32 >>> (((1 : Int32)).toUInt32 &&& Int32.toUInt32 31)).toInt32) &&& (1431655765 : Int32))) &&& (858993459 : Int32)) + (((((x1 - ((((x1).toUInt32 >>> (((1 : Int32)).toUInt32 &&& Int32.toUInt32 31)).toInt32) &&& (1431655765 : Int32)))).toUInt32 >>> (((2 : Int32)).toUInt32 &&& Int32.toUInt32 31)).toInt32) &&& (858993459 : Int32)))).toUInt32 >>> (((4 : Int32)).toUInt32 &&& Int32.toUInt32 31)).toInt32)) &&& (252645135 : Int32)) + ((((((((x1 - ((((x1).toUInt32 >>> (((1 : Int32)).toUInt32 &&& Int32.toUInt32 31)).toInt32) &&& (1431655765 : Int32))) &&& (858993459 : Int32)) + (((((x1 - ((((x1).toUInt32 >>> (((1 : Int32)).toUInt32 &&& Int32.toUInt32 31)).toInt32) &&& (1431655765 : Int32)))).toUInt32 >>> (((2 : Int32)).toUInt32 &&& Int32.toUInt32 31)).toInt32) &&& (858993459 : Int32))) + ((((((x1 - ((((x1).toUInt32 >>> (((1 : Int32)).toUInt32 &&& Int32.toUInt32 31)).toInt32) &&& (1431655765 : Int32))) &&& (858993459 : Int32)) + (((((x1 - ((((x1).toUInt32 >>> (((1 : Int32)).toUInt32 &&& Int32.toUInt32 31)).toInt32) &&& (1431655765 : Int32)))).toUInt32 >>> (((2 : Int32)).toUInt32 &&& Int32.toUInt32 31)).toInt32) &&& (858993459 : Int32)))).toUInt32 >>> (((4 : Int32)).toUInt32 &&& Int32.toUInt32 31)).toInt32)) &&& (252645135 : Int32))).toUInt32 >>> (((8 : Int32)).toUInt32 &&& Int32.toUInt32 31)).toInt32))).toUInt32 >>> (((16 : Int32)).toUInt32 &&& Int32.toUInt32 31)).toInt32)) hx hb dJ6_bitCount_0f7a4_45 rfl ?_
  refine lv_iadd hx hb dJ6_bitCount_0f7a4_46 ?_
  refine lv_istore_n (lv' := [(0, .int (((((((x1 - ((((x1).toUInt32 >>> (((1 : Int32)).toUInt32 &&& Int32.toUInt32 31)).toInt32) &&& (1431655765 : Int32))) &&& (858993459 : Int32)) + (((((x1 - ((((x1).toUInt32 >>> (((1 : Int32)).toUInt32 &&& Int32.toUInt32 31)).toInt32) &&& (1431655765 : Int32)))).toUInt32 >>> (((2 : Int32)).toUInt32 &&& Int32.toUInt32 31)).toInt32) &&& (858993459 : Int32))) + ((((((x1 - ((((x1).toUInt32 >>> (((1 : Int32)).toUInt32 &&& Int32.toUInt32 31)).toInt32) &&& (1431655765 : Int32))) &&& (858993459 : Int32)) + (((((x1 - ((((x1).toUInt32 >>> (((1 : Int32)).toUInt32 &&& Int32.toUInt32 31)).toInt32) &&& (1431655765 : Int32)))).toUInt32 >>> (((2 : Int32)).toUInt32 &&& Int32.toUInt32 31)).toInt32) &&& (858993459 : Int32)))).toUInt32 >>> (((4 : Int32)).toUInt32 &&& Int32.toUInt32 31)).toInt32)) &&& (252645135 : Int32)) + ((((((((x1 - ((((x1).toUInt32 >>> (((1 : Int32)).toUInt32 &&& Int32.toUInt32 31)).toInt32) &&& (1431655765 : Int32))) &&& (858993459 : Int32)) + (((((x1 - ((((x1).toUInt32 >>> (((1 : Int32)).toUInt32 &&& Int32.toUInt32 31)).toInt32) &&& (1431655765 : Int32)))).toUInt32 >>> (((2 : Int32)).toUInt32 &&& Int32.toUInt32 31)).toInt32) &&& (858993459 : Int32))) + ((((((x1 - ((((x1).toUInt32 >>> (((1 : Int32)).toUInt32 &&& Int32.toUInt32 31)).toInt32) &&& (1431655765 : Int32))) &&& (858993459 : Int32)) + (((((x1 - ((((x1).toUInt32 >>> (((1 : Int32)).toUInt32 &&& Int32.toUInt32 31)).toInt32) &&& (1431655765 : Int32)))).toUInt32 >>> (((2 : Int32)).toUInt32 &&& Int32.toUInt32 31)).toInt32) &&& (858993459 : Int32)))).toUInt32 >>> (((4 : Int32)).toUInt32 &&& Int32.toUInt32 31)).toInt32)) &&& (252645135 : Int32))).toUInt32 >>> (((8 : Int32)).toUInt32 &&& Int32.toUInt32 31)).toInt32)) + (((((((((x1 - ((((x1).toUInt32 >>> (((1 : Int32)).toUInt32 &&& Int32.toUInt32 31)).toInt32) &&& (1431655765 : Int32))) &&& (858993459 : Int32)) + (((((x1 - ((((x1).toUInt32 >>> (((1 : Int32)).toUInt32 &&& Int32.toUInt32 31)).toInt32) &&& (1431655765 : Int32)))).toUInt32 >>> (((2 : Int32)).toUInt32 &&& Int32.toUInt32 31)).toInt32) &&& (858993459 : Int32))) + ((((((x1 - ((((x1).toUInt32 >>> (((1 : Int32)).toUInt32 &&& Int32.toUInt32 31)).toInt32) &&& (1431655765 : Int32))) &&& (858993459 : Int32)) + (((((x1 - ((((x1).toUInt32 >>> (((1 : Int32)).toUInt32 &&& Int32.toUInt32 31)).toInt32) &&& (1431655765 : Int32)))).toUInt32 >>> (((2 : Int32)).toUInt32 &&& Int32.toUInt32 31)).toInt32) &&& (858993459 : Int32)))).toUInt32 >>> (((4 : Int32)).toUInt32 &&& Int32.toUInt32 31)).toInt32)) &&& (252645135 : Int32)) + ((((((((x1 - ((((x1).toUInt32 >>> (((1 : Int32)).toUInt32 &&& Int32.toUInt32 31)).toInt32) &&& (1431655765 : Int32))) &&& (858993459 : Int32)) + (((((x1 - ((((x1).toUInt32 >>> (((1 : Int32)).toUInt32 &&& Int32.toUInt32 31)).toInt32) &&& (1431655765 : Int32)))).toUInt32 >>> (((2 : Int32)).toUInt32 &&& Int32.toUInt32 31)).toInt32) &&& (858993459 : Int32))) + ((((((x1 - ((((x1).toUInt32 >>> (((1 : Int32)).toUInt32 &&& Int32.toUInt32 31)).toInt32) &&& (1431655765 : Int32))) &&& (858993459 : Int32)) + (((((x1 - ((((x1).toUInt32 >>> (((1 : Int32)).toUInt32 &&& Int32.toUInt32 31)).toInt32) &&& (1431655765 : Int32)))).toUInt32 >>> (((2 : Int32)).toUInt32 &&& Int32.toUInt32 31)).toInt32) &&& (858993459 : Int32)))).toUInt32 >>> (((4 : Int32)).toUInt32 &&& Int32.toUInt32 31)).toInt32)) &&& (252645135 : Int32))).toUInt32 >>> (((8 : Int32)).toUInt32 &&& Int32.toUInt32 31)).toInt32))).toUInt32 >>> (((16 : Int32)).toUInt32 &&& Int32.toUInt32 31)).toInt32)))]) hx hb dJ6_bitCount_0f7a4_47 rfl hl (by decide) rfl (fun ls hl => ?_)
  refine lv_iload_n hx hb dJ6_bitCount_0f7a4_48 rfl (lv_at hl 0 rfl) ?_
  refine lv_bipush (v := (63 : Int32)) hx hb dJ6_bitCount_0f7a4_49 (by decide) ?_
  refine lv_iand hx hb dJ6_bitCount_0f7a4_51 ?_
  cases h
  exact W.iret hx hb hr (fun t9 ht9 _ => zend hP hD hS ht9) hS.2.2 dJ6_bitCount_0f7a4_52
abbrev w_X1_originOf (G : zG) (a : Nat) (a_slips : Nat) (v_count : Int32) (f_slips : (Nat → Int32)) : va_W := [(a, .inr (1, [.ref a_slips, .int v_count])), (a_slips, .inl (zCI G, 8, .inl f_slips))]
def fX1_originOf_L8 (fu : Nat) (l1_8 : Int32) (v_count_8 : Int32) (f_slips_8 : (Nat → Int32)) (K : Int32 → Option Int32) : Nat → Int32 → Int32 → Int32 → Option Int32
  | 0, _, _, _ => none
  | n + 1, l2_8, l3_8, l4_8 => (if v_count_8 ≤ l4_8 then (K l2_8) else (zb1 (fX1_canComeOf f_slips_8 l1_8 l4_8) (fun (y21 : Int32) => (if y21 = (0 : Int32) then (fX1_originOf_L8 fu l1_8 v_count_8 f_slips_8 K n l2_8 l3_8 (l4_8 + (1 : Int32))) else (if zin l4_8 8 then (zb1 (fJ6_bitCount_0f7a4 (f_slips_8 (l4_8).toNatClampNeg)) (fun (y34 : Int32) => (if y34 ≤ l3_8 then (fX1_originOf_L8 fu l1_8 v_count_8 f_slips_8 K n l2_8 l3_8 (l4_8 + (1 : Int32))) else (zb1 (fJ6_bitCount_0f7a4 (f_slips_8 (l4_8).toNatClampNeg)) (fun (y48 : Int32) => (fX1_originOf_L8 fu l1_8 v_count_8 f_slips_8 K n l4_8 y48 (l4_8 + (1 : Int32)))))))) else none)))))
def fX1_originOf (fu : Nat) (v_count : Int32) (f_slips : (Nat → Int32)) (x1 : Int32) : Option Int32 := (fX1_originOf_L8 fu x1 v_count f_slips (fun (l2_8e : Int32) => (some (l2_8e))) fu ((-9) : Int32) ((-1) : Int32) (0 : Int32))
theorem in_X1_originOf_X1 : ∀ w ∈ wsX10, w ∈ wsX1_originOf := by decide +kernel
set_option maxHeartbeats 4000000 in
set_option maxRecDepth 100000 in
theorem c_X1_originOf (l : Launch) (G : zG) (fu : Nat) (a : Nat) (a_slips : Nat) (v_count : Int32) (f_slips : (Nat → Int32)) (x1 : Int32) (rv : Int32) (h : fX1_originOf fu v_count f_slips x1 = some rv) : zC l yX1_originOf wsX1_originOf 1 22 G [.ref a, .int x1] (w_X1_originOf G a a_slips v_count f_slips) (some (.int rv)) (w_X1_originOf G a a_slips v_count f_slips) := by
  refine fun sz => Met.ofW (cc := cX1_originOf) (maxL := 5) (ret := (some .int)) (by decide) rfl ?_
  intro p e s m args below meth c s₁ B hml hv
  obtain ⟨rfl, hsz, hP, hK, hD0, hE⟩ := hv
  have hx := B.exec
  have hb := B.bytes
  have hr := B.returns
  have hts := atoms_spec (ws := wsX1_originOf) B.pre
  have hown : s.vm.findClass RX1 = some m.cls := findClass_of_methodNamed B.named
  have hlocks := B.notSynchronized
  subst hsz
  have hD := hD0.self (sz := s.heap.size)
  generalize hAe : va_A (w_X1_originOf G a a_slips v_count f_slips) s.heap.size = A at hD hE ⊢
  have hA : ∀ q : Nat, s.heap.size ≤ q → A q := fun q h => by rw [← hAe]; exact Or.inr h
  have hS : va_S A s.heap s.heap [] := va_S.rf
  have hl := lv_entry ([.ref a, .int x1]) (n := 5) (Nat.le_of_ble_eq_true rfl)
  rw [lg_entry_eq]
  generalize (lg_sl ([.ref a, .int x1]) ++ List.replicate (5 - (lg_sl ([.ref a, .int x1])).length) Slot.unset).toArray = ls at hl ⊢
  have hl : lv_has ls 5 [(0, .ref a), (1, .int x1)] := hl
  have hP : va_P G.1 vwCl (w_X1_originOf G a a_slips v_count f_slips) s.heap := hP
  rw [fX1_originOf] at h
  refine lv_bipush (v := ((-9) : Int32)) hx hb dX1_originOf_0 (by decide) ?_
  refine lv_istore_n (lv' := [(2, .int ((-9) : Int32)), (0, .ref a), (1, .int x1)]) hx hb dX1_originOf_2 rfl hl (by decide) rfl (fun ls hl => ?_)
  refine lv_iconst (v := ((-1) : Int32)) hx hb dX1_originOf_3 (by decide) ?_
  refine lv_istore_n (lv' := [(3, .int ((-1) : Int32)), (2, .int ((-9) : Int32)), (0, .ref a), (1, .int x1)]) hx hb dX1_originOf_4 rfl hl (by decide) rfl (fun ls hl => ?_)
  refine lv_iconst (v := (0 : Int32)) hx hb dX1_originOf_5 (by decide) ?_
  refine lv_istore (lv' := [(4, .int (0 : Int32)), (3, .int ((-1) : Int32)), (2, .int ((-9) : Int32)), (0, .ref a), (1, .int x1)]) hx hb dX1_originOf_6 hl (by decide) rfl (fun ls hl => ?_)
  have loop_8 : ∀ (n : Nat) (K : Int32 → Option Int32) (l2_8 : Int32) (l3_8 : Int32) (l4_8 : Int32) (H : Heap) (locs : List Loc) (ls : Array Slot), fX1_originOf_L8 fu x1 v_count f_slips K n l2_8 l3_8 l4_8 = some rv → (∀ (l2_8e : Int32) (H : Heap) (locs : List Loc) (ls : Array Slot), K l2_8e = some rv → va_P G.1 vwCl (w_X1_originOf G a a_slips v_count f_slips) H → va_D A (w_X1_originOf G a a_slips v_count f_slips) → va_S A s.heap H locs → lv_has ls 5 [(2, .int l2_8e)] → W p l e (headSpec wsX1_originOf { frames := 1, cells := 0, slots := 0, locals := 22 }).room s m ([.ref a, .int x1] : List Value).toArray below meth c H locs 0 0 (MQ below (zQ (some (.int rv)) G (w_X1_originOf G a a_slips v_count f_slips) A) ([.ref a, .int x1] : List Value).toArray s 0 0 A) (F0 m 61 ls [])) → va_P G.1 vwCl (w_X1_originOf G a a_slips v_count f_slips) H → va_D A (w_X1_originOf G a a_slips v_count f_slips) → va_S A s.heap H locs → lv_has ls 5 [(0, .ref a), (1, .int x1), (2, .int l2_8), (3, .int l3_8), (4, .int l4_8)] → W p l e (headSpec wsX1_originOf { frames := 1, cells := 0, slots := 0, locals := 22 }).room s m ([.ref a, .int x1] : List Value).toArray below meth c H locs 0 0 (MQ below (zQ (some (.int rv)) G (w_X1_originOf G a a_slips v_count f_slips) A) ([.ref a, .int x1] : List Value).toArray s 0 0 A) (F0 m 8 ls []) := by
    intro n
    induction n with
    | zero => intro K l2_8 l3_8 l4_8 H locs ls h; rw [fX1_originOf_L8] at h; cases h
    | succ n ih =>
      intro K l2_8 l3_8 l4_8 H locs ls h hk hP hD hS hl
      rw [fX1_originOf_L8] at h
      refine lv_iload hx hb dX1_originOf_8 (lv_at hl 4 rfl) ?_
      refine lv_aload_n hx hb dX1_originOf_10 rfl (lv_at hl 0 rfl) ?_
      refine va_get (D := G.1) (ci := 1) (v := .int v_count) (C := RX1) (T := TX1) (N := 2) hx hb hts in_X1_originOf_X1 hown hK.1 hP 0 rfl rfl 1 (by decide) (hts (.fieldLink RX1 15 "NineHands$Copies" "count" "I") (by decide +kernel)) (fun _ h9 => h9) rfl dX1_originOf_11 ?_
      refine lv_icmp_ge (tgt := 61) hx hb dX1_originOf_14 (by decide) (fun c14 => ?_) (fun c14 => ?_)
      · have h := zt c14 h
        exact hk _ _ _ _ h hP hD hS (lv_sub hl [2] rfl)
      · have h := zf c14 h
        refine lv_aload_n hx hb dX1_originOf_17 rfl (lv_at hl 0 rfl) ?_
        refine lv_iload_n hx hb dX1_originOf_18 rfl (lv_at hl 1 rfl) ?_
        refine lv_iload hx hb dX1_originOf_19 (lv_at hl 4 rfl) ?_
        obtain ⟨y21, hc21, h⟩ := zb1_e h
        refine zcV (As := [.int x1, .int l4_8]) (rest := []) (ws' := (w_X1_originOf G a a_slips v_count f_slips)) (st1 := [.int y21]) ⟨hx, hb, hml, hown, hts⟩ (c_X1_canComeOf l G a a_slips v_count f_slips x1 l4_8 y21 hc21) (cwV 2 hts gX1_originOf_X1_canComeOf rfl rfl rfl (by decide +kernel) ⟨Nat.le_of_ble_eq_true rfl, Nat.le_of_ble_eq_true rfl⟩) hK hE hP hD hS hA [0, 1] rfl rfl 0 1 rfl rfl rfl rfl rfl rfl hl.1 rfl (Nat.le_of_ble_eq_true rfl) dX1_originOf_21 (Nat.zero_le _) (Nat.zero_le _) rfl (fun H locs hP hD hS => ?_)
        refine lv_if_eq (tgt := 55) hx hb dX1_originOf_24 (by decide) (fun c24 => ?_) (fun c24 => ?_)
        · have h := zt c24 h
          refine lv_iinc (v := (l4_8 + (1 : Int32))) (lv' := [(4, .int (l4_8 + (1 : Int32))), (0, .ref a), (1, .int x1), (2, .int l2_8), (3, .int l3_8)]) hx hb dX1_originOf_55 hl (k := 4) rfl rfl (by decide) rfl (fun ls hl => ?_)
          refine lv_goto (tgt := 8) hx hb dX1_originOf_58 (by decide) ?_
          exact ih K _ _ _ _ _ _ h hk hP hD hS (lv_sub hl [1, 2, 3, 4, 0] rfl)
        · have h := zf c24 h
          refine lv_aload_n hx hb dX1_originOf_27 rfl (lv_at hl 0 rfl) ?_
          refine va_get (D := G.1) (ci := 1) (v := .ref a_slips) (C := RX1) (T := TX1) (N := 2) hx hb hts in_X1_originOf_X1 hown hK.1 hP 0 rfl rfl 0 (by decide) (hts (.fieldLink RX1 9 "NineHands$Copies" "slips" "[I") (by decide +kernel)) (fun _ h9 => h9) rfl dX1_originOf_28 ?_
          refine lv_iload hx hb dX1_originOf_31 (lv_at hl 4 rfl) ?_
          obtain ⟨g33, h⟩ := zg h
          refine zald hx hb hK.1 hP 1 0 rfl rfl g33 (j := (l4_8).toNatClampNeg) rfl dX1_originOf_33 ?_
          obtain ⟨y34, hc34, h⟩ := zb1_e h
          refine zcS (As := [.int (f_slips (l4_8).toNatClampNeg)]) (rest := []) (ws' := (w_X1_originOf G a a_slips v_count f_slips)) (st1 := [.int y34]) ⟨hx, hb, hml, hown, hts⟩ (c_J6_bitCount_0f7a4 l G (f_slips (l4_8).toNatClampNeg) y34 hc34) (va_cwS 1 hts gX1_originOf_J6_bitCount_0f7a4 rfl rfl rfl (by decide +kernel) ⟨Nat.le_of_ble_eq_true rfl, Nat.le_of_ble_eq_true rfl⟩) hK hE hP hD hS hA [] rfl rfl rfl rfl rfl hl.1 rfl (Nat.le_of_ble_eq_true rfl) dX1_originOf_34 (Nat.zero_le _) (Nat.zero_le _) rfl (fun H locs hP hD hS => ?_)
          refine lv_iload_n hx hb dX1_originOf_37 rfl (lv_at hl 3 rfl) ?_
          refine lv_icmp_le (tgt := 55) hx hb dX1_originOf_38 (by decide) (fun c38 => ?_) (fun c38 => ?_)
          · have h := zt c38 h
            refine lv_iinc (v := (l4_8 + (1 : Int32))) (lv' := [(4, .int (l4_8 + (1 : Int32))), (0, .ref a), (1, .int x1), (2, .int l2_8), (3, .int l3_8)]) hx hb dX1_originOf_55 hl (k := 4) rfl rfl (by decide) rfl (fun ls hl => ?_)
            refine lv_goto (tgt := 8) hx hb dX1_originOf_58 (by decide) ?_
            exact ih K _ _ _ _ _ _ h hk hP hD hS (lv_sub hl [1, 2, 3, 4, 0] rfl)
          · have h := zf c38 h
            refine lv_aload_n hx hb dX1_originOf_41 rfl (lv_at hl 0 rfl) ?_
            refine va_get (D := G.1) (ci := 1) (v := .ref a_slips) (C := RX1) (T := TX1) (N := 2) hx hb hts in_X1_originOf_X1 hown hK.1 hP 0 rfl rfl 0 (by decide) (hts (.fieldLink RX1 9 "NineHands$Copies" "slips" "[I") (by decide +kernel)) (fun _ h9 => h9) rfl dX1_originOf_42 ?_
            refine lv_iload hx hb dX1_originOf_45 (lv_at hl 4 rfl) ?_
            refine zald hx hb hK.1 hP 1 0 rfl rfl g33 (j := (l4_8).toNatClampNeg) rfl dX1_originOf_47 ?_
            obtain ⟨y48, hc48, h⟩ := zb1_e h
            refine zcS (As := [.int (f_slips (l4_8).toNatClampNeg)]) (rest := []) (ws' := (w_X1_originOf G a a_slips v_count f_slips)) (st1 := [.int y48]) ⟨hx, hb, hml, hown, hts⟩ (c_J6_bitCount_0f7a4 l G (f_slips (l4_8).toNatClampNeg) y48 hc48) (va_cwS 1 hts gX1_originOf_J6_bitCount_0f7a4 rfl rfl rfl (by decide +kernel) ⟨Nat.le_of_ble_eq_true rfl, Nat.le_of_ble_eq_true rfl⟩) hK hE hP hD hS hA [] rfl rfl rfl rfl rfl hl.1 rfl (Nat.le_of_ble_eq_true rfl) dX1_originOf_48 (Nat.zero_le _) (Nat.zero_le _) rfl (fun H locs hP hD hS => ?_)
            refine lv_istore_n (lv' := [(3, .int y48), (0, .ref a), (1, .int x1), (2, .int l2_8), (4, .int l4_8)]) hx hb dX1_originOf_51 rfl hl (by decide) rfl (fun ls hl => ?_)
            refine lv_iload hx hb dX1_originOf_52 (lv_at hl 4 rfl) ?_
            refine lv_istore_n (lv' := [(2, .int l4_8), (3, .int y48), (0, .ref a), (1, .int x1), (4, .int l4_8)]) hx hb dX1_originOf_54 rfl hl (by decide) rfl (fun ls hl => ?_)
            refine lv_iinc (v := (l4_8 + (1 : Int32))) (lv' := [(4, .int (l4_8 + (1 : Int32))), (2, .int l4_8), (3, .int y48), (0, .ref a), (1, .int x1)]) hx hb dX1_originOf_55 hl (k := 4) rfl rfl (by decide) rfl (fun ls hl => ?_)
            refine lv_goto (tgt := 8) hx hb dX1_originOf_58 (by decide) ?_
            exact ih K _ _ _ _ _ _ h hk hP hD hS (lv_sub hl [3, 4, 1, 2, 0] rfl)
  refine loop_8 fu _ _ _ _ _ _ _ h (fun l2_8e H locs ls h hP hD hS hl => ?_) hP hD hS (lv_sub hl [3, 4, 2, 1, 0] rfl)
  refine lv_iload_n hx hb dX1_originOf_61 rfl (lv_at hl 0 rfl) ?_
  cases h
  exact W.iret hx hb hr (fun t9 ht9 _ => zend hP hD hS ht9) hS.2.2 dX1_originOf_62
abbrev w_X1_depthOf (G : zG) (a : Nat) (a_slips : Nat) (v_count : Int32) (f_slips : (Nat → Int32)) : va_W := [(a, .inr (1, [.ref a_slips, .int v_count])), (a_slips, .inl (zCI G, 8, .inl f_slips))]
def fX1_depthOf_L8 (fu : Nat) (v_count_8 : Int32) (f_slips_8 : (Nat → Int32)) (K : Int32 → Option Int32) : Nat → Int32 → Int32 → Option Int32
  | 0, _, _ => none
  | n + 1, l2_8, l3_8 => (if l3_8 = ((-9) : Int32) then (K l2_8) else (if (8 : Int32) ≤ l2_8 then (K l2_8) else (zb1 (fX1_originOf fu v_count_8 f_slips_8 l3_8) (fun (y25 : Int32) => (fX1_depthOf_L8 fu v_count_8 f_slips_8 K n (l2_8 + (1 : Int32)) y25)))))
def fX1_depthOf (fu : Nat) (v_count : Int32) (f_slips : (Nat → Int32)) (x1 : Int32) : Option Int32 := (zb1 (fX1_originOf fu v_count f_slips x1) (fun (y4 : Int32) => (fX1_depthOf_L8 fu v_count f_slips (fun (l2_8e : Int32) => (some (l2_8e))) fu (0 : Int32) y4)))
set_option maxHeartbeats 4000000 in
set_option maxRecDepth 100000 in
theorem c_X1_depthOf (l : Launch) (G : zG) (fu : Nat) (a : Nat) (a_slips : Nat) (v_count : Int32) (f_slips : (Nat → Int32)) (x1 : Int32) (rv : Int32) (h : fX1_depthOf fu v_count f_slips x1 = some rv) : zC l yX1_depthOf wsX1_depthOf 2 46 G [.ref a, .int x1] (w_X1_depthOf G a a_slips v_count f_slips) (some (.int rv)) (w_X1_depthOf G a a_slips v_count f_slips) := by
  refine fun sz => Met.ofW (cc := cX1_depthOf) (maxL := 4) (ret := (some .int)) (by decide) rfl ?_
  intro p e s m args below meth c s₁ B hml hv
  obtain ⟨rfl, hsz, hP, hK, hD0, hE⟩ := hv
  have hx := B.exec
  have hb := B.bytes
  have hr := B.returns
  have hts := atoms_spec (ws := wsX1_depthOf) B.pre
  have hown : s.vm.findClass RX1 = some m.cls := findClass_of_methodNamed B.named
  have hlocks := B.notSynchronized
  subst hsz
  have hD := hD0.self (sz := s.heap.size)
  generalize hAe : va_A (w_X1_depthOf G a a_slips v_count f_slips) s.heap.size = A at hD hE ⊢
  have hA : ∀ q : Nat, s.heap.size ≤ q → A q := fun q h => by rw [← hAe]; exact Or.inr h
  have hS : va_S A s.heap s.heap [] := va_S.rf
  have hl := lv_entry ([.ref a, .int x1]) (n := 4) (Nat.le_of_ble_eq_true rfl)
  rw [lg_entry_eq]
  generalize (lg_sl ([.ref a, .int x1]) ++ List.replicate (4 - (lg_sl ([.ref a, .int x1])).length) Slot.unset).toArray = ls at hl ⊢
  have hl : lv_has ls 4 [(0, .ref a), (1, .int x1)] := hl
  have hP : va_P G.1 vwCl (w_X1_depthOf G a a_slips v_count f_slips) s.heap := hP
  rw [fX1_depthOf] at h
  refine lv_iconst (v := (0 : Int32)) hx hb dX1_depthOf_0 (by decide) ?_
  refine lv_istore_n (lv' := [(2, .int (0 : Int32)), (0, .ref a), (1, .int x1)]) hx hb dX1_depthOf_1 rfl hl (by decide) rfl (fun ls hl => ?_)
  refine lv_aload_n hx hb dX1_depthOf_2 rfl (lv_at hl 1 rfl) ?_
  refine lv_iload_n hx hb dX1_depthOf_3 rfl (lv_at hl 2 rfl) ?_
  obtain ⟨y4, hc4, h⟩ := zb1_e h
  refine zcV (As := [.int x1]) (rest := []) (ws' := (w_X1_depthOf G a a_slips v_count f_slips)) (st1 := [.int y4]) ⟨hx, hb, hml, hown, hts⟩ (c_X1_originOf l G fu a a_slips v_count f_slips x1 y4 hc4) (cwV 1 hts gX1_depthOf_X1_originOf rfl rfl rfl (by decide +kernel) ⟨Nat.le_of_ble_eq_true rfl, Nat.le_of_ble_eq_true rfl⟩) hK hE hP hD hS hA [0, 1] rfl rfl 0 1 rfl rfl rfl rfl rfl rfl hl.1 rfl (Nat.le_of_ble_eq_true rfl) dX1_depthOf_4 (Nat.zero_le _) (Nat.zero_le _) rfl (fun H locs hP hD hS => ?_)
  refine lv_istore_n (lv' := [(3, .int y4), (2, .int (0 : Int32)), (0, .ref a), (1, .int x1)]) hx hb dX1_depthOf_7 rfl hl (by decide) rfl (fun ls hl => ?_)
  have loop_8 : ∀ (n : Nat) (K : Int32 → Option Int32) (l2_8 : Int32) (l3_8 : Int32) (H : Heap) (locs : List Loc) (ls : Array Slot), fX1_depthOf_L8 fu v_count f_slips K n l2_8 l3_8 = some rv → (∀ (l2_8e : Int32) (H : Heap) (locs : List Loc) (ls : Array Slot), K l2_8e = some rv → va_P G.1 vwCl (w_X1_depthOf G a a_slips v_count f_slips) H → va_D A (w_X1_depthOf G a a_slips v_count f_slips) → va_S A s.heap H locs → lv_has ls 4 [(2, .int l2_8e)] → W p l e (headSpec wsX1_depthOf { frames := 2, cells := 0, slots := 0, locals := 46 }).room s m ([.ref a, .int x1] : List Value).toArray below meth c H locs 0 0 (MQ below (zQ (some (.int rv)) G (w_X1_depthOf G a a_slips v_count f_slips) A) ([.ref a, .int x1] : List Value).toArray s 0 0 A) (F0 m 32 ls [])) → va_P G.1 vwCl (w_X1_depthOf G a a_slips v_count f_slips) H → va_D A (w_X1_depthOf G a a_slips v_count f_slips) → va_S A s.heap H locs → lv_has ls 4 [(0, .ref a), (2, .int l2_8), (3, .int l3_8)] → W p l e (headSpec wsX1_depthOf { frames := 2, cells := 0, slots := 0, locals := 46 }).room s m ([.ref a, .int x1] : List Value).toArray below meth c H locs 0 0 (MQ below (zQ (some (.int rv)) G (w_X1_depthOf G a a_slips v_count f_slips) A) ([.ref a, .int x1] : List Value).toArray s 0 0 A) (F0 m 8 ls []) := by
    intro n
    induction n with
    | zero => intro K l2_8 l3_8 H locs ls h; rw [fX1_depthOf_L8] at h; cases h
    | succ n ih =>
      intro K l2_8 l3_8 H locs ls h hk hP hD hS hl
      rw [fX1_depthOf_L8] at h
      refine lv_iload_n hx hb dX1_depthOf_8 rfl (lv_at hl 2 rfl) ?_
      refine lv_bipush (v := ((-9) : Int32)) hx hb dX1_depthOf_9 (by decide) ?_
      refine lv_icmp_eq (tgt := 32) hx hb dX1_depthOf_11 (by decide) (fun c11 => ?_) (fun c11 => ?_)
      · have h := zt c11 h
        exact hk _ _ _ _ h hP hD hS (lv_sub hl [1] rfl)
      · have h := zf c11 h
        refine lv_iload_n hx hb dX1_depthOf_14 rfl (lv_at hl 1 rfl) ?_
        refine lv_bipush (v := (8 : Int32)) hx hb dX1_depthOf_15 (by decide) ?_
        refine lv_icmp_ge (tgt := 32) hx hb dX1_depthOf_17 (by decide) (fun c17 => ?_) (fun c17 => ?_)
        · have h := zt c17 h
          exact hk _ _ _ _ h hP hD hS (lv_sub hl [1] rfl)
        · have h := zf c17 h
          refine lv_iinc (v := (l2_8 + (1 : Int32))) (lv' := [(2, .int (l2_8 + (1 : Int32))), (0, .ref a), (3, .int l3_8)]) hx hb dX1_depthOf_20 hl (k := 1) rfl rfl (by decide) rfl (fun ls hl => ?_)
          refine lv_aload_n hx hb dX1_depthOf_23 rfl (lv_at hl 1 rfl) ?_
          refine lv_iload_n hx hb dX1_depthOf_24 rfl (lv_at hl 2 rfl) ?_
          obtain ⟨y25, hc25, h⟩ := zb1_e h
          refine zcV (As := [.int l3_8]) (rest := []) (ws' := (w_X1_depthOf G a a_slips v_count f_slips)) (st1 := [.int y25]) ⟨hx, hb, hml, hown, hts⟩ (c_X1_originOf l G fu a a_slips v_count f_slips l3_8 y25 hc25) (cwV 1 hts gX1_depthOf_X1_originOf rfl rfl rfl (by decide +kernel) ⟨Nat.le_of_ble_eq_true rfl, Nat.le_of_ble_eq_true rfl⟩) hK hE hP hD hS hA [0, 1] rfl rfl 0 1 rfl rfl rfl rfl rfl rfl hl.1 rfl (Nat.le_of_ble_eq_true rfl) dX1_depthOf_25 (Nat.zero_le _) (Nat.zero_le _) rfl (fun H locs hP hD hS => ?_)
          refine lv_istore_n (lv' := [(3, .int y25), (2, .int (l2_8 + (1 : Int32))), (0, .ref a)]) hx hb dX1_depthOf_28 rfl hl (by decide) rfl (fun ls hl => ?_)
          refine lv_goto (tgt := 8) hx hb dX1_depthOf_29 (by decide) ?_
          exact ih K _ _ _ _ _ h hk hP hD hS (lv_sub hl [2, 1, 0] rfl)
  refine loop_8 fu _ _ _ _ _ _ h (fun l2_8e H locs ls h hP hD hS hl => ?_) hP hD hS (lv_sub hl [2, 1, 0] rfl)
  refine lv_iload_n hx hb dX1_depthOf_32 rfl (lv_at hl 0 rfl) ?_
  cases h
  exact W.iret hx hb hr (fun t9 ht9 _ => zend hP hD hS ht9) hS.2.2 dX1_depthOf_33
abbrev w_J0_coder_7d493 (G : zG) : va_W := []
def fJ0_coder_7d493 (si : Nat) : Option Int32 := (some ((0 : Int32)))
set_option maxHeartbeats 4000000 in
set_option maxRecDepth 100000 in
theorem c_J0_coder_7d493 (l : Launch) (G : zG) (si : Nat) (hsi : si < 2) (rv : Int32) (h : fJ0_coder_7d493 si = some rv) : zC l yJ0_coder_7d493 wsJ0_coder_7d493 0 0 G [.ref (G.2.2.1 si)] (w_J0_coder_7d493 G ) (some (.int rv)) (w_J0_coder_7d493 G ) := by
  refine fun sz => Met.ofW (cc := cJ0_coder_7d493) (maxL := 1) (ret := (some .byte)) (by decide) rfl ?_
  intro p e s m args below meth c s₁ B hml hv
  obtain ⟨rfl, hsz, hP, hK, hD0, hE⟩ := hv
  have hx := B.exec
  have hb := B.bytes
  have hr := B.returns
  have hts := atoms_spec (ws := wsJ0_coder_7d493) B.pre
  have hown : s.vm.findClass RJ0 = some m.cls := findClass_of_methodNamed B.named
  have hlocks := B.notSynchronized
  subst hsz
  have hD := hD0.self (sz := s.heap.size)
  generalize hAe : va_A (w_J0_coder_7d493 G ) s.heap.size = A at hD hE ⊢
  have hA : ∀ q : Nat, s.heap.size ≤ q → A q := fun q h => by rw [← hAe]; exact Or.inr h
  have hS : va_S A s.heap s.heap [] := va_S.rf
  have hl := lv_entry ([.ref (G.2.2.1 si)]) (n := 1) (Nat.le_of_ble_eq_true rfl)
  rw [lg_entry_eq]
  generalize (lg_sl ([.ref (G.2.2.1 si)]) ++ List.replicate (1 - (lg_sl ([.ref (G.2.2.1 si)])).length) Slot.unset).toArray = ls at hl ⊢
  have hl : lv_has ls 1 [(0, .ref (G.2.2.1 si))] := hl
  have hP : va_P G.1 vwCl (w_J0_coder_7d493 G ) s.heap := hP
  rw [fJ0_coder_7d493] at h
  refine va_gets hx hb hE.2.1 hS hown (hts (.fieldLink RJ0 38 "java/lang/String" "COMPACT_STRINGS" "Z") (by decide +kernel)) (fun _ h9 => h9) dJ0_coder_7d493_0 ?_
  refine lv_if_eq (tgt := 13) hx hb dJ0_coder_7d493_3 (by decide) (fun c3 => absurd c3 (by decide)) (fun _ => ?_)
  refine lv_aload_n hx hb dJ0_coder_7d493_6 rfl (lv_at hl 0 rfl) ?_
  refine vk_getf hx hb (hE.1.1 si hsi).2.1 hS hown (hts (.fieldLink RJ0 15 "java/lang/String" "coder" "B") (by decide +kernel)) (fun _ h9 => h9) dJ0_coder_7d493_7 ?_
  refine lv_goto (tgt := 14) hx hb dJ0_coder_7d493_10 (by decide) ?_
  cases h
  exact W.zret (ty := .byte) hx hb hr rfl (fun t9 ht9 _ => zend hP hD hS ht9) hS.2.2 dJ0_coder_7d493_14
abbrev w_J0_length_8abf5 (G : zG) : va_W := []
def fJ0_length_8abf5 (si : Nat) : Option Int32 := (zb1 (fJ0_coder_7d493 si) (fun (y6 : Int32) => (some (((Int32.ofNat (zLen.getD si 0)) >>> (y6 &&& 31))))))
set_option maxHeartbeats 4000000 in
set_option maxRecDepth 100000 in
theorem c_J0_length_8abf5 (l : Launch) (G : zG) (si : Nat) (hsi : si < 2) (rv : Int32) (h : fJ0_length_8abf5 si = some rv) : zC l yJ0_length_8abf5 wsJ0_length_8abf5 1 20 G [.ref (G.2.2.1 si)] (w_J0_length_8abf5 G ) (some (.int rv)) (w_J0_length_8abf5 G ) := by
  refine fun sz => Met.ofW (cc := cJ0_length_8abf5) (maxL := 1) (ret := (some .int)) (by decide) rfl ?_
  intro p e s m args below meth c s₁ B hml hv
  obtain ⟨rfl, hsz, hP, hK, hD0, hE⟩ := hv
  have hx := B.exec
  have hb := B.bytes
  have hr := B.returns
  have hts := atoms_spec (ws := wsJ0_length_8abf5) B.pre
  have hown : s.vm.findClass RJ0 = some m.cls := findClass_of_methodNamed B.named
  have hlocks := B.notSynchronized
  subst hsz
  have hD := hD0.self (sz := s.heap.size)
  generalize hAe : va_A (w_J0_length_8abf5 G ) s.heap.size = A at hD hE ⊢
  have hA : ∀ q : Nat, s.heap.size ≤ q → A q := fun q h => by rw [← hAe]; exact Or.inr h
  have hS : va_S A s.heap s.heap [] := va_S.rf
  have hl := lv_entry ([.ref (G.2.2.1 si)]) (n := 1) (Nat.le_of_ble_eq_true rfl)
  rw [lg_entry_eq]
  generalize (lg_sl ([.ref (G.2.2.1 si)]) ++ List.replicate (1 - (lg_sl ([.ref (G.2.2.1 si)])).length) Slot.unset).toArray = ls at hl ⊢
  have hl : lv_has ls 1 [(0, .ref (G.2.2.1 si))] := hl
  have hP : va_P G.1 vwCl (w_J0_length_8abf5 G ) s.heap := hP
  rw [fJ0_length_8abf5] at h
  refine lv_aload_n hx hb dJ0_length_8abf5_0 rfl (lv_at hl 0 rfl) ?_
  refine vk_getf hx hb (hE.1.1 si hsi).2.2.1 hS hown (hts (.fieldLink RJ0 9 "java/lang/String" "value" "[B") (by decide +kernel)) (fun _ h9 => h9) dJ0_length_8abf5_1 ?_
  refine va_tlen hx hb (hE.1.1 si hsi).2.2.2 hS rfl dJ0_length_8abf5_4 ?_
  refine lv_aload_n hx hb dJ0_length_8abf5_5 rfl (lv_at hl 0 rfl) ?_
  obtain ⟨y6, hc6, h⟩ := zb1_e h
  refine zcVs (As := []) (rest := [.int (Int32.ofNat (zLen.getD si 0))])  (st1 := [.int y6, .int (Int32.ofNat (zLen.getD si 0))]) ⟨hx, hb, hml, hown, hts⟩ (c_J0_coder_7d493 l G si hsi y6 hc6) (cwV 0 hts gJ0_length_8abf5_J0_coder_7d493 rfl rfl rfl (by decide +kernel) ⟨Nat.le_of_ble_eq_true rfl, Nat.le_of_ble_eq_true rfl⟩) hK hE hP hD hS hA (vk_recv hE.1 hsi hS) rfl hl.1 rfl (Nat.le_of_ble_eq_true rfl) dJ0_length_8abf5_6 (Nat.zero_le _) (Nat.zero_le _) rfl (fun H locs hP hD hS => ?_)
  refine lv_ishr hx hb dJ0_length_8abf5_9 ?_
  cases h
  exact W.iret hx hb hr (fun t9 ht9 _ => zend hP hD hS ht9) hS.2.2 dJ0_length_8abf5_10
abbrev w_J0_isLatin1_aae02 (G : zG) : va_W := []
def fJ0_isLatin1_aae02 (si : Nat) : Option Int32 := (some ((1 : Int32)))
set_option maxHeartbeats 4000000 in
set_option maxRecDepth 100000 in
theorem c_J0_isLatin1_aae02 (l : Launch) (G : zG) (si : Nat) (hsi : si < 2) (rv : Int32) (h : fJ0_isLatin1_aae02 si = some rv) : zC l yJ0_isLatin1_aae02 wsJ0_isLatin1_aae02 0 0 G [.ref (G.2.2.1 si)] (w_J0_isLatin1_aae02 G ) (some (.int rv)) (w_J0_isLatin1_aae02 G ) := by
  refine fun sz => Met.ofW (cc := cJ0_isLatin1_aae02) (maxL := 1) (ret := (some .boolean)) (by decide) rfl ?_
  intro p e s m args below meth c s₁ B hml hv
  obtain ⟨rfl, hsz, hP, hK, hD0, hE⟩ := hv
  have hx := B.exec
  have hb := B.bytes
  have hr := B.returns
  have hts := atoms_spec (ws := wsJ0_isLatin1_aae02) B.pre
  have hown : s.vm.findClass RJ0 = some m.cls := findClass_of_methodNamed B.named
  have hlocks := B.notSynchronized
  subst hsz
  have hD := hD0.self (sz := s.heap.size)
  generalize hAe : va_A (w_J0_isLatin1_aae02 G ) s.heap.size = A at hD hE ⊢
  have hA : ∀ q : Nat, s.heap.size ≤ q → A q := fun q h => by rw [← hAe]; exact Or.inr h
  have hS : va_S A s.heap s.heap [] := va_S.rf
  have hl := lv_entry ([.ref (G.2.2.1 si)]) (n := 1) (Nat.le_of_ble_eq_true rfl)
  rw [lg_entry_eq]
  generalize (lg_sl ([.ref (G.2.2.1 si)]) ++ List.replicate (1 - (lg_sl ([.ref (G.2.2.1 si)])).length) Slot.unset).toArray = ls at hl ⊢
  have hl : lv_has ls 1 [(0, .ref (G.2.2.1 si))] := hl
  have hP : va_P G.1 vwCl (w_J0_isLatin1_aae02 G ) s.heap := hP
  rw [fJ0_isLatin1_aae02] at h
  refine va_gets hx hb hE.2.1 hS hown (hts (.fieldLink RJ0 38 "java/lang/String" "COMPACT_STRINGS" "Z") (by decide +kernel)) (fun _ h9 => h9) dJ0_isLatin1_aae02_0 ?_
  refine lv_if_eq (tgt := 17) hx hb dJ0_isLatin1_aae02_3 (by decide) (fun c3 => absurd c3 (by decide)) (fun _ => ?_)
  refine lv_aload_n hx hb dJ0_isLatin1_aae02_6 rfl (lv_at hl 0 rfl) ?_
  refine vk_getf hx hb (hE.1.1 si hsi).2.1 hS hown (hts (.fieldLink RJ0 15 "java/lang/String" "coder" "B") (by decide +kernel)) (fun _ h9 => h9) dJ0_isLatin1_aae02_7 ?_
  refine lv_if_ne (tgt := 17) hx hb dJ0_isLatin1_aae02_10 (by decide) (fun c10 => absurd c10 (by decide)) (fun _ => ?_)
  refine lv_iconst (v := (1 : Int32)) hx hb dJ0_isLatin1_aae02_13 (by decide) ?_
  refine lv_goto (tgt := 18) hx hb dJ0_isLatin1_aae02_14 (by decide) ?_
  cases h
  exact W.zret (ty := .boolean) hx hb hr rfl (fun t9 ht9 _ => zend hP hD hS ht9) hS.2.2 dJ0_isLatin1_aae02_18
abbrev w_J3_checkIndex_8e157 (G : zG) : va_W := []
def fJ3_checkIndex_8e157 (x1 : Int32) (x2 : Int32) : Option Int32 := (if x1 < (0 : Int32) then none else (if x1 < x2 then (some (x1)) else none))
set_option maxHeartbeats 4000000 in
set_option maxRecDepth 100000 in
theorem c_J3_checkIndex_8e157 (l : Launch) (G : zG) (fv : Value) (hfv : fv = .null ∨ ∃ t, fv = .ref t) (x1 : Int32) (x2 : Int32) (rv : Int32) (h : fJ3_checkIndex_8e157 x1 x2 = some rv) : zC l yJ3_checkIndex_8e157 wsJ3_checkIndex_8e157 0 0 G [.int x1, .int x2, fv] (w_J3_checkIndex_8e157 G ) (some (.int rv)) (w_J3_checkIndex_8e157 G ) := by
  rcases hfv with rfl | ⟨t9, rfl⟩
  · refine fun sz => Met.ofW (cc := cJ3_checkIndex_8e157) (maxL := 3) (ret := (some .int)) (by decide) rfl ?_
    intro p e s m args below meth c s₁ B hml hv
    obtain ⟨rfl, hsz, hP, hK, hD0, hE⟩ := hv
    have hx := B.exec
    have hb := B.bytes
    have hr := B.returns
    have hts := atoms_spec (ws := wsJ3_checkIndex_8e157) B.pre
    have hown : s.vm.findClass RJ3 = some m.cls := findClass_of_methodNamed B.named
    have hlocks := B.notSynchronized
    subst hsz
    have hD := hD0.self (sz := s.heap.size)
    generalize hAe : va_A (w_J3_checkIndex_8e157 G ) s.heap.size = A at hD hE ⊢
    have hA : ∀ q : Nat, s.heap.size ≤ q → A q := fun q h => by rw [← hAe]; exact Or.inr h
    have hS : va_S A s.heap s.heap [] := va_S.rf
    have hl := lv_entry ([.int x1, .int x2, .null]) (n := 3) (Nat.le_of_ble_eq_true rfl)
    rw [lg_entry_eq]
    generalize (lg_sl ([.int x1, .int x2, .null]) ++ List.replicate (3 - (lg_sl ([.int x1, .int x2, .null])).length) Slot.unset).toArray = ls at hl ⊢
    have hl : lv_has ls 3 [(0, .int x1), (1, .int x2), (2, .null)] := hl
    have hP : va_P G.1 vwCl (w_J3_checkIndex_8e157 G ) s.heap := hP
    rw [fJ3_checkIndex_8e157] at h
    refine lv_iload_n hx hb dJ3_checkIndex_8e157_0 rfl (lv_at hl 0 rfl) ?_
    refine lv_if_lt (tgt := 9) hx hb dJ3_checkIndex_8e157_1 (by decide) (fun c1 => ?_) (fun c1 => ?_)
    · have h := zt c1 h
      cases h
    · have h := zf c1 h
      refine lv_iload_n hx hb dJ3_checkIndex_8e157_4 rfl (lv_at hl 0 rfl) ?_
      refine lv_iload_n hx hb dJ3_checkIndex_8e157_5 rfl (lv_at hl 1 rfl) ?_
      refine lv_icmp_lt (tgt := 16) hx hb dJ3_checkIndex_8e157_6 (by decide) (fun c6 => ?_) (fun c6 => ?_)
      · have h := zt c6 h
        refine lv_iload_n hx hb dJ3_checkIndex_8e157_16 rfl (lv_at hl 0 rfl) ?_
        cases h
        exact W.iret hx hb hr (fun t9 ht9 _ => zend hP hD hS ht9) hS.2.2 dJ3_checkIndex_8e157_17
      · have h := zf c6 h
        cases h
  · refine fun sz => Met.ofW (cc := cJ3_checkIndex_8e157) (maxL := 3) (ret := (some .int)) (by decide) rfl ?_
    intro p e s m args below meth c s₁ B hml hv
    obtain ⟨rfl, hsz, hP, hK, hD0, hE⟩ := hv
    have hx := B.exec
    have hb := B.bytes
    have hr := B.returns
    have hts := atoms_spec (ws := wsJ3_checkIndex_8e157) B.pre
    have hown : s.vm.findClass RJ3 = some m.cls := findClass_of_methodNamed B.named
    have hlocks := B.notSynchronized
    subst hsz
    have hD := hD0.self (sz := s.heap.size)
    generalize hAe : va_A (w_J3_checkIndex_8e157 G ) s.heap.size = A at hD hE ⊢
    have hA : ∀ q : Nat, s.heap.size ≤ q → A q := fun q h => by rw [← hAe]; exact Or.inr h
    have hS : va_S A s.heap s.heap [] := va_S.rf
    have hl := lv_entry ([.int x1, .int x2, (.ref t9)]) (n := 3) (Nat.le_of_ble_eq_true rfl)
    rw [lg_entry_eq]
    generalize (lg_sl ([.int x1, .int x2, (.ref t9)]) ++ List.replicate (3 - (lg_sl ([.int x1, .int x2, (.ref t9)])).length) Slot.unset).toArray = ls at hl ⊢
    have hl : lv_has ls 3 [(0, .int x1), (1, .int x2), (2, (.ref t9))] := hl
    have hP : va_P G.1 vwCl (w_J3_checkIndex_8e157 G ) s.heap := hP
    rw [fJ3_checkIndex_8e157] at h
    refine lv_iload_n hx hb dJ3_checkIndex_8e157_0 rfl (lv_at hl 0 rfl) ?_
    refine lv_if_lt (tgt := 9) hx hb dJ3_checkIndex_8e157_1 (by decide) (fun c1 => ?_) (fun c1 => ?_)
    · have h := zt c1 h
      cases h
    · have h := zf c1 h
      refine lv_iload_n hx hb dJ3_checkIndex_8e157_4 rfl (lv_at hl 0 rfl) ?_
      refine lv_iload_n hx hb dJ3_checkIndex_8e157_5 rfl (lv_at hl 1 rfl) ?_
      refine lv_icmp_lt (tgt := 16) hx hb dJ3_checkIndex_8e157_6 (by decide) (fun c6 => ?_) (fun c6 => ?_)
      · have h := zt c6 h
        refine lv_iload_n hx hb dJ3_checkIndex_8e157_16 rfl (lv_at hl 0 rfl) ?_
        cases h
        exact W.iret hx hb hr (fun t9 ht9 _ => zend hP hD hS ht9) hS.2.2 dJ3_checkIndex_8e157_17
      · have h := zf c6 h
        cases h
abbrev w_J0_checkIndex_df160 (G : zG) : va_W := []
def fJ0_checkIndex_df160 (x1 : Int32) (x2 : Int32) : Option Unit := (zb1 (fJ3_checkIndex_8e157 x1 x2) (fun (y5 : Int32) => (some ())))
set_option maxHeartbeats 4000000 in
set_option maxRecDepth 100000 in
theorem c_J0_checkIndex_df160 (l : Launch) (G : zG) (x1 : Int32) (x2 : Int32) (h : fJ0_checkIndex_df160 x1 x2 = some ()) : zC l yJ0_checkIndex_df160 wsJ0_checkIndex_df160 1 22 G [.int x1, .int x2] (w_J0_checkIndex_df160 G ) none (w_J0_checkIndex_df160 G ) := by
  refine fun sz => Met.ofW (cc := cJ0_checkIndex_df160) (maxL := 2) (ret := none) (by decide) rfl ?_
  intro p e s m args below meth c s₁ B hml hv
  obtain ⟨rfl, hsz, hP, hK, hD0, hE⟩ := hv
  have hx := B.exec
  have hb := B.bytes
  have hr := B.returns
  have hts := atoms_spec (ws := wsJ0_checkIndex_df160) B.pre
  have hown : s.vm.findClass RJ0 = some m.cls := findClass_of_methodNamed B.named
  have hlocks := B.notSynchronized
  subst hsz
  have hD := hD0.self (sz := s.heap.size)
  generalize hAe : va_A (w_J0_checkIndex_df160 G ) s.heap.size = A at hD hE ⊢
  have hA : ∀ q : Nat, s.heap.size ≤ q → A q := fun q h => by rw [← hAe]; exact Or.inr h
  have hS : va_S A s.heap s.heap [] := va_S.rf
  have hl := lv_entry ([.int x1, .int x2]) (n := 2) (Nat.le_of_ble_eq_true rfl)
  rw [lg_entry_eq]
  generalize (lg_sl ([.int x1, .int x2]) ++ List.replicate (2 - (lg_sl ([.int x1, .int x2])).length) Slot.unset).toArray = ls at hl ⊢
  have hl : lv_has ls 2 [(0, .int x1), (1, .int x2)] := hl
  have hP : va_P G.1 vwCl (w_J0_checkIndex_df160 G ) s.heap := hP
  rw [fJ0_checkIndex_df160] at h
  rcases hE.2.2 with hZ | ⟨t9, hZ⟩
  · refine lv_iload_n hx hb dJ0_checkIndex_df160_0 rfl (lv_at hl 0 rfl) ?_
    refine lv_iload_n hx hb dJ0_checkIndex_df160_1 rfl (lv_at hl 1 rfl) ?_
    refine va_gets hx hb hZ hS hown (hts (.fieldLink RJ0 1053 "jdk/internal/util/Preconditions" "SIOOBE_FORMATTER" "Ljava/util/function/BiFunction;") (by decide +kernel)) (fun _ h9 => h9) dJ0_checkIndex_df160_2 ?_
    obtain ⟨y5, hc5, h⟩ := zb1_e h
    refine zcS (As := [.int x1, .int x2, .null]) (rest := []) (ws' := (w_J0_checkIndex_df160 G )) (st1 := [.int y5]) ⟨hx, hb, hml, hown, hts⟩ (c_J3_checkIndex_8e157 l G .null (Or.inl rfl) x1 x2 y5 hc5) (va_cwS 3 hts gJ0_checkIndex_df160_J3_checkIndex_8e157 rfl rfl rfl (by decide +kernel) ⟨Nat.le_of_ble_eq_true rfl, Nat.le_of_ble_eq_true rfl⟩) hK hE hP hD hS hA [] rfl rfl rfl rfl rfl hl.1 rfl (Nat.le_of_ble_eq_true rfl) dJ0_checkIndex_df160_5 (Nat.zero_le _) (Nat.zero_le _) rfl (fun H locs hP hD hS => ?_)
    refine lv_pop hx hb dJ0_checkIndex_df160_8 rfl ?_
    cases h
    exact W.vret hx hb hr (fun t9 ht9 _ => zend hP hD hS ht9) hS.2.2 dJ0_checkIndex_df160_9
  · refine lv_iload_n hx hb dJ0_checkIndex_df160_0 rfl (lv_at hl 0 rfl) ?_
    refine lv_iload_n hx hb dJ0_checkIndex_df160_1 rfl (lv_at hl 1 rfl) ?_
    refine va_gets hx hb hZ hS hown (hts (.fieldLink RJ0 1053 "jdk/internal/util/Preconditions" "SIOOBE_FORMATTER" "Ljava/util/function/BiFunction;") (by decide +kernel)) (fun _ h9 => h9) dJ0_checkIndex_df160_2 ?_
    obtain ⟨y5, hc5, h⟩ := zb1_e h
    refine zcS (As := [.int x1, .int x2, (.ref t9)]) (rest := []) (ws' := (w_J0_checkIndex_df160 G )) (st1 := [.int y5]) ⟨hx, hb, hml, hown, hts⟩ (c_J3_checkIndex_8e157 l G (.ref t9) (Or.inr ⟨_, rfl⟩) x1 x2 y5 hc5) (va_cwS 3 hts gJ0_checkIndex_df160_J3_checkIndex_8e157 rfl rfl rfl (by decide +kernel) ⟨Nat.le_of_ble_eq_true rfl, Nat.le_of_ble_eq_true rfl⟩) hK hE hP hD hS hA [] rfl rfl rfl rfl rfl hl.1 rfl (Nat.le_of_ble_eq_true rfl) dJ0_checkIndex_df160_5 (Nat.zero_le _) (Nat.zero_le _) rfl (fun H locs hP hD hS => ?_)
    refine lv_pop hx hb dJ0_checkIndex_df160_8 rfl ?_
    cases h
    exact W.vret hx hb hr (fun t9 ht9 _ => zend hP hD hS ht9) hS.2.2 dJ0_checkIndex_df160_9
abbrev w_J1_charAt_3b067 (G : zG) : va_W := []
def fJ1_charAt_3b067 (si : Nat) (x2 : Int32) : Option Int32 := (zb1 (fJ0_checkIndex_df160 x2 (Int32.ofNat (zLen.getD si 0))) (fun (u3 : Unit) => (if zin x2 (zLen.getD si 0) then (some (((((((zByt.getD si []).getD (x2).toNatClampNeg 0) &&& (255 : Int32))).toUInt32 % 65536).toInt32))) else none)))
set_option maxHeartbeats 4000000 in
set_option maxRecDepth 100000 in
theorem c_J1_charAt_3b067 (l : Launch) (G : zG) (si : Nat) (hsi : si < 2) (x2 : Int32) (rv : Int32) (h : fJ1_charAt_3b067 si x2 = some rv) : zC l yJ1_charAt_3b067 wsJ1_charAt_3b067 2 43 G [.ref (G.2.2.2 si), .int x2] (w_J1_charAt_3b067 G ) (some (.int rv)) (w_J1_charAt_3b067 G ) := by
  refine fun sz => Met.ofW (cc := cJ1_charAt_3b067) (maxL := 2) (ret := (some .char)) (by decide) rfl ?_
  intro p e s m args below meth c s₁ B hml hv
  obtain ⟨rfl, hsz, hP, hK, hD0, hE⟩ := hv
  have hx := B.exec
  have hb := B.bytes
  have hr := B.returns
  have hts := atoms_spec (ws := wsJ1_charAt_3b067) B.pre
  have hown : s.vm.findClass RJ1 = some m.cls := findClass_of_methodNamed B.named
  have hlocks := B.notSynchronized
  subst hsz
  have hD := hD0.self (sz := s.heap.size)
  generalize hAe : va_A (w_J1_charAt_3b067 G ) s.heap.size = A at hD hE ⊢
  have hA : ∀ q : Nat, s.heap.size ≤ q → A q := fun q h => by rw [← hAe]; exact Or.inr h
  have hS : va_S A s.heap s.heap [] := va_S.rf
  have hl := lv_entry ([.ref (G.2.2.2 si), .int x2]) (n := 2) (Nat.le_of_ble_eq_true rfl)
  rw [lg_entry_eq]
  generalize (lg_sl ([.ref (G.2.2.2 si), .int x2]) ++ List.replicate (2 - (lg_sl ([.ref (G.2.2.2 si), .int x2])).length) Slot.unset).toArray = ls at hl ⊢
  have hl : lv_has ls 2 [(0, .ref (G.2.2.2 si)), (1, .int x2)] := hl
  have hP : va_P G.1 vwCl (w_J1_charAt_3b067 G ) s.heap := hP
  rw [fJ1_charAt_3b067] at h
  refine lv_iload_n hx hb dJ1_charAt_3b067_0 rfl (lv_at hl 1 rfl) ?_
  refine lv_aload_n hx hb dJ1_charAt_3b067_1 rfl (lv_at hl 0 rfl) ?_
  refine va_tlen hx hb (hE.1.1 si hsi).2.2.2 hS rfl dJ1_charAt_3b067_2 ?_
  obtain ⟨u3, hc3, h⟩ := zb1_e h
  refine zcS (As := [.int x2, .int (Int32.ofNat (zLen.getD si 0))]) (rest := []) (ws' := (w_J1_charAt_3b067 G )) (st1 := []) ⟨hx, hb, hml, hown, hts⟩ (c_J0_checkIndex_df160 l G x2 (Int32.ofNat (zLen.getD si 0)) hc3) (va_cwS 2 hts gJ1_charAt_3b067_J0_checkIndex_df160 rfl rfl rfl (by decide +kernel) ⟨Nat.le_of_ble_eq_true rfl, Nat.le_of_ble_eq_true rfl⟩) hK hE hP hD hS hA [] rfl rfl rfl rfl rfl hl.1 rfl (Nat.le_of_ble_eq_true rfl) dJ1_charAt_3b067_3 (Nat.zero_le _) (Nat.zero_le _) rfl (fun H locs hP hD hS => ?_)
  refine lv_aload_n hx hb dJ1_charAt_3b067_6 rfl (lv_at hl 0 rfl) ?_
  refine lv_iload_n hx hb dJ1_charAt_3b067_7 rfl (lv_at hl 1 rfl) ?_
  obtain ⟨g8, h⟩ := zg h
  refine va_tb hx hb (hE.1.1 si hsi).2.2.2 hS g8 rfl dJ1_charAt_3b067_8 ?_
  refine lv_sipush (v := (255 : Int32)) hx hb dJ1_charAt_3b067_9 (by decide) ?_
  refine lv_iand hx hb dJ1_charAt_3b067_12 ?_
  refine lv_i2c (v := ((((((zByt.getD si []).getD (x2).toNatClampNeg 0) &&& (255 : Int32))).toUInt32 % 65536).toInt32)) hx hb dJ1_charAt_3b067_13 rfl ?_
  cases h
  exact W.zret (ty := .char) hx hb hr (pk_nc _) (fun t9 ht9 _ => zend hP hD hS ht9) hS.2.2 dJ1_charAt_3b067_14
abbrev w_J0_charAt_5068e (G : zG) : va_W := []
def fJ0_charAt_5068e (si : Nat) (x1 : Int32) : Option Int32 := (zb1 (fJ0_isLatin1_aae02 si) (fun (y1 : Int32) => (if y1 = (0 : Int32) then none else (zb1 (fJ1_charAt_3b067 si x1) (fun (y12 : Int32) => (if ((y12).toUInt32 % 65536).toInt32 = y12 then (some (y12)) else none))))))
set_option maxHeartbeats 4000000 in
set_option maxRecDepth 100000 in
theorem c_J0_charAt_5068e (l : Launch) (G : zG) (si : Nat) (hsi : si < 2) (x1 : Int32) (rv : Int32) (h : fJ0_charAt_5068e si x1 = some rv) : zC l yJ0_charAt_5068e wsJ0_charAt_5068e 3 64 G [.ref (G.2.2.1 si), .int x1] (w_J0_charAt_5068e G ) (some (.int rv)) (w_J0_charAt_5068e G ) := by
  refine fun sz => Met.ofW (cc := cJ0_charAt_5068e) (maxL := 2) (ret := (some .char)) (by decide) rfl ?_
  intro p e s m args below meth c s₁ B hml hv
  obtain ⟨rfl, hsz, hP, hK, hD0, hE⟩ := hv
  have hx := B.exec
  have hb := B.bytes
  have hr := B.returns
  have hts := atoms_spec (ws := wsJ0_charAt_5068e) B.pre
  have hown : s.vm.findClass RJ0 = some m.cls := findClass_of_methodNamed B.named
  have hlocks := B.notSynchronized
  subst hsz
  have hD := hD0.self (sz := s.heap.size)
  generalize hAe : va_A (w_J0_charAt_5068e G ) s.heap.size = A at hD hE ⊢
  have hA : ∀ q : Nat, s.heap.size ≤ q → A q := fun q h => by rw [← hAe]; exact Or.inr h
  have hS : va_S A s.heap s.heap [] := va_S.rf
  have hl := lv_entry ([.ref (G.2.2.1 si), .int x1]) (n := 2) (Nat.le_of_ble_eq_true rfl)
  rw [lg_entry_eq]
  generalize (lg_sl ([.ref (G.2.2.1 si), .int x1]) ++ List.replicate (2 - (lg_sl ([.ref (G.2.2.1 si), .int x1])).length) Slot.unset).toArray = ls at hl ⊢
  have hl : lv_has ls 2 [(0, .ref (G.2.2.1 si)), (1, .int x1)] := hl
  have hP : va_P G.1 vwCl (w_J0_charAt_5068e G ) s.heap := hP
  rw [fJ0_charAt_5068e] at h
  refine lv_aload_n hx hb dJ0_charAt_5068e_0 rfl (lv_at hl 0 rfl) ?_
  obtain ⟨y1, hc1, h⟩ := zb1_e h
  refine zcVs (As := []) (rest := [])  (st1 := [.int y1]) ⟨hx, hb, hml, hown, hts⟩ (c_J0_isLatin1_aae02 l G si hsi y1 hc1) (cwV 0 hts gJ0_charAt_5068e_J0_isLatin1_aae02 rfl rfl rfl (by decide +kernel) ⟨Nat.le_of_ble_eq_true rfl, Nat.le_of_ble_eq_true rfl⟩) hK hE hP hD hS hA (vk_recv hE.1 hsi hS) rfl hl.1 rfl (Nat.le_of_ble_eq_true rfl) dJ0_charAt_5068e_1 (Nat.zero_le _) (Nat.zero_le _) rfl (fun H locs hP hD hS => ?_)
  refine lv_if_eq (tgt := 16) hx hb dJ0_charAt_5068e_4 (by decide) (fun c4 => ?_) (fun c4 => ?_)
  · have h := zt c4 h
    cases h
  · have h := zf c4 h
    refine lv_aload_n hx hb dJ0_charAt_5068e_7 rfl (lv_at hl 0 rfl) ?_
    refine vk_getf hx hb (hE.1.1 si hsi).2.2.1 hS hown (hts (.fieldLink RJ0 9 "java/lang/String" "value" "[B") (by decide +kernel)) (fun _ h9 => h9) dJ0_charAt_5068e_8 ?_
    refine lv_iload_n hx hb dJ0_charAt_5068e_11 rfl (lv_at hl 1 rfl) ?_
    obtain ⟨y12, hc12, h⟩ := zb1_e h
    refine zcS (As := [.ref (G.2.2.2 si), .int x1]) (rest := []) (ws' := (w_J0_charAt_5068e G )) (st1 := [.int y12]) ⟨hx, hb, hml, hown, hts⟩ (c_J1_charAt_3b067 l G si hsi x1 y12 hc12) (va_cwS 2 hts gJ0_charAt_5068e_J1_charAt_3b067 rfl rfl rfl (by decide +kernel) ⟨Nat.le_of_ble_eq_true rfl, Nat.le_of_ble_eq_true rfl⟩) hK hE hP hD hS hA [] rfl rfl rfl rfl rfl hl.1 rfl (Nat.le_of_ble_eq_true rfl) dJ0_charAt_5068e_12 (Nat.zero_le _) (Nat.zero_le _) rfl (fun H locs hP hD hS => ?_)
    obtain ⟨g15, h⟩ := zg h
    cases h
    exact W.zret (ty := .char) hx hb hr (zchar g15) (fun t9 ht9 _ => zend hP hD hS ht9) hS.2.2 dJ0_charAt_5068e_15
abbrev w_X7_isTone (G : zG) : va_W := []
def fX7_isTone (x1 : Int32) : Option Int32 := (if x1 < (0 : Int32) then (some ((0 : Int32))) else (if (9 : Int32) < x1 then (some ((0 : Int32))) else (some ((1 : Int32)))))
set_option maxHeartbeats 4000000 in
set_option maxRecDepth 100000 in
theorem c_X7_isTone (l : Launch) (G : zG) (x1 : Int32) (rv : Int32) (h : fX7_isTone x1 = some rv) : zC l yX7_isTone wsX7_isTone 0 0 G [.int x1] (w_X7_isTone G ) (some (.int rv)) (w_X7_isTone G ) := by
  refine fun sz => Met.ofW (cc := cX7_isTone) (maxL := 1) (ret := (some .boolean)) (by decide) rfl ?_
  intro p e s m args below meth c s₁ B hml hv
  obtain ⟨rfl, hsz, hP, hK, hD0, hE⟩ := hv
  have hx := B.exec
  have hb := B.bytes
  have hr := B.returns
  have hts := atoms_spec (ws := wsX7_isTone) B.pre
  have hown : s.vm.findClass RX7 = some m.cls := findClass_of_methodNamed B.named
  have hlocks := B.notSynchronized
  subst hsz
  have hD := hD0.self (sz := s.heap.size)
  generalize hAe : va_A (w_X7_isTone G ) s.heap.size = A at hD hE ⊢
  have hA : ∀ q : Nat, s.heap.size ≤ q → A q := fun q h => by rw [← hAe]; exact Or.inr h
  have hS : va_S A s.heap s.heap [] := va_S.rf
  have hl := lv_entry ([.int x1]) (n := 1) (Nat.le_of_ble_eq_true rfl)
  rw [lg_entry_eq]
  generalize (lg_sl ([.int x1]) ++ List.replicate (1 - (lg_sl ([.int x1])).length) Slot.unset).toArray = ls at hl ⊢
  have hl : lv_has ls 1 [(0, .int x1)] := hl
  have hP : va_P G.1 vwCl (w_X7_isTone G ) s.heap := hP
  rw [fX7_isTone] at h
  refine lv_iload_n hx hb dX7_isTone_0 rfl (lv_at hl 0 rfl) ?_
  refine lv_if_lt (tgt := 14) hx hb dX7_isTone_1 (by decide) (fun c1 => ?_) (fun c1 => ?_)
  · have h := zt c1 h
    refine lv_iconst (v := (0 : Int32)) hx hb dX7_isTone_14 (by decide) ?_
    cases h
    exact W.zret (ty := .boolean) hx hb hr rfl (fun t9 ht9 _ => zend hP hD hS ht9) hS.2.2 dX7_isTone_15
  · have h := zf c1 h
    refine lv_iload_n hx hb dX7_isTone_4 rfl (lv_at hl 0 rfl) ?_
    refine lv_bipush (v := (9 : Int32)) hx hb dX7_isTone_5 (by decide) ?_
    refine lv_icmp_gt (tgt := 14) hx hb dX7_isTone_7 (by decide) (fun c7 => ?_) (fun c7 => ?_)
    · have h := zt c7 h
      refine lv_iconst (v := (0 : Int32)) hx hb dX7_isTone_14 (by decide) ?_
      cases h
      exact W.zret (ty := .boolean) hx hb hr rfl (fun t9 ht9 _ => zend hP hD hS ht9) hS.2.2 dX7_isTone_15
    · have h := zf c7 h
      refine lv_iconst (v := (1 : Int32)) hx hb dX7_isTone_10 (by decide) ?_
      refine lv_goto (tgt := 15) hx hb dX7_isTone_11 (by decide) ?_
      cases h
      exact W.zret (ty := .boolean) hx hb hr rfl (fun t9 ht9 _ => zend hP hD hS ht9) hS.2.2 dX7_isTone_15
abbrev w_X7_isLine (G : zG) : va_W := []
def fX7_isLine (x1 : Int32) (x2 : Int32) : Option Int32 := (zb1 (fX7_isTone x1) (fun (y1 : Int32) => (if y1 = (0 : Int32) then (some ((0 : Int32))) else (if x2 < (0 : Int32) then (some ((0 : Int32))) else (if (7 : Int32) < x2 then (some ((0 : Int32))) else (some ((1 : Int32))))))))
set_option maxHeartbeats 4000000 in
set_option maxRecDepth 100000 in
theorem c_X7_isLine (l : Launch) (G : zG) (x1 : Int32) (x2 : Int32) (rv : Int32) (h : fX7_isLine x1 x2 = some rv) : zC l yX7_isLine wsX7_isLine 1 20 G [.int x1, .int x2] (w_X7_isLine G ) (some (.int rv)) (w_X7_isLine G ) := by
  refine fun sz => Met.ofW (cc := cX7_isLine) (maxL := 2) (ret := (some .boolean)) (by decide) rfl ?_
  intro p e s m args below meth c s₁ B hml hv
  obtain ⟨rfl, hsz, hP, hK, hD0, hE⟩ := hv
  have hx := B.exec
  have hb := B.bytes
  have hr := B.returns
  have hts := atoms_spec (ws := wsX7_isLine) B.pre
  have hown : s.vm.findClass RX7 = some m.cls := findClass_of_methodNamed B.named
  have hlocks := B.notSynchronized
  subst hsz
  have hD := hD0.self (sz := s.heap.size)
  generalize hAe : va_A (w_X7_isLine G ) s.heap.size = A at hD hE ⊢
  have hA : ∀ q : Nat, s.heap.size ≤ q → A q := fun q h => by rw [← hAe]; exact Or.inr h
  have hS : va_S A s.heap s.heap [] := va_S.rf
  have hl := lv_entry ([.int x1, .int x2]) (n := 2) (Nat.le_of_ble_eq_true rfl)
  rw [lg_entry_eq]
  generalize (lg_sl ([.int x1, .int x2]) ++ List.replicate (2 - (lg_sl ([.int x1, .int x2])).length) Slot.unset).toArray = ls at hl ⊢
  have hl : lv_has ls 2 [(0, .int x1), (1, .int x2)] := hl
  have hP : va_P G.1 vwCl (w_X7_isLine G ) s.heap := hP
  rw [fX7_isLine] at h
  refine lv_iload_n hx hb dX7_isLine_0 rfl (lv_at hl 0 rfl) ?_
  obtain ⟨y1, hc1, h⟩ := zb1_e h
  refine zcS (As := [.int x1]) (rest := []) (ws' := (w_X7_isLine G )) (st1 := [.int y1]) ⟨hx, hb, hml, hown, hts⟩ (c_X7_isTone l G x1 y1 hc1) (va_cwS 1 hts gX7_isLine_X7_isTone rfl rfl rfl (by decide +kernel) ⟨Nat.le_of_ble_eq_true rfl, Nat.le_of_ble_eq_true rfl⟩) hK hE hP hD hS hA [] rfl rfl rfl rfl rfl hl.1 rfl (Nat.le_of_ble_eq_true rfl) dX7_isLine_1 (Nat.zero_le _) (Nat.zero_le _) rfl (fun H locs hP hD hS => ?_)
  refine lv_if_eq (tgt := 21) hx hb dX7_isLine_4 (by decide) (fun c4 => ?_) (fun c4 => ?_)
  · have h := zt c4 h
    refine lv_iconst (v := (0 : Int32)) hx hb dX7_isLine_21 (by decide) ?_
    cases h
    exact W.zret (ty := .boolean) hx hb hr rfl (fun t9 ht9 _ => zend hP hD hS ht9) hS.2.2 dX7_isLine_22
  · have h := zf c4 h
    refine lv_iload_n hx hb dX7_isLine_7 rfl (lv_at hl 1 rfl) ?_
    refine lv_if_lt (tgt := 21) hx hb dX7_isLine_8 (by decide) (fun c8 => ?_) (fun c8 => ?_)
    · have h := zt c8 h
      refine lv_iconst (v := (0 : Int32)) hx hb dX7_isLine_21 (by decide) ?_
      cases h
      exact W.zret (ty := .boolean) hx hb hr rfl (fun t9 ht9 _ => zend hP hD hS ht9) hS.2.2 dX7_isLine_22
    · have h := zf c8 h
      refine lv_iload_n hx hb dX7_isLine_11 rfl (lv_at hl 1 rfl) ?_
      refine lv_bipush (v := (7 : Int32)) hx hb dX7_isLine_12 (by decide) ?_
      refine lv_icmp_gt (tgt := 21) hx hb dX7_isLine_14 (by decide) (fun c14 => ?_) (fun c14 => ?_)
      · have h := zt c14 h
        refine lv_iconst (v := (0 : Int32)) hx hb dX7_isLine_21 (by decide) ?_
        cases h
        exact W.zret (ty := .boolean) hx hb hr rfl (fun t9 ht9 _ => zend hP hD hS ht9) hS.2.2 dX7_isLine_22
      · have h := zf c14 h
        refine lv_iconst (v := (1 : Int32)) hx hb dX7_isLine_17 (by decide) ?_
        refine lv_goto (tgt := 22) hx hb dX7_isLine_18 (by decide) ?_
        cases h
        exact W.zret (ty := .boolean) hx hb hr rfl (fun t9 ht9 _ => zend hP hD hS ht9) hS.2.2 dX7_isLine_22
abbrev w_X7_told (G : zG) : va_W := []
def fX7_told (x1 : Int32) (x2 : Int32) : Option Int32 := (some ((x1 + ((10 : Int32) * x2))))
set_option maxHeartbeats 4000000 in
set_option maxRecDepth 100000 in
theorem c_X7_told (l : Launch) (G : zG) (x1 : Int32) (x2 : Int32) (rv : Int32) (h : fX7_told x1 x2 = some rv) : zC l yX7_told wsX7_told 0 0 G [.int x1, .int x2] (w_X7_told G ) (some (.int rv)) (w_X7_told G ) := by
  refine fun sz => Met.ofW (cc := cX7_told) (maxL := 2) (ret := (some .int)) (by decide) rfl ?_
  intro p e s m args below meth c s₁ B hml hv
  obtain ⟨rfl, hsz, hP, hK, hD0, hE⟩ := hv
  have hx := B.exec
  have hb := B.bytes
  have hr := B.returns
  have hts := atoms_spec (ws := wsX7_told) B.pre
  have hown : s.vm.findClass RX7 = some m.cls := findClass_of_methodNamed B.named
  have hlocks := B.notSynchronized
  subst hsz
  have hD := hD0.self (sz := s.heap.size)
  generalize hAe : va_A (w_X7_told G ) s.heap.size = A at hD hE ⊢
  have hA : ∀ q : Nat, s.heap.size ≤ q → A q := fun q h => by rw [← hAe]; exact Or.inr h
  have hS : va_S A s.heap s.heap [] := va_S.rf
  have hl := lv_entry ([.int x1, .int x2]) (n := 2) (Nat.le_of_ble_eq_true rfl)
  rw [lg_entry_eq]
  generalize (lg_sl ([.int x1, .int x2]) ++ List.replicate (2 - (lg_sl ([.int x1, .int x2])).length) Slot.unset).toArray = ls at hl ⊢
  have hl : lv_has ls 2 [(0, .int x1), (1, .int x2)] := hl
  have hP : va_P G.1 vwCl (w_X7_told G ) s.heap := hP
  rw [fX7_told] at h
  refine lv_iload_n hx hb dX7_told_0 rfl (lv_at hl 0 rfl) ?_
  refine lv_bipush (v := (10 : Int32)) hx hb dX7_told_1 (by decide) ?_
  refine lv_iload_n hx hb dX7_told_3 rfl (lv_at hl 1 rfl) ?_
  refine lv_imul hx hb dX7_told_4 ?_
  refine lv_iadd hx hb dX7_told_5 ?_
  cases h
  exact W.iret hx hb hr (fun t9 ht9 _ => zend hP hD hS ht9) hS.2.2 dX7_told_6
abbrev w_X7_isWarm (G : zG) : va_W := []
def fX7_isWarm (x1 : Int32) : Option Int32 := (if x1 < (5 : Int32) then (some ((0 : Int32))) else (some ((1 : Int32))))
set_option maxHeartbeats 4000000 in
set_option maxRecDepth 100000 in
theorem c_X7_isWarm (l : Launch) (G : zG) (x1 : Int32) (rv : Int32) (h : fX7_isWarm x1 = some rv) : zC l yX7_isWarm wsX7_isWarm 0 0 G [.int x1] (w_X7_isWarm G ) (some (.int rv)) (w_X7_isWarm G ) := by
  refine fun sz => Met.ofW (cc := cX7_isWarm) (maxL := 1) (ret := (some .boolean)) (by decide) rfl ?_
  intro p e s m args below meth c s₁ B hml hv
  obtain ⟨rfl, hsz, hP, hK, hD0, hE⟩ := hv
  have hx := B.exec
  have hb := B.bytes
  have hr := B.returns
  have hts := atoms_spec (ws := wsX7_isWarm) B.pre
  have hown : s.vm.findClass RX7 = some m.cls := findClass_of_methodNamed B.named
  have hlocks := B.notSynchronized
  subst hsz
  have hD := hD0.self (sz := s.heap.size)
  generalize hAe : va_A (w_X7_isWarm G ) s.heap.size = A at hD hE ⊢
  have hA : ∀ q : Nat, s.heap.size ≤ q → A q := fun q h => by rw [← hAe]; exact Or.inr h
  have hS : va_S A s.heap s.heap [] := va_S.rf
  have hl := lv_entry ([.int x1]) (n := 1) (Nat.le_of_ble_eq_true rfl)
  rw [lg_entry_eq]
  generalize (lg_sl ([.int x1]) ++ List.replicate (1 - (lg_sl ([.int x1])).length) Slot.unset).toArray = ls at hl ⊢
  have hl : lv_has ls 1 [(0, .int x1)] := hl
  have hP : va_P G.1 vwCl (w_X7_isWarm G ) s.heap := hP
  rw [fX7_isWarm] at h
  refine lv_iload_n hx hb dX7_isWarm_0 rfl (lv_at hl 0 rfl) ?_
  refine lv_iconst (v := (5 : Int32)) hx hb dX7_isWarm_1 (by decide) ?_
  refine lv_icmp_lt (tgt := 9) hx hb dX7_isWarm_2 (by decide) (fun c2 => ?_) (fun c2 => ?_)
  · have h := zt c2 h
    refine lv_iconst (v := (0 : Int32)) hx hb dX7_isWarm_9 (by decide) ?_
    cases h
    exact W.zret (ty := .boolean) hx hb hr rfl (fun t9 ht9 _ => zend hP hD hS ht9) hS.2.2 dX7_isWarm_10
  · have h := zf c2 h
    refine lv_iconst (v := (1 : Int32)) hx hb dX7_isWarm_5 (by decide) ?_
    refine lv_goto (tgt := 10) hx hb dX7_isWarm_6 (by decide) ?_
    cases h
    exact W.zret (ty := .boolean) hx hb hr rfl (fun t9 ht9 _ => zend hP hD hS ht9) hS.2.2 dX7_isWarm_10
abbrev w_X7_sharedDivisor (G : zG) : va_W := []
def fX7_sharedDivisor_L4 (fu : Nat) (l0_4 : Int32) (l1_4 : Int32) (K : Int32 → Option Int32) : Nat → Int32 → Int32 → Option Int32
  | 0, _, _ => none
  | n + 1, l2_4, l3_4 => (if l0_4 < l3_4 then (K l2_4) else (if ¬ l3_4 = 0 then (if (l0_4 - l0_4 / l3_4 * l3_4) = (0 : Int32) then (if (l1_4 - l1_4 / l3_4 * l3_4) = (0 : Int32) then (fX7_sharedDivisor_L4 fu l0_4 l1_4 K n l3_4 (l3_4 + (1 : Int32))) else (fX7_sharedDivisor_L4 fu l0_4 l1_4 K n l2_4 (l3_4 + (1 : Int32)))) else (fX7_sharedDivisor_L4 fu l0_4 l1_4 K n l2_4 (l3_4 + (1 : Int32)))) else none))
def fX7_sharedDivisor (fu : Nat) (x1 : Int32) (x2 : Int32) : Option Int32 := (fX7_sharedDivisor_L4 fu x1 x2 (fun (l2_4e : Int32) => (some (l2_4e))) fu (1 : Int32) (2 : Int32))
set_option maxHeartbeats 4000000 in
set_option maxRecDepth 100000 in
theorem c_X7_sharedDivisor (l : Launch) (G : zG) (fu : Nat) (x1 : Int32) (x2 : Int32) (rv : Int32) (h : fX7_sharedDivisor fu x1 x2 = some rv) : zC l yX7_sharedDivisor wsX7_sharedDivisor 0 0 G [.int x1, .int x2] (w_X7_sharedDivisor G ) (some (.int rv)) (w_X7_sharedDivisor G ) := by
  refine fun sz => Met.ofW (cc := cX7_sharedDivisor) (maxL := 4) (ret := (some .int)) (by decide) rfl ?_
  intro p e s m args below meth c s₁ B hml hv
  obtain ⟨rfl, hsz, hP, hK, hD0, hE⟩ := hv
  have hx := B.exec
  have hb := B.bytes
  have hr := B.returns
  have hts := atoms_spec (ws := wsX7_sharedDivisor) B.pre
  have hown : s.vm.findClass RX7 = some m.cls := findClass_of_methodNamed B.named
  have hlocks := B.notSynchronized
  subst hsz
  have hD := hD0.self (sz := s.heap.size)
  generalize hAe : va_A (w_X7_sharedDivisor G ) s.heap.size = A at hD hE ⊢
  have hA : ∀ q : Nat, s.heap.size ≤ q → A q := fun q h => by rw [← hAe]; exact Or.inr h
  have hS : va_S A s.heap s.heap [] := va_S.rf
  have hl := lv_entry ([.int x1, .int x2]) (n := 4) (Nat.le_of_ble_eq_true rfl)
  rw [lg_entry_eq]
  generalize (lg_sl ([.int x1, .int x2]) ++ List.replicate (4 - (lg_sl ([.int x1, .int x2])).length) Slot.unset).toArray = ls at hl ⊢
  have hl : lv_has ls 4 [(0, .int x1), (1, .int x2)] := hl
  have hP : va_P G.1 vwCl (w_X7_sharedDivisor G ) s.heap := hP
  rw [fX7_sharedDivisor] at h
  refine lv_iconst (v := (1 : Int32)) hx hb dX7_sharedDivisor_0 (by decide) ?_
  refine lv_istore_n (lv' := [(2, .int (1 : Int32)), (0, .int x1), (1, .int x2)]) hx hb dX7_sharedDivisor_1 rfl hl (by decide) rfl (fun ls hl => ?_)
  refine lv_iconst (v := (2 : Int32)) hx hb dX7_sharedDivisor_2 (by decide) ?_
  refine lv_istore_n (lv' := [(3, .int (2 : Int32)), (2, .int (1 : Int32)), (0, .int x1), (1, .int x2)]) hx hb dX7_sharedDivisor_3 rfl hl (by decide) rfl (fun ls hl => ?_)
  have loop_4 : ∀ (n : Nat) (K : Int32 → Option Int32) (l2_4 : Int32) (l3_4 : Int32) (H : Heap) (locs : List Loc) (ls : Array Slot), fX7_sharedDivisor_L4 fu x1 x2 K n l2_4 l3_4 = some rv → (∀ (l2_4e : Int32) (H : Heap) (locs : List Loc) (ls : Array Slot), K l2_4e = some rv → va_P G.1 vwCl (w_X7_sharedDivisor G ) H → va_D A (w_X7_sharedDivisor G ) → va_S A s.heap H locs → lv_has ls 4 [(2, .int l2_4e)] → W p l e (headSpec wsX7_sharedDivisor { frames := 0, cells := 0, slots := 0, locals := 0 }).room s m ([.int x1, .int x2] : List Value).toArray below meth c H locs 0 0 (MQ below (zQ (some (.int rv)) G (w_X7_sharedDivisor G ) A) ([.int x1, .int x2] : List Value).toArray s 0 0 A) (F0 m 29 ls [])) → va_P G.1 vwCl (w_X7_sharedDivisor G ) H → va_D A (w_X7_sharedDivisor G ) → va_S A s.heap H locs → lv_has ls 4 [(0, .int x1), (1, .int x2), (2, .int l2_4), (3, .int l3_4)] → W p l e (headSpec wsX7_sharedDivisor { frames := 0, cells := 0, slots := 0, locals := 0 }).room s m ([.int x1, .int x2] : List Value).toArray below meth c H locs 0 0 (MQ below (zQ (some (.int rv)) G (w_X7_sharedDivisor G ) A) ([.int x1, .int x2] : List Value).toArray s 0 0 A) (F0 m 4 ls []) := by
    intro n
    induction n with
    | zero => intro K l2_4 l3_4 H locs ls h; rw [fX7_sharedDivisor_L4] at h; cases h
    | succ n ih =>
      intro K l2_4 l3_4 H locs ls h hk hP hD hS hl
      rw [fX7_sharedDivisor_L4] at h
      refine lv_iload_n hx hb dX7_sharedDivisor_4 rfl (lv_at hl 3 rfl) ?_
      refine lv_iload_n hx hb dX7_sharedDivisor_5 rfl (lv_at hl 0 rfl) ?_
      refine lv_icmp_gt (tgt := 29) hx hb dX7_sharedDivisor_6 (by decide) (fun c6 => ?_) (fun c6 => ?_)
      · have h := zt c6 h
        exact hk _ _ _ _ h hP hD hS (lv_sub hl [2] rfl)
      · have h := zf c6 h
        refine lv_iload_n hx hb dX7_sharedDivisor_9 rfl (lv_at hl 0 rfl) ?_
        refine lv_iload_n hx hb dX7_sharedDivisor_10 rfl (lv_at hl 3 rfl) ?_
        obtain ⟨g11, h⟩ := zg h
        refine lv_irem hx hb dX7_sharedDivisor_11 g11 ?_
        refine lv_if_ne (tgt := 23) hx hb dX7_sharedDivisor_12 (by decide) (fun c12 => ?_) (fun c12 => ?_)
        · have h := zf c12 h
          refine lv_iinc (v := (l3_4 + (1 : Int32))) (lv' := [(3, .int (l3_4 + (1 : Int32))), (0, .int x1), (1, .int x2), (2, .int l2_4)]) hx hb dX7_sharedDivisor_23 hl (k := 3) rfl rfl (by decide) rfl (fun ls hl => ?_)
          refine lv_goto (tgt := 4) hx hb dX7_sharedDivisor_26 (by decide) ?_
          exact ih K _ _ _ _ _ h hk hP hD hS (lv_sub hl [1, 2, 3, 0] rfl)
        · have h := zt c12 h
          refine lv_iload_n hx hb dX7_sharedDivisor_15 rfl (lv_at hl 1 rfl) ?_
          refine lv_iload_n hx hb dX7_sharedDivisor_16 rfl (lv_at hl 3 rfl) ?_
          refine lv_irem hx hb dX7_sharedDivisor_17 g11 ?_
          refine lv_if_ne (tgt := 23) hx hb dX7_sharedDivisor_18 (by decide) (fun c18 => ?_) (fun c18 => ?_)
          · have h := zf c18 h
            refine lv_iinc (v := (l3_4 + (1 : Int32))) (lv' := [(3, .int (l3_4 + (1 : Int32))), (0, .int x1), (1, .int x2), (2, .int l2_4)]) hx hb dX7_sharedDivisor_23 hl (k := 3) rfl rfl (by decide) rfl (fun ls hl => ?_)
            refine lv_goto (tgt := 4) hx hb dX7_sharedDivisor_26 (by decide) ?_
            exact ih K _ _ _ _ _ h hk hP hD hS (lv_sub hl [1, 2, 3, 0] rfl)
          · have h := zt c18 h
            refine lv_iload_n hx hb dX7_sharedDivisor_21 rfl (lv_at hl 3 rfl) ?_
            refine lv_istore_n (lv' := [(2, .int l3_4), (0, .int x1), (1, .int x2), (3, .int l3_4)]) hx hb dX7_sharedDivisor_22 rfl hl (by decide) rfl (fun ls hl => ?_)
            refine lv_iinc (v := (l3_4 + (1 : Int32))) (lv' := [(3, .int (l3_4 + (1 : Int32))), (2, .int l3_4), (0, .int x1), (1, .int x2)]) hx hb dX7_sharedDivisor_23 hl (k := 3) rfl rfl (by decide) rfl (fun ls hl => ?_)
            refine lv_goto (tgt := 4) hx hb dX7_sharedDivisor_26 (by decide) ?_
            exact ih K _ _ _ _ _ h hk hP hD hS (lv_sub hl [2, 3, 1, 0] rfl)
  refine loop_4 fu _ _ _ _ _ _ h (fun l2_4e H locs ls h hP hD hS hl => ?_) hP hD hS (lv_sub hl [2, 3, 1, 0] rfl)
  refine lv_iload_n hx hb dX7_sharedDivisor_29 rfl (lv_at hl 0 rfl) ?_
  cases h
  exact W.iret hx hb hr (fun t9 ht9 _ => zend hP hD hS ht9) hS.2.2 dX7_sharedDivisor_30
end
