-- ===== PART A: goes FIRST, ahead of the names: the tables' words, and 'selects' of the private methods out of them =====
/-- a private method of a class that the tables say can be made, by its rows of tables_1 -/
def lw_okq (q : MethodName × Nat) : Prop := (q.1.cls ≠ "java/lang/invoke/MethodHandle" ∧ q.1.cls ≠ "java/lang/invoke/VarHandle") ∧ Cond.instantiable q.1.cls q.2 ∈ tables_1 ∧ Cond.privateMethod q.1 ∈ tables_1 ∧ Cond.instanceMethod q.1 ∈ tables_1
theorem lw_p0 : lw_okq (⟨"ConjurerDesk", "forgetRun", "()V"⟩, 15) := ⟨⟨by decide +kernel, by decide +kernel⟩, List.mem_of_getElem? (i := 25) (by decide +kernel), List.mem_of_getElem? (i := 444) (by decide +kernel), List.mem_of_getElem? (i := 445) (by decide +kernel)⟩
theorem lw_p1 : lw_okq (⟨"ConjurerDesk", "tapeIsStart", "()Z"⟩, 15) := ⟨⟨by decide +kernel, by decide +kernel⟩, List.mem_of_getElem? (i := 25) (by decide +kernel), List.mem_of_getElem? (i := 457) (by decide +kernel), List.mem_of_getElem? (i := 458) (by decide +kernel)⟩
theorem lw_p2 : lw_okq (⟨"ConjurerDesk$Reader", "begin", "(LConjurerDesk$Tape;)V"⟩, 7) := ⟨⟨by decide +kernel, by decide +kernel⟩, List.mem_of_getElem? (i := 87) (by decide +kernel), List.mem_of_getElem? (i := 469) (by decide +kernel), List.mem_of_getElem? (i := 470) (by decide +kernel)⟩
theorem lw_p3 : lw_okq (⟨"ConjurerDesk$Tokens", "addRun", "(LConjurerDesk$Tape;I)I"⟩, 4) := ⟨⟨by decide +kernel, by decide +kernel⟩, List.mem_of_getElem? (i := 93) (by decide +kernel), List.mem_of_getElem? (i := 483) (by decide +kernel), List.mem_of_getElem? (i := 484) (by decide +kernel)⟩
theorem lw_p4 : lw_okq (⟨"ConjurerDesk$Tokens", "add", "(III)V"⟩, 4) := ⟨⟨by decide +kernel, by decide +kernel⟩, List.mem_of_getElem? (i := 93) (by decide +kernel), List.mem_of_getElem? (i := 534) (by decide +kernel), List.mem_of_getElem? (i := 535) (by decide +kernel)⟩
theorem lw_p5 : lw_okq (⟨"ConjurerDesk$Tokens", "addSign", "(LConjurerDesk$Tape;I)I"⟩, 4) := ⟨⟨by decide +kernel, by decide +kernel⟩, List.mem_of_getElem? (i := 93) (by decide +kernel), List.mem_of_getElem? (i := 538) (by decide +kernel), List.mem_of_getElem? (i := 539) (by decide +kernel)⟩
theorem lw_p6 : lw_okq (⟨"ConjurerDesk$Reader", "readSteps", "(LConjurerDesk$Trick;II)V"⟩, 7) := ⟨⟨by decide +kernel, by decide +kernel⟩, List.mem_of_getElem? (i := 87) (by decide +kernel), List.mem_of_getElem? (i := 549) (by decide +kernel), List.mem_of_getElem? (i := 550) (by decide +kernel)⟩
theorem lw_p7 : lw_okq (⟨"ConjurerDesk$Reader", "readStep", "(LConjurerDesk$Trick;II)V"⟩, 7) := ⟨⟨by decide +kernel, by decide +kernel⟩, List.mem_of_getElem? (i := 87) (by decide +kernel), List.mem_of_getElem? (i := 553) (by decide +kernel), List.mem_of_getElem? (i := 554) (by decide +kernel)⟩
theorem lw_p8 : lw_okq (⟨"ConjurerDesk$Reader", "fail", "(I)V"⟩, 7) := ⟨⟨by decide +kernel, by decide +kernel⟩, List.mem_of_getElem? (i := 87) (by decide +kernel), List.mem_of_getElem? (i := 557) (by decide +kernel), List.mem_of_getElem? (i := 558) (by decide +kernel)⟩
theorem lw_p9 : lw_okq (⟨"ConjurerDesk$Reader", "goOn", "()V"⟩, 7) := ⟨⟨by decide +kernel, by decide +kernel⟩, List.mem_of_getElem? (i := 87) (by decide +kernel), List.mem_of_getElem? (i := 561) (by decide +kernel), List.mem_of_getElem? (i := 562) (by decide +kernel)⟩
theorem lw_p10 : lw_okq (⟨"ConjurerDesk$Reader", "readNumber", "(II)I"⟩, 7) := ⟨⟨by decide +kernel, by decide +kernel⟩, List.mem_of_getElem? (i := 87) (by decide +kernel), List.mem_of_getElem? (i := 565) (by decide +kernel), List.mem_of_getElem? (i := 566) (by decide +kernel)⟩
theorem lw_p11 : lw_okq (⟨"ConjurerDesk$Reader", "readBlock", "(LConjurerDesk$Trick;II)V"⟩, 7) := ⟨⟨by decide +kernel, by decide +kernel⟩, List.mem_of_getElem? (i := 87) (by decide +kernel), List.mem_of_getElem? (i := 569) (by decide +kernel), List.mem_of_getElem? (i := 570) (by decide +kernel)⟩
theorem lw_p12 : lw_okq (⟨"ConjurerDesk$Reader", "expect", "(I)V"⟩, 7) := ⟨⟨by decide +kernel, by decide +kernel⟩, List.mem_of_getElem? (i := 87) (by decide +kernel), List.mem_of_getElem? (i := 573) (by decide +kernel), List.mem_of_getElem? (i := 574) (by decide +kernel)⟩
theorem lw_p13 : lw_okq (⟨"ConjurerDesk$Reader", "readIf", "(LConjurerDesk$Trick;LConjurerDesk$Step;II)V"⟩, 7) := ⟨⟨by decide +kernel, by decide +kernel⟩, List.mem_of_getElem? (i := 87) (by decide +kernel), List.mem_of_getElem? (i := 577) (by decide +kernel), List.mem_of_getElem? (i := 578) (by decide +kernel)⟩
theorem lw_p14 : lw_okq (⟨"ConjurerDesk$Reader", "readCondition", "(LConjurerDesk$Conditions;I)V"⟩, 7) := ⟨⟨by decide +kernel, by decide +kernel⟩, List.mem_of_getElem? (i := 87) (by decide +kernel), List.mem_of_getElem? (i := 581) (by decide +kernel), List.mem_of_getElem? (i := 582) (by decide +kernel)⟩
theorem lw_p15 : lw_okq (⟨"ConjurerDesk$Reader", "readBoth", "(LConjurerDesk$Conditions;I)V"⟩, 7) := ⟨⟨by decide +kernel, by decide +kernel⟩, List.mem_of_getElem? (i := 87) (by decide +kernel), List.mem_of_getElem? (i := 585) (by decide +kernel), List.mem_of_getElem? (i := 586) (by decide +kernel)⟩
def lw_privs_1 : List (MethodName × Nat) := [(⟨"ConjurerDesk", "forgetRun", "()V"⟩, 15), (⟨"ConjurerDesk", "tapeIsStart", "()Z"⟩, 15), (⟨"ConjurerDesk$Reader", "begin", "(LConjurerDesk$Tape;)V"⟩, 7), (⟨"ConjurerDesk$Tokens", "addRun", "(LConjurerDesk$Tape;I)I"⟩, 4), (⟨"ConjurerDesk$Tokens", "add", "(III)V"⟩, 4), (⟨"ConjurerDesk$Tokens", "addSign", "(LConjurerDesk$Tape;I)I"⟩, 4), (⟨"ConjurerDesk$Reader", "readSteps", "(LConjurerDesk$Trick;II)V"⟩, 7), (⟨"ConjurerDesk$Reader", "readStep", "(LConjurerDesk$Trick;II)V"⟩, 7), (⟨"ConjurerDesk$Reader", "fail", "(I)V"⟩, 7), (⟨"ConjurerDesk$Reader", "goOn", "()V"⟩, 7), (⟨"ConjurerDesk$Reader", "readNumber", "(II)I"⟩, 7), (⟨"ConjurerDesk$Reader", "readBlock", "(LConjurerDesk$Trick;II)V"⟩, 7), (⟨"ConjurerDesk$Reader", "expect", "(I)V"⟩, 7), (⟨"ConjurerDesk$Reader", "readIf", "(LConjurerDesk$Trick;LConjurerDesk$Step;II)V"⟩, 7), (⟨"ConjurerDesk$Reader", "readCondition", "(LConjurerDesk$Conditions;I)V"⟩, 7), (⟨"ConjurerDesk$Reader", "readBoth", "(LConjurerDesk$Conditions;I)V"⟩, 7)]
theorem lw_r1 : ∀ q ∈ lw_privs_1, lw_okq q := List.forall_mem_cons.mpr ⟨lw_p0, List.forall_mem_cons.mpr ⟨lw_p1, List.forall_mem_cons.mpr ⟨lw_p2, List.forall_mem_cons.mpr ⟨lw_p3, List.forall_mem_cons.mpr ⟨lw_p4, List.forall_mem_cons.mpr ⟨lw_p5, List.forall_mem_cons.mpr ⟨lw_p6, List.forall_mem_cons.mpr ⟨lw_p7, List.forall_mem_cons.mpr ⟨lw_p8, List.forall_mem_cons.mpr ⟨lw_p9, List.forall_mem_cons.mpr ⟨lw_p10, List.forall_mem_cons.mpr ⟨lw_p11, List.forall_mem_cons.mpr ⟨lw_p12, List.forall_mem_cons.mpr ⟨lw_p13, List.forall_mem_cons.mpr ⟨lw_p14, List.forall_mem_cons.mpr ⟨lw_p15, fun _ h => absurd h List.not_mem_nil⟩⟩⟩⟩⟩⟩⟩⟩⟩⟩⟩⟩⟩⟩⟩⟩
theorem lw_p16 : lw_okq (⟨"ConjurerDesk$Reader", "readOne", "(LConjurerDesk$Conditions;I)V"⟩, 7) := ⟨⟨by decide +kernel, by decide +kernel⟩, List.mem_of_getElem? (i := 87) (by decide +kernel), List.mem_of_getElem? (i := 589) (by decide +kernel), List.mem_of_getElem? (i := 590) (by decide +kernel)⟩
theorem lw_p17 : lw_okq (⟨"ConjurerDesk$Reader", "readNested", "(LConjurerDesk$Conditions;I)V"⟩, 7) := ⟨⟨by decide +kernel, by decide +kernel⟩, List.mem_of_getElem? (i := 87) (by decide +kernel), List.mem_of_getElem? (i := 593) (by decide +kernel), List.mem_of_getElem? (i := 594) (by decide +kernel)⟩
theorem lw_p18 : lw_okq (⟨"ConjurerDesk$Reader", "readTest", "(LConjurerDesk$Conditions;)V"⟩, 7) := ⟨⟨by decide +kernel, by decide +kernel⟩, List.mem_of_getElem? (i := 87) (by decide +kernel), List.mem_of_getElem? (i := 598) (by decide +kernel), List.mem_of_getElem? (i := 599) (by decide +kernel)⟩
theorem lw_p19 : lw_okq (⟨"ConjurerDesk$Reader", "readProperty", "()I"⟩, 7) := ⟨⟨by decide +kernel, by decide +kernel⟩, List.mem_of_getElem? (i := 87) (by decide +kernel), List.mem_of_getElem? (i := 602) (by decide +kernel), List.mem_of_getElem? (i := 603) (by decide +kernel)⟩
theorem lw_p20 : lw_okq (⟨"ConjurerDesk$Reader", "readPile", "(I)I"⟩, 7) := ⟨⟨by decide +kernel, by decide +kernel⟩, List.mem_of_getElem? (i := 87) (by decide +kernel), List.mem_of_getElem? (i := 606) (by decide +kernel), List.mem_of_getElem? (i := 607) (by decide +kernel)⟩
theorem lw_p21 : lw_okq (⟨"ConjurerDesk$Reader", "readComparison", "(LConjurerDesk$Conditions;)V"⟩, 7) := ⟨⟨by decide +kernel, by decide +kernel⟩, List.mem_of_getElem? (i := 87) (by decide +kernel), List.mem_of_getElem? (i := 613) (by decide +kernel), List.mem_of_getElem? (i := 614) (by decide +kernel)⟩
theorem lw_p22 : lw_okq (⟨"ConjurerDesk$Reader", "readNum", "()I"⟩, 7) := ⟨⟨by decide +kernel, by decide +kernel⟩, List.mem_of_getElem? (i := 87) (by decide +kernel), List.mem_of_getElem? (i := 617) (by decide +kernel), List.mem_of_getElem? (i := 618) (by decide +kernel)⟩
theorem lw_p23 : lw_okq (⟨"ConjurerDesk$Reader", "readPlainStep", "(LConjurerDesk$Step;)V"⟩, 7) := ⟨⟨by decide +kernel, by decide +kernel⟩, List.mem_of_getElem? (i := 87) (by decide +kernel), List.mem_of_getElem? (i := 626) (by decide +kernel), List.mem_of_getElem? (i := 627) (by decide +kernel)⟩
theorem lw_p24 : lw_okq (⟨"ConjurerDesk$Reader", "readMany", "()I"⟩, 7) := ⟨⟨by decide +kernel, by decide +kernel⟩, List.mem_of_getElem? (i := 87) (by decide +kernel), List.mem_of_getElem? (i := 630) (by decide +kernel), List.mem_of_getElem? (i := 631) (by decide +kernel)⟩
theorem lw_p25 : lw_okq (⟨"ConjurerDesk$Reader", "readFreeOrNumber", "(I)I"⟩, 7) := ⟨⟨by decide +kernel, by decide +kernel⟩, List.mem_of_getElem? (i := 87) (by decide +kernel), List.mem_of_getElem? (i := 634) (by decide +kernel), List.mem_of_getElem? (i := 635) (by decide +kernel)⟩
theorem lw_p26 : lw_okq (⟨"ConjurerDesk$Reader", "readTarget", "(I)I"⟩, 7) := ⟨⟨by decide +kernel, by decide +kernel⟩, List.mem_of_getElem? (i := 87) (by decide +kernel), List.mem_of_getElem? (i := 638) (by decide +kernel), List.mem_of_getElem? (i := 639) (by decide +kernel)⟩
theorem lw_p27 : lw_okq (⟨"ConjurerDesk$Reader", "readPlace", "()I"⟩, 7) := ⟨⟨by decide +kernel, by decide +kernel⟩, List.mem_of_getElem? (i := 87) (by decide +kernel), List.mem_of_getElem? (i := 642) (by decide +kernel), List.mem_of_getElem? (i := 643) (by decide +kernel)⟩
theorem lw_p28 : lw_okq (⟨"ConjurerDesk$Table", "clear", "()V"⟩, 5) := ⟨⟨by decide +kernel, by decide +kernel⟩, List.mem_of_getElem? (i := 140) (by decide +kernel), List.mem_of_getElem? (i := 679) (by decide +kernel), List.mem_of_getElem? (i := 680) (by decide +kernel)⟩
theorem lw_p29 : lw_okq (⟨"ConjurerDesk$Table", "push", "(II)V"⟩, 5) := ⟨⟨by decide +kernel, by decide +kernel⟩, List.mem_of_getElem? (i := 140) (by decide +kernel), List.mem_of_getElem? (i := 683) (by decide +kernel), List.mem_of_getElem? (i := 684) (by decide +kernel)⟩
theorem lw_p30 : lw_okq (⟨"ConjurerDesk$Ways", "append", "(IJJ)Z"⟩, 5) := ⟨⟨by decide +kernel, by decide +kernel⟩, List.mem_of_getElem? (i := 171) (by decide +kernel), List.mem_of_getElem? (i := 696) (by decide +kernel), List.mem_of_getElem? (i := 697) (by decide +kernel)⟩
theorem lw_p31 : lw_okq (⟨"ConjurerDesk$Spread", "doSteps", "(LConjurerDesk$Trick;III)V"⟩, 8) := ⟨⟨by decide +kernel, by decide +kernel⟩, List.mem_of_getElem? (i := 165) (by decide +kernel), List.mem_of_getElem? (i := 703) (by decide +kernel), List.mem_of_getElem? (i := 704) (by decide +kernel)⟩
def lw_privs_2 : List (MethodName × Nat) := [(⟨"ConjurerDesk$Reader", "readOne", "(LConjurerDesk$Conditions;I)V"⟩, 7), (⟨"ConjurerDesk$Reader", "readNested", "(LConjurerDesk$Conditions;I)V"⟩, 7), (⟨"ConjurerDesk$Reader", "readTest", "(LConjurerDesk$Conditions;)V"⟩, 7), (⟨"ConjurerDesk$Reader", "readProperty", "()I"⟩, 7), (⟨"ConjurerDesk$Reader", "readPile", "(I)I"⟩, 7), (⟨"ConjurerDesk$Reader", "readComparison", "(LConjurerDesk$Conditions;)V"⟩, 7), (⟨"ConjurerDesk$Reader", "readNum", "()I"⟩, 7), (⟨"ConjurerDesk$Reader", "readPlainStep", "(LConjurerDesk$Step;)V"⟩, 7), (⟨"ConjurerDesk$Reader", "readMany", "()I"⟩, 7), (⟨"ConjurerDesk$Reader", "readFreeOrNumber", "(I)I"⟩, 7), (⟨"ConjurerDesk$Reader", "readTarget", "(I)I"⟩, 7), (⟨"ConjurerDesk$Reader", "readPlace", "()I"⟩, 7), (⟨"ConjurerDesk$Table", "clear", "()V"⟩, 5), (⟨"ConjurerDesk$Table", "push", "(II)V"⟩, 5), (⟨"ConjurerDesk$Ways", "append", "(IJJ)Z"⟩, 5), (⟨"ConjurerDesk$Spread", "doSteps", "(LConjurerDesk$Trick;III)V"⟩, 8)]
theorem lw_r2 : ∀ q ∈ lw_privs_2, lw_okq q := List.forall_mem_cons.mpr ⟨lw_p16, List.forall_mem_cons.mpr ⟨lw_p17, List.forall_mem_cons.mpr ⟨lw_p18, List.forall_mem_cons.mpr ⟨lw_p19, List.forall_mem_cons.mpr ⟨lw_p20, List.forall_mem_cons.mpr ⟨lw_p21, List.forall_mem_cons.mpr ⟨lw_p22, List.forall_mem_cons.mpr ⟨lw_p23, List.forall_mem_cons.mpr ⟨lw_p24, List.forall_mem_cons.mpr ⟨lw_p25, List.forall_mem_cons.mpr ⟨lw_p26, List.forall_mem_cons.mpr ⟨lw_p27, List.forall_mem_cons.mpr ⟨lw_p28, List.forall_mem_cons.mpr ⟨lw_p29, List.forall_mem_cons.mpr ⟨lw_p30, List.forall_mem_cons.mpr ⟨lw_p31, fun _ h => absurd h List.not_mem_nil⟩⟩⟩⟩⟩⟩⟩⟩⟩⟩⟩⟩⟩⟩⟩⟩
theorem lw_p32 : lw_okq (⟨"ConjurerDesk$Spread", "doIf", "(LConjurerDesk$Trick;II)V"⟩, 8) := ⟨⟨by decide +kernel, by decide +kernel⟩, List.mem_of_getElem? (i := 165) (by decide +kernel), List.mem_of_getElem? (i := 707) (by decide +kernel), List.mem_of_getElem? (i := 708) (by decide +kernel)⟩
theorem lw_p33 : lw_okq (⟨"ConjurerDesk$Conditions", "isTrue", "(LConjurerDesk$Table;I)Z"⟩, 4) := ⟨⟨by decide +kernel, by decide +kernel⟩, List.mem_of_getElem? (i := 272) (by decide +kernel), List.mem_of_getElem? (i := 719) (by decide +kernel), List.mem_of_getElem? (i := 720) (by decide +kernel)⟩
theorem lw_p34 : lw_okq (⟨"ConjurerDesk$Spread", "exchange", "()V"⟩, 8) := ⟨⟨by decide +kernel, by decide +kernel⟩, List.mem_of_getElem? (i := 165) (by decide +kernel), List.mem_of_getElem? (i := 759) (by decide +kernel), List.mem_of_getElem? (i := 760) (by decide +kernel)⟩
theorem lw_p35 : lw_okq (⟨"ConjurerDesk$Spread", "doPlainStep", "(LConjurerDesk$Step;)V"⟩, 8) := ⟨⟨by decide +kernel, by decide +kernel⟩, List.mem_of_getElem? (i := 165) (by decide +kernel), List.mem_of_getElem? (i := 763) (by decide +kernel), List.mem_of_getElem? (i := 764) (by decide +kernel)⟩
theorem lw_p36 : lw_okq (⟨"ConjurerDesk$Table", "cut", "(II)V"⟩, 5) := ⟨⟨by decide +kernel, by decide +kernel⟩, List.mem_of_getElem? (i := 140) (by decide +kernel), List.mem_of_getElem? (i := 791) (by decide +kernel), List.mem_of_getElem? (i := 792) (by decide +kernel)⟩
theorem lw_p37 : lw_okq (⟨"ConjurerDesk$Table", "deal", "(III)V"⟩, 5) := ⟨⟨by decide +kernel, by decide +kernel⟩, List.mem_of_getElem? (i := 140) (by decide +kernel), List.mem_of_getElem? (i := 795) (by decide +kernel), List.mem_of_getElem? (i := 796) (by decide +kernel)⟩
theorem lw_p38 : lw_okq (⟨"ConjurerDesk$Table", "pop", "(I)I"⟩, 5) := ⟨⟨by decide +kernel, by decide +kernel⟩, List.mem_of_getElem? (i := 140) (by decide +kernel), List.mem_of_getElem? (i := 799) (by decide +kernel), List.mem_of_getElem? (i := 800) (by decide +kernel)⟩
theorem lw_p39 : lw_okq (⟨"ConjurerDesk$Table", "move", "(III)V"⟩, 5) := ⟨⟨by decide +kernel, by decide +kernel⟩, List.mem_of_getElem? (i := 140) (by decide +kernel), List.mem_of_getElem? (i := 803) (by decide +kernel), List.mem_of_getElem? (i := 804) (by decide +kernel)⟩
theorem lw_p40 : lw_okq (⟨"ConjurerDesk$Table", "putHandOn", "(II)V"⟩, 5) := ⟨⟨by decide +kernel, by decide +kernel⟩, List.mem_of_getElem? (i := 140) (by decide +kernel), List.mem_of_getElem? (i := 807) (by decide +kernel), List.mem_of_getElem? (i := 808) (by decide +kernel)⟩
theorem lw_p41 : lw_okq (⟨"ConjurerDesk$Table", "take", "(III)V"⟩, 5) := ⟨⟨by decide +kernel, by decide +kernel⟩, List.mem_of_getElem? (i := 140) (by decide +kernel), List.mem_of_getElem? (i := 811) (by decide +kernel), List.mem_of_getElem? (i := 812) (by decide +kernel)⟩
theorem lw_p42 : lw_okq (⟨"ConjurerDesk$Table", "turn", "(II)V"⟩, 5) := ⟨⟨by decide +kernel, by decide +kernel⟩, List.mem_of_getElem? (i := 140) (by decide +kernel), List.mem_of_getElem? (i := 815) (by decide +kernel), List.mem_of_getElem? (i := 816) (by decide +kernel)⟩
theorem lw_p43 : lw_okq (⟨"ConjurerDesk$Table", "flip", "(II)V"⟩, 5) := ⟨⟨by decide +kernel, by decide +kernel⟩, List.mem_of_getElem? (i := 140) (by decide +kernel), List.mem_of_getElem? (i := 819) (by decide +kernel), List.mem_of_getElem? (i := 820) (by decide +kernel)⟩
theorem lw_p44 : lw_okq (⟨"ConjurerDesk$Table", "riffle", "(LConjurerDesk$Step;I)V"⟩, 5) := ⟨⟨by decide +kernel, by decide +kernel⟩, List.mem_of_getElem? (i := 140) (by decide +kernel), List.mem_of_getElem? (i := 823) (by decide +kernel), List.mem_of_getElem? (i := 824) (by decide +kernel)⟩
theorem lw_p45 : lw_okq (⟨"ConjurerDesk$Table", "faro", "(LConjurerDesk$Step;)V"⟩, 5) := ⟨⟨by decide +kernel, by decide +kernel⟩, List.mem_of_getElem? (i := 140) (by decide +kernel), List.mem_of_getElem? (i := 827) (by decide +kernel), List.mem_of_getElem? (i := 828) (by decide +kernel)⟩
theorem lw_p46 : lw_okq (⟨"ConjurerDesk$Table", "dealDownUnder", "(II)V"⟩, 5) := ⟨⟨by decide +kernel, by decide +kernel⟩, List.mem_of_getElem? (i := 140) (by decide +kernel), List.mem_of_getElem? (i := 831) (by decide +kernel), List.mem_of_getElem? (i := 832) (by decide +kernel)⟩
theorem lw_p47 : lw_okq (⟨"ConjurerDesk$Table", "swap", "(II)V"⟩, 5) := ⟨⟨by decide +kernel, by decide +kernel⟩, List.mem_of_getElem? (i := 140) (by decide +kernel), List.mem_of_getElem? (i := 835) (by decide +kernel), List.mem_of_getElem? (i := 836) (by decide +kernel)⟩
def lw_privs_3 : List (MethodName × Nat) := [(⟨"ConjurerDesk$Spread", "doIf", "(LConjurerDesk$Trick;II)V"⟩, 8), (⟨"ConjurerDesk$Conditions", "isTrue", "(LConjurerDesk$Table;I)Z"⟩, 4), (⟨"ConjurerDesk$Spread", "exchange", "()V"⟩, 8), (⟨"ConjurerDesk$Spread", "doPlainStep", "(LConjurerDesk$Step;)V"⟩, 8), (⟨"ConjurerDesk$Table", "cut", "(II)V"⟩, 5), (⟨"ConjurerDesk$Table", "deal", "(III)V"⟩, 5), (⟨"ConjurerDesk$Table", "pop", "(I)I"⟩, 5), (⟨"ConjurerDesk$Table", "move", "(III)V"⟩, 5), (⟨"ConjurerDesk$Table", "putHandOn", "(II)V"⟩, 5), (⟨"ConjurerDesk$Table", "take", "(III)V"⟩, 5), (⟨"ConjurerDesk$Table", "turn", "(II)V"⟩, 5), (⟨"ConjurerDesk$Table", "flip", "(II)V"⟩, 5), (⟨"ConjurerDesk$Table", "riffle", "(LConjurerDesk$Step;I)V"⟩, 5), (⟨"ConjurerDesk$Table", "faro", "(LConjurerDesk$Step;)V"⟩, 5), (⟨"ConjurerDesk$Table", "dealDownUnder", "(II)V"⟩, 5), (⟨"ConjurerDesk$Table", "swap", "(II)V"⟩, 5)]
theorem lw_r3 : ∀ q ∈ lw_privs_3, lw_okq q := List.forall_mem_cons.mpr ⟨lw_p32, List.forall_mem_cons.mpr ⟨lw_p33, List.forall_mem_cons.mpr ⟨lw_p34, List.forall_mem_cons.mpr ⟨lw_p35, List.forall_mem_cons.mpr ⟨lw_p36, List.forall_mem_cons.mpr ⟨lw_p37, List.forall_mem_cons.mpr ⟨lw_p38, List.forall_mem_cons.mpr ⟨lw_p39, List.forall_mem_cons.mpr ⟨lw_p40, List.forall_mem_cons.mpr ⟨lw_p41, List.forall_mem_cons.mpr ⟨lw_p42, List.forall_mem_cons.mpr ⟨lw_p43, List.forall_mem_cons.mpr ⟨lw_p44, List.forall_mem_cons.mpr ⟨lw_p45, List.forall_mem_cons.mpr ⟨lw_p46, List.forall_mem_cons.mpr ⟨lw_p47, fun _ h => absurd h List.not_mem_nil⟩⟩⟩⟩⟩⟩⟩⟩⟩⟩⟩⟩⟩⟩⟩⟩
theorem lw_p48 : lw_okq (⟨"ConjurerDesk$Table", "mark", "(II)V"⟩, 5) := ⟨⟨by decide +kernel, by decide +kernel⟩, List.mem_of_getElem? (i := 140) (by decide +kernel), List.mem_of_getElem? (i := 839) (by decide +kernel), List.mem_of_getElem? (i := 840) (by decide +kernel)⟩
theorem lw_p49 : lw_okq (⟨"ConjurerDesk$Spread", "judge", "(LConjurerDesk$Conditions;)V"⟩, 8) := ⟨⟨by decide +kernel, by decide +kernel⟩, List.mem_of_getElem? (i := 165) (by decide +kernel), List.mem_of_getElem? (i := 849) (by decide +kernel), List.mem_of_getElem? (i := 850) (by decide +kernel)⟩
theorem lw_p50 : lw_okq (⟨"ConjurerDesk$Show", "doSteps", "(LConjurerDesk$Trick;III)V"⟩, 7) := ⟨⟨by decide +kernel, by decide +kernel⟩, List.mem_of_getElem? (i := 229) (by decide +kernel), List.mem_of_getElem? (i := 876) (by decide +kernel), List.mem_of_getElem? (i := 877) (by decide +kernel)⟩
theorem lw_p51 : lw_okq (⟨"ConjurerDesk$Show", "doIf", "(LConjurerDesk$Trick;II)V"⟩, 7) := ⟨⟨by decide +kernel, by decide +kernel⟩, List.mem_of_getElem? (i := 229) (by decide +kernel), List.mem_of_getElem? (i := 880) (by decide +kernel), List.mem_of_getElem? (i := 881) (by decide +kernel)⟩
theorem lw_p52 : lw_okq (⟨"ConjurerDesk$Show", "doPlainStep", "(LConjurerDesk$Step;)V"⟩, 7) := ⟨⟨by decide +kernel, by decide +kernel⟩, List.mem_of_getElem? (i := 229) (by decide +kernel), List.mem_of_getElem? (i := 885) (by decide +kernel), List.mem_of_getElem? (i := 886) (by decide +kernel)⟩
theorem lw_p53 : lw_okq (⟨"java/lang/Throwable", "fillInStackTrace", "(I)Ljava/lang/Throwable;"⟩, 6) := ⟨⟨by decide +kernel, by decide +kernel⟩, List.mem_of_getElem? (i := 952) (by decide +kernel), List.mem_of_getElem? (i := 950) (by decide +kernel), List.mem_of_getElem? (i := 951) (by decide +kernel)⟩
theorem lw_p54 : lw_okq (⟨"ConjurerDesk", "nextOrder", "()Z"⟩, 15) := ⟨⟨by decide +kernel, by decide +kernel⟩, List.mem_of_getElem? (i := 25) (by decide +kernel), List.mem_of_getElem? (i := 985) (by decide +kernel), List.mem_of_getElem? (i := 986) (by decide +kernel)⟩
theorem lw_p55 : lw_okq (⟨"ConjurerDesk", "exchange", "(II)V"⟩, 15) := ⟨⟨by decide +kernel, by decide +kernel⟩, List.mem_of_getElem? (i := 25) (by decide +kernel), List.mem_of_getElem? (i := 989) (by decide +kernel), List.mem_of_getElem? (i := 990) (by decide +kernel)⟩
theorem lw_p56 : lw_okq (⟨"ConjurerDeskModel", "four", "(I)V"⟩, 63) := ⟨⟨by decide +kernel, by decide +kernel⟩, List.mem_of_getElem? (i := 1027) (by decide +kernel), List.mem_of_getElem? (i := 1025) (by decide +kernel), List.mem_of_getElem? (i := 1026) (by decide +kernel)⟩
theorem lw_p57 : lw_okq (⟨"ConjurerDeskModel", "fresh", "()V"⟩, 63) := ⟨⟨by decide +kernel, by decide +kernel⟩, List.mem_of_getElem? (i := 1027) (by decide +kernel), List.mem_of_getElem? (i := 1040) (by decide +kernel), List.mem_of_getElem? (i := 1041) (by decide +kernel)⟩
theorem lw_p58 : lw_okq (⟨"ConjurerDeskModel", "next", "()V"⟩, 63) := ⟨⟨by decide +kernel, by decide +kernel⟩, List.mem_of_getElem? (i := 1027) (by decide +kernel), List.mem_of_getElem? (i := 1250) (by decide +kernel), List.mem_of_getElem? (i := 1251) (by decide +kernel)⟩
theorem lw_p59 : lw_okq (⟨"ConjurerDeskModel", "peek", "()I"⟩, 63) := ⟨⟨by decide +kernel, by decide +kernel⟩, List.mem_of_getElem? (i := 1027) (by decide +kernel), List.mem_of_getElem? (i := 1254) (by decide +kernel), List.mem_of_getElem? (i := 1255) (by decide +kernel)⟩
theorem lw_p60 : lw_okq (⟨"ConjurerDeskModel", "run", "(Z)V"⟩, 63) := ⟨⟨by decide +kernel, by decide +kernel⟩, List.mem_of_getElem? (i := 1027) (by decide +kernel), List.mem_of_getElem? (i := 1264) (by decide +kernel), List.mem_of_getElem? (i := 1265) (by decide +kernel)⟩
theorem lw_p61 : lw_okq (⟨"ConjurerDeskModel", "block", "(I)Z"⟩, 63) := ⟨⟨by decide +kernel, by decide +kernel⟩, List.mem_of_getElem? (i := 1027) (by decide +kernel), List.mem_of_getElem? (i := 1268) (by decide +kernel), List.mem_of_getElem? (i := 1269) (by decide +kernel)⟩
theorem lw_p62 : lw_okq (⟨"ConjurerDeskModel", "readStep", "(I)Z"⟩, 63) := ⟨⟨by decide +kernel, by decide +kernel⟩, List.mem_of_getElem? (i := 1027) (by decide +kernel), List.mem_of_getElem? (i := 1272) (by decide +kernel), List.mem_of_getElem? (i := 1273) (by decide +kernel)⟩
theorem lw_p63 : lw_okq (⟨"ConjurerDeskModel", "isStep", "()Z"⟩, 63) := ⟨⟨by decide +kernel, by decide +kernel⟩, List.mem_of_getElem? (i := 1027) (by decide +kernel), List.mem_of_getElem? (i := 1276) (by decide +kernel), List.mem_of_getElem? (i := 1277) (by decide +kernel)⟩
def lw_privs_4 : List (MethodName × Nat) := [(⟨"ConjurerDesk$Table", "mark", "(II)V"⟩, 5), (⟨"ConjurerDesk$Spread", "judge", "(LConjurerDesk$Conditions;)V"⟩, 8), (⟨"ConjurerDesk$Show", "doSteps", "(LConjurerDesk$Trick;III)V"⟩, 7), (⟨"ConjurerDesk$Show", "doIf", "(LConjurerDesk$Trick;II)V"⟩, 7), (⟨"ConjurerDesk$Show", "doPlainStep", "(LConjurerDesk$Step;)V"⟩, 7), (⟨"java/lang/Throwable", "fillInStackTrace", "(I)Ljava/lang/Throwable;"⟩, 6), (⟨"ConjurerDesk", "nextOrder", "()Z"⟩, 15), (⟨"ConjurerDesk", "exchange", "(II)V"⟩, 15), (⟨"ConjurerDeskModel", "four", "(I)V"⟩, 63), (⟨"ConjurerDeskModel", "fresh", "()V"⟩, 63), (⟨"ConjurerDeskModel", "next", "()V"⟩, 63), (⟨"ConjurerDeskModel", "peek", "()I"⟩, 63), (⟨"ConjurerDeskModel", "run", "(Z)V"⟩, 63), (⟨"ConjurerDeskModel", "block", "(I)Z"⟩, 63), (⟨"ConjurerDeskModel", "readStep", "(I)Z"⟩, 63), (⟨"ConjurerDeskModel", "isStep", "()Z"⟩, 63)]
theorem lw_r4 : ∀ q ∈ lw_privs_4, lw_okq q := List.forall_mem_cons.mpr ⟨lw_p48, List.forall_mem_cons.mpr ⟨lw_p49, List.forall_mem_cons.mpr ⟨lw_p50, List.forall_mem_cons.mpr ⟨lw_p51, List.forall_mem_cons.mpr ⟨lw_p52, List.forall_mem_cons.mpr ⟨lw_p53, List.forall_mem_cons.mpr ⟨lw_p54, List.forall_mem_cons.mpr ⟨lw_p55, List.forall_mem_cons.mpr ⟨lw_p56, List.forall_mem_cons.mpr ⟨lw_p57, List.forall_mem_cons.mpr ⟨lw_p58, List.forall_mem_cons.mpr ⟨lw_p59, List.forall_mem_cons.mpr ⟨lw_p60, List.forall_mem_cons.mpr ⟨lw_p61, List.forall_mem_cons.mpr ⟨lw_p62, List.forall_mem_cons.mpr ⟨lw_p63, fun _ h => absurd h List.not_mem_nil⟩⟩⟩⟩⟩⟩⟩⟩⟩⟩⟩⟩⟩⟩⟩⟩
theorem lw_p64 : lw_okq (⟨"ConjurerDeskModel", "isWord", "(J)Z"⟩, 63) := ⟨⟨by decide +kernel, by decide +kernel⟩, List.mem_of_getElem? (i := 1027) (by decide +kernel), List.mem_of_getElem? (i := 1281) (by decide +kernel), List.mem_of_getElem? (i := 1282) (by decide +kernel)⟩
theorem lw_p65 : lw_okq (⟨"ConjurerDeskModel", "cant", "()Z"⟩, 63) := ⟨⟨by decide +kernel, by decide +kernel⟩, List.mem_of_getElem? (i := 1027) (by decide +kernel), List.mem_of_getElem? (i := 1297) (by decide +kernel), List.mem_of_getElem? (i := 1298) (by decide +kernel)⟩
theorem lw_p66 : lw_okq (⟨"ConjurerDeskModel", "wrong", "(II)Z"⟩, 63) := ⟨⟨by decide +kernel, by decide +kernel⟩, List.mem_of_getElem? (i := 1027) (by decide +kernel), List.mem_of_getElem? (i := 1301) (by decide +kernel), List.mem_of_getElem? (i := 1302) (by decide +kernel)⟩
theorem lw_p67 : lw_okq (⟨"ConjurerDeskModel", "readNumber", "(II)Z"⟩, 63) := ⟨⟨by decide +kernel, by decide +kernel⟩, List.mem_of_getElem? (i := 1027) (by decide +kernel), List.mem_of_getElem? (i := 1305) (by decide +kernel), List.mem_of_getElem? (i := 1306) (by decide +kernel)⟩
theorem lw_p68 : lw_okq (⟨"ConjurerDeskModel", "braces", "(I)Z"⟩, 63) := ⟨⟨by decide +kernel, by decide +kernel⟩, List.mem_of_getElem? (i := 1027) (by decide +kernel), List.mem_of_getElem? (i := 1309) (by decide +kernel), List.mem_of_getElem? (i := 1310) (by decide +kernel)⟩
theorem lw_p69 : lw_okq (⟨"ConjurerDeskModel", "isSign", "(I)Z"⟩, 63) := ⟨⟨by decide +kernel, by decide +kernel⟩, List.mem_of_getElem? (i := 1027) (by decide +kernel), List.mem_of_getElem? (i := 1313) (by decide +kernel), List.mem_of_getElem? (i := 1314) (by decide +kernel)⟩
theorem lw_p70 : lw_okq (⟨"ConjurerDeskModel", "must", "(I)Z"⟩, 63) := ⟨⟨by decide +kernel, by decide +kernel⟩, List.mem_of_getElem? (i := 1027) (by decide +kernel), List.mem_of_getElem? (i := 1317) (by decide +kernel), List.mem_of_getElem? (i := 1318) (by decide +kernel)⟩
theorem lw_p71 : lw_okq (⟨"ConjurerDeskModel", "readIf", "(II)Z"⟩, 63) := ⟨⟨by decide +kernel, by decide +kernel⟩, List.mem_of_getElem? (i := 1027) (by decide +kernel), List.mem_of_getElem? (i := 1321) (by decide +kernel), List.mem_of_getElem? (i := 1322) (by decide +kernel)⟩
theorem lw_p72 : lw_okq (⟨"ConjurerDeskModel", "anyOf", "()I"⟩, 63) := ⟨⟨by decide +kernel, by decide +kernel⟩, List.mem_of_getElem? (i := 1027) (by decide +kernel), List.mem_of_getElem? (i := 1325) (by decide +kernel), List.mem_of_getElem? (i := 1326) (by decide +kernel)⟩
theorem lw_p73 : lw_okq (⟨"ConjurerDeskModel", "allOf", "()I"⟩, 63) := ⟨⟨by decide +kernel, by decide +kernel⟩, List.mem_of_getElem? (i := 1027) (by decide +kernel), List.mem_of_getElem? (i := 1329) (by decide +kernel), List.mem_of_getElem? (i := 1330) (by decide +kernel)⟩
theorem lw_p74 : lw_okq (⟨"ConjurerDeskModel", "oneOf", "()I"⟩, 63) := ⟨⟨by decide +kernel, by decide +kernel⟩, List.mem_of_getElem? (i := 1027) (by decide +kernel), List.mem_of_getElem? (i := 1333) (by decide +kernel), List.mem_of_getElem? (i := 1334) (by decide +kernel)⟩
theorem lw_p75 : lw_okq (⟨"ConjurerDeskModel", "bad", "(Z)I"⟩, 63) := ⟨⟨by decide +kernel, by decide +kernel⟩, List.mem_of_getElem? (i := 1027) (by decide +kernel), List.mem_of_getElem? (i := 1338) (by decide +kernel), List.mem_of_getElem? (i := 1339) (by decide +kernel)⟩
theorem lw_p76 : lw_okq (⟨"ConjurerDeskModel", "node", "(IIII)I"⟩, 63) := ⟨⟨by decide +kernel, by decide +kernel⟩, List.mem_of_getElem? (i := 1027) (by decide +kernel), List.mem_of_getElem? (i := 1342) (by decide +kernel), List.mem_of_getElem? (i := 1343) (by decide +kernel)⟩
theorem lw_p77 : lw_okq (⟨"ConjurerDeskModel", "property", "()I"⟩, 63) := ⟨⟨by decide +kernel, by decide +kernel⟩, List.mem_of_getElem? (i := 1027) (by decide +kernel), List.mem_of_getElem? (i := 1347) (by decide +kernel), List.mem_of_getElem? (i := 1348) (by decide +kernel)⟩
theorem lw_p78 : lw_okq (⟨"ConjurerDeskModel", "readPile", "()Z"⟩, 63) := ⟨⟨by decide +kernel, by decide +kernel⟩, List.mem_of_getElem? (i := 1027) (by decide +kernel), List.mem_of_getElem? (i := 1354) (by decide +kernel), List.mem_of_getElem? (i := 1355) (by decide +kernel)⟩
theorem lw_p79 : lw_okq (⟨"ConjurerDeskModel", "num", "()I"⟩, 63) := ⟨⟨by decide +kernel, by decide +kernel⟩, List.mem_of_getElem? (i := 1027) (by decide +kernel), List.mem_of_getElem? (i := 1362) (by decide +kernel), List.mem_of_getElem? (i := 1363) (by decide +kernel)⟩
def lw_privs_5 : List (MethodName × Nat) := [(⟨"ConjurerDeskModel", "isWord", "(J)Z"⟩, 63), (⟨"ConjurerDeskModel", "cant", "()Z"⟩, 63), (⟨"ConjurerDeskModel", "wrong", "(II)Z"⟩, 63), (⟨"ConjurerDeskModel", "readNumber", "(II)Z"⟩, 63), (⟨"ConjurerDeskModel", "braces", "(I)Z"⟩, 63), (⟨"ConjurerDeskModel", "isSign", "(I)Z"⟩, 63), (⟨"ConjurerDeskModel", "must", "(I)Z"⟩, 63), (⟨"ConjurerDeskModel", "readIf", "(II)Z"⟩, 63), (⟨"ConjurerDeskModel", "anyOf", "()I"⟩, 63), (⟨"ConjurerDeskModel", "allOf", "()I"⟩, 63), (⟨"ConjurerDeskModel", "oneOf", "()I"⟩, 63), (⟨"ConjurerDeskModel", "bad", "(Z)I"⟩, 63), (⟨"ConjurerDeskModel", "node", "(IIII)I"⟩, 63), (⟨"ConjurerDeskModel", "property", "()I"⟩, 63), (⟨"ConjurerDeskModel", "readPile", "()Z"⟩, 63), (⟨"ConjurerDeskModel", "num", "()I"⟩, 63)]
theorem lw_r5 : ∀ q ∈ lw_privs_5, lw_okq q := List.forall_mem_cons.mpr ⟨lw_p64, List.forall_mem_cons.mpr ⟨lw_p65, List.forall_mem_cons.mpr ⟨lw_p66, List.forall_mem_cons.mpr ⟨lw_p67, List.forall_mem_cons.mpr ⟨lw_p68, List.forall_mem_cons.mpr ⟨lw_p69, List.forall_mem_cons.mpr ⟨lw_p70, List.forall_mem_cons.mpr ⟨lw_p71, List.forall_mem_cons.mpr ⟨lw_p72, List.forall_mem_cons.mpr ⟨lw_p73, List.forall_mem_cons.mpr ⟨lw_p74, List.forall_mem_cons.mpr ⟨lw_p75, List.forall_mem_cons.mpr ⟨lw_p76, List.forall_mem_cons.mpr ⟨lw_p77, List.forall_mem_cons.mpr ⟨lw_p78, List.forall_mem_cons.mpr ⟨lw_p79, fun _ h => absurd h List.not_mem_nil⟩⟩⟩⟩⟩⟩⟩⟩⟩⟩⟩⟩⟩⟩⟩⟩
theorem lw_p80 : lw_okq (⟨"ConjurerDeskModel", "mustWord", "(J)Z"⟩, 63) := ⟨⟨by decide +kernel, by decide +kernel⟩, List.mem_of_getElem? (i := 1027) (by decide +kernel), List.mem_of_getElem? (i := 1377) (by decide +kernel), List.mem_of_getElem? (i := 1378) (by decide +kernel)⟩
theorem lw_p81 : lw_okq (⟨"ConjurerDeskModel", "choices", "(II)I"⟩, 63) := ⟨⟨by decide +kernel, by decide +kernel⟩, List.mem_of_getElem? (i := 1027) (by decide +kernel), List.mem_of_getElem? (i := 1381) (by decide +kernel), List.mem_of_getElem? (i := 1382) (by decide +kernel)⟩
theorem lw_p82 : lw_okq (⟨"ConjurerDeskModel", "done", "(II)I"⟩, 63) := ⟨⟨by decide +kernel, by decide +kernel⟩, List.mem_of_getElem? (i := 1027) (by decide +kernel), List.mem_of_getElem? (i := 1385) (by decide +kernel), List.mem_of_getElem? (i := 1386) (by decide +kernel)⟩
theorem lw_p83 : lw_okq (⟨"ConjurerDeskModel", "look", "([I)I"⟩, 63) := ⟨⟨by decide +kernel, by decide +kernel⟩, List.mem_of_getElem? (i := 1027) (by decide +kernel), List.mem_of_getElem? (i := 1401) (by decide +kernel), List.mem_of_getElem? (i := 1402) (by decide +kernel)⟩
theorem lw_p84 : lw_okq (⟨"ConjurerDeskModel", "lay", "([I)V"⟩, 63) := ⟨⟨by decide +kernel, by decide +kernel⟩, List.mem_of_getElem? (i := 1027) (by decide +kernel), List.mem_of_getElem? (i := 1405) (by decide +kernel), List.mem_of_getElem? (i := 1406) (by decide +kernel)⟩
theorem lw_p85 : lw_okq (⟨"ConjurerDeskModel", "told", "()J"⟩, 63) := ⟨⟨by decide +kernel, by decide +kernel⟩, List.mem_of_getElem? (i := 1027) (by decide +kernel), List.mem_of_getElem? (i := 1409) (by decide +kernel), List.mem_of_getElem? (i := 1410) (by decide +kernel)⟩
theorem lw_p86 : lw_okq (⟨"ConjurerDeskModel", "go", "(IIII)V"⟩, 63) := ⟨⟨by decide +kernel, by decide +kernel⟩, List.mem_of_getElem? (i := 1027) (by decide +kernel), List.mem_of_getElem? (i := 1414) (by decide +kernel), List.mem_of_getElem? (i := 1415) (by decide +kernel)⟩
theorem lw_p87 : lw_okq (⟨"ConjurerDeskModel", "part", "(III)V"⟩, 63) := ⟨⟨by decide +kernel, by decide +kernel⟩, List.mem_of_getElem? (i := 1027) (by decide +kernel), List.mem_of_getElem? (i := 1418) (by decide +kernel), List.mem_of_getElem? (i := 1419) (by decide +kernel)⟩
theorem lw_p88 : lw_okq (⟨"ConjurerDeskModel", "untold", "(J)V"⟩, 63) := ⟨⟨by decide +kernel, by decide +kernel⟩, List.mem_of_getElem? (i := 1027) (by decide +kernel), List.mem_of_getElem? (i := 1422) (by decide +kernel), List.mem_of_getElem? (i := 1423) (by decide +kernel)⟩
theorem lw_p89 : lw_okq (⟨"ConjurerDeskModel", "holdsOf", "(I)Z"⟩, 63) := ⟨⟨by decide +kernel, by decide +kernel⟩, List.mem_of_getElem? (i := 1027) (by decide +kernel), List.mem_of_getElem? (i := 1428) (by decide +kernel), List.mem_of_getElem? (i := 1429) (by decide +kernel)⟩
theorem lw_p90 : lw_okq (⟨"ConjurerDeskModel", "worth", "(I)I"⟩, 63) := ⟨⟨by decide +kernel, by decide +kernel⟩, List.mem_of_getElem? (i := 1027) (by decide +kernel), List.mem_of_getElem? (i := 1432) (by decide +kernel), List.mem_of_getElem? (i := 1433) (by decide +kernel)⟩
theorem lw_p91 : lw_okq (⟨"ConjurerDeskModel", "cardAt", "(II)I"⟩, 63) := ⟨⟨by decide +kernel, by decide +kernel⟩, List.mem_of_getElem? (i := 1027) (by decide +kernel), List.mem_of_getElem? (i := 1436) (by decide +kernel), List.mem_of_getElem? (i := 1437) (by decide +kernel)⟩
theorem lw_p92 : lw_okq (⟨"ConjurerDeskModel", "propertyOf", "(II)I"⟩, 63) := ⟨⟨by decide +kernel, by decide +kernel⟩, List.mem_of_getElem? (i := 1027) (by decide +kernel), List.mem_of_getElem? (i := 1440) (by decide +kernel), List.mem_of_getElem? (i := 1441) (by decide +kernel)⟩
theorem lw_p93 : lw_okq (⟨"ConjurerDeskModel", "join", "(II)V"⟩, 63) := ⟨⟨by decide +kernel, by decide +kernel⟩, List.mem_of_getElem? (i := 1027) (by decide +kernel), List.mem_of_getElem? (i := 1444) (by decide +kernel), List.mem_of_getElem? (i := 1445) (by decide +kernel)⟩
theorem lw_p94 : lw_okq (⟨"ConjurerDeskModel", "begin", "(I)V"⟩, 63) := ⟨⟨by decide +kernel, by decide +kernel⟩, List.mem_of_getElem? (i := 1027) (by decide +kernel), List.mem_of_getElem? (i := 1448) (by decide +kernel), List.mem_of_getElem? (i := 1449) (by decide +kernel)⟩
theorem lw_p95 : lw_okq (⟨"ConjurerDeskModel", "empty", "(I)V"⟩, 63) := ⟨⟨by decide +kernel, by decide +kernel⟩, List.mem_of_getElem? (i := 1027) (by decide +kernel), List.mem_of_getElem? (i := 1452) (by decide +kernel), List.mem_of_getElem? (i := 1453) (by decide +kernel)⟩
def lw_privs_6 : List (MethodName × Nat) := [(⟨"ConjurerDeskModel", "mustWord", "(J)Z"⟩, 63), (⟨"ConjurerDeskModel", "choices", "(II)I"⟩, 63), (⟨"ConjurerDeskModel", "done", "(II)I"⟩, 63), (⟨"ConjurerDeskModel", "look", "([I)I"⟩, 63), (⟨"ConjurerDeskModel", "lay", "([I)V"⟩, 63), (⟨"ConjurerDeskModel", "told", "()J"⟩, 63), (⟨"ConjurerDeskModel", "go", "(IIII)V"⟩, 63), (⟨"ConjurerDeskModel", "part", "(III)V"⟩, 63), (⟨"ConjurerDeskModel", "untold", "(J)V"⟩, 63), (⟨"ConjurerDeskModel", "holdsOf", "(I)Z"⟩, 63), (⟨"ConjurerDeskModel", "worth", "(I)I"⟩, 63), (⟨"ConjurerDeskModel", "cardAt", "(II)I"⟩, 63), (⟨"ConjurerDeskModel", "propertyOf", "(II)I"⟩, 63), (⟨"ConjurerDeskModel", "join", "(II)V"⟩, 63), (⟨"ConjurerDeskModel", "begin", "(I)V"⟩, 63), (⟨"ConjurerDeskModel", "empty", "(I)V"⟩, 63)]
theorem lw_r6 : ∀ q ∈ lw_privs_6, lw_okq q := List.forall_mem_cons.mpr ⟨lw_p80, List.forall_mem_cons.mpr ⟨lw_p81, List.forall_mem_cons.mpr ⟨lw_p82, List.forall_mem_cons.mpr ⟨lw_p83, List.forall_mem_cons.mpr ⟨lw_p84, List.forall_mem_cons.mpr ⟨lw_p85, List.forall_mem_cons.mpr ⟨lw_p86, List.forall_mem_cons.mpr ⟨lw_p87, List.forall_mem_cons.mpr ⟨lw_p88, List.forall_mem_cons.mpr ⟨lw_p89, List.forall_mem_cons.mpr ⟨lw_p90, List.forall_mem_cons.mpr ⟨lw_p91, List.forall_mem_cons.mpr ⟨lw_p92, List.forall_mem_cons.mpr ⟨lw_p93, List.forall_mem_cons.mpr ⟨lw_p94, List.forall_mem_cons.mpr ⟨lw_p95, fun _ h => absurd h List.not_mem_nil⟩⟩⟩⟩⟩⟩⟩⟩⟩⟩⟩⟩⟩⟩⟩⟩
theorem lw_p96 : lw_okq (⟨"ConjurerDeskModel", "add", "(JJ)V"⟩, 63) := ⟨⟨by decide +kernel, by decide +kernel⟩, List.mem_of_getElem? (i := 1027) (by decide +kernel), List.mem_of_getElem? (i := 1456) (by decide +kernel), List.mem_of_getElem? (i := 1457) (by decide +kernel)⟩
theorem lw_p97 : lw_okq (⟨"ConjurerDeskModel", "copy", "(II)V"⟩, 63) := ⟨⟨by decide +kernel, by decide +kernel⟩, List.mem_of_getElem? (i := 1027) (by decide +kernel), List.mem_of_getElem? (i := 1461) (by decide +kernel), List.mem_of_getElem? (i := 1462) (by decide +kernel)⟩
theorem lw_p98 : lw_okq (⟨"ConjurerDeskModel", "all", "(II)V"⟩, 63) := ⟨⟨by decide +kernel, by decide +kernel⟩, List.mem_of_getElem? (i := 1027) (by decide +kernel), List.mem_of_getElem? (i := 1465) (by decide +kernel), List.mem_of_getElem? (i := 1466) (by decide +kernel)⟩
theorem lw_p99 : lw_okq (⟨"ConjurerDeskModel", "asks", "(I)I"⟩, 63) := ⟨⟨by decide +kernel, by decide +kernel⟩, List.mem_of_getElem? (i := 1027) (by decide +kernel), List.mem_of_getElem? (i := 1469) (by decide +kernel), List.mem_of_getElem? (i := 1470) (by decide +kernel)⟩
theorem lw_p100 : lw_okq (⟨"ConjurerDeskModel", "act", "(II)V"⟩, 63) := ⟨⟨by decide +kernel, by decide +kernel⟩, List.mem_of_getElem? (i := 1027) (by decide +kernel), List.mem_of_getElem? (i := 1476) (by decide +kernel), List.mem_of_getElem? (i := 1477) (by decide +kernel)⟩
theorem lw_p101 : lw_okq (⟨"ConjurerDeskModel", "pick", "(III)V"⟩, 63) := ⟨⟨by decide +kernel, by decide +kernel⟩, List.mem_of_getElem? (i := 1027) (by decide +kernel), List.mem_of_getElem? (i := 1480) (by decide +kernel), List.mem_of_getElem? (i := 1481) (by decide +kernel)⟩
theorem lw_p102 : lw_okq (⟨"ConjurerDeskModel", "onto", "(II)V"⟩, 63) := ⟨⟨by decide +kernel, by decide +kernel⟩, List.mem_of_getElem? (i := 1027) (by decide +kernel), List.mem_of_getElem? (i := 1484) (by decide +kernel), List.mem_of_getElem? (i := 1485) (by decide +kernel)⟩
theorem lw_p103 : lw_okq (⟨"ConjurerDeskModel", "turnHand", "(I)V"⟩, 63) := ⟨⟨by decide +kernel, by decide +kernel⟩, List.mem_of_getElem? (i := 1027) (by decide +kernel), List.mem_of_getElem? (i := 1488) (by decide +kernel), List.mem_of_getElem? (i := 1489) (by decide +kernel)⟩
theorem lw_p104 : lw_okq (⟨"ConjurerDeskModel", "swap", "(II)V"⟩, 63) := ⟨⟨by decide +kernel, by decide +kernel⟩, List.mem_of_getElem? (i := 1027) (by decide +kernel), List.mem_of_getElem? (i := 1492) (by decide +kernel), List.mem_of_getElem? (i := 1493) (by decide +kernel)⟩
theorem lw_p105 : lw_okq (⟨"ConjurerDeskModel", "down", "(II)V"⟩, 63) := ⟨⟨by decide +kernel, by decide +kernel⟩, List.mem_of_getElem? (i := 1027) (by decide +kernel), List.mem_of_getElem? (i := 1496) (by decide +kernel), List.mem_of_getElem? (i := 1497) (by decide +kernel)⟩
theorem lw_p106 : lw_okq (⟨"ConjurerDeskModel", "together", "(II)V"⟩, 63) := ⟨⟨by decide +kernel, by decide +kernel⟩, List.mem_of_getElem? (i := 1027) (by decide +kernel), List.mem_of_getElem? (i := 1500) (by decide +kernel), List.mem_of_getElem? (i := 1501) (by decide +kernel)⟩
theorem lw_p107 : lw_okq (⟨"ConjurerDeskModel", "claimHolds", "()Z"⟩, 63) := ⟨⟨by decide +kernel, by decide +kernel⟩, List.mem_of_getElem? (i := 1027) (by decide +kernel), List.mem_of_getElem? (i := 1509) (by decide +kernel), List.mem_of_getElem? (i := 1510) (by decide +kernel)⟩
theorem lw_p108 : lw_okq (⟨"ConjurerDeskModel", "choicesOf", "(J)I"⟩, 63) := ⟨⟨by decide +kernel, by decide +kernel⟩, List.mem_of_getElem? (i := 1027) (by decide +kernel), List.mem_of_getElem? (i := 1517) (by decide +kernel), List.mem_of_getElem? (i := 1518) (by decide +kernel)⟩
theorem lw_p109 : lw_okq (⟨"ConjurerDeskModel", "through", "(II)V"⟩, 63) := ⟨⟨by decide +kernel, by decide +kernel⟩, List.mem_of_getElem? (i := 1027) (by decide +kernel), List.mem_of_getElem? (i := 1529) (by decide +kernel), List.mem_of_getElem? (i := 1530) (by decide +kernel)⟩
theorem lw_p110 : lw_okq (⟨"ConjurerDeskModel", "rises", "()Z"⟩, 63) := ⟨⟨by decide +kernel, by decide +kernel⟩, List.mem_of_getElem? (i := 1027) (by decide +kernel), List.mem_of_getElem? (i := 1545) (by decide +kernel), List.mem_of_getElem? (i := 1546) (by decide +kernel)⟩
def lw_privs_7 : List (MethodName × Nat) := [(⟨"ConjurerDeskModel", "add", "(JJ)V"⟩, 63), (⟨"ConjurerDeskModel", "copy", "(II)V"⟩, 63), (⟨"ConjurerDeskModel", "all", "(II)V"⟩, 63), (⟨"ConjurerDeskModel", "asks", "(I)I"⟩, 63), (⟨"ConjurerDeskModel", "act", "(II)V"⟩, 63), (⟨"ConjurerDeskModel", "pick", "(III)V"⟩, 63), (⟨"ConjurerDeskModel", "onto", "(II)V"⟩, 63), (⟨"ConjurerDeskModel", "turnHand", "(I)V"⟩, 63), (⟨"ConjurerDeskModel", "swap", "(II)V"⟩, 63), (⟨"ConjurerDeskModel", "down", "(II)V"⟩, 63), (⟨"ConjurerDeskModel", "together", "(II)V"⟩, 63), (⟨"ConjurerDeskModel", "claimHolds", "()Z"⟩, 63), (⟨"ConjurerDeskModel", "choicesOf", "(J)I"⟩, 63), (⟨"ConjurerDeskModel", "through", "(II)V"⟩, 63), (⟨"ConjurerDeskModel", "rises", "()Z"⟩, 63)]
theorem lw_r7 : ∀ q ∈ lw_privs_7, lw_okq q := List.forall_mem_cons.mpr ⟨lw_p96, List.forall_mem_cons.mpr ⟨lw_p97, List.forall_mem_cons.mpr ⟨lw_p98, List.forall_mem_cons.mpr ⟨lw_p99, List.forall_mem_cons.mpr ⟨lw_p100, List.forall_mem_cons.mpr ⟨lw_p101, List.forall_mem_cons.mpr ⟨lw_p102, List.forall_mem_cons.mpr ⟨lw_p103, List.forall_mem_cons.mpr ⟨lw_p104, List.forall_mem_cons.mpr ⟨lw_p105, List.forall_mem_cons.mpr ⟨lw_p106, List.forall_mem_cons.mpr ⟨lw_p107, List.forall_mem_cons.mpr ⟨lw_p108, List.forall_mem_cons.mpr ⟨lw_p109, List.forall_mem_cons.mpr ⟨lw_p110, fun _ h => absurd h List.not_mem_nil⟩⟩⟩⟩⟩⟩⟩⟩⟩⟩⟩⟩⟩⟩⟩
def lw_privs : List (MethodName × Nat) := lw_privs_1 ++ (lw_privs_2 ++ (lw_privs_3 ++ (lw_privs_4 ++ (lw_privs_5 ++ (lw_privs_6 ++ (lw_privs_7))))))
def lw_tbl : List Cond := k2_sels lw_privs ++ tables_1
theorem lw_privs_ok : ∀ q ∈ lw_privs, lw_okq q := by
  show ∀ q ∈ lw_privs_1 ++ (lw_privs_2 ++ (lw_privs_3 ++ (lw_privs_4 ++ (lw_privs_5 ++ (lw_privs_6 ++ (lw_privs_7)))))), lw_okq q
  exact List.forall_mem_append.mpr ⟨lw_r1, List.forall_mem_append.mpr ⟨lw_r2, List.forall_mem_append.mpr ⟨lw_r3, List.forall_mem_append.mpr ⟨lw_r4, List.forall_mem_append.mpr ⟨lw_r5, List.forall_mem_append.mpr ⟨lw_r6, lw_r7⟩⟩⟩⟩⟩⟩
theorem goodIn_r {big : List Cond} (ws : List Cond) (ps : List Nat) (hp : ws = ps.filterMap (fun i => big[i]?)) (h : ws.all goodWord = true) : GoodIn big ws := by
  intro w hw
  have h1 := List.all_eq_true.mp h w hw
  rw [hp] at hw
  obtain ⟨i, -, hi⟩ := List.mem_filterMap.mp hw
  exact ⟨List.mem_of_getElem? hi, good_of_word h1⟩
-- ===== own names, printed by wip/whole/gen/emit.py =====
def zR0 : String := "ConjurerDesk$Conditions"
def zT0 : u_T := fun k => match k with
  | 0 => ("ConjurerDesk$Conditions", "kinds", "[I", true)
  | 1 => ("ConjurerDesk$Conditions", "lefts", "[I", true)
  | 2 => ("ConjurerDesk$Conditions", "rights", "[I", true)
  | _ => ("ConjurerDesk$Conditions", "size", "I", false)
def zty0 : Nat → FieldType := fun k => match k with
  | 0 => .array .int
  | 1 => .array .int
  | 2 => .array .int
  | _ => .int
theorem znm0 : ∀ a, a < 4 → ∀ b, b < 4 → a ≠ b → (zT0 a).2.1 ≠ (zT0 b).2.1 := by decide +kernel
theorem ztyok0 : ∀ k, k < 4 → parseFieldDescriptor (zT0 k).2.2.1 = some (zty0 k) := by decide +kernel
theorem zlay0 : GoodIn lw_tbl (u_ws zR0 zT0 4) := goodIn_r _ [396, 398, 400, 402] (by decide +kernel) (by decide +kernel)
def zR1 : String := "ConjurerDesk$Deck"
def zT1 : u_T := fun k => match k with
  | 0 => ("ConjurerDesk$Deck", "values", "[I", true)
  | 1 => ("ConjurerDesk$Deck", "suits", "[I", true)
  | 2 => ("ConjurerDesk$Deck", "colours", "[I", true)
  | 3 => ("ConjurerDesk$Deck", "first", "[I", true)
  | _ => ("ConjurerDesk$Deck", "cards", "I", false)
def zty1 : Nat → FieldType := fun k => match k with
  | 0 => .array .int
  | 1 => .array .int
  | 2 => .array .int
  | 3 => .array .int
  | _ => .int
theorem znm1 : ∀ a, a < 5 → ∀ b, b < 5 → a ≠ b → (zT1 a).2.1 ≠ (zT1 b).2.1 := by decide +kernel
theorem ztyok1 : ∀ k, k < 5 → parseFieldDescriptor (zT1 k).2.2.1 = some (zty1 k) := by decide +kernel
theorem zlay1 : GoodIn lw_tbl (u_ws zR1 zT1 5) := goodIn_r _ [186, 188, 190, 192, 194] (by decide +kernel) (by decide +kernel)
def zR2 : String := "ConjurerDesk$Reader"
def zT2 : u_T := fun k => match k with
  | 0 => ("ConjurerDesk$Reader", "tokens", "LConjurerDesk$Tokens;", true)
  | 1 => ("ConjurerDesk$Reader", "next", "I", false)
  | 2 => ("ConjurerDesk$Reader", "kind", "I", false)
  | 3 => ("ConjurerDesk$Reader", "mayDo", "I", false)
  | 4 => ("ConjurerDesk$Reader", "mayChoose", "I", false)
  | 5 => ("ConjurerDesk$Reader", "faultKind", "I", false)
  | _ => ("ConjurerDesk$Reader", "faultPlace", "I", false)
def zty2 : Nat → FieldType := fun k => match k with
  | 0 => .object "ConjurerDesk$Tokens"
  | 1 => .int
  | 2 => .int
  | 3 => .int
  | 4 => .int
  | 5 => .int
  | _ => .int
theorem znm2 : ∀ a, a < 7 → ∀ b, b < 7 → a ≠ b → (zT2 a).2.1 ≠ (zT2 b).2.1 := by decide +kernel
theorem ztyok2 : ∀ k, k < 7 → parseFieldDescriptor (zT2 k).2.2.1 = some (zty2 k) := by decide +kernel
theorem zlay2 : GoodIn lw_tbl (u_ws zR2 zT2 7) := goodIn_r _ [235, 237, 239, 241, 243, 245, 247] (by decide +kernel) (by decide +kernel)
def zR3 : String := "ConjurerDesk$Show"
def zT3 : u_T := fun k => match k with
  | 0 => ("ConjurerDesk$Show", "deck", "LConjurerDesk$Deck;", true)
  | 1 => ("ConjurerDesk$Show", "tape", "LConjurerDesk$Tape;", true)
  | 2 => ("ConjurerDesk$Show", "table", "LConjurerDesk$Table;", true)
  | 3 => ("ConjurerDesk$Show", "played", "Z", false)
  | 4 => ("ConjurerDesk$Show", "stuck", "Z", false)
  | 5 => ("ConjurerDesk$Show", "done", "I", false)
  | _ => ("ConjurerDesk$Show", "taken", "I", false)
def zty3 : Nat → FieldType := fun k => match k with
  | 0 => .object "ConjurerDesk$Deck"
  | 1 => .object "ConjurerDesk$Tape"
  | 2 => .object "ConjurerDesk$Table"
  | 3 => .boolean
  | 4 => .boolean
  | 5 => .int
  | _ => .int
theorem znm3 : ∀ a, a < 7 → ∀ b, b < 7 → a ≠ b → (zT3 a).2.1 ≠ (zT3 b).2.1 := by decide +kernel
theorem ztyok3 : ∀ k, k < 7 → parseFieldDescriptor (zT3 k).2.2.1 = some (zty3 k) := by decide +kernel
theorem zlay3 : GoodIn lw_tbl (u_ws zR3 zT3 7) := goodIn_r _ [359, 361, 363, 365, 367, 369, 371] (by decide +kernel) (by decide +kernel)
def zR4 : String := "ConjurerDesk$Spread"
def zT4 : u_T := fun k => match k with
  | 0 => ("ConjurerDesk$Spread", "table", "LConjurerDesk$Table;", true)
  | 1 => ("ConjurerDesk$Spread", "now", "LConjurerDesk$Ways;", false)
  | 2 => ("ConjurerDesk$Spread", "next", "LConjurerDesk$Ways;", false)
  | 3 => ("ConjurerDesk$Spread", "waiting", "[LConjurerDesk$Ways;", true)
  | 4 => ("ConjurerDesk$Spread", "large", "Z", false)
  | 5 => ("ConjurerDesk$Spread", "ends", "I", false)
  | 6 => ("ConjurerDesk$Spread", "holding", "I", false)
  | _ => ("ConjurerDesk$Spread", "breakingRow", "J", false)
def zty4 : Nat → FieldType := fun k => match k with
  | 0 => .object "ConjurerDesk$Table"
  | 1 => .object "ConjurerDesk$Ways"
  | 2 => .object "ConjurerDesk$Ways"
  | 3 => .array (.object "ConjurerDesk$Ways")
  | 4 => .boolean
  | 5 => .int
  | 6 => .int
  | _ => .long
theorem znm4 : ∀ a, a < 8 → ∀ b, b < 8 → a ≠ b → (zT4 a).2.1 ≠ (zT4 b).2.1 := by decide +kernel
theorem ztyok4 : ∀ k, k < 8 → parseFieldDescriptor (zT4 k).2.2.1 = some (zty4 k) := by decide +kernel
theorem zlay4 : GoodIn lw_tbl (u_ws zR4 zT4 8) := goodIn_r _ [322, 324, 326, 328, 330, 332, 334, 336] (by decide +kernel) (by decide +kernel)
def zR5 : String := "ConjurerDesk$Step"
def zT5 : u_T := fun k => match k with
  | 0 => ("ConjurerDesk$Step", "word", "I", false)
  | 1 => ("ConjurerDesk$Step", "pile", "I", false)
  | 2 => ("ConjurerDesk$Step", "second", "I", false)
  | 3 => ("ConjurerDesk$Step", "target", "I", false)
  | 4 => ("ConjurerDesk$Step", "amount", "I", false)
  | 5 => ("ConjurerDesk$Step", "middle", "I", false)
  | 6 => ("ConjurerDesk$Step", "after", "I", false)
  | 7 => ("ConjurerDesk$Step", "conditionFrom", "I", false)
  | _ => ("ConjurerDesk$Step", "conditionTo", "I", false)
def zty5 : Nat → FieldType := fun k => match k with
  | 0 => .int
  | 1 => .int
  | 2 => .int
  | 3 => .int
  | 4 => .int
  | 5 => .int
  | 6 => .int
  | 7 => .int
  | _ => .int
theorem znm5 : ∀ a, a < 9 → ∀ b, b < 9 → a ≠ b → (zT5 a).2.1 ≠ (zT5 b).2.1 := by decide +kernel
theorem ztyok5 : ∀ k, k < 9 → parseFieldDescriptor (zT5 k).2.2.1 = some (zty5 k) := by decide +kernel
theorem zlay5 : GoodIn lw_tbl (u_ws zR5 zT5 9) := goodIn_r _ [438, 440, 442, 444, 446, 448, 450, 452, 454] (by decide +kernel) (by decide +kernel)
def zR6 : String := "ConjurerDesk$Table"
def zT6 : u_T := fun k => match k with
  | 0 => ("ConjurerDesk$Table", "deck", "LConjurerDesk$Deck;", true)
  | 1 => ("ConjurerDesk$Table", "lying", "[I", true)
  | 2 => ("ConjurerDesk$Table", "hand", "[I", true)
  | 3 => ("ConjurerDesk$Table", "sizes", "[I", true)
  | _ => ("ConjurerDesk$Table", "marked", "I", false)
def zty6 : Nat → FieldType := fun k => match k with
  | 0 => .object "ConjurerDesk$Deck"
  | 1 => .array .int
  | 2 => .array .int
  | 3 => .array .int
  | _ => .int
theorem znm6 : ∀ a, a < 5 → ∀ b, b < 5 → a ≠ b → (zT6 a).2.1 ≠ (zT6 b).2.1 := by decide +kernel
theorem ztyok6 : ∀ k, k < 5 → parseFieldDescriptor (zT6 k).2.2.1 = some (zty6 k) := by decide +kernel
theorem zlay6 : GoodIn lw_tbl (u_ws zR6 zT6 5) := goodIn_r _ [264, 266, 268, 270, 272] (by decide +kernel) (by decide +kernel)
def zR7 : String := "ConjurerDesk$Tape"
def zT7 : u_T := fun k => match k with
  | 0 => ("ConjurerDesk$Tape", "bytes", "[I", true)
  | _ => ("ConjurerDesk$Tape", "size", "I", false)
def zty7 : Nat → FieldType := fun k => match k with
  | 0 => .array .int
  | _ => .int
theorem znm7 : ∀ a, a < 2 → ∀ b, b < 2 → a ≠ b → (zT7 a).2.1 ≠ (zT7 b).2.1 := by decide +kernel
theorem ztyok7 : ∀ k, k < 2 → parseFieldDescriptor (zT7 k).2.2.1 = some (zty7 k) := by decide +kernel
theorem zlay7 : GoodIn lw_tbl (u_ws zR7 zT7 2) := goodIn_r _ [157, 159] (by decide +kernel) (by decide +kernel)
def zR8 : String := "ConjurerDesk$Tokens"
def zT8 : u_T := fun k => match k with
  | 0 => ("ConjurerDesk$Tokens", "kinds", "[I", true)
  | 1 => ("ConjurerDesk$Tokens", "places", "[I", true)
  | 2 => ("ConjurerDesk$Tokens", "numbers", "[I", true)
  | _ => ("ConjurerDesk$Tokens", "size", "I", false)
def zty8 : Nat → FieldType := fun k => match k with
  | 0 => .array .int
  | 1 => .array .int
  | 2 => .array .int
  | _ => .int
theorem znm8 : ∀ a, a < 4 → ∀ b, b < 4 → a ≠ b → (zT8 a).2.1 ≠ (zT8 b).2.1 := by decide +kernel
theorem ztyok8 : ∀ k, k < 4 → parseFieldDescriptor (zT8 k).2.2.1 = some (zty8 k) := by decide +kernel
theorem zlay8 : GoodIn lw_tbl (u_ws zR8 zT8 4) := goodIn_r _ [217, 219, 221, 223] (by decide +kernel) (by decide +kernel)
def zR9 : String := "ConjurerDesk$Trick"
def zT9 : u_T := fun k => match k with
  | 0 => ("ConjurerDesk$Trick", "steps", "[LConjurerDesk$Step;", true)
  | 1 => ("ConjurerDesk$Trick", "conditions", "LConjurerDesk$Conditions;", true)
  | _ => ("ConjurerDesk$Trick", "size", "I", false)
def zty9 : Nat → FieldType := fun k => match k with
  | 0 => .array (.object "ConjurerDesk$Step")
  | 1 => .object "ConjurerDesk$Conditions"
  | _ => .int
theorem znm9 : ∀ a, a < 3 → ∀ b, b < 3 → a ≠ b → (zT9 a).2.1 ≠ (zT9 b).2.1 := by decide +kernel
theorem ztyok9 : ∀ k, k < 3 → parseFieldDescriptor (zT9 k).2.2.1 = some (zty9 k) := by decide +kernel
theorem zlay9 : GoodIn lw_tbl (u_ws zR9 zT9 3) := goodIn_r _ [470, 472, 474] (by decide +kernel) (by decide +kernel)
def zR10 : String := "ConjurerDesk$Ways"
def zT10 : u_T := fun k => match k with
  | 0 => ("ConjurerDesk$Ways", "lies", "[J", true)
  | 1 => ("ConjurerDesk$Ways", "rows", "[J", true)
  | 2 => ("ConjurerDesk$Ways", "taken", "[I", true)
  | 3 => ("ConjurerDesk$Ways", "slots", "[I", true)
  | _ => ("ConjurerDesk$Ways", "size", "I", false)
def zty10 : Nat → FieldType := fun k => match k with
  | 0 => .array .long
  | 1 => .array .long
  | 2 => .array .int
  | 3 => .array .int
  | _ => .int
theorem znm10 : ∀ a, a < 5 → ∀ b, b < 5 → a ≠ b → (zT10 a).2.1 ≠ (zT10 b).2.1 := by decide +kernel
theorem ztyok10 : ∀ k, k < 5 → parseFieldDescriptor (zT10 k).2.2.1 = some (zty10 k) := by decide +kernel
theorem zlay10 : GoodIn lw_tbl (u_ws zR10 zT10 5) := goodIn_r _ [295, 297, 299, 301, 303] (by decide +kernel) (by decide +kernel)
def zR11 : String := "ConjurerDesk"
def zT11 : u_T := fun k => match k with
  | 0 => ("ConjurerDesk", "tape", "LConjurerDesk$Tape;", true)
  | 1 => ("ConjurerDesk", "deck", "LConjurerDesk$Deck;", true)
  | 2 => ("ConjurerDesk", "reader", "LConjurerDesk$Reader;", true)
  | 3 => ("ConjurerDesk", "spareTable", "LConjurerDesk$Table;", true)
  | 4 => ("ConjurerDesk", "spread", "LConjurerDesk$Spread;", true)
  | 5 => ("ConjurerDesk", "show", "LConjurerDesk$Show;", true)
  | 6 => ("ConjurerDesk", "order", "[I", true)
  | 7 => ("ConjurerDesk", "theTrick", "LConjurerDesk$Trick;", false)
  | 8 => ("ConjurerDesk", "spareTrick", "LConjurerDesk$Trick;", false)
  | 9 => ("ConjurerDesk", "theClaim", "LConjurerDesk$Conditions;", false)
  | 10 => ("ConjurerDesk", "spareClaim", "LConjurerDesk$Conditions;", false)
  | 11 => ("ConjurerDesk", "told", "Z", false)
  | 12 => ("ConjurerDesk", "toldEnds", "I", false)
  | 13 => ("ConjurerDesk", "toldHolding", "I", false)
  | _ => ("ConjurerDesk", "toldRow", "J", false)
def zty11 : Nat → FieldType := fun k => match k with
  | 0 => .object "ConjurerDesk$Tape"
  | 1 => .object "ConjurerDesk$Deck"
  | 2 => .object "ConjurerDesk$Reader"
  | 3 => .object "ConjurerDesk$Table"
  | 4 => .object "ConjurerDesk$Spread"
  | 5 => .object "ConjurerDesk$Show"
  | 6 => .array .int
  | 7 => .object "ConjurerDesk$Trick"
  | 8 => .object "ConjurerDesk$Trick"
  | 9 => .object "ConjurerDesk$Conditions"
  | 10 => .object "ConjurerDesk$Conditions"
  | 11 => .boolean
  | 12 => .int
  | 13 => .int
  | _ => .long
theorem znm11 : ∀ a, a < 15 → ∀ b, b < 15 → a ≠ b → (zT11 a).2.1 ≠ (zT11 b).2.1 := by decide +kernel
theorem ztyok11 : ∀ k, k < 15 → parseFieldDescriptor (zT11 k).2.2.1 = some (zty11 k) := by decide +kernel
theorem zlay11 : GoodIn lw_tbl (u_ws zR11 zT11 15) := goodIn_r _ [502, 504, 506, 508, 510, 512, 514, 516, 518, 520, 522, 524, 526, 528, 530] (by decide +kernel) (by decide +kernel)
def zR12 : String := "ConjurerDeskModel"
def zT12 : u_T := fun k => match k with
  | 0 => ("ConjurerDeskModel", "thrown", "I", false)
  | 1 => ("ConjurerDeskModel", "tape", "[B", true)
  | 2 => ("ConjurerDeskModel", "length", "I", false)
  | 3 => ("ConjurerDeskModel", "size", "I", false)
  | 4 => ("ConjurerDeskModel", "p", "I", false)
  | 5 => ("ConjurerDeskModel", "cards", "I", false)
  | 6 => ("ConjurerDeskModel", "value", "[I", true)
  | 7 => ("ConjurerDeskModel", "suit", "[I", true)
  | 8 => ("ConjurerDeskModel", "colour", "[I", true)
  | 9 => ("ConjurerDeskModel", "start", "[I", true)
  | 10 => ("ConjurerDeskModel", "pile", "[I", true)
  | 11 => ("ConjurerDeskModel", "many", "[I", true)
  | 12 => ("ConjurerDeskModel", "marked", "I", false)
  | 13 => ("ConjurerDeskModel", "token", "I", false)
  | 14 => ("ConjurerDeskModel", "at", "I", false)
  | 15 => ("ConjurerDeskModel", "number", "I", false)
  | 16 => ("ConjurerDeskModel", "fault", "I", false)
  | 17 => ("ConjurerDeskModel", "faultAt", "I", false)
  | 18 => ("ConjurerDeskModel", "word", "J", false)
  | 19 => ("ConjurerDeskModel", "pileAt", "I", false)
  | 20 => ("ConjurerDeskModel", "told", "I", false)
  | 21 => ("ConjurerDeskModel", "step", "[J", true)
  | 22 => ("ConjurerDeskModel", "one", "[I", true)
  | 23 => ("ConjurerDeskModel", "two", "[I", true)
  | 24 => ("ConjurerDeskModel", "three", "[I", true)
  | 25 => ("ConjurerDeskModel", "how", "[I", true)
  | 26 => ("ConjurerDeskModel", "cond", "[I", true)
  | 27 => ("ConjurerDeskModel", "elseAt", "[I", true)
  | 28 => ("ConjurerDeskModel", "endAt", "[I", true)
  | 29 => ("ConjurerDeskModel", "bank", "I", false)
  | 30 => ("ConjurerDeskModel", "steps", "I", false)
  | 31 => ("ConjurerDeskModel", "newSteps", "I", false)
  | 32 => ("ConjurerDeskModel", "op", "[I", true)
  | 33 => ("ConjurerDeskModel", "left", "[I", true)
  | 34 => ("ConjurerDeskModel", "right", "[I", true)
  | 35 => ("ConjurerDeskModel", "with", "[I", true)
  | 36 => ("ConjurerDeskModel", "nodes", "I", false)
  | 37 => ("ConjurerDeskModel", "claimBank", "I", false)
  | 38 => ("ConjurerDeskModel", "claim", "I", false)
  | 39 => ("ConjurerDeskModel", "open", "I", false)
  | 40 => ("ConjurerDeskModel", "hand", "[I", true)
  | 41 => ("ConjurerDeskModel", "rest", "[I", true)
  | 42 => ("ConjurerDeskModel", "way", "[J", true)
  | 43 => ("ConjurerDeskModel", "row", "[J", true)
  | 44 => ("ConjurerDeskModel", "inSet", "[I", true)
  | 45 => ("ConjurerDeskModel", "slot", "[I", true)
  | 46 => ("ConjurerDeskModel", "isLarge", "Z", false)
  | 47 => ("ConjurerDeskModel", "fresh0", "I", false)
  | 48 => ("ConjurerDeskModel", "ends", "I", false)
  | 49 => ("ConjurerDeskModel", "good", "I", false)
  | 50 => ("ConjurerDeskModel", "worst", "J", false)
  | 51 => ("ConjurerDeskModel", "isRun", "Z", false)
  | 52 => ("ConjurerDeskModel", "result", "I", false)
  | 53 => ("ConjurerDeskModel", "runEnds", "I", false)
  | 54 => ("ConjurerDeskModel", "runGood", "I", false)
  | 55 => ("ConjurerDeskModel", "runRow", "J", false)
  | 56 => ("ConjurerDeskModel", "isPerformed", "Z", false)
  | 57 => ("ConjurerDeskModel", "breaks", "Z", false)
  | 58 => ("ConjurerDeskModel", "performed", "J", false)
  | 59 => ("ConjurerDeskModel", "taken", "I", false)
  | 60 => ("ConjurerDeskModel", "done", "I", false)
  | 61 => ("ConjurerDeskModel", "given", "I", false)
  | _ => ("ConjurerDeskModel", "order", "[I", true)
def zty12 : Nat → FieldType := fun k => match k with
  | 0 => .int
  | 1 => .array .byte
  | 2 => .int
  | 3 => .int
  | 4 => .int
  | 5 => .int
  | 6 => .array .int
  | 7 => .array .int
  | 8 => .array .int
  | 9 => .array .int
  | 10 => .array .int
  | 11 => .array .int
  | 12 => .int
  | 13 => .int
  | 14 => .int
  | 15 => .int
  | 16 => .int
  | 17 => .int
  | 18 => .long
  | 19 => .int
  | 20 => .int
  | 21 => .array .long
  | 22 => .array .int
  | 23 => .array .int
  | 24 => .array .int
  | 25 => .array .int
  | 26 => .array .int
  | 27 => .array .int
  | 28 => .array .int
  | 29 => .int
  | 30 => .int
  | 31 => .int
  | 32 => .array .int
  | 33 => .array .int
  | 34 => .array .int
  | 35 => .array .int
  | 36 => .int
  | 37 => .int
  | 38 => .int
  | 39 => .int
  | 40 => .array .int
  | 41 => .array .int
  | 42 => .array .long
  | 43 => .array .long
  | 44 => .array .int
  | 45 => .array .int
  | 46 => .boolean
  | 47 => .int
  | 48 => .int
  | 49 => .int
  | 50 => .long
  | 51 => .boolean
  | 52 => .int
  | 53 => .int
  | 54 => .int
  | 55 => .long
  | 56 => .boolean
  | 57 => .boolean
  | 58 => .long
  | 59 => .int
  | 60 => .int
  | 61 => .int
  | _ => .array .int
theorem znm12 : ∀ a, a < 63 → ∀ b, b < 63 → a ≠ b → (zT12 a).2.1 ≠ (zT12 b).2.1 := by decide +kernel
theorem ztyok12 : ∀ k, k < 63 → parseFieldDescriptor (zT12 k).2.2.1 = some (zty12 k) := by decide +kernel
theorem zlay12 : GoodIn lw_tbl (u_ws zR12 zT12 63) := goodIn_r _ [1217, 1219, 1221, 1223, 1225, 1227, 1229, 1231, 1233, 1235, 1237, 1239, 1241, 1243, 1245, 1247, 1249, 1251, 1253, 1255, 1257, 1259, 1261, 1263, 1265, 1267, 1269, 1271, 1273, 1275, 1277, 1279, 1281, 1283, 1285, 1287, 1289, 1291, 1293, 1295, 1297, 1299, 1301, 1303, 1305, 1307, 1309, 1311, 1313, 1315, 1317, 1319, 1321, 1323, 1325, 1327, 1329, 1331, 1333, 1335, 1337, 1339, 1341] (by decide +kernel) (by decide +kernel)
abbrev zCl : List vw_C := [(zR0, zT0, 4), (zR1, zT1, 5), (zR2, zT2, 7), (zR3, zT3, 7), (zR4, zT4, 8), (zR5, zT5, 9), (zR6, zT6, 5), (zR7, zT7, 2), (zR8, zT8, 4), (zR9, zT9, 3), (zR10, zT10, 5), (zR11, zT11, 15), (zR12, zT12, 63)]
/-- the fields' kinds: 0 int, 1 long, 2 reference, 3 boolean -/
def zFt : List (List Nat) := [[2, 2, 2, 0], [2, 2, 2, 2, 0], [2, 0, 0, 0, 0, 0, 0], [2, 2, 2, 3, 3, 0, 0], [2, 2, 2, 2, 3, 0, 0, 1], [0, 0, 0, 0, 0, 0, 0, 0, 0], [2, 2, 2, 2, 0], [2, 0], [2, 2, 2, 0], [2, 2, 0], [2, 2, 2, 2, 0], [2, 2, 2, 2, 2, 2, 2, 2, 2, 2, 2, 3, 0, 0, 1], [0, 2, 0, 0, 0, 0, 2, 2, 2, 2, 2, 2, 0, 0, 0, 0, 0, 0, 1, 0, 0, 2, 2, 2, 2, 2, 2, 2, 2, 0, 0, 0, 2, 2, 2, 2, 0, 0, 0, 0, 2, 2, 2, 2, 2, 2, 3, 0, 0, 0, 1, 3, 0, 0, 0, 1, 3, 3, 1, 0, 0, 0, 2]]
/-- the methods: class, name, bytes, locals, answer -/
def zMs : List (Nat × MethodName × ByteArray × Nat × Option FieldType) := [(0, ⟨zR0, "<init>", "()V"⟩, prog_2_method_1_code, 1, none),
  (0, ⟨zR0, "add", "(III)V"⟩, prog_2_method_2_code, 4, none),
  (0, ⟨zR0, "literal", "(I)I"⟩, prog_2_method_3_code, 1, (some .int)),
  (0, ⟨zR0, "numberOf", "(III)I"⟩, prog_2_method_4_code, 3, (some .int)),
  (0, ⟨zR0, "pileAndNumber", "(II)I"⟩, prog_2_method_5_code, 2, (some .int)),
  (0, ⟨zR0, "areMet", "(LConjurerDesk$Table;II)Z"⟩, prog_2_method_6_code, 7, (some .boolean)),
  (0, ⟨zR0, "isTrue", "(LConjurerDesk$Table;I)Z"⟩, prog_2_method_7_code, 4, (some .boolean)),
  (0, ⟨zR0, "compare", "(III)Z"⟩, prog_2_method_8_code, 3, (some .boolean)),
  (0, ⟨zR0, "valueOf", "(LConjurerDesk$Table;I)I"⟩, prog_2_method_9_code, 4, (some .int)),
  (1, ⟨zR1, "<init>", "()V"⟩, prog_3_method_1_code, 1, none),
  (1, ⟨zR1, "renew", "(I)V"⟩, prog_3_method_2_code, 3, none),
  (1, ⟨zR1, "describe", "(IIII)V"⟩, prog_3_method_3_code, 5, none),
  (1, ⟨zR1, "beginWith", "([I)V"⟩, prog_3_method_4_code, 3, none),
  (1, ⟨zR1, "property", "(II)I"⟩, prog_3_method_5_code, 4, (some .int)),
  (2, ⟨zR2, "<init>", "()V"⟩, prog_4_method_1_code, 1, none),
  (2, ⟨zR2, "readTrick", "(LConjurerDesk$Tape;LConjurerDesk$Trick;)V"⟩, prog_4_method_2_code, 3, none),
  (2, ⟨zR2, "readClaim", "(LConjurerDesk$Tape;LConjurerDesk$Conditions;)V"⟩, prog_4_method_3_code, 3, none),
  (2, ⟨zR2, "begin", "(LConjurerDesk$Tape;)V"⟩, prog_4_method_4_code, 2, none),
  (2, ⟨zR2, "goOn", "()V"⟩, prog_4_method_5_code, 1, none),
  (2, ⟨zR2, "fail", "(I)V"⟩, prog_4_method_6_code, 2, none),
  (2, ⟨zR2, "expect", "(I)V"⟩, prog_4_method_7_code, 2, none),
  (2, ⟨zR2, "readSteps", "(LConjurerDesk$Trick;II)V"⟩, prog_4_method_8_code, 5, none),
  (2, ⟨zR2, "readStep", "(LConjurerDesk$Trick;II)V"⟩, prog_4_method_9_code, 5, none),
  (2, ⟨zR2, "readIf", "(LConjurerDesk$Trick;LConjurerDesk$Step;II)V"⟩, prog_4_method_10_code, 5, none),
  (2, ⟨zR2, "readBlock", "(LConjurerDesk$Trick;II)V"⟩, prog_4_method_11_code, 4, none),
  (2, ⟨zR2, "readPlainStep", "(LConjurerDesk$Step;)V"⟩, prog_4_method_12_code, 2, none),
  (2, ⟨zR2, "readPile", "(I)I"⟩, prog_4_method_13_code, 3, (some .int)),
  (2, ⟨zR2, "readTarget", "(I)I"⟩, prog_4_method_14_code, 2, (some .int)),
  (2, ⟨zR2, "readMany", "()I"⟩, prog_4_method_15_code, 1, (some .int)),
  (2, ⟨zR2, "readPlace", "()I"⟩, prog_4_method_16_code, 1, (some .int)),
  (2, ⟨zR2, "readFreeOrNumber", "(I)I"⟩, prog_4_method_17_code, 2, (some .int)),
  (2, ⟨zR2, "readNumber", "(II)I"⟩, prog_4_method_18_code, 4, (some .int)),
  (2, ⟨zR2, "readCondition", "(LConjurerDesk$Conditions;I)V"⟩, prog_4_method_19_code, 4, none),
  (2, ⟨zR2, "readBoth", "(LConjurerDesk$Conditions;I)V"⟩, prog_4_method_20_code, 4, none),
  (2, ⟨zR2, "readOne", "(LConjurerDesk$Conditions;I)V"⟩, prog_4_method_21_code, 3, none),
  (2, ⟨zR2, "readNested", "(LConjurerDesk$Conditions;I)V"⟩, prog_4_method_22_code, 3, none),
  (2, ⟨zR2, "readTest", "(LConjurerDesk$Conditions;)V"⟩, prog_4_method_23_code, 6, none),
  (2, ⟨zR2, "readProperty", "()I"⟩, prog_4_method_24_code, 2, (some .int)),
  (2, ⟨zR2, "readComparison", "(LConjurerDesk$Conditions;)V"⟩, prog_4_method_25_code, 5, none),
  (2, ⟨zR2, "readNum", "()I"⟩, prog_4_method_26_code, 4, (some .int)),
  (3, ⟨zR3, "<init>", "(LConjurerDesk$Deck;LConjurerDesk$Tape;)V"⟩, prog_5_method_1_code, 3, none),
  (3, ⟨zR3, "forget", "()V"⟩, prog_5_method_2_code, 1, none),
  (3, ⟨zR3, "play", "(LConjurerDesk$Trick;)V"⟩, prog_5_method_3_code, 2, none),
  (3, ⟨zR3, "doSteps", "(LConjurerDesk$Trick;III)V"⟩, prog_5_method_4_code, 9, none),
  (3, ⟨zR3, "doIf", "(LConjurerDesk$Trick;II)V"⟩, prog_5_method_5_code, 5, none),
  (3, ⟨zR3, "doPlainStep", "(LConjurerDesk$Step;)V"⟩, prog_5_method_6_code, 3, none),
  (4, ⟨zR4, "<init>", "(LConjurerDesk$Deck;)V"⟩, prog_6_method_1_code, 3, none),
  (4, ⟨zR4, "lookAtAllEnds", "(LConjurerDesk$Trick;LConjurerDesk$Conditions;[I)V"⟩, prog_6_method_2_code, 4, none),
  (4, ⟨zR4, "judge", "(LConjurerDesk$Conditions;)V"⟩, prog_6_method_3_code, 3, none),
  (4, ⟨zR4, "doSteps", "(LConjurerDesk$Trick;III)V"⟩, prog_6_method_4_code, 9, none),
  (4, ⟨zR4, "doPlainStep", "(LConjurerDesk$Step;)V"⟩, prog_6_method_5_code, 8, none),
  (4, ⟨zR4, "exchange", "()V"⟩, prog_6_method_6_code, 2, none),
  (4, ⟨zR4, "doIf", "(LConjurerDesk$Trick;II)V"⟩, prog_6_method_7_code, 9, none),
  (5, ⟨zR5, "<init>", "()V"⟩, prog_7_method_1_code, 1, none),
  (5, ⟨zR5, "isFree", "()Z"⟩, prog_7_method_2_code, 1, (some .boolean)),
  (5, ⟨zR5, "hasPlace", "()Z"⟩, prog_7_method_3_code, 1, (some .boolean)),
  (6, ⟨zR6, "<init>", "(LConjurerDesk$Deck;)V"⟩, prog_8_method_1_code, 2, none),
  (6, ⟨zR6, "layRow", "([I)V"⟩, prog_8_method_2_code, 3, none),
  (6, ⟨zR6, "clear", "()V"⟩, prog_8_method_3_code, 2, none),
  (6, ⟨zR6, "lay", "(J)V"⟩, prog_8_method_4_code, 8, none),
  (6, ⟨zR6, "packed", "()J"⟩, prog_8_method_5_code, 6, (some .long)),
  (6, ⟨zR6, "cardAt", "(II)I"⟩, prog_8_method_6_code, 3, (some .int)),
  (6, ⟨zR6, "facesUp", "(I)I"⟩, prog_8_method_7_code, 4, (some .int)),
  (6, ⟨zR6, "placeOfMarked", "(I)I"⟩, prog_8_method_8_code, 3, (some .int)),
  (6, ⟨zR6, "areAlike", "(II)Z"⟩, prog_8_method_9_code, 5, (some .boolean)),
  (6, ⟨zR6, "areUnlikeByGroups", "(III)Z"⟩, prog_8_method_10_code, 9, (some .boolean)),
  (6, ⟨zR6, "isRising", "(I)Z"⟩, prog_8_method_11_code, 4, (some .boolean)),
  (6, ⟨zR6, "choicesAt", "(LConjurerDesk$Step;)I"⟩, prog_8_method_12_code, 3, (some .int)),
  (6, ⟨zR6, "waysToRiffle", "(II)I"⟩, prog_8_method_13_code, 2, (some .int)),
  (6, ⟨zR6, "act", "(LConjurerDesk$Step;I)V"⟩, prog_8_method_14_code, 6, none),
  (6, ⟨zR6, "push", "(II)V"⟩, prog_8_method_15_code, 3, none),
  (6, ⟨zR6, "pop", "(I)I"⟩, prog_8_method_16_code, 2, (some .int)),
  (6, ⟨zR6, "cut", "(II)V"⟩, prog_8_method_17_code, 6, none),
  (6, ⟨zR6, "deal", "(III)V"⟩, prog_8_method_18_code, 5, none),
  (6, ⟨zR6, "move", "(III)V"⟩, prog_8_method_19_code, 5, none),
  (6, ⟨zR6, "putHandOn", "(II)V"⟩, prog_8_method_20_code, 4, none),
  (6, ⟨zR6, "take", "(III)V"⟩, prog_8_method_21_code, 6, none),
  (6, ⟨zR6, "turn", "(II)V"⟩, prog_8_method_22_code, 4, none),
  (6, ⟨zR6, "flip", "(II)V"⟩, prog_8_method_23_code, 3, none),
  (6, ⟨zR6, "riffle", "(LConjurerDesk$Step;I)V"⟩, prog_8_method_24_code, 9, none),
  (6, ⟨zR6, "faro", "(LConjurerDesk$Step;)V"⟩, prog_8_method_25_code, 8, none),
  (6, ⟨zR6, "dealDownUnder", "(II)V"⟩, prog_8_method_26_code, 4, none),
  (6, ⟨zR6, "swap", "(II)V"⟩, prog_8_method_27_code, 5, none),
  (6, ⟨zR6, "mark", "(II)V"⟩, prog_8_method_28_code, 4, none),
  (7, ⟨zR7, "<init>", "()V"⟩, prog_9_method_1_code, 1, none),
  (7, ⟨zR7, "append", "(I)V"⟩, prog_9_method_2_code, 3, none),
  (8, ⟨zR8, "<init>", "()V"⟩, prog_10_method_1_code, 1, none),
  (8, ⟨zR8, "split", "(LConjurerDesk$Tape;)V"⟩, prog_10_method_2_code, 5, none),
  (8, ⟨zR8, "add", "(III)V"⟩, prog_10_method_3_code, 4, none),
  (8, ⟨zR8, "addRun", "(LConjurerDesk$Tape;I)I"⟩, prog_10_method_4_code, 7, (some .int)),
  (8, ⟨zR8, "addSign", "(LConjurerDesk$Tape;I)I"⟩, prog_10_method_5_code, 6, (some .int)),
  (8, ⟨zR8, "signKind", "(IZ)I"⟩, prog_10_method_6_code, 2, (some .int)),
  (8, ⟨zR8, "wordKind", "(LConjurerDesk$Tape;II)I"⟩, prog_10_method_7_code, 4, (some .int)),
  (8, ⟨zR8, "isWord", "(ILConjurerDesk$Tape;II)Z"⟩, prog_10_method_8_code, 6, (some .boolean)),
  (8, ⟨zR8, "isLetter", "(I)Z"⟩, prog_10_method_9_code, 1, (some .boolean)),
  (8, ⟨zR8, "isDigit", "(I)Z"⟩, prog_10_method_10_code, 1, (some .boolean)),
  (9, ⟨zR9, "<init>", "()V"⟩, prog_11_method_1_code, 2, none),
  (9, ⟨zR9, "clear", "()V"⟩, prog_11_method_2_code, 1, none),
  (10, ⟨zR10, "<init>", "()V"⟩, prog_12_method_1_code, 1, none),
  (10, ⟨zR10, "clear", "()V"⟩, prog_12_method_2_code, 2, none),
  (10, ⟨zR10, "put", "(JJ)Z"⟩, prog_12_method_3_code, 8, (some .boolean)),
  (10, ⟨zR10, "append", "(IJJ)Z"⟩, prog_12_method_4_code, 6, (some .boolean)),
  (10, ⟨zR10, "rowLength", "(J)I"⟩, prog_12_method_5_code, 2, (some .int)),
  (10, ⟨zR10, "rowChoice", "(JI)I"⟩, prog_12_method_6_code, 3, (some .int)),
  (10, ⟨zR10, "longerRow", "(JI)J"⟩, prog_12_method_7_code, 4, (some .long)),
  (11, ⟨zR11, "<init>", "()V"⟩, prog_1_method_1_code, 1, none),
  (11, ⟨zR11, "feed", "(IIIII)I"⟩, prog_1_method_2_code, 6, (some .int)),
  (11, ⟨zR11, "end", "(I)Z"⟩, prog_1_method_3_code, 2, (some .boolean)),
  (11, ⟨zR11, "cards", "(I)Z"⟩, prog_1_method_4_code, 2, (some .boolean)),
  (11, ⟨zR11, "card", "(IIII)Z"⟩, prog_1_method_5_code, 5, (some .boolean)),
  (11, ⟨zR11, "start", "()Z"⟩, prog_1_method_6_code, 4, (some .boolean)),
  (11, ⟨zR11, "trick", "()I"⟩, prog_1_method_7_code, 2, (some .int)),
  (11, ⟨zR11, "claim", "()I"⟩, prog_1_method_8_code, 2, (some .int)),
  (11, ⟨zR11, "fault", "()I"⟩, prog_1_method_9_code, 1, (some .int)),
  (11, ⟨zR11, "run", "()I"⟩, prog_1_method_10_code, 1, (some .int)),
  (11, ⟨zR11, "ends", "(I)I"⟩, prog_1_method_11_code, 2, (some .int)),
  (11, ⟨zR11, "choice", "(I)I"⟩, prog_1_method_12_code, 2, (some .int)),
  (11, ⟨zR11, "perform", "()I"⟩, prog_1_method_13_code, 1, (some .int)),
  (11, ⟨zR11, "look", "(II)I"⟩, prog_1_method_14_code, 4, (some .int)),
  (11, ⟨zR11, "holds", "()Z"⟩, prog_1_method_15_code, 1, (some .boolean)),
  (11, ⟨zR11, "stack", "(I)I"⟩, prog_1_method_16_code, 3, (some .int)),
  (11, ⟨zR11, "at", "(I)I"⟩, prog_1_method_17_code, 3, (some .int)),
  (11, ⟨zR11, "count", "(I)I"⟩, prog_1_method_18_code, 2, (some .int)),
  (11, ⟨zR11, "forgetRun", "()V"⟩, prog_1_method_19_code, 1, none),
  (11, ⟨zR11, "tapeIsStart", "()Z"⟩, prog_1_method_20_code, 4, (some .boolean)),
  (11, ⟨zR11, "nextOrder", "()Z"⟩, prog_1_method_21_code, 5, (some .boolean)),
  (11, ⟨zR11, "exchange", "(II)V"⟩, prog_1_method_22_code, 4, none),
  (12, ⟨zR12, "thrown", "()I"⟩, prog_14_method_1_code, 1, (some .int)),
  (12, ⟨zR12, "feed", "(IIIII)I"⟩, prog_14_method_2_code, 6, (some .int)),
  (12, ⟨zR12, "four", "(I)V"⟩, prog_14_method_3_code, 3, none),
  (12, ⟨zR12, "end", "(I)Z"⟩, prog_14_method_4_code, 2, (some .boolean)),
  (12, ⟨zR12, "<init>", "()V"⟩, prog_14_method_5_code, 1, none),
  (12, ⟨zR12, "fresh", "()V"⟩, prog_14_method_6_code, 2, none),
  (12, ⟨zR12, "cards", "(I)Z"⟩, prog_14_method_7_code, 2, (some .boolean)),
  (12, ⟨zR12, "card", "(IIII)Z"⟩, prog_14_method_8_code, 5, (some .boolean)),
  (12, ⟨zR12, "start", "()Z"⟩, prog_14_method_9_code, 5, (some .boolean)),
  (12, ⟨zR12, "lay", "([I)V"⟩, prog_14_method_10_code, 3, none),
  (12, ⟨zR12, "told", "()J"⟩, prog_14_method_11_code, 5, (some .long)),
  (12, ⟨zR12, "untold", "(J)V"⟩, prog_14_method_12_code, 8, none),
  (12, ⟨zR12, "peek", "()I"⟩, prog_14_method_13_code, 1, (some .int)),
  (12, ⟨zR12, "isSmall", "(I)Z"⟩, prog_14_method_14_code, 1, (some .boolean)),
  (12, ⟨zR12, "isDigit", "(I)Z"⟩, prog_14_method_15_code, 1, (some .boolean)),
  (12, ⟨zR12, "next", "()V"⟩, prog_14_method_16_code, 4, none),
  (12, ⟨zR12, "run", "(Z)V"⟩, prog_14_method_17_code, 4, none),
  (12, ⟨zR12, "wrong", "(II)Z"⟩, prog_14_method_18_code, 3, (some .boolean)),
  (12, ⟨zR12, "cant", "()Z"⟩, prog_14_method_19_code, 1, (some .boolean)),
  (12, ⟨zR12, "isSign", "(I)Z"⟩, prog_14_method_20_code, 2, (some .boolean)),
  (12, ⟨zR12, "must", "(I)Z"⟩, prog_14_method_21_code, 2, (some .boolean)),
  (12, ⟨zR12, "isWord", "(J)Z"⟩, prog_14_method_22_code, 3, (some .boolean)),
  (12, ⟨zR12, "mustWord", "(J)Z"⟩, prog_14_method_23_code, 3, (some .boolean)),
  (12, ⟨zR12, "readPile", "()Z"⟩, prog_14_method_24_code, 1, (some .boolean)),
  (12, ⟨zR12, "readNumber", "(II)Z"⟩, prog_14_method_25_code, 3, (some .boolean)),
  (12, ⟨zR12, "trick", "()I"⟩, prog_14_method_26_code, 3, (some .int)),
  (12, ⟨zR12, "block", "(I)Z"⟩, prog_14_method_27_code, 2, (some .boolean)),
  (12, ⟨zR12, "isStep", "()Z"⟩, prog_14_method_28_code, 1, (some .boolean)),
  (12, ⟨zR12, "readStep", "(I)Z"⟩, prog_14_method_29_code, 6, (some .boolean)),
  (12, ⟨zR12, "braces", "(I)Z"⟩, prog_14_method_30_code, 2, (some .boolean)),
  (12, ⟨zR12, "readIf", "(II)Z"⟩, prog_14_method_31_code, 4, (some .boolean)),
  (12, ⟨zR12, "done", "(II)I"⟩, prog_14_method_32_code, 7, (some .int)),
  (12, ⟨zR12, "choices", "(II)I"⟩, prog_14_method_33_code, 6, (some .int)),
  (12, ⟨zR12, "node", "(IIII)I"⟩, prog_14_method_34_code, 5, (some .int)),
  (12, ⟨zR12, "bad", "(Z)I"⟩, prog_14_method_35_code, 2, (some .int)),
  (12, ⟨zR12, "anyOf", "()I"⟩, prog_14_method_36_code, 3, (some .int)),
  (12, ⟨zR12, "allOf", "()I"⟩, prog_14_method_37_code, 3, (some .int)),
  (12, ⟨zR12, "oneOf", "()I"⟩, prog_14_method_38_code, 5, (some .int)),
  (12, ⟨zR12, "property", "()I"⟩, prog_14_method_39_code, 2, (some .int)),
  (12, ⟨zR12, "num", "()I"⟩, prog_14_method_40_code, 3, (some .int)),
  (12, ⟨zR12, "claim", "()I"⟩, prog_14_method_41_code, 3, (some .int)),
  (12, ⟨zR12, "fault", "()I"⟩, prog_14_method_42_code, 1, (some .int)),
  (12, ⟨zR12, "propertyOf", "(II)I"⟩, prog_14_method_43_code, 3, (some .int)),
  (12, ⟨zR12, "cardAt", "(II)I"⟩, prog_14_method_44_code, 3, (some .int)),
  (12, ⟨zR12, "worth", "(I)I"⟩, prog_14_method_45_code, 6, (some .int)),
  (12, ⟨zR12, "holdsOf", "(I)Z"⟩, prog_14_method_46_code, 8, (some .boolean)),
  (12, ⟨zR12, "claimHolds", "()Z"⟩, prog_14_method_47_code, 1, (some .boolean)),
  (12, ⟨zR12, "ways", "(II)J"⟩, prog_14_method_48_code, 5, (some .long)),
  (12, ⟨zR12, "asks", "(I)I"⟩, prog_14_method_49_code, 3, (some .int)),
  (12, ⟨zR12, "onto", "(II)V"⟩, prog_14_method_50_code, 4, none),
  (12, ⟨zR12, "pick", "(III)V"⟩, prog_14_method_51_code, 5, none),
  (12, ⟨zR12, "turnHand", "(I)V"⟩, prog_14_method_52_code, 3, none),
  (12, ⟨zR12, "act", "(II)V"⟩, prog_14_method_53_code, 8, none),
  (12, ⟨zR12, "swap", "(II)V"⟩, prog_14_method_54_code, 5, none),
  (12, ⟨zR12, "down", "(II)V"⟩, prog_14_method_55_code, 4, none),
  (12, ⟨zR12, "together", "(II)V"⟩, prog_14_method_56_code, 15, none),
  (12, ⟨zR12, "empty", "(I)V"⟩, prog_14_method_57_code, 3, none),
  (12, ⟨zR12, "begin", "(I)V"⟩, prog_14_method_58_code, 2, none),
  (12, ⟨zR12, "add", "(JJ)V"⟩, prog_14_method_59_code, 8, none),
  (12, ⟨zR12, "longer", "(JI)J"⟩, prog_14_method_60_code, 4, (some .long)),
  (12, ⟨zR12, "go", "(IIII)V"⟩, prog_14_method_61_code, 8, none),
  (12, ⟨zR12, "all", "(II)V"⟩, prog_14_method_62_code, 11, none),
  (12, ⟨zR12, "copy", "(II)V"⟩, prog_14_method_63_code, 4, none),
  (12, ⟨zR12, "part", "(III)V"⟩, prog_14_method_64_code, 12, none),
  (12, ⟨zR12, "join", "(II)V"⟩, prog_14_method_65_code, 5, none),
  (12, ⟨zR12, "look", "([I)I"⟩, prog_14_method_66_code, 6, (some .int)),
  (12, ⟨zR12, "run", "()I"⟩, prog_14_method_67_code, 1, (some .int)),
  (12, ⟨zR12, "choicesOf", "(J)I"⟩, prog_14_method_68_code, 4, (some .int)),
  (12, ⟨zR12, "ends", "(I)I"⟩, prog_14_method_69_code, 2, (some .int)),
  (12, ⟨zR12, "choice", "(I)I"⟩, prog_14_method_70_code, 2, (some .int)),
  (12, ⟨zR12, "perform", "()I"⟩, prog_14_method_71_code, 1, (some .int)),
  (12, ⟨zR12, "through", "(II)V"⟩, prog_14_method_72_code, 7, none),
  (12, ⟨zR12, "look", "(II)I"⟩, prog_14_method_73_code, 4, (some .int)),
  (12, ⟨zR12, "holds", "()Z"⟩, prog_14_method_74_code, 1, (some .boolean)),
  (12, ⟨zR12, "stack", "(I)I"⟩, prog_14_method_75_code, 4, (some .int)),
  (12, ⟨zR12, "rises", "()Z"⟩, prog_14_method_76_code, 6, (some .boolean)),
  (12, ⟨zR12, "at", "(I)I"⟩, prog_14_method_77_code, 2, (some .int)),
  (12, ⟨zR12, "count", "(I)I"⟩, prog_14_method_78_code, 2, (some .int))]
