section
-- ===== PART A: goes FIRST, ahead of the names: the tables' words, and 'selects' of the private methods out of them =====
/-- a private method of a class that the tables say can be made, by its rows of tables_1 -/
def lw_okq (q : MethodName × Nat) : Prop := (q.1.cls ≠ "java/lang/invoke/MethodHandle" ∧ q.1.cls ≠ "java/lang/invoke/VarHandle") ∧ Cond.instantiable q.1.cls q.2 ∈ tables_1 ∧ Cond.privateMethod q.1 ∈ tables_1 ∧ Cond.instanceMethod q.1 ∈ tables_1
theorem lw_p0 : lw_okq (⟨"TenCoins$Pairs", "mayBeTold", "(I)Z"⟩, 9) := ⟨⟨by decide +kernel, by decide +kernel⟩, List.mem_of_getElem? (i := 27) (by decide +kernel), List.mem_of_getElem? (i := 366) (by decide +kernel), List.mem_of_getElem? (i := 367) (by decide +kernel)⟩
theorem lw_p1 : lw_okq (⟨"TenCoins$Pairs", "add", "(IIIII)I"⟩, 9) := ⟨⟨by decide +kernel, by decide +kernel⟩, List.mem_of_getElem? (i := 27) (by decide +kernel), List.mem_of_getElem? (i := 373) (by decide +kernel), List.mem_of_getElem? (i := 374) (by decide +kernel)⟩
theorem lw_p2 : lw_okq (⟨"TenCoins$Sheets", "isLost", "(I)Z"⟩, 4) := ⟨⟨by decide +kernel, by decide +kernel⟩, List.mem_of_getElem? (i := 290) (by decide +kernel), List.mem_of_getElem? (i := 384) (by decide +kernel), List.mem_of_getElem? (i := 385) (by decide +kernel)⟩
theorem lw_p3 : lw_okq (⟨"TenCoins$Sheets", "found", "(I)I"⟩, 4) := ⟨⟨by decide +kernel, by decide +kernel⟩, List.mem_of_getElem? (i := 290) (by decide +kernel), List.mem_of_getElem? (i := 388) (by decide +kernel), List.mem_of_getElem? (i := 389) (by decide +kernel)⟩
theorem lw_p4 : lw_okq (⟨"TenCoins$Sheets", "sizeOf", "(I)I"⟩, 4) := ⟨⟨by decide +kernel, by decide +kernel⟩, List.mem_of_getElem? (i := 290) (by decide +kernel), List.mem_of_getElem? (i := 392) (by decide +kernel), List.mem_of_getElem? (i := 393) (by decide +kernel)⟩
theorem lw_p5 : lw_okq (⟨"TenCoins$Sheets", "item", "(II)I"⟩, 4) := ⟨⟨by decide +kernel, by decide +kernel⟩, List.mem_of_getElem? (i := 290) (by decide +kernel), List.mem_of_getElem? (i := 396) (by decide +kernel), List.mem_of_getElem? (i := 397) (by decide +kernel)⟩
theorem lw_p6 : lw_okq (⟨"TenCoins$Pairs", "has", "(I)Z"⟩, 9) := ⟨⟨by decide +kernel, by decide +kernel⟩, List.mem_of_getElem? (i := 27) (by decide +kernel), List.mem_of_getElem? (i := 405) (by decide +kernel), List.mem_of_getElem? (i := 406) (by decide +kernel)⟩
theorem lw_p7 : lw_okq (⟨"TenCoins$Pairs", "withdraw", "(II)I"⟩, 9) := ⟨⟨by decide +kernel, by decide +kernel⟩, List.mem_of_getElem? (i := 27) (by decide +kernel), List.mem_of_getElem? (i := 409) (by decide +kernel), List.mem_of_getElem? (i := 410) (by decide +kernel)⟩
theorem lw_p8 : lw_okq (⟨"TenCoins$Pairs", "tally", "(IILTenCoins$Tally;)V"⟩, 9) := ⟨⟨by decide +kernel, by decide +kernel⟩, List.mem_of_getElem? (i := 27) (by decide +kernel), List.mem_of_getElem? (i := 425) (by decide +kernel), List.mem_of_getElem? (i := 426) (by decide +kernel)⟩
theorem lw_p9 : lw_okq (⟨"TenCoins$Tally", "clear", "()V"⟩, 5) := ⟨⟨by decide +kernel, by decide +kernel⟩, List.mem_of_getElem? (i := 65) (by decide +kernel), List.mem_of_getElem? (i := 429) (by decide +kernel), List.mem_of_getElem? (i := 430) (by decide +kernel)⟩
theorem lw_p10 : lw_okq (⟨"TenCoins$Pairs", "isOf", "(III)Z"⟩, 9) := ⟨⟨by decide +kernel, by decide +kernel⟩, List.mem_of_getElem? (i := 27) (by decide +kernel), List.mem_of_getElem? (i := 436) (by decide +kernel), List.mem_of_getElem? (i := 437) (by decide +kernel)⟩
theorem lw_p11 : lw_okq (⟨"TenCoins$Pairs", "counts", "(I)Z"⟩, 9) := ⟨⟨by decide +kernel, by decide +kernel⟩, List.mem_of_getElem? (i := 27) (by decide +kernel), List.mem_of_getElem? (i := 440) (by decide +kernel), List.mem_of_getElem? (i := 441) (by decide +kernel)⟩
theorem lw_p12 : lw_okq (⟨"TenCoins$Tally", "add", "(II)V"⟩, 5) := ⟨⟨by decide +kernel, by decide +kernel⟩, List.mem_of_getElem? (i := 65) (by decide +kernel), List.mem_of_getElem? (i := 444) (by decide +kernel), List.mem_of_getElem? (i := 445) (by decide +kernel)⟩
theorem lw_p13 : lw_okq (⟨"TenCoins$Tally", "middle", "()I"⟩, 5) := ⟨⟨by decide +kernel, by decide +kernel⟩, List.mem_of_getElem? (i := 65) (by decide +kernel), List.mem_of_getElem? (i := 448) (by decide +kernel), List.mem_of_getElem? (i := 449) (by decide +kernel)⟩
theorem lw_p14 : lw_okq (⟨"TenCoins$Rows", "add", "(II)I"⟩, 7) := ⟨⟨by decide +kernel, by decide +kernel⟩, List.mem_of_getElem? (i := 99) (by decide +kernel), List.mem_of_getElem? (i := 487) (by decide +kernel), List.mem_of_getElem? (i := 488) (by decide +kernel)⟩
theorem lw_p15 : lw_okq (⟨"TenCoins$Rows", "has", "(I)Z"⟩, 7) := ⟨⟨by decide +kernel, by decide +kernel⟩, List.mem_of_getElem? (i := 99) (by decide +kernel), List.mem_of_getElem? (i := 495) (by decide +kernel), List.mem_of_getElem? (i := 496) (by decide +kernel)⟩
def lw_privs_1 : List (MethodName × Nat) := [(⟨"TenCoins$Pairs", "mayBeTold", "(I)Z"⟩, 9), (⟨"TenCoins$Pairs", "add", "(IIIII)I"⟩, 9), (⟨"TenCoins$Sheets", "isLost", "(I)Z"⟩, 4), (⟨"TenCoins$Sheets", "found", "(I)I"⟩, 4), (⟨"TenCoins$Sheets", "sizeOf", "(I)I"⟩, 4), (⟨"TenCoins$Sheets", "item", "(II)I"⟩, 4), (⟨"TenCoins$Pairs", "has", "(I)Z"⟩, 9), (⟨"TenCoins$Pairs", "withdraw", "(II)I"⟩, 9), (⟨"TenCoins$Pairs", "tally", "(IILTenCoins$Tally;)V"⟩, 9), (⟨"TenCoins$Tally", "clear", "()V"⟩, 5), (⟨"TenCoins$Pairs", "isOf", "(III)Z"⟩, 9), (⟨"TenCoins$Pairs", "counts", "(I)Z"⟩, 9), (⟨"TenCoins$Tally", "add", "(II)V"⟩, 5), (⟨"TenCoins$Tally", "middle", "()I"⟩, 5), (⟨"TenCoins$Rows", "add", "(II)I"⟩, 7), (⟨"TenCoins$Rows", "has", "(I)Z"⟩, 7)]
theorem lw_r1 : ∀ q ∈ lw_privs_1, lw_okq q := List.forall_mem_cons.mpr ⟨lw_p0, List.forall_mem_cons.mpr ⟨lw_p1, List.forall_mem_cons.mpr ⟨lw_p2, List.forall_mem_cons.mpr ⟨lw_p3, List.forall_mem_cons.mpr ⟨lw_p4, List.forall_mem_cons.mpr ⟨lw_p5, List.forall_mem_cons.mpr ⟨lw_p6, List.forall_mem_cons.mpr ⟨lw_p7, List.forall_mem_cons.mpr ⟨lw_p8, List.forall_mem_cons.mpr ⟨lw_p9, List.forall_mem_cons.mpr ⟨lw_p10, List.forall_mem_cons.mpr ⟨lw_p11, List.forall_mem_cons.mpr ⟨lw_p12, List.forall_mem_cons.mpr ⟨lw_p13, List.forall_mem_cons.mpr ⟨lw_p14, List.forall_mem_cons.mpr ⟨lw_p15, fun _ h => absurd h List.not_mem_nil⟩⟩⟩⟩⟩⟩⟩⟩⟩⟩⟩⟩⟩⟩⟩⟩
theorem lw_p16 : lw_okq (⟨"TenCoins$Rows", "mend", "(I)V"⟩, 7) := ⟨⟨by decide +kernel, by decide +kernel⟩, List.mem_of_getElem? (i := 99) (by decide +kernel), List.mem_of_getElem? (i := 499) (by decide +kernel), List.mem_of_getElem? (i := 500) (by decide +kernel)⟩
theorem lw_p17 : lw_okq (⟨"TenCoins$Rows", "howMany", "(I)I"⟩, 7) := ⟨⟨by decide +kernel, by decide +kernel⟩, List.mem_of_getElem? (i := 99) (by decide +kernel), List.mem_of_getElem? (i := 513) (by decide +kernel), List.mem_of_getElem? (i := 514) (by decide +kernel)⟩
theorem lw_p18 : lw_okq (⟨"TenCoins$Rows", "isOf", "(II)Z"⟩, 7) := ⟨⟨by decide +kernel, by decide +kernel⟩, List.mem_of_getElem? (i := 99) (by decide +kernel), List.mem_of_getElem? (i := 517) (by decide +kernel), List.mem_of_getElem? (i := 518) (by decide +kernel)⟩
theorem lw_p19 : lw_okq (⟨"TenCoins$Rows", "yeses", "(II)I"⟩, 7) := ⟨⟨by decide +kernel, by decide +kernel⟩, List.mem_of_getElem? (i := 99) (by decide +kernel), List.mem_of_getElem? (i := 521) (by decide +kernel), List.mem_of_getElem? (i := 522) (by decide +kernel)⟩
theorem lw_p20 : lw_okq (⟨"TenCoins$Rows", "bestOffer", "(I)I"⟩, 7) := ⟨⟨by decide +kernel, by decide +kernel⟩, List.mem_of_getElem? (i := 99) (by decide +kernel), List.mem_of_getElem? (i := 529) (by decide +kernel), List.mem_of_getElem? (i := 530) (by decide +kernel)⟩
theorem lw_p21 : lw_okq (⟨"TenCoins$Rows", "bring", "(II)I"⟩, 7) := ⟨⟨by decide +kernel, by decide +kernel⟩, List.mem_of_getElem? (i := 99) (by decide +kernel), List.mem_of_getElem? (i := 533) (by decide +kernel), List.mem_of_getElem? (i := 534) (by decide +kernel)⟩
theorem lw_p22 : lw_okq (⟨"TenCoins$Beliefs", "add", "(I)I"⟩, 4) := ⟨⟨by decide +kernel, by decide +kernel⟩, List.mem_of_getElem? (i := 131) (by decide +kernel), List.mem_of_getElem? (i := 545) (by decide +kernel), List.mem_of_getElem? (i := 546) (by decide +kernel)⟩
theorem lw_p23 : lw_okq (⟨"TenCoins$Beliefs", "has", "(I)Z"⟩, 4) := ⟨⟨by decide +kernel, by decide +kernel⟩, List.mem_of_getElem? (i := 131) (by decide +kernel), List.mem_of_getElem? (i := 553) (by decide +kernel), List.mem_of_getElem? (i := 554) (by decide +kernel)⟩
theorem lw_p24 : lw_okq (⟨"TenCoins$Beliefs", "change", "(III)I"⟩, 4) := ⟨⟨by decide +kernel, by decide +kernel⟩, List.mem_of_getElem? (i := 131) (by decide +kernel), List.mem_of_getElem? (i := 557) (by decide +kernel), List.mem_of_getElem? (i := 558) (by decide +kernel)⟩
theorem lw_p25 : lw_okq (⟨"TenCoins$Beliefs", "said", "(II)I"⟩, 4) := ⟨⟨by decide +kernel, by decide +kernel⟩, List.mem_of_getElem? (i := 131) (by decide +kernel), List.mem_of_getElem? (i := 561) (by decide +kernel), List.mem_of_getElem? (i := 562) (by decide +kernel)⟩
theorem lw_p26 : lw_okq (⟨"TenCoins$Beliefs", "bestOffer", "(I)I"⟩, 4) := ⟨⟨by decide +kernel, by decide +kernel⟩, List.mem_of_getElem? (i := 131) (by decide +kernel), List.mem_of_getElem? (i := 569) (by decide +kernel), List.mem_of_getElem? (i := 570) (by decide +kernel)⟩
theorem lw_p27 : lw_okq (⟨"TenCoins", "amountsOff", "(III)I"⟩, 12) := ⟨⟨by decide +kernel, by decide +kernel⟩, List.mem_of_getElem? (i := 19) (by decide +kernel), List.mem_of_getElem? (i := 578) (by decide +kernel), List.mem_of_getElem? (i := 579) (by decide +kernel)⟩
theorem lw_p28 : lw_okq (⟨"TenCoins$Game", "add", "(I)I"⟩, 13) := ⟨⟨by decide +kernel, by decide +kernel⟩, List.mem_of_getElem? (i := 152) (by decide +kernel), List.mem_of_getElem? (i := 591) (by decide +kernel), List.mem_of_getElem? (i := 592) (by decide +kernel)⟩
theorem lw_p29 : lw_okq (⟨"TenCoins$Game", "goesOn", "(I)Z"⟩, 13) := ⟨⟨by decide +kernel, by decide +kernel⟩, List.mem_of_getElem? (i := 152) (by decide +kernel), List.mem_of_getElem? (i := 595) (by decide +kernel), List.mem_of_getElem? (i := 596) (by decide +kernel)⟩
theorem lw_p30 : lw_okq (⟨"TenCoins$Game", "beginsNode", "(I)Z"⟩, 13) := ⟨⟨by decide +kernel, by decide +kernel⟩, List.mem_of_getElem? (i := 152) (by decide +kernel), List.mem_of_getElem? (i := 599) (by decide +kernel), List.mem_of_getElem? (i := 600) (by decide +kernel)⟩
theorem lw_p31 : lw_okq (⟨"TenCoins$Game", "startNode", "(I)V"⟩, 13) := ⟨⟨by decide +kernel, by decide +kernel⟩, List.mem_of_getElem? (i := 152) (by decide +kernel), List.mem_of_getElem? (i := 609) (by decide +kernel), List.mem_of_getElem? (i := 610) (by decide +kernel)⟩
def lw_privs_2 : List (MethodName × Nat) := [(⟨"TenCoins$Rows", "mend", "(I)V"⟩, 7), (⟨"TenCoins$Rows", "howMany", "(I)I"⟩, 7), (⟨"TenCoins$Rows", "isOf", "(II)Z"⟩, 7), (⟨"TenCoins$Rows", "yeses", "(II)I"⟩, 7), (⟨"TenCoins$Rows", "bestOffer", "(I)I"⟩, 7), (⟨"TenCoins$Rows", "bring", "(II)I"⟩, 7), (⟨"TenCoins$Beliefs", "add", "(I)I"⟩, 4), (⟨"TenCoins$Beliefs", "has", "(I)Z"⟩, 4), (⟨"TenCoins$Beliefs", "change", "(III)I"⟩, 4), (⟨"TenCoins$Beliefs", "said", "(II)I"⟩, 4), (⟨"TenCoins$Beliefs", "bestOffer", "(I)I"⟩, 4), (⟨"TenCoins", "amountsOff", "(III)I"⟩, 12), (⟨"TenCoins$Game", "add", "(I)I"⟩, 13), (⟨"TenCoins$Game", "goesOn", "(I)Z"⟩, 13), (⟨"TenCoins$Game", "beginsNode", "(I)Z"⟩, 13), (⟨"TenCoins$Game", "startNode", "(I)V"⟩, 13)]
theorem lw_r2 : ∀ q ∈ lw_privs_2, lw_okq q := List.forall_mem_cons.mpr ⟨lw_p16, List.forall_mem_cons.mpr ⟨lw_p17, List.forall_mem_cons.mpr ⟨lw_p18, List.forall_mem_cons.mpr ⟨lw_p19, List.forall_mem_cons.mpr ⟨lw_p20, List.forall_mem_cons.mpr ⟨lw_p21, List.forall_mem_cons.mpr ⟨lw_p22, List.forall_mem_cons.mpr ⟨lw_p23, List.forall_mem_cons.mpr ⟨lw_p24, List.forall_mem_cons.mpr ⟨lw_p25, List.forall_mem_cons.mpr ⟨lw_p26, List.forall_mem_cons.mpr ⟨lw_p27, List.forall_mem_cons.mpr ⟨lw_p28, List.forall_mem_cons.mpr ⟨lw_p29, List.forall_mem_cons.mpr ⟨lw_p30, List.forall_mem_cons.mpr ⟨lw_p31, fun _ h => absurd h List.not_mem_nil⟩⟩⟩⟩⟩⟩⟩⟩⟩⟩⟩⟩⟩⟩⟩⟩
theorem lw_p32 : lw_okq (⟨"TenCoins$Game", "isNextFigure", "(III)Z"⟩, 13) := ⟨⟨by decide +kernel, by decide +kernel⟩, List.mem_of_getElem? (i := 152) (by decide +kernel), List.mem_of_getElem? (i := 613) (by decide +kernel), List.mem_of_getElem? (i := 614) (by decide +kernel)⟩
theorem lw_p33 : lw_okq (⟨"TenCoins$Game", "opens", "(I)Z"⟩, 13) := ⟨⟨by decide +kernel, by decide +kernel⟩, List.mem_of_getElem? (i := 152) (by decide +kernel), List.mem_of_getElem? (i := 617) (by decide +kernel), List.mem_of_getElem? (i := 618) (by decide +kernel)⟩
theorem lw_p34 : lw_okq (⟨"TenCoins$Game", "followsNode", "(I)Z"⟩, 13) := ⟨⟨by decide +kernel, by decide +kernel⟩, List.mem_of_getElem? (i := 152) (by decide +kernel), List.mem_of_getElem? (i := 621) (by decide +kernel), List.mem_of_getElem? (i := 622) (by decide +kernel)⟩
theorem lw_p35 : lw_okq (⟨"TenCoins$Game", "clear", "()I"⟩, 13) := ⟨⟨by decide +kernel, by decide +kernel⟩, List.mem_of_getElem? (i := 152) (by decide +kernel), List.mem_of_getElem? (i := 629) (by decide +kernel), List.mem_of_getElem? (i := 630) (by decide +kernel)⟩
theorem lw_p36 : lw_okq (⟨"TenCoins$Game", "faultPlace", "()I"⟩, 13) := ⟨⟨by decide +kernel, by decide +kernel⟩, List.mem_of_getElem? (i := 152) (by decide +kernel), List.mem_of_getElem? (i := 637) (by decide +kernel), List.mem_of_getElem? (i := 638) (by decide +kernel)⟩
theorem lw_p37 : lw_okq (⟨"TenCoins$Game", "solve", "(I)V"⟩, 13) := ⟨⟨by decide +kernel, by decide +kernel⟩, List.mem_of_getElem? (i := 152) (by decide +kernel), List.mem_of_getElem? (i := 645) (by decide +kernel), List.mem_of_getElem? (i := 646) (by decide +kernel)⟩
theorem lw_p38 : lw_okq (⟨"TenCoins$Game", "isNoWorse", "(IIII)Z"⟩, 13) := ⟨⟨by decide +kernel, by decide +kernel⟩, List.mem_of_getElem? (i := 152) (by decide +kernel), List.mem_of_getElem? (i := 650) (by decide +kernel), List.mem_of_getElem? (i := 651) (by decide +kernel)⟩
theorem lw_p39 : lw_okq (⟨"TenCoins$Game", "worth", "(III)I"⟩, 13) := ⟨⟨by decide +kernel, by decide +kernel⟩, List.mem_of_getElem? (i := 152) (by decide +kernel), List.mem_of_getElem? (i := 654) (by decide +kernel), List.mem_of_getElem? (i := 655) (by decide +kernel)⟩
theorem lw_p40 : lw_okq (⟨"TenCoins$Game", "wayLength", "()I"⟩, 13) := ⟨⟨by decide +kernel, by decide +kernel⟩, List.mem_of_getElem? (i := 152) (by decide +kernel), List.mem_of_getElem? (i := 661) (by decide +kernel), List.mem_of_getElem? (i := 662) (by decide +kernel)⟩
theorem lw_p41 : lw_okq (⟨"TenCoins$Game", "gets", "(I)I"⟩, 13) := ⟨⟨by decide +kernel, by decide +kernel⟩, List.mem_of_getElem? (i := 152) (by decide +kernel), List.mem_of_getElem? (i := 665) (by decide +kernel), List.mem_of_getElem? (i := 666) (by decide +kernel)⟩
theorem lw_p42 : lw_okq (⟨"TenCoins$Game", "choiceAt", "(I)I"⟩, 13) := ⟨⟨by decide +kernel, by decide +kernel⟩, List.mem_of_getElem? (i := 152) (by decide +kernel), List.mem_of_getElem? (i := 673) (by decide +kernel), List.mem_of_getElem? (i := 674) (by decide +kernel)⟩
theorem lw_p43 : lw_okq (⟨"TenCoins$Game", "leastAngerThatMatters", "()I"⟩, 13) := ⟨⟨by decide +kernel, by decide +kernel⟩, List.mem_of_getElem? (i := 152) (by decide +kernel), List.mem_of_getElem? (i := 681) (by decide +kernel), List.mem_of_getElem? (i := 682) (by decide +kernel)⟩
theorem lw_p44 : lw_okq (⟨"TenCoins$Choices", "clear", "()V"⟩, 3) := ⟨⟨by decide +kernel, by decide +kernel⟩, List.mem_of_getElem? (i := 201) (by decide +kernel), List.mem_of_getElem? (i := 690) (by decide +kernel), List.mem_of_getElem? (i := 691) (by decide +kernel)⟩
theorem lw_p45 : lw_okq (⟨"TenCoins$Choices", "pool", "(LTenCoins$Tally;)V"⟩, 3) := ⟨⟨by decide +kernel, by decide +kernel⟩, List.mem_of_getElem? (i := 201) (by decide +kernel), List.mem_of_getElem? (i := 695) (by decide +kernel), List.mem_of_getElem? (i := 696) (by decide +kernel)⟩
theorem lw_p46 : lw_okq (⟨"TenCoins$Choices", "poolOne", "(I)V"⟩, 3) := ⟨⟨by decide +kernel, by decide +kernel⟩, List.mem_of_getElem? (i := 201) (by decide +kernel), List.mem_of_getElem? (i := 699) (by decide +kernel), List.mem_of_getElem? (i := 700) (by decide +kernel)⟩
theorem lw_p47 : lw_okq (⟨"TenCoins$Choices", "asFarApart", "(LTenCoins$Tally;)I"⟩, 3) := ⟨⟨by decide +kernel, by decide +kernel⟩, List.mem_of_getElem? (i := 201) (by decide +kernel), List.mem_of_getElem? (i := 703) (by decide +kernel), List.mem_of_getElem? (i := 704) (by decide +kernel)⟩
def lw_privs_3 : List (MethodName × Nat) := [(⟨"TenCoins$Game", "isNextFigure", "(III)Z"⟩, 13), (⟨"TenCoins$Game", "opens", "(I)Z"⟩, 13), (⟨"TenCoins$Game", "followsNode", "(I)Z"⟩, 13), (⟨"TenCoins$Game", "clear", "()I"⟩, 13), (⟨"TenCoins$Game", "faultPlace", "()I"⟩, 13), (⟨"TenCoins$Game", "solve", "(I)V"⟩, 13), (⟨"TenCoins$Game", "isNoWorse", "(IIII)Z"⟩, 13), (⟨"TenCoins$Game", "worth", "(III)I"⟩, 13), (⟨"TenCoins$Game", "wayLength", "()I"⟩, 13), (⟨"TenCoins$Game", "gets", "(I)I"⟩, 13), (⟨"TenCoins$Game", "choiceAt", "(I)I"⟩, 13), (⟨"TenCoins$Game", "leastAngerThatMatters", "()I"⟩, 13), (⟨"TenCoins$Choices", "clear", "()V"⟩, 3), (⟨"TenCoins$Choices", "pool", "(LTenCoins$Tally;)V"⟩, 3), (⟨"TenCoins$Choices", "poolOne", "(I)V"⟩, 3), (⟨"TenCoins$Choices", "asFarApart", "(LTenCoins$Tally;)I"⟩, 3)]
theorem lw_r3 : ∀ q ∈ lw_privs_3, lw_okq q := List.forall_mem_cons.mpr ⟨lw_p32, List.forall_mem_cons.mpr ⟨lw_p33, List.forall_mem_cons.mpr ⟨lw_p34, List.forall_mem_cons.mpr ⟨lw_p35, List.forall_mem_cons.mpr ⟨lw_p36, List.forall_mem_cons.mpr ⟨lw_p37, List.forall_mem_cons.mpr ⟨lw_p38, List.forall_mem_cons.mpr ⟨lw_p39, List.forall_mem_cons.mpr ⟨lw_p40, List.forall_mem_cons.mpr ⟨lw_p41, List.forall_mem_cons.mpr ⟨lw_p42, List.forall_mem_cons.mpr ⟨lw_p43, List.forall_mem_cons.mpr ⟨lw_p44, List.forall_mem_cons.mpr ⟨lw_p45, List.forall_mem_cons.mpr ⟨lw_p46, List.forall_mem_cons.mpr ⟨lw_p47, fun _ h => absurd h List.not_mem_nil⟩⟩⟩⟩⟩⟩⟩⟩⟩⟩⟩⟩⟩⟩⟩⟩
theorem lw_p48 : lw_okq (⟨"TenCoins$Choices", "apart", "(II)I"⟩, 3) := ⟨⟨by decide +kernel, by decide +kernel⟩, List.mem_of_getElem? (i := 201) (by decide +kernel), List.mem_of_getElem? (i := 707) (by decide +kernel), List.mem_of_getElem? (i := 708) (by decide +kernel)⟩
theorem lw_p49 : lw_okq (⟨"TenCoins$Things", "add", "(IIII)I"⟩, 2) := ⟨⟨by decide +kernel, by decide +kernel⟩, List.mem_of_getElem? (i := 237) (by decide +kernel), List.mem_of_getElem? (i := 720) (by decide +kernel), List.mem_of_getElem? (i := 721) (by decide +kernel)⟩
theorem lw_p50 : lw_okq (⟨"TenCoins$Things", "has", "(I)Z"⟩, 2) := ⟨⟨by decide +kernel, by decide +kernel⟩, List.mem_of_getElem? (i := 237) (by decide +kernel), List.mem_of_getElem? (i := 728) (by decide +kernel), List.mem_of_getElem? (i := 729) (by decide +kernel)⟩
theorem lw_p51 : lw_okq (⟨"TenCoins", "learnMeans", "()V"⟩, 12) := ⟨⟨by decide +kernel, by decide +kernel⟩, List.mem_of_getElem? (i := 19) (by decide +kernel), List.mem_of_getElem? (i := 732) (by decide +kernel), List.mem_of_getElem? (i := 733) (by decide +kernel)⟩
theorem lw_p52 : lw_okq (⟨"TenCoins$Means", "clear", "()V"⟩, 4) := ⟨⟨by decide +kernel, by decide +kernel⟩, List.mem_of_getElem? (i := 217) (by decide +kernel), List.mem_of_getElem? (i := 736) (by decide +kernel), List.mem_of_getElem? (i := 737) (by decide +kernel)⟩
theorem lw_p53 : lw_okq (⟨"TenCoins$Means", "learn", "(ILTenCoins$Tally;)V"⟩, 4) := ⟨⟨by decide +kernel, by decide +kernel⟩, List.mem_of_getElem? (i := 217) (by decide +kernel), List.mem_of_getElem? (i := 740) (by decide +kernel), List.mem_of_getElem? (i := 741) (by decide +kernel)⟩
theorem lw_p54 : lw_okq (⟨"TenCoins$Things", "together", "(ILTenCoins$Means;)I"⟩, 2) := ⟨⟨by decide +kernel, by decide +kernel⟩, List.mem_of_getElem? (i := 237) (by decide +kernel), List.mem_of_getElem? (i := 744) (by decide +kernel), List.mem_of_getElem? (i := 745) (by decide +kernel)⟩
theorem lw_p55 : lw_okq (⟨"TenCoins$Means", "isKnown", "(I)Z"⟩, 4) := ⟨⟨by decide +kernel, by decide +kernel⟩, List.mem_of_getElem? (i := 217) (by decide +kernel), List.mem_of_getElem? (i := 748) (by decide +kernel), List.mem_of_getElem? (i := 749) (by decide +kernel)⟩
theorem lw_p56 : lw_okq (⟨"TenCoins$Means", "order", "(II)I"⟩, 4) := ⟨⟨by decide +kernel, by decide +kernel⟩, List.mem_of_getElem? (i := 217) (by decide +kernel), List.mem_of_getElem? (i := 755) (by decide +kernel), List.mem_of_getElem? (i := 756) (by decide +kernel)⟩
theorem lw_p57 : lw_okq (⟨"TenCoins$Things", "greatest", "(LTenCoins$Means;)I"⟩, 2) := ⟨⟨by decide +kernel, by decide +kernel⟩, List.mem_of_getElem? (i := 237) (by decide +kernel), List.mem_of_getElem? (i := 764) (by decide +kernel), List.mem_of_getElem? (i := 765) (by decide +kernel)⟩
theorem lw_p58 : lw_okq (⟨"TenCoins$Means", "reorder", "(I)Z"⟩, 4) := ⟨⟨by decide +kernel, by decide +kernel⟩, List.mem_of_getElem? (i := 217) (by decide +kernel), List.mem_of_getElem? (i := 771) (by decide +kernel), List.mem_of_getElem? (i := 772) (by decide +kernel)⟩
theorem lw_p59 : lw_okq (⟨"TenCoins$Stories", "change", "(III)I"⟩, 1) := ⟨⟨by decide +kernel, by decide +kernel⟩, List.mem_of_getElem? (i := 251) (by decide +kernel), List.mem_of_getElem? (i := 781) (by decide +kernel), List.mem_of_getElem? (i := 782) (by decide +kernel)⟩
theorem lw_p60 : lw_okq (⟨"TenCoins$Stories", "likely", "(ILTenCoins$Tally;)J"⟩, 1) := ⟨⟨by decide +kernel, by decide +kernel⟩, List.mem_of_getElem? (i := 251) (by decide +kernel), List.mem_of_getElem? (i := 789) (by decide +kernel), List.mem_of_getElem? (i := 790) (by decide +kernel)⟩
theorem lw_p61 : lw_okq (⟨"TenCoins$Rounds", "add", "(II)I"⟩, 6) := ⟨⟨by decide +kernel, by decide +kernel⟩, List.mem_of_getElem? (i := 261) (by decide +kernel), List.mem_of_getElem? (i := 800) (by decide +kernel), List.mem_of_getElem? (i := 801) (by decide +kernel)⟩
theorem lw_p62 : lw_okq (⟨"TenCoins$Rounds", "missesOf", "(II)I"⟩, 6) := ⟨⟨by decide +kernel, by decide +kernel⟩, List.mem_of_getElem? (i := 261) (by decide +kernel), List.mem_of_getElem? (i := 812) (by decide +kernel), List.mem_of_getElem? (i := 813) (by decide +kernel)⟩
theorem lw_p63 : lw_okq (⟨"TenCoins$Rounds", "got", "()I"⟩, 6) := ⟨⟨by decide +kernel, by decide +kernel⟩, List.mem_of_getElem? (i := 261) (by decide +kernel), List.mem_of_getElem? (i := 825) (by decide +kernel), List.mem_of_getElem? (i := 826) (by decide +kernel)⟩
def lw_privs_4 : List (MethodName × Nat) := [(⟨"TenCoins$Choices", "apart", "(II)I"⟩, 3), (⟨"TenCoins$Things", "add", "(IIII)I"⟩, 2), (⟨"TenCoins$Things", "has", "(I)Z"⟩, 2), (⟨"TenCoins", "learnMeans", "()V"⟩, 12), (⟨"TenCoins$Means", "clear", "()V"⟩, 4), (⟨"TenCoins$Means", "learn", "(ILTenCoins$Tally;)V"⟩, 4), (⟨"TenCoins$Things", "together", "(ILTenCoins$Means;)I"⟩, 2), (⟨"TenCoins$Means", "isKnown", "(I)Z"⟩, 4), (⟨"TenCoins$Means", "order", "(II)I"⟩, 4), (⟨"TenCoins$Things", "greatest", "(LTenCoins$Means;)I"⟩, 2), (⟨"TenCoins$Means", "reorder", "(I)Z"⟩, 4), (⟨"TenCoins$Stories", "change", "(III)I"⟩, 1), (⟨"TenCoins$Stories", "likely", "(ILTenCoins$Tally;)J"⟩, 1), (⟨"TenCoins$Rounds", "add", "(II)I"⟩, 6), (⟨"TenCoins$Rounds", "missesOf", "(II)I"⟩, 6), (⟨"TenCoins$Rounds", "got", "()I"⟩, 6)]
theorem lw_r4 : ∀ q ∈ lw_privs_4, lw_okq q := List.forall_mem_cons.mpr ⟨lw_p48, List.forall_mem_cons.mpr ⟨lw_p49, List.forall_mem_cons.mpr ⟨lw_p50, List.forall_mem_cons.mpr ⟨lw_p51, List.forall_mem_cons.mpr ⟨lw_p52, List.forall_mem_cons.mpr ⟨lw_p53, List.forall_mem_cons.mpr ⟨lw_p54, List.forall_mem_cons.mpr ⟨lw_p55, List.forall_mem_cons.mpr ⟨lw_p56, List.forall_mem_cons.mpr ⟨lw_p57, List.forall_mem_cons.mpr ⟨lw_p58, List.forall_mem_cons.mpr ⟨lw_p59, List.forall_mem_cons.mpr ⟨lw_p60, List.forall_mem_cons.mpr ⟨lw_p61, List.forall_mem_cons.mpr ⟨lw_p62, List.forall_mem_cons.mpr ⟨lw_p63, fun _ h => absurd h List.not_mem_nil⟩⟩⟩⟩⟩⟩⟩⟩⟩⟩⟩⟩⟩⟩⟩⟩
theorem lw_p64 : lw_okq (⟨"TenCoins$Rounds", "could", "()I"⟩, 6) := ⟨⟨by decide +kernel, by decide +kernel⟩, List.mem_of_getElem? (i := 261) (by decide +kernel), List.mem_of_getElem? (i := 829) (by decide +kernel), List.mem_of_getElem? (i := 830) (by decide +kernel)⟩
theorem lw_p65 : lw_okq (⟨"TenCoins$Rounds", "takenUpTo", "(I)I"⟩, 6) := ⟨⟨by decide +kernel, by decide +kernel⟩, List.mem_of_getElem? (i := 261) (by decide +kernel), List.mem_of_getElem? (i := 833) (by decide +kernel), List.mem_of_getElem? (i := 834) (by decide +kernel)⟩
theorem lw_p66 : lw_okq (⟨"TenCoins$Rounds", "learn", "()V"⟩, 6) := ⟨⟨by decide +kernel, by decide +kernel⟩, List.mem_of_getElem? (i := 261) (by decide +kernel), List.mem_of_getElem? (i := 837) (by decide +kernel), List.mem_of_getElem? (i := 838) (by decide +kernel)⟩
theorem lw_p67 : lw_okq (⟨"TenCoins$Sheets", "renew", "(III)V"⟩, 4) := ⟨⟨by decide +kernel, by decide +kernel⟩, List.mem_of_getElem? (i := 290) (by decide +kernel), List.mem_of_getElem? (i := 849) (by decide +kernel), List.mem_of_getElem? (i := 850) (by decide +kernel)⟩
theorem lw_p68 : lw_okq (⟨"TenCoins$Sheets", "drop", "(I)I"⟩, 4) := ⟨⟨by decide +kernel, by decide +kernel⟩, List.mem_of_getElem? (i := 290) (by decide +kernel), List.mem_of_getElem? (i := 863) (by decide +kernel), List.mem_of_getElem? (i := 864) (by decide +kernel)⟩
theorem lw_p69 : lw_okq (⟨"TenCoins$Sheets", "findingAt", "(III)I"⟩, 4) := ⟨⟨by decide +kernel, by decide +kernel⟩, List.mem_of_getElem? (i := 290) (by decide +kernel), List.mem_of_getElem? (i := 871) (by decide +kernel), List.mem_of_getElem? (i := 872) (by decide +kernel)⟩
theorem lw_p70 : lw_okq (⟨"TenCoins$Sheets", "keep", "(III)V"⟩, 4) := ⟨⟨by decide +kernel, by decide +kernel⟩, List.mem_of_getElem? (i := 290) (by decide +kernel), List.mem_of_getElem? (i := 876) (by decide +kernel), List.mem_of_getElem? (i := 877) (by decide +kernel)⟩
theorem lw_p71 : lw_okq (⟨"TenCoins$Sheets", "formOf", "(I)I"⟩, 4) := ⟨⟨by decide +kernel, by decide +kernel⟩, List.mem_of_getElem? (i := 290) (by decide +kernel), List.mem_of_getElem? (i := 892) (by decide +kernel), List.mem_of_getElem? (i := 893) (by decide +kernel)⟩
theorem lw_p72 : lw_okq (⟨"TenCoins$Sheets", "hasSpan", "(III)Z"⟩, 4) := ⟨⟨by decide +kernel, by decide +kernel⟩, List.mem_of_getElem? (i := 290) (by decide +kernel), List.mem_of_getElem? (i := 896) (by decide +kernel), List.mem_of_getElem? (i := 897) (by decide +kernel)⟩
theorem lw_p73 : lw_okq (⟨"TenCoins$Sheets", "move", "(IIIII)V"⟩, 4) := ⟨⟨by decide +kernel, by decide +kernel⟩, List.mem_of_getElem? (i := 290) (by decide +kernel), List.mem_of_getElem? (i := 900) (by decide +kernel), List.mem_of_getElem? (i := 901) (by decide +kernel)⟩
theorem lw_p74 : lw_okq (⟨"TenCoins$Pairs", "howManyCount", "()I"⟩, 9) := ⟨⟨by decide +kernel, by decide +kernel⟩, List.mem_of_getElem? (i := 27) (by decide +kernel), List.mem_of_getElem? (i := 917) (by decide +kernel), List.mem_of_getElem? (i := 918) (by decide +kernel)⟩
theorem lw_p75 : lw_okq (⟨"TenCoins", "mixPairs", "(J)J"⟩, 12) := ⟨⟨by decide +kernel, by decide +kernel⟩, List.mem_of_getElem? (i := 19) (by decide +kernel), List.mem_of_getElem? (i := 932) (by decide +kernel), List.mem_of_getElem? (i := 933) (by decide +kernel)⟩
theorem lw_p76 : lw_okq (⟨"TenCoins", "mixRowsAndBeliefs", "(J)J"⟩, 12) := ⟨⟨by decide +kernel, by decide +kernel⟩, List.mem_of_getElem? (i := 19) (by decide +kernel), List.mem_of_getElem? (i := 938) (by decide +kernel), List.mem_of_getElem? (i := 939) (by decide +kernel)⟩
theorem lw_p77 : lw_okq (⟨"TenCoins", "mixGame", "(J)J"⟩, 12) := ⟨⟨by decide +kernel, by decide +kernel⟩, List.mem_of_getElem? (i := 19) (by decide +kernel), List.mem_of_getElem? (i := 945) (by decide +kernel), List.mem_of_getElem? (i := 946) (by decide +kernel)⟩
theorem lw_p78 : lw_okq (⟨"TenCoinsModel", "pairMore", "(IIIII)I"⟩, 41) := ⟨⟨by decide +kernel, by decide +kernel⟩, List.mem_of_getElem? (i := 954) (by decide +kernel), List.mem_of_getElem? (i := 1089) (by decide +kernel), List.mem_of_getElem? (i := 1090) (by decide +kernel)⟩
theorem lw_p79 : lw_okq (⟨"TenCoinsModel", "meets", "(I)I"⟩, 41) := ⟨⟨by decide +kernel, by decide +kernel⟩, List.mem_of_getElem? (i := 954) (by decide +kernel), List.mem_of_getElem? (i := 1112) (by decide +kernel), List.mem_of_getElem? (i := 1113) (by decide +kernel)⟩
def lw_privs_5 : List (MethodName × Nat) := [(⟨"TenCoins$Rounds", "could", "()I"⟩, 6), (⟨"TenCoins$Rounds", "takenUpTo", "(I)I"⟩, 6), (⟨"TenCoins$Rounds", "learn", "()V"⟩, 6), (⟨"TenCoins$Sheets", "renew", "(III)V"⟩, 4), (⟨"TenCoins$Sheets", "drop", "(I)I"⟩, 4), (⟨"TenCoins$Sheets", "findingAt", "(III)I"⟩, 4), (⟨"TenCoins$Sheets", "keep", "(III)V"⟩, 4), (⟨"TenCoins$Sheets", "formOf", "(I)I"⟩, 4), (⟨"TenCoins$Sheets", "hasSpan", "(III)Z"⟩, 4), (⟨"TenCoins$Sheets", "move", "(IIIII)V"⟩, 4), (⟨"TenCoins$Pairs", "howManyCount", "()I"⟩, 9), (⟨"TenCoins", "mixPairs", "(J)J"⟩, 12), (⟨"TenCoins", "mixRowsAndBeliefs", "(J)J"⟩, 12), (⟨"TenCoins", "mixGame", "(J)J"⟩, 12), (⟨"TenCoinsModel", "pairMore", "(IIIII)I"⟩, 41), (⟨"TenCoinsModel", "meets", "(I)I"⟩, 41)]
theorem lw_r5 : ∀ q ∈ lw_privs_5, lw_okq q := List.forall_mem_cons.mpr ⟨lw_p64, List.forall_mem_cons.mpr ⟨lw_p65, List.forall_mem_cons.mpr ⟨lw_p66, List.forall_mem_cons.mpr ⟨lw_p67, List.forall_mem_cons.mpr ⟨lw_p68, List.forall_mem_cons.mpr ⟨lw_p69, List.forall_mem_cons.mpr ⟨lw_p70, List.forall_mem_cons.mpr ⟨lw_p71, List.forall_mem_cons.mpr ⟨lw_p72, List.forall_mem_cons.mpr ⟨lw_p73, List.forall_mem_cons.mpr ⟨lw_p74, List.forall_mem_cons.mpr ⟨lw_p75, List.forall_mem_cons.mpr ⟨lw_p76, List.forall_mem_cons.mpr ⟨lw_p77, List.forall_mem_cons.mpr ⟨lw_p78, List.forall_mem_cons.mpr ⟨lw_p79, fun _ h => absurd h List.not_mem_nil⟩⟩⟩⟩⟩⟩⟩⟩⟩⟩⟩⟩⟩⟩⟩⟩
theorem lw_p80 : lw_okq (⟨"TenCoinsModel", "manyNow", "(III)I"⟩, 41) := ⟨⟨by decide +kernel, by decide +kernel⟩, List.mem_of_getElem? (i := 954) (by decide +kernel), List.mem_of_getElem? (i := 1131) (by decide +kernel), List.mem_of_getElem? (i := 1132) (by decide +kernel)⟩
theorem lw_p81 : lw_okq (⟨"TenCoinsModel", "countOf", "(II)I"⟩, 41) := ⟨⟨by decide +kernel, by decide +kernel⟩, List.mem_of_getElem? (i := 954) (by decide +kernel), List.mem_of_getElem? (i := 1135) (by decide +kernel), List.mem_of_getElem? (i := 1136) (by decide +kernel)⟩
theorem lw_p82 : lw_okq (⟨"TenCoinsModel", "isOf", "(III)Z"⟩, 41) := ⟨⟨by decide +kernel, by decide +kernel⟩, List.mem_of_getElem? (i := 954) (by decide +kernel), List.mem_of_getElem? (i := 1139) (by decide +kernel), List.mem_of_getElem? (i := 1140) (by decide +kernel)⟩
theorem lw_p83 : lw_okq (⟨"TenCoinsModel", "counts", "(I)Z"⟩, 41) := ⟨⟨by decide +kernel, by decide +kernel⟩, List.mem_of_getElem? (i := 954) (by decide +kernel), List.mem_of_getElem? (i := 1143) (by decide +kernel), List.mem_of_getElem? (i := 1144) (by decide +kernel)⟩
theorem lw_p84 : lw_okq (⟨"TenCoinsModel", "noesOf", "(II)I"⟩, 41) := ⟨⟨by decide +kernel, by decide +kernel⟩, List.mem_of_getElem? (i := 954) (by decide +kernel), List.mem_of_getElem? (i := 1147) (by decide +kernel), List.mem_of_getElem? (i := 1148) (by decide +kernel)⟩
theorem lw_p85 : lw_okq (⟨"TenCoinsModel", "middleOf", "(II)I"⟩, 41) := ⟨⟨by decide +kernel, by decide +kernel⟩, List.mem_of_getElem? (i := 954) (by decide +kernel), List.mem_of_getElem? (i := 1151) (by decide +kernel), List.mem_of_getElem? (i := 1152) (by decide +kernel)⟩
theorem lw_p86 : lw_okq (⟨"TenCoinsModel", "meanNow", "(III)J"⟩, 41) := ⟨⟨by decide +kernel, by decide +kernel⟩, List.mem_of_getElem? (i := 954) (by decide +kernel), List.mem_of_getElem? (i := 1159) (by decide +kernel), List.mem_of_getElem? (i := 1160) (by decide +kernel)⟩
theorem lw_p87 : lw_okq (⟨"TenCoinsModel", "sumOf", "(II)I"⟩, 41) := ⟨⟨by decide +kernel, by decide +kernel⟩, List.mem_of_getElem? (i := 954) (by decide +kernel), List.mem_of_getElem? (i := 1167) (by decide +kernel), List.mem_of_getElem? (i := 1168) (by decide +kernel)⟩
theorem lw_p88 : lw_okq (⟨"TenCoinsModel", "lineNow", "(II)I"⟩, 41) := ⟨⟨by decide +kernel, by decide +kernel⟩, List.mem_of_getElem? (i := 954) (by decide +kernel), List.mem_of_getElem? (i := 1190) (by decide +kernel), List.mem_of_getElem? (i := 1191) (by decide +kernel)⟩
theorem lw_p89 : lw_okq (⟨"TenCoinsModel", "rowsOf", "(I)I"⟩, 41) := ⟨⟨by decide +kernel, by decide +kernel⟩, List.mem_of_getElem? (i := 954) (by decide +kernel), List.mem_of_getElem? (i := 1201) (by decide +kernel), List.mem_of_getElem? (i := 1202) (by decide +kernel)⟩
theorem lw_p90 : lw_okq (⟨"TenCoinsModel", "yesesOf", "(II)I"⟩, 41) := ⟨⟨by decide +kernel, by decide +kernel⟩, List.mem_of_getElem? (i := 954) (by decide +kernel), List.mem_of_getElem? (i := 1205) (by decide +kernel), List.mem_of_getElem? (i := 1206) (by decide +kernel)⟩
theorem lw_p91 : lw_okq (⟨"TenCoinsModel", "bestNow", "(I)I"⟩, 41) := ⟨⟨by decide +kernel, by decide +kernel⟩, List.mem_of_getElem? (i := 954) (by decide +kernel), List.mem_of_getElem? (i := 1213) (by decide +kernel), List.mem_of_getElem? (i := 1214) (by decide +kernel)⟩
theorem lw_p92 : lw_okq (⟨"TenCoinsModel", "isBelief", "(I)Z"⟩, 41) := ⟨⟨by decide +kernel, by decide +kernel⟩, List.mem_of_getElem? (i := 954) (by decide +kernel), List.mem_of_getElem? (i := 1225) (by decide +kernel), List.mem_of_getElem? (i := 1226) (by decide +kernel)⟩
theorem lw_p93 : lw_okq (⟨"TenCoinsModel", "hisNow", "(I)I"⟩, 41) := ⟨⟨by decide +kernel, by decide +kernel⟩, List.mem_of_getElem? (i := 954) (by decide +kernel), List.mem_of_getElem? (i := 1233) (by decide +kernel), List.mem_of_getElem? (i := 1234) (by decide +kernel)⟩
theorem lw_p94 : lw_okq (⟨"TenCoinsModel", "faultNow", "()I"⟩, 41) := ⟨⟨by decide +kernel, by decide +kernel⟩, List.mem_of_getElem? (i := 954) (by decide +kernel), List.mem_of_getElem? (i := 1257) (by decide +kernel), List.mem_of_getElem? (i := 1258) (by decide +kernel)⟩
theorem lw_p95 : lw_okq (⟨"TenCoinsModel", "byteAt", "(I)I"⟩, 41) := ⟨⟨by decide +kernel, by decide +kernel⟩, List.mem_of_getElem? (i := 954) (by decide +kernel), List.mem_of_getElem? (i := 1261) (by decide +kernel), List.mem_of_getElem? (i := 1262) (by decide +kernel)⟩
def lw_privs_6 : List (MethodName × Nat) := [(⟨"TenCoinsModel", "manyNow", "(III)I"⟩, 41), (⟨"TenCoinsModel", "countOf", "(II)I"⟩, 41), (⟨"TenCoinsModel", "isOf", "(III)Z"⟩, 41), (⟨"TenCoinsModel", "counts", "(I)Z"⟩, 41), (⟨"TenCoinsModel", "noesOf", "(II)I"⟩, 41), (⟨"TenCoinsModel", "middleOf", "(II)I"⟩, 41), (⟨"TenCoinsModel", "meanNow", "(III)J"⟩, 41), (⟨"TenCoinsModel", "sumOf", "(II)I"⟩, 41), (⟨"TenCoinsModel", "lineNow", "(II)I"⟩, 41), (⟨"TenCoinsModel", "rowsOf", "(I)I"⟩, 41), (⟨"TenCoinsModel", "yesesOf", "(II)I"⟩, 41), (⟨"TenCoinsModel", "bestNow", "(I)I"⟩, 41), (⟨"TenCoinsModel", "isBelief", "(I)Z"⟩, 41), (⟨"TenCoinsModel", "hisNow", "(I)I"⟩, 41), (⟨"TenCoinsModel", "faultNow", "()I"⟩, 41), (⟨"TenCoinsModel", "byteAt", "(I)I"⟩, 41)]
theorem lw_r6 : ∀ q ∈ lw_privs_6, lw_okq q := List.forall_mem_cons.mpr ⟨lw_p80, List.forall_mem_cons.mpr ⟨lw_p81, List.forall_mem_cons.mpr ⟨lw_p82, List.forall_mem_cons.mpr ⟨lw_p83, List.forall_mem_cons.mpr ⟨lw_p84, List.forall_mem_cons.mpr ⟨lw_p85, List.forall_mem_cons.mpr ⟨lw_p86, List.forall_mem_cons.mpr ⟨lw_p87, List.forall_mem_cons.mpr ⟨lw_p88, List.forall_mem_cons.mpr ⟨lw_p89, List.forall_mem_cons.mpr ⟨lw_p90, List.forall_mem_cons.mpr ⟨lw_p91, List.forall_mem_cons.mpr ⟨lw_p92, List.forall_mem_cons.mpr ⟨lw_p93, List.forall_mem_cons.mpr ⟨lw_p94, List.forall_mem_cons.mpr ⟨lw_p95, fun _ h => absurd h List.not_mem_nil⟩⟩⟩⟩⟩⟩⟩⟩⟩⟩⟩⟩⟩⟩⟩⟩
theorem lw_p96 : lw_okq (⟨"TenCoinsModel", "nodeMore", "(II)V"⟩, 41) := ⟨⟨by decide +kernel, by decide +kernel⟩, List.mem_of_getElem? (i := 954) (by decide +kernel), List.mem_of_getElem? (i := 1265) (by decide +kernel), List.mem_of_getElem? (i := 1266) (by decide +kernel)⟩
theorem lw_p97 : lw_okq (⟨"TenCoinsModel", "reckonNow", "(II)I"⟩, 41) := ⟨⟨by decide +kernel, by decide +kernel⟩, List.mem_of_getElem? (i := 954) (by decide +kernel), List.mem_of_getElem? (i := 1273) (by decide +kernel), List.mem_of_getElem? (i := 1274) (by decide +kernel)⟩
theorem lw_p98 : lw_okq (⟨"TenCoinsModel", "reckons", "(I)V"⟩, 41) := ⟨⟨by decide +kernel, by decide +kernel⟩, List.mem_of_getElem? (i := 954) (by decide +kernel), List.mem_of_getElem? (i := 1277) (by decide +kernel), List.mem_of_getElem? (i := 1278) (by decide +kernel)⟩
theorem lw_p99 : lw_okq (⟨"TenCoinsModel", "worth", "(III)I"⟩, 41) := ⟨⟨by decide +kernel, by decide +kernel⟩, List.mem_of_getElem? (i := 954) (by decide +kernel), List.mem_of_getElem? (i := 1281) (by decide +kernel), List.mem_of_getElem? (i := 1282) (by decide +kernel)⟩
theorem lw_p100 : lw_okq (⟨"TenCoinsModel", "wayOf", "()I"⟩, 41) := ⟨⟨by decide +kernel, by decide +kernel⟩, List.mem_of_getElem? (i := 954) (by decide +kernel), List.mem_of_getElem? (i := 1285) (by decide +kernel), List.mem_of_getElem? (i := 1286) (by decide +kernel)⟩
theorem lw_p101 : lw_okq (⟨"TenCoinsModel", "lettersOf", "(Z)I"⟩, 41) := ⟨⟨by decide +kernel, by decide +kernel⟩, List.mem_of_getElem? (i := 954) (by decide +kernel), List.mem_of_getElem? (i := 1289) (by decide +kernel), List.mem_of_getElem? (i := 1290) (by decide +kernel)⟩
theorem lw_p102 : lw_okq (⟨"TenCoinsModel", "temperNow", "()I"⟩, 41) := ⟨⟨by decide +kernel, by decide +kernel⟩, List.mem_of_getElem? (i := 954) (by decide +kernel), List.mem_of_getElem? (i := 1301) (by decide +kernel), List.mem_of_getElem? (i := 1302) (by decide +kernel)⟩
theorem lw_p103 : lw_okq (⟨"TenCoinsModel", "goesNow", "(I)I"⟩, 41) := ⟨⟨by decide +kernel, by decide +kernel⟩, List.mem_of_getElem? (i := 954) (by decide +kernel), List.mem_of_getElem? (i := 1321) (by decide +kernel), List.mem_of_getElem? (i := 1322) (by decide +kernel)⟩
theorem lw_p104 : lw_okq (⟨"TenCoinsModel", "gathers", "()V"⟩, 41) := ⟨⟨by decide +kernel, by decide +kernel⟩, List.mem_of_getElem? (i := 954) (by decide +kernel), List.mem_of_getElem? (i := 1325) (by decide +kernel), List.mem_of_getElem? (i := 1326) (by decide +kernel)⟩
theorem lw_p105 : lw_okq (⟨"TenCoinsModel", "goesBy", "(I)I"⟩, 41) := ⟨⟨by decide +kernel, by decide +kernel⟩, List.mem_of_getElem? (i := 954) (by decide +kernel), List.mem_of_getElem? (i := 1329) (by decide +kernel), List.mem_of_getElem? (i := 1330) (by decide +kernel)⟩
theorem lw_p106 : lw_okq (⟨"TenCoinsModel", "lookedNow", "()I"⟩, 41) := ⟨⟨by decide +kernel, by decide +kernel⟩, List.mem_of_getElem? (i := 954) (by decide +kernel), List.mem_of_getElem? (i := 1340) (by decide +kernel), List.mem_of_getElem? (i := 1341) (by decide +kernel)⟩
theorem lw_p107 : lw_okq (⟨"TenCoinsModel", "greatest", "()I"⟩, 41) := ⟨⟨by decide +kernel, by decide +kernel⟩, List.mem_of_getElem? (i := 954) (by decide +kernel), List.mem_of_getElem? (i := 1344) (by decide +kernel), List.mem_of_getElem? (i := 1345) (by decide +kernel)⟩
theorem lw_p108 : lw_okq (⟨"TenCoinsModel", "partOf", "(II)J"⟩, 41) := ⟨⟨by decide +kernel, by decide +kernel⟩, List.mem_of_getElem? (i := 954) (by decide +kernel), List.mem_of_getElem? (i := 1356) (by decide +kernel), List.mem_of_getElem? (i := 1357) (by decide +kernel)⟩
theorem lw_p109 : lw_okq (⟨"TenCoinsModel", "missesOf", "(II)I"⟩, 41) := ⟨⟨by decide +kernel, by decide +kernel⟩, List.mem_of_getElem? (i := 954) (by decide +kernel), List.mem_of_getElem? (i := 1375) (by decide +kernel), List.mem_of_getElem? (i := 1376) (by decide +kernel)⟩
theorem lw_p110 : lw_okq (⟨"TenCoinsModel", "learntNow", "(I)I"⟩, 41) := ⟨⟨by decide +kernel, by decide +kernel⟩, List.mem_of_getElem? (i := 954) (by decide +kernel), List.mem_of_getElem? (i := 1383) (by decide +kernel), List.mem_of_getElem? (i := 1384) (by decide +kernel)⟩
theorem lw_p111 : lw_okq (⟨"TenCoinsModel", "gotNow", "()I"⟩, 41) := ⟨⟨by decide +kernel, by decide +kernel⟩, List.mem_of_getElem? (i := 954) (by decide +kernel), List.mem_of_getElem? (i := 1387) (by decide +kernel), List.mem_of_getElem? (i := 1388) (by decide +kernel)⟩
def lw_privs_7 : List (MethodName × Nat) := [(⟨"TenCoinsModel", "nodeMore", "(II)V"⟩, 41), (⟨"TenCoinsModel", "reckonNow", "(II)I"⟩, 41), (⟨"TenCoinsModel", "reckons", "(I)V"⟩, 41), (⟨"TenCoinsModel", "worth", "(III)I"⟩, 41), (⟨"TenCoinsModel", "wayOf", "()I"⟩, 41), (⟨"TenCoinsModel", "lettersOf", "(Z)I"⟩, 41), (⟨"TenCoinsModel", "temperNow", "()I"⟩, 41), (⟨"TenCoinsModel", "goesNow", "(I)I"⟩, 41), (⟨"TenCoinsModel", "gathers", "()V"⟩, 41), (⟨"TenCoinsModel", "goesBy", "(I)I"⟩, 41), (⟨"TenCoinsModel", "lookedNow", "()I"⟩, 41), (⟨"TenCoinsModel", "greatest", "()I"⟩, 41), (⟨"TenCoinsModel", "partOf", "(II)J"⟩, 41), (⟨"TenCoinsModel", "missesOf", "(II)I"⟩, 41), (⟨"TenCoinsModel", "learntNow", "(I)I"⟩, 41), (⟨"TenCoinsModel", "gotNow", "()I"⟩, 41)]
theorem lw_r7 : ∀ q ∈ lw_privs_7, lw_okq q := List.forall_mem_cons.mpr ⟨lw_p96, List.forall_mem_cons.mpr ⟨lw_p97, List.forall_mem_cons.mpr ⟨lw_p98, List.forall_mem_cons.mpr ⟨lw_p99, List.forall_mem_cons.mpr ⟨lw_p100, List.forall_mem_cons.mpr ⟨lw_p101, List.forall_mem_cons.mpr ⟨lw_p102, List.forall_mem_cons.mpr ⟨lw_p103, List.forall_mem_cons.mpr ⟨lw_p104, List.forall_mem_cons.mpr ⟨lw_p105, List.forall_mem_cons.mpr ⟨lw_p106, List.forall_mem_cons.mpr ⟨lw_p107, List.forall_mem_cons.mpr ⟨lw_p108, List.forall_mem_cons.mpr ⟨lw_p109, List.forall_mem_cons.mpr ⟨lw_p110, List.forall_mem_cons.mpr ⟨lw_p111, fun _ h => absurd h List.not_mem_nil⟩⟩⟩⟩⟩⟩⟩⟩⟩⟩⟩⟩⟩⟩⟩⟩
theorem lw_p112 : lw_okq (⟨"TenCoinsModel", "couldNow", "()I"⟩, 41) := ⟨⟨by decide +kernel, by decide +kernel⟩, List.mem_of_getElem? (i := 954) (by decide +kernel), List.mem_of_getElem? (i := 1391) (by decide +kernel), List.mem_of_getElem? (i := 1392) (by decide +kernel)⟩
theorem lw_p113 : lw_okq (⟨"TenCoinsModel", "lacks", "(III)I"⟩, 41) := ⟨⟨by decide +kernel, by decide +kernel⟩, List.mem_of_getElem? (i := 954) (by decide +kernel), List.mem_of_getElem? (i := 1407) (by decide +kernel), List.mem_of_getElem? (i := 1408) (by decide +kernel)⟩
theorem lw_p114 : lw_okq (⟨"TenCoinsModel", "keep", "(III)V"⟩, 41) := ⟨⟨by decide +kernel, by decide +kernel⟩, List.mem_of_getElem? (i := 954) (by decide +kernel), List.mem_of_getElem? (i := 1411) (by decide +kernel), List.mem_of_getElem? (i := 1412) (by decide +kernel)⟩
theorem lw_p115 : lw_okq (⟨"TenCoinsModel", "knownMany", "()I"⟩, 41) := ⟨⟨by decide +kernel, by decide +kernel⟩, List.mem_of_getElem? (i := 954) (by decide +kernel), List.mem_of_getElem? (i := 1432) (by decide +kernel), List.mem_of_getElem? (i := 1433) (by decide +kernel)⟩
def lw_privs_8 : List (MethodName × Nat) := [(⟨"TenCoinsModel", "couldNow", "()I"⟩, 41), (⟨"TenCoinsModel", "lacks", "(III)I"⟩, 41), (⟨"TenCoinsModel", "keep", "(III)V"⟩, 41), (⟨"TenCoinsModel", "knownMany", "()I"⟩, 41)]
theorem lw_r8 : ∀ q ∈ lw_privs_8, lw_okq q := List.forall_mem_cons.mpr ⟨lw_p112, List.forall_mem_cons.mpr ⟨lw_p113, List.forall_mem_cons.mpr ⟨lw_p114, List.forall_mem_cons.mpr ⟨lw_p115, fun _ h => absurd h List.not_mem_nil⟩⟩⟩⟩
def lw_privs : List (MethodName × Nat) := lw_privs_1 ++ (lw_privs_2 ++ (lw_privs_3 ++ (lw_privs_4 ++ (lw_privs_5 ++ (lw_privs_6 ++ (lw_privs_7 ++ (lw_privs_8)))))))
def lw_tbl : List Cond := k2_sels lw_privs ++ tables_1
theorem lw_privs_ok : ∀ q ∈ lw_privs, lw_okq q := by
  show ∀ q ∈ lw_privs_1 ++ (lw_privs_2 ++ (lw_privs_3 ++ (lw_privs_4 ++ (lw_privs_5 ++ (lw_privs_6 ++ (lw_privs_7 ++ (lw_privs_8))))))), lw_okq q
  exact List.forall_mem_append.mpr ⟨lw_r1, List.forall_mem_append.mpr ⟨lw_r2, List.forall_mem_append.mpr ⟨lw_r3, List.forall_mem_append.mpr ⟨lw_r4, List.forall_mem_append.mpr ⟨lw_r5, List.forall_mem_append.mpr ⟨lw_r6, List.forall_mem_append.mpr ⟨lw_r7, lw_r8⟩⟩⟩⟩⟩⟩⟩
end
section
def RX0 : String := "TenCoins$Beliefs"
def TX0 : u_T := fun k => match k with
  | 0 => ("TenCoins$Beliefs", "peopleOf", "[I", true)
  | 1 => ("TenCoins$Beliefs", "says", "[I", true)
  | 2 => ("TenCoins$Beliefs", "brings", "[I", true)
  | _ => ("TenCoins$Beliefs", "size", "I", false)
def tyX0 : Nat → FieldType := fun k => match k with
  | 0 => .array .int
  | 1 => .array .int
  | 2 => .array .int
  | _ => .int
abbrev wsX00 : List Cond := u_ws RX0 TX0 4
theorem nmX0 : ∀ a, a < 4 → ∀ b, b < 4 → a ≠ b → (TX0 a).2.1 ≠ (TX0 b).2.1 := by decide +kernel
theorem tyX0_ok : ∀ k, k < 4 → parseFieldDescriptor (TX0 k).2.2.1 = some (tyX0 k) := by decide +kernel
abbrev cX0_init : ByteArray := prog_2_method_1_code
def yX0_init : MethodName := ⟨RX0, "<init>", "()V"⟩
abbrev cX0_has : ByteArray := prog_2_method_2_code
def yX0_has : MethodName := ⟨RX0, "has", "(I)Z"⟩
abbrev cX0_add : ByteArray := prog_2_method_3_code
def yX0_add : MethodName := ⟨RX0, "add", "(I)I"⟩
abbrev cX0_said : ByteArray := prog_2_method_4_code
def yX0_said : MethodName := ⟨RX0, "said", "(II)I"⟩
abbrev cX0_change : ByteArray := prog_2_method_5_code
def yX0_change : MethodName := ⟨RX0, "change", "(III)I"⟩
abbrev cX0_bestOffer : ByteArray := prog_2_method_6_code
def yX0_bestOffer : MethodName := ⟨RX0, "bestOffer", "(I)I"⟩
def RX1 : String := "TenCoins$Choices"
def TX1 : u_T := fun k => match k with
  | 0 => ("TenCoins$Choices", "ways", "[I", true)
  | 1 => ("TenCoins$Choices", "pooled", "I", false)
  | _ => ("TenCoins$Choices", "total", "I", false)
def tyX1 : Nat → FieldType := fun k => match k with
  | 0 => .array .int
  | 1 => .int
  | _ => .int
abbrev wsX10 : List Cond := u_ws RX1 TX1 3
theorem nmX1 : ∀ a, a < 3 → ∀ b, b < 3 → a ≠ b → (TX1 a).2.1 ≠ (TX1 b).2.1 := by decide +kernel
theorem tyX1_ok : ∀ k, k < 3 → parseFieldDescriptor (TX1 k).2.2.1 = some (tyX1 k) := by decide +kernel
abbrev cX1_init : ByteArray := prog_3_method_1_code
def yX1_init : MethodName := ⟨RX1, "<init>", "()V"⟩
abbrev cX1_clear : ByteArray := prog_3_method_2_code
def yX1_clear : MethodName := ⟨RX1, "clear", "()V"⟩
abbrev cX1_pool : ByteArray := prog_3_method_3_code
def yX1_pool : MethodName := ⟨RX1, "pool", "(LTenCoins$Tally;)V"⟩
abbrev cX1_poolOne : ByteArray := prog_3_method_4_code
def yX1_poolOne : MethodName := ⟨RX1, "poolOne", "(I)V"⟩
abbrev cX1_asFarApart : ByteArray := prog_3_method_5_code
def yX1_asFarApart : MethodName := ⟨RX1, "asFarApart", "(LTenCoins$Tally;)I"⟩
abbrev cX1_apart : ByteArray := prog_3_method_6_code
def yX1_apart : MethodName := ⟨RX1, "apart", "(II)I"⟩
def RX2 : String := "TenCoins$Game"
def TX2 : u_T := fun k => match k with
  | 0 => ("TenCoins$Game", "owner", "[I", true)
  | 1 => ("TenCoins$Game", "within", "[I", true)
  | 2 => ("TenCoins$Game", "place", "[I", true)
  | 3 => ("TenCoins$Game", "kids", "[I", true)
  | 4 => ("TenCoins$Game", "figures", "[I", true)
  | 5 => ("TenCoins$Game", "pick", "[I", true)
  | 6 => ("TenCoins$Game", "end", "[I", true)
  | 7 => ("TenCoins$Game", "length", "I", false)
  | 8 => ("TenCoins$Game", "broken", "I", false)
  | 9 => ("TenCoins$Game", "awaits", "I", false)
  | 10 => ("TenCoins$Game", "open", "I", false)
  | 11 => ("TenCoins$Game", "nodes", "I", false)
  | _ => ("TenCoins$Game", "ends", "I", false)
def tyX2 : Nat → FieldType := fun k => match k with
  | 0 => .array .int
  | 1 => .array .int
  | 2 => .array .int
  | 3 => .array .int
  | 4 => .array .int
  | 5 => .array .int
  | 6 => .array .int
  | 7 => .int
  | 8 => .int
  | 9 => .int
  | 10 => .int
  | 11 => .int
  | _ => .int
abbrev wsX20 : List Cond := u_ws RX2 TX2 13
theorem nmX2 : ∀ a, a < 13 → ∀ b, b < 13 → a ≠ b → (TX2 a).2.1 ≠ (TX2 b).2.1 := by decide +kernel
theorem tyX2_ok : ∀ k, k < 13 → parseFieldDescriptor (TX2 k).2.2.1 = some (tyX2 k) := by decide +kernel
abbrev cX2_init : ByteArray := prog_4_method_1_code
def yX2_init : MethodName := ⟨RX2, "<init>", "()V"⟩
abbrev cX2_add : ByteArray := prog_4_method_2_code
def yX2_add : MethodName := ⟨RX2, "add", "(I)I"⟩
abbrev cX2_clear : ByteArray := prog_4_method_3_code
def yX2_clear : MethodName := ⟨RX2, "clear", "()I"⟩
abbrev cX2_faultPlace : ByteArray := prog_4_method_4_code
def yX2_faultPlace : MethodName := ⟨RX2, "faultPlace", "()I"⟩
abbrev cX2_goesOn : ByteArray := prog_4_method_5_code
def yX2_goesOn : MethodName := ⟨RX2, "goesOn", "(I)Z"⟩
abbrev cX2_beginsNode : ByteArray := prog_4_method_6_code
def yX2_beginsNode : MethodName := ⟨RX2, "beginsNode", "(I)Z"⟩
abbrev cX2_startNode : ByteArray := prog_4_method_7_code
def yX2_startNode : MethodName := ⟨RX2, "startNode", "(I)V"⟩
abbrev cX2_opens : ByteArray := prog_4_method_8_code
def yX2_opens : MethodName := ⟨RX2, "opens", "(I)Z"⟩
abbrev cX2_isNextFigure : ByteArray := prog_4_method_9_code
def yX2_isNextFigure : MethodName := ⟨RX2, "isNextFigure", "(III)Z"⟩
abbrev cX2_followsNode : ByteArray := prog_4_method_10_code
def yX2_followsNode : MethodName := ⟨RX2, "followsNode", "(I)Z"⟩
abbrev cX2_isFigure : ByteArray := prog_4_method_11_code
def yX2_isFigure : MethodName := ⟨RX2, "isFigure", "(I)Z"⟩
abbrev cX2_playerOf : ByteArray := prog_4_method_12_code
def yX2_playerOf : MethodName := ⟨RX2, "playerOf", "(I)I"⟩
abbrev cX2_solve : ByteArray := prog_4_method_13_code
def yX2_solve : MethodName := ⟨RX2, "solve", "(I)V"⟩
abbrev cX2_isNoWorse : ByteArray := prog_4_method_14_code
def yX2_isNoWorse : MethodName := ⟨RX2, "isNoWorse", "(IIII)Z"⟩
abbrev cX2_worth : ByteArray := prog_4_method_15_code
def yX2_worth : MethodName := ⟨RX2, "worth", "(III)I"⟩
abbrev cX2_gets : ByteArray := prog_4_method_16_code
def yX2_gets : MethodName := ⟨RX2, "gets", "(I)I"⟩
abbrev cX2_wayLength : ByteArray := prog_4_method_17_code
def yX2_wayLength : MethodName := ⟨RX2, "wayLength", "()I"⟩
abbrev cX2_choiceAt : ByteArray := prog_4_method_18_code
def yX2_choiceAt : MethodName := ⟨RX2, "choiceAt", "(I)I"⟩
abbrev cX2_leastAngerThatMatters : ByteArray := prog_4_method_19_code
def yX2_leastAngerThatMatters : MethodName := ⟨RX2, "leastAngerThatMatters", "()I"⟩
def RX3 : String := "TenCoins$Means"
def TX3 : u_T := fun k => match k with
  | 0 => ("TenCoins$Means", "sum", "[I", true)
  | 1 => ("TenCoins$Means", "many", "[I", true)
  | 2 => ("TenCoins$Means", "from", "[I", true)
  | _ => ("TenCoins$Means", "known", "I", false)
def tyX3 : Nat → FieldType := fun k => match k with
  | 0 => .array .int
  | 1 => .array .int
  | 2 => .array .int
  | _ => .int
abbrev wsX30 : List Cond := u_ws RX3 TX3 4
theorem nmX3 : ∀ a, a < 4 → ∀ b, b < 4 → a ≠ b → (TX3 a).2.1 ≠ (TX3 b).2.1 := by decide +kernel
theorem tyX3_ok : ∀ k, k < 4 → parseFieldDescriptor (TX3 k).2.2.1 = some (tyX3 k) := by decide +kernel
abbrev cX3_init : ByteArray := prog_5_method_1_code
def yX3_init : MethodName := ⟨RX3, "<init>", "()V"⟩
abbrev cX3_clear : ByteArray := prog_5_method_2_code
def yX3_clear : MethodName := ⟨RX3, "clear", "()V"⟩
abbrev cX3_learn : ByteArray := prog_5_method_3_code
def yX3_learn : MethodName := ⟨RX3, "learn", "(ILTenCoins$Tally;)V"⟩
abbrev cX3_isKnown : ByteArray := prog_5_method_4_code
def yX3_isKnown : MethodName := ⟨RX3, "isKnown", "(I)Z"⟩
abbrev cX3_reorder : ByteArray := prog_5_method_5_code
def yX3_reorder : MethodName := ⟨RX3, "reorder", "(I)Z"⟩
abbrev cX3_order : ByteArray := prog_5_method_6_code
def yX3_order : MethodName := ⟨RX3, "order", "(II)I"⟩
def RX4 : String := "TenCoins$Pairs"
def TX4 : u_T := fun k => match k with
  | 0 => ("TenCoins$Pairs", "people", "[I", true)
  | 1 => ("TenCoins$Pairs", "kind", "[I", true)
  | 2 => ("TenCoins$Pairs", "offer", "[I", true)
  | 3 => ("TenCoins$Pairs", "answer", "[I", true)
  | 4 => ("TenCoins$Pairs", "toldAt", "[I", true)
  | 5 => ("TenCoins$Pairs", "backAt", "[I", true)
  | 6 => ("TenCoins$Pairs", "size", "I", false)
  | 7 => ("TenCoins$Pairs", "lastTime", "I", false)
  | _ => ("TenCoins$Pairs", "asOfTime", "I", false)
def tyX4 : Nat → FieldType := fun k => match k with
  | 0 => .array .int
  | 1 => .array .int
  | 2 => .array .int
  | 3 => .array .int
  | 4 => .array .int
  | 5 => .array .int
  | 6 => .int
  | 7 => .int
  | _ => .int
abbrev wsX40 : List Cond := u_ws RX4 TX4 9
theorem nmX4 : ∀ a, a < 9 → ∀ b, b < 9 → a ≠ b → (TX4 a).2.1 ≠ (TX4 b).2.1 := by decide +kernel
theorem tyX4_ok : ∀ k, k < 9 → parseFieldDescriptor (TX4 k).2.2.1 = some (tyX4 k) := by decide +kernel
abbrev cX4_init : ByteArray := prog_6_method_1_code
def yX4_init : MethodName := ⟨RX4, "<init>", "()V"⟩
abbrev cX4_mayBeTold : ByteArray := prog_6_method_2_code
def yX4_mayBeTold : MethodName := ⟨RX4, "mayBeTold", "(I)Z"⟩
abbrev cX4_has : ByteArray := prog_6_method_3_code
def yX4_has : MethodName := ⟨RX4, "has", "(I)Z"⟩
abbrev cX4_add : ByteArray := prog_6_method_4_code
def yX4_add : MethodName := ⟨RX4, "add", "(IIIII)I"⟩
abbrev cX4_withdraw : ByteArray := prog_6_method_5_code
def yX4_withdraw : MethodName := ⟨RX4, "withdraw", "(II)I"⟩
abbrev cX4_counts : ByteArray := prog_6_method_6_code
def yX4_counts : MethodName := ⟨RX4, "counts", "(I)Z"⟩
abbrev cX4_isOf : ByteArray := prog_6_method_7_code
def yX4_isOf : MethodName := ⟨RX4, "isOf", "(III)Z"⟩
abbrev cX4_howManyCount : ByteArray := prog_6_method_8_code
def yX4_howManyCount : MethodName := ⟨RX4, "howManyCount", "()I"⟩
abbrev cX4_tally : ByteArray := prog_6_method_9_code
def yX4_tally : MethodName := ⟨RX4, "tally", "(IILTenCoins$Tally;)V"⟩
def RX5 : String := "TenCoins$Rounds"
def TX5 : u_T := fun k => match k with
  | 0 => ("TenCoins$Rounds", "offers", "[I", true)
  | 1 => ("TenCoins$Rounds", "answers", "[I", true)
  | 2 => ("TenCoins$Rounds", "size", "I", false)
  | 3 => ("TenCoins$Rounds", "lawUp", "I", false)
  | 4 => ("TenCoins$Rounds", "lawDown", "I", false)
  | _ => ("TenCoins$Rounds", "fewest", "I", false)
def tyX5 : Nat → FieldType := fun k => match k with
  | 0 => .array .int
  | 1 => .array .int
  | 2 => .int
  | 3 => .int
  | 4 => .int
  | _ => .int
abbrev wsX50 : List Cond := u_ws RX5 TX5 6
theorem nmX5 : ∀ a, a < 6 → ∀ b, b < 6 → a ≠ b → (TX5 a).2.1 ≠ (TX5 b).2.1 := by decide +kernel
theorem tyX5_ok : ∀ k, k < 6 → parseFieldDescriptor (TX5 k).2.2.1 = some (tyX5 k) := by decide +kernel
abbrev cX5_init : ByteArray := prog_7_method_1_code
def yX5_init : MethodName := ⟨RX5, "<init>", "()V"⟩
abbrev cX5_add : ByteArray := prog_7_method_2_code
def yX5_add : MethodName := ⟨RX5, "add", "(II)I"⟩
abbrev cX5_missesOf : ByteArray := prog_7_method_3_code
def yX5_missesOf : MethodName := ⟨RX5, "missesOf", "(II)I"⟩
abbrev cX5_learn : ByteArray := prog_7_method_4_code
def yX5_learn : MethodName := ⟨RX5, "learn", "()V"⟩
abbrev cX5_got : ByteArray := prog_7_method_5_code
def yX5_got : MethodName := ⟨RX5, "got", "()I"⟩
abbrev cX5_could : ByteArray := prog_7_method_6_code
def yX5_could : MethodName := ⟨RX5, "could", "()I"⟩
abbrev cX5_takenUpTo : ByteArray := prog_7_method_7_code
def yX5_takenUpTo : MethodName := ⟨RX5, "takenUpTo", "(I)I"⟩
def RX6 : String := "TenCoins$Rows"
def TX6 : u_T := fun k => match k with
  | 0 => ("TenCoins$Rows", "people", "[I", true)
  | 1 => ("TenCoins$Rows", "bits", "[I", true)
  | 2 => ("TenCoins$Rows", "brings", "[I", true)
  | 3 => ("TenCoins$Rows", "size", "I", false)
  | 4 => ("TenCoins$Rows", "mended", "I", false)
  | 5 => ("TenCoins$Rows", "least", "I", false)
  | _ => ("TenCoins$Rows", "greatest", "I", false)
def tyX6 : Nat → FieldType := fun k => match k with
  | 0 => .array .int
  | 1 => .array .int
  | 2 => .array .int
  | 3 => .int
  | 4 => .int
  | 5 => .int
  | _ => .int
abbrev wsX60 : List Cond := u_ws RX6 TX6 7
theorem nmX6 : ∀ a, a < 7 → ∀ b, b < 7 → a ≠ b → (TX6 a).2.1 ≠ (TX6 b).2.1 := by decide +kernel
theorem tyX6_ok : ∀ k, k < 7 → parseFieldDescriptor (TX6 k).2.2.1 = some (tyX6 k) := by decide +kernel
abbrev cX6_init : ByteArray := prog_8_method_1_code
def yX6_init : MethodName := ⟨RX6, "<init>", "()V"⟩
abbrev cX6_has : ByteArray := prog_8_method_2_code
def yX6_has : MethodName := ⟨RX6, "has", "(I)Z"⟩
abbrev cX6_add : ByteArray := prog_8_method_3_code
def yX6_add : MethodName := ⟨RX6, "add", "(II)I"⟩
abbrev cX6_mend : ByteArray := prog_8_method_4_code
def yX6_mend : MethodName := ⟨RX6, "mend", "(I)V"⟩
abbrev cX6_isOf : ByteArray := prog_8_method_5_code
def yX6_isOf : MethodName := ⟨RX6, "isOf", "(II)Z"⟩
abbrev cX6_howMany : ByteArray := prog_8_method_6_code
def yX6_howMany : MethodName := ⟨RX6, "howMany", "(I)I"⟩
abbrev cX6_yeses : ByteArray := prog_8_method_7_code
def yX6_yeses : MethodName := ⟨RX6, "yeses", "(II)I"⟩
abbrev cX6_bring : ByteArray := prog_8_method_8_code
def yX6_bring : MethodName := ⟨RX6, "bring", "(II)I"⟩
abbrev cX6_bestOffer : ByteArray := prog_8_method_9_code
def yX6_bestOffer : MethodName := ⟨RX6, "bestOffer", "(I)I"⟩
def RX7 : String := "TenCoins$Sheets"
def TX7 : u_T := fun k => match k with
  | 0 => ("TenCoins$Sheets", "forms", "[I", true)
  | 1 => ("TenCoins$Sheets", "sizes", "[I", true)
  | 2 => ("TenCoins$Sheets", "items", "[I", true)
  | _ => ("TenCoins$Sheets", "latestFinding", "I", false)
def tyX7 : Nat → FieldType := fun k => match k with
  | 0 => .array .int
  | 1 => .array .int
  | 2 => .array .int
  | _ => .int
abbrev wsX70 : List Cond := u_ws RX7 TX7 4
theorem nmX7 : ∀ a, a < 4 → ∀ b, b < 4 → a ≠ b → (TX7 a).2.1 ≠ (TX7 b).2.1 := by decide +kernel
theorem tyX7_ok : ∀ k, k < 4 → parseFieldDescriptor (TX7 k).2.2.1 = some (tyX7 k) := by decide +kernel
abbrev cX7_init : ByteArray := prog_9_method_1_code
def yX7_init : MethodName := ⟨RX7, "<init>", "()V"⟩
abbrev cX7_found : ByteArray := prog_9_method_2_code
def yX7_found : MethodName := ⟨RX7, "found", "(I)I"⟩
abbrev cX7_isLost : ByteArray := prog_9_method_3_code
def yX7_isLost : MethodName := ⟨RX7, "isLost", "(I)Z"⟩
abbrev cX7_formOf : ByteArray := prog_9_method_4_code
def yX7_formOf : MethodName := ⟨RX7, "formOf", "(I)I"⟩
abbrev cX7_sizeOf : ByteArray := prog_9_method_5_code
def yX7_sizeOf : MethodName := ⟨RX7, "sizeOf", "(I)I"⟩
abbrev cX7_renew : ByteArray := prog_9_method_6_code
def yX7_renew : MethodName := ⟨RX7, "renew", "(III)V"⟩
abbrev cX7_drop : ByteArray := prog_9_method_7_code
def yX7_drop : MethodName := ⟨RX7, "drop", "(I)I"⟩
abbrev cX7_findingAt : ByteArray := prog_9_method_8_code
def yX7_findingAt : MethodName := ⟨RX7, "findingAt", "(III)I"⟩
abbrev cX7_item : ByteArray := prog_9_method_9_code
def yX7_item : MethodName := ⟨RX7, "item", "(II)I"⟩
abbrev cX7_keep : ByteArray := prog_9_method_10_code
def yX7_keep : MethodName := ⟨RX7, "keep", "(III)V"⟩
abbrev cX7_narrowed : ByteArray := prog_9_method_11_code
def yX7_narrowed : MethodName := ⟨RX7, "narrowed", "(II)I"⟩
abbrev cX7_hasSpan : ByteArray := prog_9_method_12_code
def yX7_hasSpan : MethodName := ⟨RX7, "hasSpan", "(III)Z"⟩
abbrev cX7_move : ByteArray := prog_9_method_13_code
def yX7_move : MethodName := ⟨RX7, "move", "(IIIII)V"⟩
def RX8 : String := "TenCoins$Stories"
def TX8 : u_T := fun k => match k with
  | _ => ("TenCoins$Stories", "noes", "[I", true)
def tyX8 : Nat → FieldType := fun k => match k with
  | _ => .array .int
abbrev wsX80 : List Cond := u_ws RX8 TX8 1
theorem nmX8 : ∀ a, a < 1 → ∀ b, b < 1 → a ≠ b → (TX8 a).2.1 ≠ (TX8 b).2.1 := by decide +kernel
theorem tyX8_ok : ∀ k, k < 1 → parseFieldDescriptor (TX8 k).2.2.1 = some (tyX8 k) := by decide +kernel
abbrev cX8_init : ByteArray := prog_10_method_1_code
def yX8_init : MethodName := ⟨RX8, "<init>", "()V"⟩
abbrev cX8_change : ByteArray := prog_10_method_2_code
def yX8_change : MethodName := ⟨RX8, "change", "(III)I"⟩
abbrev cX8_spanOf : ByteArray := prog_10_method_3_code
def yX8_spanOf : MethodName := ⟨RX8, "spanOf", "(I)I"⟩
abbrev cX8_likely : ByteArray := prog_10_method_4_code
def yX8_likely : MethodName := ⟨RX8, "likely", "(ILTenCoins$Tally;)J"⟩
def RX9 : String := "TenCoins$Tally"
def TX9 : u_T := fun k => match k with
  | 0 => ("TenCoins$Tally", "offered", "[I", true)
  | 1 => ("TenCoins$Tally", "refused", "[I", true)
  | 2 => ("TenCoins$Tally", "many", "I", false)
  | 3 => ("TenCoins$Tally", "noes", "I", false)
  | _ => ("TenCoins$Tally", "sum", "I", false)
def tyX9 : Nat → FieldType := fun k => match k with
  | 0 => .array .int
  | 1 => .array .int
  | 2 => .int
  | 3 => .int
  | _ => .int
abbrev wsX90 : List Cond := u_ws RX9 TX9 5
theorem nmX9 : ∀ a, a < 5 → ∀ b, b < 5 → a ≠ b → (TX9 a).2.1 ≠ (TX9 b).2.1 := by decide +kernel
theorem tyX9_ok : ∀ k, k < 5 → parseFieldDescriptor (TX9 k).2.2.1 = some (tyX9 k) := by decide +kernel
abbrev cX9_init : ByteArray := prog_11_method_1_code
def yX9_init : MethodName := ⟨RX9, "<init>", "()V"⟩
abbrev cX9_clear : ByteArray := prog_11_method_2_code
def yX9_clear : MethodName := ⟨RX9, "clear", "()V"⟩
abbrev cX9_add : ByteArray := prog_11_method_3_code
def yX9_add : MethodName := ⟨RX9, "add", "(II)V"⟩
abbrev cX9_middle : ByteArray := prog_11_method_4_code
def yX9_middle : MethodName := ⟨RX9, "middle", "()I"⟩
def RX10 : String := "TenCoins$Things"
def TX10 : u_T := fun k => match k with
  | 0 => ("TenCoins$Things", "numbers", "[I", true)
  | _ => ("TenCoins$Things", "size", "I", false)
def tyX10 : Nat → FieldType := fun k => match k with
  | 0 => .array .int
  | _ => .int
abbrev wsX100 : List Cond := u_ws RX10 TX10 2
theorem nmX10 : ∀ a, a < 2 → ∀ b, b < 2 → a ≠ b → (TX10 a).2.1 ≠ (TX10 b).2.1 := by decide +kernel
theorem tyX10_ok : ∀ k, k < 2 → parseFieldDescriptor (TX10 k).2.2.1 = some (tyX10 k) := by decide +kernel
abbrev cX10_init : ByteArray := prog_12_method_1_code
def yX10_init : MethodName := ⟨RX10, "<init>", "()V"⟩
abbrev cX10_has : ByteArray := prog_12_method_2_code
def yX10_has : MethodName := ⟨RX10, "has", "(I)Z"⟩
abbrev cX10_add : ByteArray := prog_12_method_3_code
def yX10_add : MethodName := ⟨RX10, "add", "(IIII)I"⟩
abbrev cX10_together : ByteArray := prog_12_method_4_code
def yX10_together : MethodName := ⟨RX10, "together", "(ILTenCoins$Means;)I"⟩
abbrev cX10_greatest : ByteArray := prog_12_method_5_code
def yX10_greatest : MethodName := ⟨RX10, "greatest", "(LTenCoins$Means;)I"⟩
def RX11 : String := "TenCoins"
def TX11 : u_T := fun k => match k with
  | 0 => ("TenCoins", "pairs", "LTenCoins$Pairs;", true)
  | 1 => ("TenCoins", "first", "LTenCoins$Tally;", true)
  | 2 => ("TenCoins", "second", "LTenCoins$Tally;", true)
  | 3 => ("TenCoins", "rows", "LTenCoins$Rows;", true)
  | 4 => ("TenCoins", "beliefs", "LTenCoins$Beliefs;", true)
  | 5 => ("TenCoins", "game", "LTenCoins$Game;", true)
  | 6 => ("TenCoins", "choices", "LTenCoins$Choices;", true)
  | 7 => ("TenCoins", "means", "LTenCoins$Means;", true)
  | 8 => ("TenCoins", "things", "LTenCoins$Things;", true)
  | 9 => ("TenCoins", "stories", "LTenCoins$Stories;", true)
  | 10 => ("TenCoins", "rounds", "LTenCoins$Rounds;", true)
  | _ => ("TenCoins", "sheets", "LTenCoins$Sheets;", true)
def tyX11 : Nat → FieldType := fun k => match k with
  | 0 => .object "TenCoins$Pairs"
  | 1 => .object "TenCoins$Tally"
  | 2 => .object "TenCoins$Tally"
  | 3 => .object "TenCoins$Rows"
  | 4 => .object "TenCoins$Beliefs"
  | 5 => .object "TenCoins$Game"
  | 6 => .object "TenCoins$Choices"
  | 7 => .object "TenCoins$Means"
  | 8 => .object "TenCoins$Things"
  | 9 => .object "TenCoins$Stories"
  | 10 => .object "TenCoins$Rounds"
  | _ => .object "TenCoins$Sheets"
abbrev wsX110 : List Cond := u_ws RX11 TX11 12
theorem nmX11 : ∀ a, a < 12 → ∀ b, b < 12 → a ≠ b → (TX11 a).2.1 ≠ (TX11 b).2.1 := by decide +kernel
theorem tyX11_ok : ∀ k, k < 12 → parseFieldDescriptor (TX11 k).2.2.1 = some (tyX11 k) := by decide +kernel
abbrev cX11_init : ByteArray := prog_1_method_1_code
def yX11_init : MethodName := ⟨RX11, "<init>", "()V"⟩
abbrev cX11_pair : ByteArray := prog_1_method_2_code
def yX11_pair : MethodName := ⟨RX11, "pair", "(IIIII)I"⟩
abbrev cX11_read : ByteArray := prog_1_method_3_code
def yX11_read : MethodName := ⟨RX11, "read", "(IIII)I"⟩
abbrev cX11_takeBack : ByteArray := prog_1_method_4_code
def yX11_takeBack : MethodName := ⟨RX11, "takeBack", "(II)I"⟩
abbrev cX11_asOf : ByteArray := prog_1_method_5_code
def yX11_asOf : MethodName := ⟨RX11, "asOf", "(I)I"⟩
abbrev cX11_many : ByteArray := prog_1_method_6_code
def yX11_many : MethodName := ⟨RX11, "many", "(III)I"⟩
abbrev cX11_mean : ByteArray := prog_1_method_7_code
def yX11_mean : MethodName := ⟨RX11, "mean", "(III)J"⟩
abbrev cX11_refused : ByteArray := prog_1_method_8_code
def yX11_refused : MethodName := ⟨RX11, "refused", "(IIII)J"⟩
abbrev cX11_moves : ByteArray := prog_1_method_9_code
def yX11_moves : MethodName := ⟨RX11, "moves", "(III)J"⟩
abbrev cX11_lessKind : ByteArray := prog_1_method_10_code
def yX11_lessKind : MethodName := ⟨RX11, "lessKind", "(I)I"⟩
abbrev cX11_row : ByteArray := prog_1_method_11_code
def yX11_row : MethodName := ⟨RX11, "row", "(II)I"⟩
abbrev cX11_line : ByteArray := prog_1_method_12_code
def yX11_line : MethodName := ⟨RX11, "line", "(II)I"⟩
abbrev cX11_taken : ByteArray := prog_1_method_13_code
def yX11_taken : MethodName := ⟨RX11, "taken", "(III)J"⟩
abbrev cX11_best : ByteArray := prog_1_method_14_code
def yX11_best : MethodName := ⟨RX11, "best", "(I)I"⟩
abbrev cX11_belief : ByteArray := prog_1_method_15_code
def yX11_belief : MethodName := ⟨RX11, "belief", "(I)I"⟩
abbrev cX11_believe : ByteArray := prog_1_method_16_code
def yX11_believe : MethodName := ⟨RX11, "believe", "(III)I"⟩
abbrev cX11_hisBest : ByteArray := prog_1_method_17_code
def yX11_hisBest : MethodName := ⟨RX11, "hisBest", "(I)I"⟩
abbrev cX11_off : ByteArray := prog_1_method_18_code
def yX11_off : MethodName := ⟨RX11, "off", "(III)J"⟩
abbrev cX11_amountsOff : ByteArray := prog_1_method_19_code
def yX11_amountsOff : MethodName := ⟨RX11, "amountsOff", "(III)I"⟩
abbrev cX11_type : ByteArray := prog_1_method_20_code
def yX11_type : MethodName := ⟨RX11, "type", "(I)I"⟩
abbrev cX11_wipe : ByteArray := prog_1_method_21_code
def yX11_wipe : MethodName := ⟨RX11, "wipe", "()I"⟩
abbrev cX11_fault : ByteArray := prog_1_method_22_code
def yX11_fault : MethodName := ⟨RX11, "fault", "()I"⟩
abbrev cX11_reckon : ByteArray := prog_1_method_23_code
def yX11_reckon : MethodName := ⟨RX11, "reckon", "(II)I"⟩
abbrev cX11_how : ByteArray := prog_1_method_24_code
def yX11_how : MethodName := ⟨RX11, "how", "(II)I"⟩
abbrev cX11_temper : ByteArray := prog_1_method_25_code
def yX11_temper : MethodName := ⟨RX11, "temper", "()I"⟩
abbrev cX11_two : ByteArray := prog_1_method_26_code
def yX11_two : MethodName := ⟨RX11, "two", "(II)I"⟩
abbrev cX11_thing : ByteArray := prog_1_method_27_code
def yX11_thing : MethodName := ⟨RX11, "thing", "(IIII)I"⟩
abbrev cX11_goes : ByteArray := prog_1_method_28_code
def yX11_goes : MethodName := ⟨RX11, "goes", "(I)I"⟩
abbrev cX11_looked : ByteArray := prog_1_method_29_code
def yX11_looked : MethodName := ⟨RX11, "looked", "()I"⟩
abbrev cX11_learnMeans : ByteArray := prog_1_method_30_code
def yX11_learnMeans : MethodName := ⟨RX11, "learnMeans", "()V"⟩
abbrev cX11_story : ByteArray := prog_1_method_31_code
def yX11_story : MethodName := ⟨RX11, "story", "(III)I"⟩
abbrev cX11_odds : ByteArray := prog_1_method_32_code
def yX11_odds : MethodName := ⟨RX11, "odds", "(III)J"⟩
abbrev cX11_round : ByteArray := prog_1_method_33_code
def yX11_round : MethodName := ⟨RX11, "round", "(II)I"⟩
abbrev cX11_forget : ByteArray := prog_1_method_34_code
def yX11_forget : MethodName := ⟨RX11, "forget", "()I"⟩
abbrev cX11_misses : ByteArray := prog_1_method_35_code
def yX11_misses : MethodName := ⟨RX11, "misses", "(II)I"⟩
abbrev cX11_learnt : ByteArray := prog_1_method_36_code
def yX11_learnt : MethodName := ⟨RX11, "learnt", "(I)I"⟩
abbrev cX11_sheet : ByteArray := prog_1_method_37_code
def yX11_sheet : MethodName := ⟨RX11, "sheet", "(III)I"⟩
abbrev cX11_lose : ByteArray := prog_1_method_38_code
def yX11_lose : MethodName := ⟨RX11, "lose", "(I)I"⟩
abbrev cX11_put : ByteArray := prog_1_method_39_code
def yX11_put : MethodName := ⟨RX11, "put", "(IIII)I"⟩
abbrev cX11_get : ByteArray := prog_1_method_40_code
def yX11_get : MethodName := ⟨RX11, "get", "(III)I"⟩
abbrev cX11_copy : ByteArray := prog_1_method_41_code
def yX11_copy : MethodName := ⟨RX11, "copy", "(IIIII)I"⟩
abbrev cX11_write : ByteArray := prog_1_method_42_code
def yX11_write : MethodName := ⟨RX11, "write", "(III)I"⟩
abbrev cX11_count : ByteArray := prog_1_method_43_code
def yX11_count : MethodName := ⟨RX11, "count", "(I)I"⟩
abbrev cX11_digest : ByteArray := prog_1_method_44_code
def yX11_digest : MethodName := ⟨RX11, "digest", "()J"⟩
abbrev cX11_mixPairs : ByteArray := prog_1_method_45_code
def yX11_mixPairs : MethodName := ⟨RX11, "mixPairs", "(J)J"⟩
abbrev cX11_mixRowsAndBeliefs : ByteArray := prog_1_method_46_code
def yX11_mixRowsAndBeliefs : MethodName := ⟨RX11, "mixRowsAndBeliefs", "(J)J"⟩
abbrev cX11_mixGame : ByteArray := prog_1_method_47_code
def yX11_mixGame : MethodName := ⟨RX11, "mixGame", "(J)J"⟩
abbrev cX11_mix : ByteArray := prog_1_method_48_code
def yX11_mix : MethodName := ⟨RX11, "mix", "(JJ)J"⟩
abbrev cX11_isWithin : ByteArray := prog_1_method_49_code
def yX11_isWithin : MethodName := ⟨RX11, "isWithin", "(II)Z"⟩
abbrev cX11_isPeople : ByteArray := prog_1_method_50_code
def yX11_isPeople : MethodName := ⟨RX11, "isPeople", "(I)Z"⟩
abbrev cX11_isPeopleOrAll : ByteArray := prog_1_method_51_code
def yX11_isPeopleOrAll : MethodName := ⟨RX11, "isPeopleOrAll", "(I)Z"⟩
abbrev cX11_isKind : ByteArray := prog_1_method_52_code
def yX11_isKind : MethodName := ⟨RX11, "isKind", "(I)Z"⟩
abbrev cX11_isOffer : ByteArray := prog_1_method_53_code
def yX11_isOffer : MethodName := ⟨RX11, "isOffer", "(I)Z"⟩
abbrev cX11_isAnswer : ByteArray := prog_1_method_54_code
def yX11_isAnswer : MethodName := ⟨RX11, "isAnswer", "(I)Z"⟩
abbrev cX11_isTime : ByteArray := prog_1_method_55_code
def yX11_isTime : MethodName := ⟨RX11, "isTime", "(I)Z"⟩
abbrev cX11_isPart : ByteArray := prog_1_method_56_code
def yX11_isPart : MethodName := ⟨RX11, "isPart", "(I)Z"⟩
abbrev cX11_isSheet : ByteArray := prog_1_method_57_code
def yX11_isSheet : MethodName := ⟨RX11, "isSheet", "(I)Z"⟩
abbrev cX11_isForm : ByteArray := prog_1_method_58_code
def yX11_isForm : MethodName := ⟨RX11, "isForm", "(I)Z"⟩
abbrev cX11_asLong : ByteArray := prog_1_method_59_code
def yX11_asLong : MethodName := ⟨RX11, "asLong", "(I)J"⟩
abbrev cX11_fraction : ByteArray := prog_1_method_60_code
def yX11_fraction : MethodName := ⟨RX11, "fraction", "(JJI)J"⟩
abbrev cX11_greatestDivisor : ByteArray := prog_1_method_61_code
def yX11_greatestDivisor : MethodName := ⟨RX11, "greatestDivisor", "(JJ)J"⟩
abbrev cX11_millionths : ByteArray := prog_1_method_62_code
def yX11_millionths : MethodName := ⟨RX11, "millionths", "(II)I"⟩
abbrev cX11_firstGreatest : ByteArray := prog_1_method_63_code
def yX11_firstGreatest : MethodName := ⟨RX11, "firstGreatest", "([I)I"⟩
def RX12 : String := "TenCoinsModel"
def TX12 : u_T := fun k => match k with
  | 0 => ("TenCoinsModel", "pairs", "I", false)
  | 1 => ("TenCoinsModel", "peopleOf", "[I", true)
  | 2 => ("TenCoinsModel", "kindOf", "[I", true)
  | 3 => ("TenCoinsModel", "offerOf", "[I", true)
  | 4 => ("TenCoinsModel", "answerOf", "[I", true)
  | 5 => ("TenCoinsModel", "timeOf", "[I", true)
  | 6 => ("TenCoinsModel", "backOf", "[I", true)
  | 7 => ("TenCoinsModel", "lastTime", "I", false)
  | 8 => ("TenCoinsModel", "knownTo", "I", false)
  | 9 => ("TenCoinsModel", "rows", "I", false)
  | 10 => ("TenCoinsModel", "rowPeople", "[I", true)
  | 11 => ("TenCoinsModel", "rowBits", "[I", true)
  | 12 => ("TenCoinsModel", "beliefs", "I", false)
  | 13 => ("TenCoinsModel", "beliefPeople", "[I", true)
  | 14 => ("TenCoinsModel", "believed", "[I", true)
  | 15 => ("TenCoinsModel", "typed", "I", false)
  | 16 => ("TenCoinsModel", "text", "[I", true)
  | 17 => ("TenCoinsModel", "nodes", "I", false)
  | 18 => ("TenCoinsModel", "letter", "[I", true)
  | 19 => ("TenCoinsModel", "parent", "[I", true)
  | 20 => ("TenCoinsModel", "place", "[I", true)
  | 21 => ("TenCoinsModel", "children", "[I", true)
  | 22 => ("TenCoinsModel", "endOf", "[I", true)
  | 23 => ("TenCoinsModel", "takes", "[I", true)
  | 24 => ("TenCoinsModel", "gets", "[I", true)
  | 25 => ("TenCoinsModel", "chosen", "[I", true)
  | 26 => ("TenCoinsModel", "things", "I", false)
  | 27 => ("TenCoinsModel", "thingOf", "[I", true)
  | 28 => ("TenCoinsModel", "there", "[I", true)
  | 29 => ("TenCoinsModel", "whose", "[I", true)
  | 30 => ("TenCoinsModel", "thereMany", "I", false)
  | 31 => ("TenCoinsModel", "stories", "[I", true)
  | 32 => ("TenCoinsModel", "rounds", "I", false)
  | 33 => ("TenCoinsModel", "roundOffer", "[I", true)
  | 34 => ("TenCoinsModel", "roundAnswer", "[I", true)
  | 35 => ("TenCoinsModel", "isThere", "[Z", true)
  | 36 => ("TenCoinsModel", "forms", "[I", true)
  | 37 => ("TenCoinsModel", "sizes", "[I", true)
  | 38 => ("TenCoinsModel", "items", "[I", true)
  | 39 => ("TenCoinsModel", "moved", "[I", true)
  | _ => ("TenCoinsModel", "finding", "I", false)
def tyX12 : Nat → FieldType := fun k => match k with
  | 0 => .int
  | 1 => .array .int
  | 2 => .array .int
  | 3 => .array .int
  | 4 => .array .int
  | 5 => .array .int
  | 6 => .array .int
  | 7 => .int
  | 8 => .int
  | 9 => .int
  | 10 => .array .int
  | 11 => .array .int
  | 12 => .int
  | 13 => .array .int
  | 14 => .array .int
  | 15 => .int
  | 16 => .array .int
  | 17 => .int
  | 18 => .array .int
  | 19 => .array .int
  | 20 => .array .int
  | 21 => .array .int
  | 22 => .array .int
  | 23 => .array .int
  | 24 => .array .int
  | 25 => .array .int
  | 26 => .int
  | 27 => .array .int
  | 28 => .array .int
  | 29 => .array .int
  | 30 => .int
  | 31 => .array .int
  | 32 => .int
  | 33 => .array .int
  | 34 => .array .int
  | 35 => .array .boolean
  | 36 => .array .int
  | 37 => .array .int
  | 38 => .array .int
  | 39 => .array .int
  | _ => .int
abbrev wsX120 : List Cond := u_ws RX12 TX12 41
theorem nmX12 : ∀ a, a < 41 → ∀ b, b < 41 → a ≠ b → (TX12 a).2.1 ≠ (TX12 b).2.1 := by decide +kernel
theorem tyX12_ok : ∀ k, k < 41 → parseFieldDescriptor (TX12 k).2.2.1 = some (tyX12 k) := by decide +kernel
abbrev cX12_init : ByteArray := prog_14_method_1_code
def yX12_init : MethodName := ⟨RX12, "<init>", "()V"⟩
abbrev cX12_in : ByteArray := prog_14_method_3_code
def yX12_in : MethodName := ⟨RX12, "in", "(III)Z"⟩
abbrev cX12_amount : ByteArray := prog_14_method_4_code
def yX12_amount : MethodName := ⟨RX12, "amount", "(I)I"⟩
abbrev cX12_ones : ByteArray := prog_14_method_5_code
def yX12_ones : MethodName := ⟨RX12, "ones", "(I)I"⟩
abbrev cX12_has : ByteArray := prog_14_method_6_code
def yX12_has : MethodName := ⟨RX12, "has", "(II)Z"⟩
abbrev cX12_no : ByteArray := prog_14_method_7_code
def yX12_no : MethodName := ⟨RX12, "no", "(I)J"⟩
abbrev cX12_lowest : ByteArray := prog_14_method_8_code
def yX12_lowest : MethodName := ⟨RX12, "lowest", "(JJI)J"⟩
abbrev cX12_isPeople : ByteArray := prog_14_method_9_code
def yX12_isPeople : MethodName := ⟨RX12, "isPeople", "(I)Z"⟩
abbrev cX12_isAny : ByteArray := prog_14_method_10_code
def yX12_isAny : MethodName := ⟨RX12, "isAny", "(I)Z"⟩
abbrev cX12_isKind : ByteArray := prog_14_method_11_code
def yX12_isKind : MethodName := ⟨RX12, "isKind", "(I)Z"⟩
abbrev cX12_isOffer : ByteArray := prog_14_method_12_code
def yX12_isOffer : MethodName := ⟨RX12, "isOffer", "(I)Z"⟩
abbrev cX12_pairMore : ByteArray := prog_14_method_13_code
def yX12_pairMore : MethodName := ⟨RX12, "pairMore", "(IIIII)I"⟩
abbrev cX12_pair : ByteArray := prog_14_method_14_code
def yX12_pair : MethodName := ⟨RX12, "pair", "(IIIII)I"⟩
abbrev cX12_read : ByteArray := prog_14_method_15_code
def yX12_read : MethodName := ⟨RX12, "read", "(IIII)I"⟩
abbrev cX12_takeBack : ByteArray := prog_14_method_16_code
def yX12_takeBack : MethodName := ⟨RX12, "takeBack", "(II)I"⟩
abbrev cX12_asOf : ByteArray := prog_14_method_17_code
def yX12_asOf : MethodName := ⟨RX12, "asOf", "(I)I"⟩
abbrev cX12_counts : ByteArray := prog_14_method_18_code
def yX12_counts : MethodName := ⟨RX12, "counts", "(I)Z"⟩
abbrev cX12_isOf : ByteArray := prog_14_method_19_code
def yX12_isOf : MethodName := ⟨RX12, "isOf", "(III)Z"⟩
abbrev cX12_countOf : ByteArray := prog_14_method_20_code
def yX12_countOf : MethodName := ⟨RX12, "countOf", "(II)I"⟩
abbrev cX12_sumOf : ByteArray := prog_14_method_21_code
def yX12_sumOf : MethodName := ⟨RX12, "sumOf", "(II)I"⟩
abbrev cX12_noesOf : ByteArray := prog_14_method_22_code
def yX12_noesOf : MethodName := ⟨RX12, "noesOf", "(II)I"⟩
abbrev cX12_middleOf : ByteArray := prog_14_method_23_code
def yX12_middleOf : MethodName := ⟨RX12, "middleOf", "(II)I"⟩
abbrev cX12_manyNow : ByteArray := prog_14_method_24_code
def yX12_manyNow : MethodName := ⟨RX12, "manyNow", "(III)I"⟩
abbrev cX12_many : ByteArray := prog_14_method_25_code
def yX12_many : MethodName := ⟨RX12, "many", "(III)I"⟩
abbrev cX12_meanNow : ByteArray := prog_14_method_26_code
def yX12_meanNow : MethodName := ⟨RX12, "meanNow", "(III)J"⟩
abbrev cX12_mean : ByteArray := prog_14_method_27_code
def yX12_mean : MethodName := ⟨RX12, "mean", "(III)J"⟩
abbrev cX12_refused : ByteArray := prog_14_method_28_code
def yX12_refused : MethodName := ⟨RX12, "refused", "(IIII)J"⟩
abbrev cX12_moves : ByteArray := prog_14_method_29_code
def yX12_moves : MethodName := ⟨RX12, "moves", "(III)J"⟩
abbrev cX12_row : ByteArray := prog_14_method_30_code
def yX12_row : MethodName := ⟨RX12, "row", "(II)I"⟩
abbrev cX12_lineNow : ByteArray := prog_14_method_31_code
def yX12_lineNow : MethodName := ⟨RX12, "lineNow", "(II)I"⟩
abbrev cX12_line : ByteArray := prog_14_method_32_code
def yX12_line : MethodName := ⟨RX12, "line", "(II)I"⟩
abbrev cX12_rowsOf : ByteArray := prog_14_method_33_code
def yX12_rowsOf : MethodName := ⟨RX12, "rowsOf", "(I)I"⟩
abbrev cX12_yesesOf : ByteArray := prog_14_method_34_code
def yX12_yesesOf : MethodName := ⟨RX12, "yesesOf", "(II)I"⟩
abbrev cX12_taken : ByteArray := prog_14_method_35_code
def yX12_taken : MethodName := ⟨RX12, "taken", "(III)J"⟩
abbrev cX12_bestNow : ByteArray := prog_14_method_36_code
def yX12_bestNow : MethodName := ⟨RX12, "bestNow", "(I)I"⟩
abbrev cX12_best : ByteArray := prog_14_method_37_code
def yX12_best : MethodName := ⟨RX12, "best", "(I)I"⟩
abbrev cX12_isBelief : ByteArray := prog_14_method_38_code
def yX12_isBelief : MethodName := ⟨RX12, "isBelief", "(I)Z"⟩
abbrev cX12_belief : ByteArray := prog_14_method_39_code
def yX12_belief : MethodName := ⟨RX12, "belief", "(I)I"⟩
abbrev cX12_believe : ByteArray := prog_14_method_40_code
def yX12_believe : MethodName := ⟨RX12, "believe", "(III)I"⟩
abbrev cX12_hisNow : ByteArray := prog_14_method_41_code
def yX12_hisNow : MethodName := ⟨RX12, "hisNow", "(I)I"⟩
abbrev cX12_hisBest : ByteArray := prog_14_method_42_code
def yX12_hisBest : MethodName := ⟨RX12, "hisBest", "(I)I"⟩
abbrev cX12_off : ByteArray := prog_14_method_43_code
def yX12_off : MethodName := ⟨RX12, "off", "(III)J"⟩
abbrev cX12_type : ByteArray := prog_14_method_44_code
def yX12_type : MethodName := ⟨RX12, "type", "(I)I"⟩
abbrev cX12_wipe : ByteArray := prog_14_method_45_code
def yX12_wipe : MethodName := ⟨RX12, "wipe", "()I"⟩
abbrev cX12_byteAt : ByteArray := prog_14_method_46_code
def yX12_byteAt : MethodName := ⟨RX12, "byteAt", "(I)I"⟩
abbrev cX12_nodeMore : ByteArray := prog_14_method_47_code
def yX12_nodeMore : MethodName := ⟨RX12, "nodeMore", "(II)V"⟩
abbrev cX12_faultNow : ByteArray := prog_14_method_48_code
def yX12_faultNow : MethodName := ⟨RX12, "faultNow", "()I"⟩
abbrev cX12_fault : ByteArray := prog_14_method_49_code
def yX12_fault : MethodName := ⟨RX12, "fault", "()I"⟩
abbrev cX12_worth : ByteArray := prog_14_method_50_code
def yX12_worth : MethodName := ⟨RX12, "worth", "(III)I"⟩
abbrev cX12_reckons : ByteArray := prog_14_method_51_code
def yX12_reckons : MethodName := ⟨RX12, "reckons", "(I)V"⟩
abbrev cX12_lettersOf : ByteArray := prog_14_method_52_code
def yX12_lettersOf : MethodName := ⟨RX12, "lettersOf", "(Z)I"⟩
abbrev cX12_wayOf : ByteArray := prog_14_method_53_code
def yX12_wayOf : MethodName := ⟨RX12, "wayOf", "()I"⟩
abbrev cX12_reckonNow : ByteArray := prog_14_method_54_code
def yX12_reckonNow : MethodName := ⟨RX12, "reckonNow", "(II)I"⟩
abbrev cX12_reckon : ByteArray := prog_14_method_55_code
def yX12_reckon : MethodName := ⟨RX12, "reckon", "(II)I"⟩
abbrev cX12_how : ByteArray := prog_14_method_56_code
def yX12_how : MethodName := ⟨RX12, "how", "(II)I"⟩
abbrev cX12_temperNow : ByteArray := prog_14_method_57_code
def yX12_temperNow : MethodName := ⟨RX12, "temperNow", "()I"⟩
abbrev cX12_temper : ByteArray := prog_14_method_58_code
def yX12_temper : MethodName := ⟨RX12, "temper", "()I"⟩
abbrev cX12_two : ByteArray := prog_14_method_59_code
def yX12_two : MethodName := ⟨RX12, "two", "(II)I"⟩
abbrev cX12_thing : ByteArray := prog_14_method_60_code
def yX12_thing : MethodName := ⟨RX12, "thing", "(IIII)I"⟩
abbrev cX12_way : ByteArray := prog_14_method_61_code
def yX12_way : MethodName := ⟨RX12, "way", "(I)I"⟩
abbrev cX12_gathers : ByteArray := prog_14_method_62_code
def yX12_gathers : MethodName := ⟨RX12, "gathers", "()V"⟩
abbrev cX12_goesBy : ByteArray := prog_14_method_63_code
def yX12_goesBy : MethodName := ⟨RX12, "goesBy", "(I)I"⟩
abbrev cX12_goesNow : ByteArray := prog_14_method_64_code
def yX12_goesNow : MethodName := ⟨RX12, "goesNow", "(I)I"⟩
abbrev cX12_goes : ByteArray := prog_14_method_65_code
def yX12_goes : MethodName := ⟨RX12, "goes", "(I)I"⟩
abbrev cX12_greatest : ByteArray := prog_14_method_66_code
def yX12_greatest : MethodName := ⟨RX12, "greatest", "()I"⟩
abbrev cX12_lookedNow : ByteArray := prog_14_method_67_code
def yX12_lookedNow : MethodName := ⟨RX12, "lookedNow", "()I"⟩
abbrev cX12_looked : ByteArray := prog_14_method_68_code
def yX12_looked : MethodName := ⟨RX12, "looked", "()I"⟩
abbrev cX12_spanOf : ByteArray := prog_14_method_69_code
def yX12_spanOf : MethodName := ⟨RX12, "spanOf", "(I)I"⟩
abbrev cX12_story : ByteArray := prog_14_method_70_code
def yX12_story : MethodName := ⟨RX12, "story", "(III)I"⟩
abbrev cX12_partOf : ByteArray := prog_14_method_71_code
def yX12_partOf : MethodName := ⟨RX12, "partOf", "(II)J"⟩
abbrev cX12_odds : ByteArray := prog_14_method_72_code
def yX12_odds : MethodName := ⟨RX12, "odds", "(III)J"⟩
abbrev cX12_round : ByteArray := prog_14_method_73_code
def yX12_round : MethodName := ⟨RX12, "round", "(II)I"⟩
abbrev cX12_forget : ByteArray := prog_14_method_74_code
def yX12_forget : MethodName := ⟨RX12, "forget", "()I"⟩
abbrev cX12_missesOf : ByteArray := prog_14_method_75_code
def yX12_missesOf : MethodName := ⟨RX12, "missesOf", "(II)I"⟩
abbrev cX12_misses : ByteArray := prog_14_method_76_code
def yX12_misses : MethodName := ⟨RX12, "misses", "(II)I"⟩
abbrev cX12_gotNow : ByteArray := prog_14_method_77_code
def yX12_gotNow : MethodName := ⟨RX12, "gotNow", "()I"⟩
abbrev cX12_couldNow : ByteArray := prog_14_method_78_code
def yX12_couldNow : MethodName := ⟨RX12, "couldNow", "()I"⟩
abbrev cX12_learntNow : ByteArray := prog_14_method_79_code
def yX12_learntNow : MethodName := ⟨RX12, "learntNow", "(I)I"⟩
abbrev cX12_learnt : ByteArray := prog_14_method_80_code
def yX12_learnt : MethodName := ⟨RX12, "learnt", "(I)I"⟩
abbrev cX12_meets : ByteArray := prog_14_method_81_code
def yX12_meets : MethodName := ⟨RX12, "meets", "(I)I"⟩
abbrev cX12_isSheet : ByteArray := prog_14_method_82_code
def yX12_isSheet : MethodName := ⟨RX12, "isSheet", "(I)Z"⟩
abbrev cX12_sheet : ByteArray := prog_14_method_83_code
def yX12_sheet : MethodName := ⟨RX12, "sheet", "(III)I"⟩
abbrev cX12_lose : ByteArray := prog_14_method_84_code
def yX12_lose : MethodName := ⟨RX12, "lose", "(I)I"⟩
abbrev cX12_lacks : ByteArray := prog_14_method_85_code
def yX12_lacks : MethodName := ⟨RX12, "lacks", "(III)I"⟩
abbrev cX12_keep : ByteArray := prog_14_method_86_code
def yX12_keep : MethodName := ⟨RX12, "keep", "(III)V"⟩
abbrev cX12_put : ByteArray := prog_14_method_87_code
def yX12_put : MethodName := ⟨RX12, "put", "(IIII)I"⟩
abbrev cX12_get : ByteArray := prog_14_method_88_code
def yX12_get : MethodName := ⟨RX12, "get", "(III)I"⟩
abbrev cX12_copy : ByteArray := prog_14_method_89_code
def yX12_copy : MethodName := ⟨RX12, "copy", "(IIIII)I"⟩
abbrev cX12_write : ByteArray := prog_14_method_90_code
def yX12_write : MethodName := ⟨RX12, "write", "(III)I"⟩
abbrev cX12_knownMany : ByteArray := prog_14_method_91_code
def yX12_knownMany : MethodName := ⟨RX12, "knownMany", "()I"⟩
abbrev cX12_count : ByteArray := prog_14_method_92_code
def yX12_count : MethodName := ⟨RX12, "count", "(I)I"⟩
abbrev cX12_digest : ByteArray := prog_14_method_93_code
def yX12_digest : MethodName := ⟨RX12, "digest", "()J"⟩
def RJ6 : String := "java/lang/Integer"
def TJ6 : u_T := fun k => match k with
  | _ => ("", "", "", false)
def tyJ6 : Nat → FieldType := fun k => match k with
  | _ => .int
abbrev wsJ60 : List Cond := u_ws RJ6 TJ6 0
theorem nmJ6 : ∀ a, a < 0 → ∀ b, b < 0 → a ≠ b → (TJ6 a).2.1 ≠ (TJ6 b).2.1 := by decide +kernel
theorem tyJ6_ok : ∀ k, k < 0 → parseFieldDescriptor (TJ6 k).2.2.1 = some (tyJ6 k) := by decide +kernel
abbrev cJ6_compare_7cf53 : ByteArray := prog_15_method_40_code
def yJ6_compare_7cf53 : MethodName := ⟨RJ6, "compare", "(II)I"⟩
abbrev cJ6_bitCount_0f7a4 : ByteArray := prog_15_method_49_code
def yJ6_bitCount_0f7a4 : MethodName := ⟨RJ6, "bitCount", "(I)I"⟩
def RJ9 : String := "java/lang/Math"
def TJ9 : u_T := fun k => match k with
  | _ => ("", "", "", false)
def tyJ9 : Nat → FieldType := fun k => match k with
  | _ => .int
abbrev wsJ90 : List Cond := u_ws RJ9 TJ9 0
theorem nmJ9 : ∀ a, a < 0 → ∀ b, b < 0 → a ≠ b → (TJ9 a).2.1 ≠ (TJ9 b).2.1 := by decide +kernel
theorem tyJ9_ok : ∀ k, k < 0 → parseFieldDescriptor (TJ9 k).2.2.1 = some (tyJ9 k) := by decide +kernel
abbrev cJ9_abs_0f7a4 : ByteArray := prog_16_method_59_code
def yJ9_abs_0f7a4 : MethodName := ⟨RJ9, "abs", "(I)I"⟩
abbrev cJ9_abs_067f4 : ByteArray := prog_16_method_61_code
def yJ9_abs_067f4 : MethodName := ⟨RJ9, "abs", "(J)J"⟩
abbrev cJ9_max_7cf53 : ByteArray := prog_16_method_65_code
def yJ9_max_7cf53 : MethodName := ⟨RJ9, "max", "(II)I"⟩
abbrev cJ9_min_7cf53 : ByteArray := prog_16_method_69_code
def yJ9_min_7cf53 : MethodName := ⟨RJ9, "min", "(II)I"⟩
def RJ10 : String := "java/lang/System"
def TJ10 : u_T := fun k => match k with
  | _ => ("", "", "", false)
def tyJ10 : Nat → FieldType := fun k => match k with
  | _ => .int
abbrev wsJ100 : List Cond := u_ws RJ10 TJ10 0
theorem nmJ10 : ∀ a, a < 0 → ∀ b, b < 0 → a ≠ b → (TJ10 a).2.1 ≠ (TJ10 b).2.1 := by decide +kernel
theorem tyJ10_ok : ∀ k, k < 0 → parseFieldDescriptor (TJ10 k).2.2.1 = some (tyJ10 k) := by decide +kernel
def RJ7 : String := "java/util/Arrays"
def TJ7 : u_T := fun k => match k with
  | _ => ("", "", "", false)
def tyJ7 : Nat → FieldType := fun k => match k with
  | _ => .int
abbrev wsJ70 : List Cond := u_ws RJ7 TJ7 0
theorem nmJ7 : ∀ a, a < 0 → ∀ b, b < 0 → a ≠ b → (TJ7 a).2.1 ≠ (TJ7 b).2.1 := by decide +kernel
theorem tyJ7_ok : ∀ k, k < 0 → parseFieldDescriptor (TJ7 k).2.2.1 = some (tyJ7 k) := by decide +kernel
abbrev cJ7_rangeCheck_23922 : ByteArray := prog_18_method_30_code
def yJ7_rangeCheck_23922 : MethodName := ⟨RJ7, "rangeCheck", "(III)V"⟩
abbrev cJ7_fill_53178 : ByteArray := prog_18_method_103_code
def yJ7_fill_53178 : MethodName := ⟨RJ7, "fill", "([II)V"⟩
abbrev cJ7_fill_fda19 : ByteArray := prog_18_method_104_code
def yJ7_fill_fda19 : MethodName := ⟨RJ7, "fill", "([IIII)V"⟩
def RL : String := "TenCoinsLaw"
abbrev cL_law : ByteArray := code
def yL_law : MethodName := ⟨RL, "law", "([I)Z"⟩
abbrev vwCl : List vw_C := [(RX0, TX0, 4), (RX1, TX1, 3), (RX2, TX2, 13), (RX3, TX3, 4), (RX4, TX4, 9), (RX5, TX5, 6), (RX6, TX6, 7), (RX7, TX7, 4), (RX8, TX8, 1), (RX9, TX9, 5), (RX10, TX10, 2), (RX11, TX11, 12), (RX12, TX12, 41)]
end
section
theorem dX0_init_0 : decode cX0_init 0 = .ok (.aload_n 0, 1) := by decide +kernel
theorem dX0_init_1 : decode cX0_init 1 = .ok (.invokespecial 3, 3) := by decide +kernel
theorem dX0_init_4 : decode cX0_init 4 = .ok (.aload_n 0, 1) := by decide +kernel
theorem dX0_init_5 : decode cX0_init 5 = .ok (.bipush 8, 2) := by decide +kernel
theorem dX0_init_7 : decode cX0_init 7 = .ok (.newarray .int, 2) := by decide +kernel
theorem dX0_init_9 : decode cX0_init 9 = .ok (.putfield 11, 3) := by decide +kernel
theorem dX0_init_12 : decode cX0_init 12 = .ok (.aload_n 0, 1) := by decide +kernel
theorem dX0_init_13 : decode cX0_init 13 = .ok (.bipush 88, 2) := by decide +kernel
theorem dX0_init_15 : decode cX0_init 15 = .ok (.newarray .int, 2) := by decide +kernel
theorem dX0_init_17 : decode cX0_init 17 = .ok (.putfield 15, 3) := by decide +kernel
theorem dX0_init_20 : decode cX0_init 20 = .ok (.aload_n 0, 1) := by decide +kernel
theorem dX0_init_21 : decode cX0_init 21 = .ok (.bipush 11, 2) := by decide +kernel
theorem dX0_init_23 : decode cX0_init 23 = .ok (.newarray .int, 2) := by decide +kernel
theorem dX0_init_25 : decode cX0_init 25 = .ok (.putfield 18, 3) := by decide +kernel
theorem dX0_init_28 : decode cX0_init 28 = .ok (.return_, 1) := by decide +kernel
theorem dX0_has_0 : decode cX0_has 0 = .ok (.iload_n 1, 1) := by decide +kernel
theorem dX0_has_1 : decode cX0_has 1 = .ok (.ifCond .lt 15, 3) := by decide +kernel
theorem dX0_has_4 : decode cX0_has 4 = .ok (.iload_n 1, 1) := by decide +kernel
theorem dX0_has_5 : decode cX0_has 5 = .ok (.aload_n 0, 1) := by decide +kernel
theorem dX0_has_6 : decode cX0_has 6 = .ok (.getfield 21, 3) := by decide +kernel
theorem dX0_has_9 : decode cX0_has 9 = .ok (.if_icmp .ge 7, 3) := by decide +kernel
theorem dX0_has_12 : decode cX0_has 12 = .ok (.iconst 1, 1) := by decide +kernel
theorem dX0_has_13 : decode cX0_has 13 = .ok (.goto 4, 3) := by decide +kernel
theorem dX0_has_16 : decode cX0_has 16 = .ok (.iconst 0, 1) := by decide +kernel
theorem dX0_has_17 : decode cX0_has 17 = .ok (.ireturn, 1) := by decide +kernel
theorem dX0_add_0 : decode cX0_add 0 = .ok (.aload_n 0, 1) := by decide +kernel
theorem dX0_add_1 : decode cX0_add 1 = .ok (.getfield 21, 3) := by decide +kernel
theorem dX0_add_4 : decode cX0_add 4 = .ok (.bipush 8, 2) := by decide +kernel
theorem dX0_add_6 : decode cX0_add 6 = .ok (.if_icmp .lt 6, 3) := by decide +kernel
theorem dX0_add_9 : decode cX0_add 9 = .ok (.bipush (-4), 2) := by decide +kernel
theorem dX0_add_11 : decode cX0_add 11 = .ok (.ireturn, 1) := by decide +kernel
theorem dX0_add_12 : decode cX0_add 12 = .ok (.aload_n 0, 1) := by decide +kernel
theorem dX0_add_13 : decode cX0_add 13 = .ok (.getfield 11, 3) := by decide +kernel
theorem dX0_add_16 : decode cX0_add 16 = .ok (.aload_n 0, 1) := by decide +kernel
theorem dX0_add_17 : decode cX0_add 17 = .ok (.getfield 21, 3) := by decide +kernel
theorem dX0_add_20 : decode cX0_add 20 = .ok (.iload_n 1, 1) := by decide +kernel
theorem dX0_add_21 : decode cX0_add 21 = .ok (.iastore, 1) := by decide +kernel
theorem dX0_add_22 : decode cX0_add 22 = .ok (.aload_n 0, 1) := by decide +kernel
theorem dX0_add_23 : decode cX0_add 23 = .ok (.dup, 1) := by decide +kernel
theorem dX0_add_24 : decode cX0_add 24 = .ok (.getfield 21, 3) := by decide +kernel
theorem dX0_add_27 : decode cX0_add 27 = .ok (.iconst 1, 1) := by decide +kernel
theorem dX0_add_28 : decode cX0_add 28 = .ok (.iadd, 1) := by decide +kernel
theorem dX0_add_29 : decode cX0_add 29 = .ok (.putfield 21, 3) := by decide +kernel
theorem dX0_add_32 : decode cX0_add 32 = .ok (.aload_n 0, 1) := by decide +kernel
theorem dX0_add_33 : decode cX0_add 33 = .ok (.getfield 21, 3) := by decide +kernel
theorem dX0_add_36 : decode cX0_add 36 = .ok (.iconst 1, 1) := by decide +kernel
theorem dX0_add_37 : decode cX0_add 37 = .ok (.isub, 1) := by decide +kernel
theorem dX0_add_38 : decode cX0_add 38 = .ok (.ireturn, 1) := by decide +kernel
theorem dX0_said_0 : decode cX0_said 0 = .ok (.aload_n 0, 1) := by decide +kernel
theorem dX0_said_1 : decode cX0_said 1 = .ok (.getfield 15, 3) := by decide +kernel
theorem dX0_said_4 : decode cX0_said 4 = .ok (.iload_n 1, 1) := by decide +kernel
theorem dX0_said_5 : decode cX0_said 5 = .ok (.bipush 11, 2) := by decide +kernel
theorem dX0_said_7 : decode cX0_said 7 = .ok (.imul, 1) := by decide +kernel
theorem dX0_said_8 : decode cX0_said 8 = .ok (.iload_n 2, 1) := by decide +kernel
theorem dX0_said_9 : decode cX0_said 9 = .ok (.iadd, 1) := by decide +kernel
theorem dX0_said_10 : decode cX0_said 10 = .ok (.iaload, 1) := by decide +kernel
theorem dX0_said_11 : decode cX0_said 11 = .ok (.ireturn, 1) := by decide +kernel
theorem dX0_change_0 : decode cX0_change 0 = .ok (.aload_n 0, 1) := by decide +kernel
theorem dX0_change_1 : decode cX0_change 1 = .ok (.iload_n 1, 1) := by decide +kernel
theorem dX0_change_2 : decode cX0_change 2 = .ok (.iload_n 2, 1) := by decide +kernel
theorem dX0_change_3 : decode cX0_change 3 = .ok (.invokevirtual 25, 3) := by decide +kernel
theorem dX0_change_6 : decode cX0_change 6 = .ok (.istore 4, 2) := by decide +kernel
theorem dX0_change_8 : decode cX0_change 8 = .ok (.aload_n 0, 1) := by decide +kernel
theorem dX0_change_9 : decode cX0_change 9 = .ok (.getfield 15, 3) := by decide +kernel
theorem dX0_change_12 : decode cX0_change 12 = .ok (.iload_n 1, 1) := by decide +kernel
theorem dX0_change_13 : decode cX0_change 13 = .ok (.bipush 11, 2) := by decide +kernel
theorem dX0_change_15 : decode cX0_change 15 = .ok (.imul, 1) := by decide +kernel
theorem dX0_change_16 : decode cX0_change 16 = .ok (.iload_n 2, 1) := by decide +kernel
theorem dX0_change_17 : decode cX0_change 17 = .ok (.iadd, 1) := by decide +kernel
theorem dX0_change_18 : decode cX0_change 18 = .ok (.iload_n 3, 1) := by decide +kernel
theorem dX0_change_19 : decode cX0_change 19 = .ok (.iastore, 1) := by decide +kernel
theorem dX0_change_20 : decode cX0_change 20 = .ok (.iload 4, 2) := by decide +kernel
theorem dX0_change_22 : decode cX0_change 22 = .ok (.ireturn, 1) := by decide +kernel
theorem dX0_bestOffer_0 : decode cX0_bestOffer 0 = .ok (.iconst 0, 1) := by decide +kernel
theorem dX0_bestOffer_1 : decode cX0_bestOffer 1 = .ok (.istore_n 2, 1) := by decide +kernel
theorem dX0_bestOffer_2 : decode cX0_bestOffer 2 = .ok (.iload_n 2, 1) := by decide +kernel
theorem dX0_bestOffer_3 : decode cX0_bestOffer 3 = .ok (.bipush 11, 2) := by decide +kernel
theorem dX0_bestOffer_5 : decode cX0_bestOffer 5 = .ok (.if_icmp .ge 26, 3) := by decide +kernel
theorem dX0_bestOffer_8 : decode cX0_bestOffer 8 = .ok (.aload_n 0, 1) := by decide +kernel
theorem dX0_bestOffer_9 : decode cX0_bestOffer 9 = .ok (.getfield 18, 3) := by decide +kernel
theorem dX0_bestOffer_12 : decode cX0_bestOffer 12 = .ok (.iload_n 2, 1) := by decide +kernel
theorem dX0_bestOffer_13 : decode cX0_bestOffer 13 = .ok (.bipush 10, 2) := by decide +kernel
theorem dX0_bestOffer_15 : decode cX0_bestOffer 15 = .ok (.iload_n 2, 1) := by decide +kernel
theorem dX0_bestOffer_16 : decode cX0_bestOffer 16 = .ok (.isub, 1) := by decide +kernel
theorem dX0_bestOffer_17 : decode cX0_bestOffer 17 = .ok (.aload_n 0, 1) := by decide +kernel
theorem dX0_bestOffer_18 : decode cX0_bestOffer 18 = .ok (.iload_n 1, 1) := by decide +kernel
theorem dX0_bestOffer_19 : decode cX0_bestOffer 19 = .ok (.iload_n 2, 1) := by decide +kernel
theorem dX0_bestOffer_20 : decode cX0_bestOffer 20 = .ok (.invokevirtual 25, 3) := by decide +kernel
theorem dX0_bestOffer_23 : decode cX0_bestOffer 23 = .ok (.imul, 1) := by decide +kernel
theorem dX0_bestOffer_24 : decode cX0_bestOffer 24 = .ok (.iastore, 1) := by decide +kernel
theorem dX0_bestOffer_25 : decode cX0_bestOffer 25 = .ok (.iinc 2 1, 3) := by decide +kernel
theorem dX0_bestOffer_28 : decode cX0_bestOffer 28 = .ok (.goto (-26), 3) := by decide +kernel
theorem dX0_bestOffer_31 : decode cX0_bestOffer 31 = .ok (.aload_n 0, 1) := by decide +kernel
theorem dX0_bestOffer_32 : decode cX0_bestOffer 32 = .ok (.getfield 18, 3) := by decide +kernel
theorem dX0_bestOffer_35 : decode cX0_bestOffer 35 = .ok (.invokestatic 29, 3) := by decide +kernel
theorem dX0_bestOffer_38 : decode cX0_bestOffer 38 = .ok (.ireturn, 1) := by decide +kernel
theorem dX1_init_0 : decode cX1_init 0 = .ok (.aload_n 0, 1) := by decide +kernel
theorem dX1_init_1 : decode cX1_init 1 = .ok (.invokespecial 5, 3) := by decide +kernel
theorem dX1_init_4 : decode cX1_init 4 = .ok (.aload_n 0, 1) := by decide +kernel
theorem dX1_init_5 : decode cX1_init 5 = .ok (.sipush 568, 3) := by decide +kernel
theorem dX1_init_8 : decode cX1_init 8 = .ok (.newarray .int, 2) := by decide +kernel
theorem dX1_init_10 : decode cX1_init 10 = .ok (.putfield 11, 3) := by decide +kernel
theorem dX1_init_13 : decode cX1_init 13 = .ok (.return_, 1) := by decide +kernel
theorem dX1_clear_0 : decode cX1_clear 0 = .ok (.aload_n 0, 1) := by decide +kernel
theorem dX1_clear_1 : decode cX1_clear 1 = .ok (.getfield 11, 3) := by decide +kernel
theorem dX1_clear_4 : decode cX1_clear 4 = .ok (.iconst 0, 1) := by decide +kernel
theorem dX1_clear_5 : decode cX1_clear 5 = .ok (.invokestatic 15, 3) := by decide +kernel
theorem dX1_clear_8 : decode cX1_clear 8 = .ok (.aload_n 0, 1) := by decide +kernel
theorem dX1_clear_9 : decode cX1_clear 9 = .ok (.getfield 11, 3) := by decide +kernel
theorem dX1_clear_12 : decode cX1_clear 12 = .ok (.iconst 0, 1) := by decide +kernel
theorem dX1_clear_13 : decode cX1_clear 13 = .ok (.iconst 1, 1) := by decide +kernel
theorem dX1_clear_14 : decode cX1_clear 14 = .ok (.iastore, 1) := by decide +kernel
theorem dX1_clear_15 : decode cX1_clear 15 = .ok (.aload_n 0, 1) := by decide +kernel
theorem dX1_clear_16 : decode cX1_clear 16 = .ok (.iconst 0, 1) := by decide +kernel
theorem dX1_clear_17 : decode cX1_clear 17 = .ok (.putfield 21, 3) := by decide +kernel
theorem dX1_clear_20 : decode cX1_clear 20 = .ok (.aload_n 0, 1) := by decide +kernel
theorem dX1_clear_21 : decode cX1_clear 21 = .ok (.iconst 0, 1) := by decide +kernel
theorem dX1_clear_22 : decode cX1_clear 22 = .ok (.putfield 25, 3) := by decide +kernel
theorem dX1_clear_25 : decode cX1_clear 25 = .ok (.return_, 1) := by decide +kernel
theorem dX1_pool_0 : decode cX1_pool 0 = .ok (.iconst 0, 1) := by decide +kernel
theorem dX1_pool_1 : decode cX1_pool 1 = .ok (.istore_n 2, 1) := by decide +kernel
theorem dX1_pool_2 : decode cX1_pool 2 = .ok (.iload_n 2, 1) := by decide +kernel
theorem dX1_pool_3 : decode cX1_pool 3 = .ok (.bipush 11, 2) := by decide +kernel
theorem dX1_pool_5 : decode cX1_pool 5 = .ok (.if_icmp .ge 32, 3) := by decide +kernel
theorem dX1_pool_8 : decode cX1_pool 8 = .ok (.iconst 0, 1) := by decide +kernel
theorem dX1_pool_9 : decode cX1_pool 9 = .ok (.istore_n 3, 1) := by decide +kernel
theorem dX1_pool_10 : decode cX1_pool 10 = .ok (.iload_n 3, 1) := by decide +kernel
theorem dX1_pool_11 : decode cX1_pool 11 = .ok (.aload_n 1, 1) := by decide +kernel
theorem dX1_pool_12 : decode cX1_pool 12 = .ok (.getfield 28, 3) := by decide +kernel
theorem dX1_pool_15 : decode cX1_pool 15 = .ok (.iload_n 2, 1) := by decide +kernel
theorem dX1_pool_16 : decode cX1_pool 16 = .ok (.iaload, 1) := by decide +kernel
theorem dX1_pool_17 : decode cX1_pool 17 = .ok (.if_icmp .ge 14, 3) := by decide +kernel
theorem dX1_pool_20 : decode cX1_pool 20 = .ok (.aload_n 0, 1) := by decide +kernel
theorem dX1_pool_21 : decode cX1_pool 21 = .ok (.iload_n 2, 1) := by decide +kernel
theorem dX1_pool_22 : decode cX1_pool 22 = .ok (.invokevirtual 33, 3) := by decide +kernel
theorem dX1_pool_25 : decode cX1_pool 25 = .ok (.iinc 3 1, 3) := by decide +kernel
theorem dX1_pool_28 : decode cX1_pool 28 = .ok (.goto (-18), 3) := by decide +kernel
theorem dX1_pool_31 : decode cX1_pool 31 = .ok (.iinc 2 1, 3) := by decide +kernel
theorem dX1_pool_34 : decode cX1_pool 34 = .ok (.goto (-32), 3) := by decide +kernel
theorem dX1_pool_37 : decode cX1_pool 37 = .ok (.return_, 1) := by decide +kernel
theorem dX1_poolOne_0 : decode cX1_poolOne 0 = .ok (.bipush 7, 2) := by decide +kernel
theorem dX1_poolOne_2 : decode cX1_poolOne 2 = .ok (.istore_n 2, 1) := by decide +kernel
theorem dX1_poolOne_3 : decode cX1_poolOne 3 = .ok (.iload_n 2, 1) := by decide +kernel
theorem dX1_poolOne_4 : decode cX1_poolOne 4 = .ok (.ifCond .le 52, 3) := by decide +kernel
theorem dX1_poolOne_7 : decode cX1_poolOne 7 = .ok (.iload_n 1, 1) := by decide +kernel
theorem dX1_poolOne_8 : decode cX1_poolOne 8 = .ok (.istore_n 3, 1) := by decide +kernel
theorem dX1_poolOne_9 : decode cX1_poolOne 9 = .ok (.iload_n 3, 1) := by decide +kernel
theorem dX1_poolOne_10 : decode cX1_poolOne 10 = .ok (.bipush 71, 2) := by decide +kernel
theorem dX1_poolOne_12 : decode cX1_poolOne 12 = .ok (.if_icmp .ge 38, 3) := by decide +kernel
theorem dX1_poolOne_15 : decode cX1_poolOne 15 = .ok (.aload_n 0, 1) := by decide +kernel
theorem dX1_poolOne_16 : decode cX1_poolOne 16 = .ok (.getfield 11, 3) := by decide +kernel
theorem dX1_poolOne_19 : decode cX1_poolOne 19 = .ok (.iload_n 2, 1) := by decide +kernel
theorem dX1_poolOne_20 : decode cX1_poolOne 20 = .ok (.bipush 71, 2) := by decide +kernel
theorem dX1_poolOne_22 : decode cX1_poolOne 22 = .ok (.imul, 1) := by decide +kernel
theorem dX1_poolOne_23 : decode cX1_poolOne 23 = .ok (.iload_n 3, 1) := by decide +kernel
theorem dX1_poolOne_24 : decode cX1_poolOne 24 = .ok (.iadd, 1) := by decide +kernel
theorem dX1_poolOne_25 : decode cX1_poolOne 25 = .ok (.dup2, 1) := by decide +kernel
theorem dX1_poolOne_26 : decode cX1_poolOne 26 = .ok (.iaload, 1) := by decide +kernel
theorem dX1_poolOne_27 : decode cX1_poolOne 27 = .ok (.aload_n 0, 1) := by decide +kernel
theorem dX1_poolOne_28 : decode cX1_poolOne 28 = .ok (.getfield 11, 3) := by decide +kernel
theorem dX1_poolOne_31 : decode cX1_poolOne 31 = .ok (.iload_n 2, 1) := by decide +kernel
theorem dX1_poolOne_32 : decode cX1_poolOne 32 = .ok (.iconst 1, 1) := by decide +kernel
theorem dX1_poolOne_33 : decode cX1_poolOne 33 = .ok (.isub, 1) := by decide +kernel
theorem dX1_poolOne_34 : decode cX1_poolOne 34 = .ok (.bipush 71, 2) := by decide +kernel
theorem dX1_poolOne_36 : decode cX1_poolOne 36 = .ok (.imul, 1) := by decide +kernel
theorem dX1_poolOne_37 : decode cX1_poolOne 37 = .ok (.iload_n 3, 1) := by decide +kernel
theorem dX1_poolOne_38 : decode cX1_poolOne 38 = .ok (.iadd, 1) := by decide +kernel
theorem dX1_poolOne_39 : decode cX1_poolOne 39 = .ok (.iload_n 1, 1) := by decide +kernel
theorem dX1_poolOne_40 : decode cX1_poolOne 40 = .ok (.isub, 1) := by decide +kernel
theorem dX1_poolOne_41 : decode cX1_poolOne 41 = .ok (.iaload, 1) := by decide +kernel
theorem dX1_poolOne_42 : decode cX1_poolOne 42 = .ok (.iadd, 1) := by decide +kernel
theorem dX1_poolOne_43 : decode cX1_poolOne 43 = .ok (.iastore, 1) := by decide +kernel
theorem dX1_poolOne_44 : decode cX1_poolOne 44 = .ok (.iinc 3 1, 3) := by decide +kernel
theorem dX1_poolOne_47 : decode cX1_poolOne 47 = .ok (.goto (-38), 3) := by decide +kernel
theorem dX1_poolOne_50 : decode cX1_poolOne 50 = .ok (.iinc 2 (-1), 3) := by decide +kernel
theorem dX1_poolOne_53 : decode cX1_poolOne 53 = .ok (.goto (-50), 3) := by decide +kernel
theorem dX1_poolOne_56 : decode cX1_poolOne 56 = .ok (.aload_n 0, 1) := by decide +kernel
theorem dX1_poolOne_57 : decode cX1_poolOne 57 = .ok (.dup, 1) := by decide +kernel
theorem dX1_poolOne_58 : decode cX1_poolOne 58 = .ok (.getfield 21, 3) := by decide +kernel
theorem dX1_poolOne_61 : decode cX1_poolOne 61 = .ok (.iconst 1, 1) := by decide +kernel
theorem dX1_poolOne_62 : decode cX1_poolOne 62 = .ok (.iadd, 1) := by decide +kernel
theorem dX1_poolOne_63 : decode cX1_poolOne 63 = .ok (.putfield 21, 3) := by decide +kernel
theorem dX1_poolOne_66 : decode cX1_poolOne 66 = .ok (.aload_n 0, 1) := by decide +kernel
theorem dX1_poolOne_67 : decode cX1_poolOne 67 = .ok (.dup, 1) := by decide +kernel
theorem dX1_poolOne_68 : decode cX1_poolOne 68 = .ok (.getfield 25, 3) := by decide +kernel
theorem dX1_poolOne_71 : decode cX1_poolOne 71 = .ok (.iload_n 1, 1) := by decide +kernel
theorem dX1_poolOne_72 : decode cX1_poolOne 72 = .ok (.iadd, 1) := by decide +kernel
theorem dX1_poolOne_73 : decode cX1_poolOne 73 = .ok (.putfield 25, 3) := by decide +kernel
theorem dX1_poolOne_76 : decode cX1_poolOne 76 = .ok (.return_, 1) := by decide +kernel
theorem dX1_asFarApart_0 : decode cX1_asFarApart 0 = .ok (.aload_n 1, 1) := by decide +kernel
theorem dX1_asFarApart_1 : decode cX1_asFarApart 1 = .ok (.getfield 37, 3) := by decide +kernel
theorem dX1_asFarApart_4 : decode cX1_asFarApart 4 = .ok (.bipush 7, 2) := by decide +kernel
theorem dX1_asFarApart_6 : decode cX1_asFarApart 6 = .ok (.if_icmp .le 5, 3) := by decide +kernel
theorem dX1_asFarApart_9 : decode cX1_asFarApart 9 = .ok (.iconst 0, 1) := by decide +kernel
theorem dX1_asFarApart_10 : decode cX1_asFarApart 10 = .ok (.ireturn, 1) := by decide +kernel
theorem dX1_asFarApart_11 : decode cX1_asFarApart 11 = .ok (.aload_n 0, 1) := by decide +kernel
theorem dX1_asFarApart_12 : decode cX1_asFarApart 12 = .ok (.aload_n 1, 1) := by decide +kernel
theorem dX1_asFarApart_13 : decode cX1_asFarApart 13 = .ok (.getfield 37, 3) := by decide +kernel
theorem dX1_asFarApart_16 : decode cX1_asFarApart 16 = .ok (.aload_n 1, 1) := by decide +kernel
theorem dX1_asFarApart_17 : decode cX1_asFarApart 17 = .ok (.getfield 40, 3) := by decide +kernel
theorem dX1_asFarApart_20 : decode cX1_asFarApart 20 = .ok (.invokevirtual 43, 3) := by decide +kernel
theorem dX1_asFarApart_23 : decode cX1_asFarApart 23 = .ok (.istore_n 2, 1) := by decide +kernel
theorem dX1_asFarApart_24 : decode cX1_asFarApart 24 = .ok (.iconst 0, 1) := by decide +kernel
theorem dX1_asFarApart_25 : decode cX1_asFarApart 25 = .ok (.istore_n 3, 1) := by decide +kernel
theorem dX1_asFarApart_26 : decode cX1_asFarApart 26 = .ok (.iconst 0, 1) := by decide +kernel
theorem dX1_asFarApart_27 : decode cX1_asFarApart 27 = .ok (.istore 4, 2) := by decide +kernel
theorem dX1_asFarApart_29 : decode cX1_asFarApart 29 = .ok (.iconst 0, 1) := by decide +kernel
theorem dX1_asFarApart_30 : decode cX1_asFarApart 30 = .ok (.istore 5, 2) := by decide +kernel
theorem dX1_asFarApart_32 : decode cX1_asFarApart 32 = .ok (.iload 5, 2) := by decide +kernel
theorem dX1_asFarApart_34 : decode cX1_asFarApart 34 = .ok (.bipush 71, 2) := by decide +kernel
theorem dX1_asFarApart_36 : decode cX1_asFarApart 36 = .ok (.if_icmp .ge 56, 3) := by decide +kernel
theorem dX1_asFarApart_39 : decode cX1_asFarApart 39 = .ok (.aload_n 0, 1) := by decide +kernel
theorem dX1_asFarApart_40 : decode cX1_asFarApart 40 = .ok (.getfield 11, 3) := by decide +kernel
theorem dX1_asFarApart_43 : decode cX1_asFarApart 43 = .ok (.aload_n 1, 1) := by decide +kernel
theorem dX1_asFarApart_44 : decode cX1_asFarApart 44 = .ok (.getfield 37, 3) := by decide +kernel
theorem dX1_asFarApart_47 : decode cX1_asFarApart 47 = .ok (.bipush 71, 2) := by decide +kernel
theorem dX1_asFarApart_49 : decode cX1_asFarApart 49 = .ok (.imul, 1) := by decide +kernel
theorem dX1_asFarApart_50 : decode cX1_asFarApart 50 = .ok (.iload 5, 2) := by decide +kernel
theorem dX1_asFarApart_52 : decode cX1_asFarApart 52 = .ok (.iadd, 1) := by decide +kernel
theorem dX1_asFarApart_53 : decode cX1_asFarApart 53 = .ok (.iaload, 1) := by decide +kernel
theorem dX1_asFarApart_54 : decode cX1_asFarApart 54 = .ok (.istore 6, 2) := by decide +kernel
theorem dX1_asFarApart_56 : decode cX1_asFarApart 56 = .ok (.iload_n 3, 1) := by decide +kernel
theorem dX1_asFarApart_57 : decode cX1_asFarApart 57 = .ok (.iload 6, 2) := by decide +kernel
theorem dX1_asFarApart_59 : decode cX1_asFarApart 59 = .ok (.iadd, 1) := by decide +kernel
theorem dX1_asFarApart_60 : decode cX1_asFarApart 60 = .ok (.istore_n 3, 1) := by decide +kernel
theorem dX1_asFarApart_61 : decode cX1_asFarApart 61 = .ok (.iload 4, 2) := by decide +kernel
theorem dX1_asFarApart_63 : decode cX1_asFarApart 63 = .ok (.aload_n 0, 1) := by decide +kernel
theorem dX1_asFarApart_64 : decode cX1_asFarApart 64 = .ok (.aload_n 1, 1) := by decide +kernel
theorem dX1_asFarApart_65 : decode cX1_asFarApart 65 = .ok (.getfield 37, 3) := by decide +kernel
theorem dX1_asFarApart_68 : decode cX1_asFarApart 68 = .ok (.iload 5, 2) := by decide +kernel
theorem dX1_asFarApart_70 : decode cX1_asFarApart 70 = .ok (.invokevirtual 43, 3) := by decide +kernel
theorem dX1_asFarApart_73 : decode cX1_asFarApart 73 = .ok (.iload_n 2, 1) := by decide +kernel
theorem dX1_asFarApart_74 : decode cX1_asFarApart 74 = .ok (.if_icmp .lt 8, 3) := by decide +kernel
theorem dX1_asFarApart_77 : decode cX1_asFarApart 77 = .ok (.iload 6, 2) := by decide +kernel
theorem dX1_asFarApart_79 : decode cX1_asFarApart 79 = .ok (.goto 4, 3) := by decide +kernel
theorem dX1_asFarApart_82 : decode cX1_asFarApart 82 = .ok (.iconst 0, 1) := by decide +kernel
theorem dX1_asFarApart_83 : decode cX1_asFarApart 83 = .ok (.iadd, 1) := by decide +kernel
theorem dX1_asFarApart_84 : decode cX1_asFarApart 84 = .ok (.istore 4, 2) := by decide +kernel
theorem dX1_asFarApart_86 : decode cX1_asFarApart 86 = .ok (.iinc 5 1, 3) := by decide +kernel
theorem dX1_asFarApart_89 : decode cX1_asFarApart 89 = .ok (.goto (-57), 3) := by decide +kernel
theorem dX1_asFarApart_92 : decode cX1_asFarApart 92 = .ok (.iload 4, 2) := by decide +kernel
theorem dX1_asFarApart_94 : decode cX1_asFarApart 94 = .ok (.iload_n 3, 1) := by decide +kernel
theorem dX1_asFarApart_95 : decode cX1_asFarApart 95 = .ok (.invokestatic 47, 3) := by decide +kernel
theorem dX1_asFarApart_98 : decode cX1_asFarApart 98 = .ok (.ireturn, 1) := by decide +kernel
theorem dX1_apart_0 : decode cX1_apart 0 = .ok (.iload_n 2, 1) := by decide +kernel
theorem dX1_apart_1 : decode cX1_apart 1 = .ok (.aload_n 0, 1) := by decide +kernel
theorem dX1_apart_2 : decode cX1_apart 2 = .ok (.getfield 21, 3) := by decide +kernel
theorem dX1_apart_5 : decode cX1_apart 5 = .ok (.imul, 1) := by decide +kernel
theorem dX1_apart_6 : decode cX1_apart 6 = .ok (.aload_n 0, 1) := by decide +kernel
theorem dX1_apart_7 : decode cX1_apart 7 = .ok (.getfield 25, 3) := by decide +kernel
theorem dX1_apart_10 : decode cX1_apart 10 = .ok (.iload_n 1, 1) := by decide +kernel
theorem dX1_apart_11 : decode cX1_apart 11 = .ok (.imul, 1) := by decide +kernel
theorem dX1_apart_12 : decode cX1_apart 12 = .ok (.isub, 1) := by decide +kernel
theorem dX1_apart_13 : decode cX1_apart 13 = .ok (.invokestatic 50, 3) := by decide +kernel
theorem dX1_apart_16 : decode cX1_apart 16 = .ok (.ireturn, 1) := by decide +kernel
theorem dX2_init_0 : decode cX2_init 0 = .ok (.aload_n 0, 1) := by decide +kernel
theorem dX2_init_1 : decode cX2_init 1 = .ok (.invokespecial 3, 3) := by decide +kernel
theorem dX2_init_4 : decode cX2_init 4 = .ok (.aload_n 0, 1) := by decide +kernel
theorem dX2_init_5 : decode cX2_init 5 = .ok (.bipush 60, 2) := by decide +kernel
theorem dX2_init_7 : decode cX2_init 7 = .ok (.newarray .int, 2) := by decide +kernel
theorem dX2_init_9 : decode cX2_init 9 = .ok (.putfield 11, 3) := by decide +kernel
theorem dX2_init_12 : decode cX2_init 12 = .ok (.aload_n 0, 1) := by decide +kernel
theorem dX2_init_13 : decode cX2_init 13 = .ok (.bipush 60, 2) := by decide +kernel
theorem dX2_init_15 : decode cX2_init 15 = .ok (.newarray .int, 2) := by decide +kernel
theorem dX2_init_17 : decode cX2_init 17 = .ok (.putfield 15, 3) := by decide +kernel
theorem dX2_init_20 : decode cX2_init 20 = .ok (.aload_n 0, 1) := by decide +kernel
theorem dX2_init_21 : decode cX2_init 21 = .ok (.bipush 60, 2) := by decide +kernel
theorem dX2_init_23 : decode cX2_init 23 = .ok (.newarray .int, 2) := by decide +kernel
theorem dX2_init_25 : decode cX2_init 25 = .ok (.putfield 18, 3) := by decide +kernel
theorem dX2_init_28 : decode cX2_init 28 = .ok (.aload_n 0, 1) := by decide +kernel
theorem dX2_init_29 : decode cX2_init 29 = .ok (.bipush 60, 2) := by decide +kernel
theorem dX2_init_31 : decode cX2_init 31 = .ok (.newarray .int, 2) := by decide +kernel
theorem dX2_init_33 : decode cX2_init 33 = .ok (.putfield 21, 3) := by decide +kernel
theorem dX2_init_36 : decode cX2_init 36 = .ok (.aload_n 0, 1) := by decide +kernel
theorem dX2_init_37 : decode cX2_init 37 = .ok (.sipush 180, 3) := by decide +kernel
theorem dX2_init_40 : decode cX2_init 40 = .ok (.newarray .int, 2) := by decide +kernel
theorem dX2_init_42 : decode cX2_init 42 = .ok (.putfield 24, 3) := by decide +kernel
theorem dX2_init_45 : decode cX2_init 45 = .ok (.aload_n 0, 1) := by decide +kernel
theorem dX2_init_46 : decode cX2_init 46 = .ok (.bipush 60, 2) := by decide +kernel
theorem dX2_init_48 : decode cX2_init 48 = .ok (.newarray .int, 2) := by decide +kernel
theorem dX2_init_50 : decode cX2_init 50 = .ok (.putfield 27, 3) := by decide +kernel
theorem dX2_init_53 : decode cX2_init 53 = .ok (.aload_n 0, 1) := by decide +kernel
theorem dX2_init_54 : decode cX2_init 54 = .ok (.bipush 60, 2) := by decide +kernel
theorem dX2_init_56 : decode cX2_init 56 = .ok (.newarray .int, 2) := by decide +kernel
theorem dX2_init_58 : decode cX2_init 58 = .ok (.putfield 30, 3) := by decide +kernel
theorem dX2_init_61 : decode cX2_init 61 = .ok (.aload_n 0, 1) := by decide +kernel
theorem dX2_init_62 : decode cX2_init 62 = .ok (.iconst (-1), 1) := by decide +kernel
theorem dX2_init_63 : decode cX2_init 63 = .ok (.putfield 33, 3) := by decide +kernel
theorem dX2_init_66 : decode cX2_init 66 = .ok (.aload_n 0, 1) := by decide +kernel
theorem dX2_init_67 : decode cX2_init 67 = .ok (.iconst 0, 1) := by decide +kernel
theorem dX2_init_68 : decode cX2_init 68 = .ok (.putfield 37, 3) := by decide +kernel
theorem dX2_init_71 : decode cX2_init 71 = .ok (.aload_n 0, 1) := by decide +kernel
theorem dX2_init_72 : decode cX2_init 72 = .ok (.iconst (-1), 1) := by decide +kernel
theorem dX2_init_73 : decode cX2_init 73 = .ok (.putfield 40, 3) := by decide +kernel
theorem dX2_init_76 : decode cX2_init 76 = .ok (.return_, 1) := by decide +kernel
theorem dX2_add_0 : decode cX2_add 0 = .ok (.aload_n 0, 1) := by decide +kernel
theorem dX2_add_1 : decode cX2_add 1 = .ok (.getfield 43, 3) := by decide +kernel
theorem dX2_add_4 : decode cX2_add 4 = .ok (.bipush 60, 2) := by decide +kernel
theorem dX2_add_6 : decode cX2_add 6 = .ok (.if_icmp .lt 6, 3) := by decide +kernel
theorem dX2_add_9 : decode cX2_add 9 = .ok (.bipush (-4), 2) := by decide +kernel
theorem dX2_add_11 : decode cX2_add 11 = .ok (.ireturn, 1) := by decide +kernel
theorem dX2_add_12 : decode cX2_add 12 = .ok (.aload_n 0, 1) := by decide +kernel
theorem dX2_add_13 : decode cX2_add 13 = .ok (.getfield 33, 3) := by decide +kernel
theorem dX2_add_16 : decode cX2_add 16 = .ok (.iconst (-1), 1) := by decide +kernel
theorem dX2_add_17 : decode cX2_add 17 = .ok (.if_icmp .ne 19, 3) := by decide +kernel
theorem dX2_add_20 : decode cX2_add 20 = .ok (.aload_n 0, 1) := by decide +kernel
theorem dX2_add_21 : decode cX2_add 21 = .ok (.iload_n 1, 1) := by decide +kernel
theorem dX2_add_22 : decode cX2_add 22 = .ok (.invokevirtual 46, 3) := by decide +kernel
theorem dX2_add_25 : decode cX2_add 25 = .ok (.ifCond .ne 11, 3) := by decide +kernel
theorem dX2_add_28 : decode cX2_add 28 = .ok (.aload_n 0, 1) := by decide +kernel
theorem dX2_add_29 : decode cX2_add 29 = .ok (.aload_n 0, 1) := by decide +kernel
theorem dX2_add_30 : decode cX2_add 30 = .ok (.getfield 43, 3) := by decide +kernel
theorem dX2_add_33 : decode cX2_add 33 = .ok (.putfield 33, 3) := by decide +kernel
theorem dX2_add_36 : decode cX2_add 36 = .ok (.aload_n 0, 1) := by decide +kernel
theorem dX2_add_37 : decode cX2_add 37 = .ok (.dup, 1) := by decide +kernel
theorem dX2_add_38 : decode cX2_add 38 = .ok (.getfield 43, 3) := by decide +kernel
theorem dX2_add_41 : decode cX2_add 41 = .ok (.iconst 1, 1) := by decide +kernel
theorem dX2_add_42 : decode cX2_add 42 = .ok (.iadd, 1) := by decide +kernel
theorem dX2_add_43 : decode cX2_add 43 = .ok (.putfield 43, 3) := by decide +kernel
theorem dX2_add_46 : decode cX2_add 46 = .ok (.aload_n 0, 1) := by decide +kernel
theorem dX2_add_47 : decode cX2_add 47 = .ok (.getfield 43, 3) := by decide +kernel
theorem dX2_add_50 : decode cX2_add 50 = .ok (.ireturn, 1) := by decide +kernel
theorem dX2_clear_0 : decode cX2_clear 0 = .ok (.aload_n 0, 1) := by decide +kernel
theorem dX2_clear_1 : decode cX2_clear 1 = .ok (.getfield 43, 3) := by decide +kernel
theorem dX2_clear_4 : decode cX2_clear 4 = .ok (.istore_n 1, 1) := by decide +kernel
theorem dX2_clear_5 : decode cX2_clear 5 = .ok (.aload_n 0, 1) := by decide +kernel
theorem dX2_clear_6 : decode cX2_clear 6 = .ok (.iconst 0, 1) := by decide +kernel
theorem dX2_clear_7 : decode cX2_clear 7 = .ok (.putfield 43, 3) := by decide +kernel
theorem dX2_clear_10 : decode cX2_clear 10 = .ok (.aload_n 0, 1) := by decide +kernel
theorem dX2_clear_11 : decode cX2_clear 11 = .ok (.iconst (-1), 1) := by decide +kernel
theorem dX2_clear_12 : decode cX2_clear 12 = .ok (.putfield 33, 3) := by decide +kernel
theorem dX2_clear_15 : decode cX2_clear 15 = .ok (.aload_n 0, 1) := by decide +kernel
theorem dX2_clear_16 : decode cX2_clear 16 = .ok (.iconst 0, 1) := by decide +kernel
theorem dX2_clear_17 : decode cX2_clear 17 = .ok (.putfield 37, 3) := by decide +kernel
theorem dX2_clear_20 : decode cX2_clear 20 = .ok (.aload_n 0, 1) := by decide +kernel
theorem dX2_clear_21 : decode cX2_clear 21 = .ok (.iconst (-1), 1) := by decide +kernel
theorem dX2_clear_22 : decode cX2_clear 22 = .ok (.putfield 40, 3) := by decide +kernel
theorem dX2_clear_25 : decode cX2_clear 25 = .ok (.aload_n 0, 1) := by decide +kernel
theorem dX2_clear_26 : decode cX2_clear 26 = .ok (.iconst 0, 1) := by decide +kernel
theorem dX2_clear_27 : decode cX2_clear 27 = .ok (.putfield 50, 3) := by decide +kernel
theorem dX2_clear_30 : decode cX2_clear 30 = .ok (.aload_n 0, 1) := by decide +kernel
theorem dX2_clear_31 : decode cX2_clear 31 = .ok (.iconst 0, 1) := by decide +kernel
theorem dX2_clear_32 : decode cX2_clear 32 = .ok (.putfield 53, 3) := by decide +kernel
theorem dX2_clear_35 : decode cX2_clear 35 = .ok (.iload_n 1, 1) := by decide +kernel
theorem dX2_clear_36 : decode cX2_clear 36 = .ok (.ireturn, 1) := by decide +kernel
theorem dX2_faultPlace_0 : decode cX2_faultPlace 0 = .ok (.aload_n 0, 1) := by decide +kernel
theorem dX2_faultPlace_1 : decode cX2_faultPlace 1 = .ok (.getfield 33, 3) := by decide +kernel
theorem dX2_faultPlace_4 : decode cX2_faultPlace 4 = .ok (.iconst (-1), 1) := by decide +kernel
theorem dX2_faultPlace_5 : decode cX2_faultPlace 5 = .ok (.if_icmp .eq 8, 3) := by decide +kernel
theorem dX2_faultPlace_8 : decode cX2_faultPlace 8 = .ok (.aload_n 0, 1) := by decide +kernel
theorem dX2_faultPlace_9 : decode cX2_faultPlace 9 = .ok (.getfield 33, 3) := by decide +kernel
theorem dX2_faultPlace_12 : decode cX2_faultPlace 12 = .ok (.ireturn, 1) := by decide +kernel
theorem dX2_faultPlace_13 : decode cX2_faultPlace 13 = .ok (.aload_n 0, 1) := by decide +kernel
theorem dX2_faultPlace_14 : decode cX2_faultPlace 14 = .ok (.getfield 37, 3) := by decide +kernel
theorem dX2_faultPlace_17 : decode cX2_faultPlace 17 = .ok (.iconst 4, 1) := by decide +kernel
theorem dX2_faultPlace_18 : decode cX2_faultPlace 18 = .ok (.if_icmp .ne 15, 3) := by decide +kernel
theorem dX2_faultPlace_21 : decode cX2_faultPlace 21 = .ok (.aload_n 0, 1) := by decide +kernel
theorem dX2_faultPlace_22 : decode cX2_faultPlace 22 = .ok (.getfield 40, 3) := by decide +kernel
theorem dX2_faultPlace_25 : decode cX2_faultPlace 25 = .ok (.iconst (-1), 1) := by decide +kernel
theorem dX2_faultPlace_26 : decode cX2_faultPlace 26 = .ok (.if_icmp .ne 7, 3) := by decide +kernel
theorem dX2_faultPlace_29 : decode cX2_faultPlace 29 = .ok (.iconst (-1), 1) := by decide +kernel
theorem dX2_faultPlace_30 : decode cX2_faultPlace 30 = .ok (.goto 7, 3) := by decide +kernel
theorem dX2_faultPlace_33 : decode cX2_faultPlace 33 = .ok (.aload_n 0, 1) := by decide +kernel
theorem dX2_faultPlace_34 : decode cX2_faultPlace 34 = .ok (.getfield 43, 3) := by decide +kernel
theorem dX2_faultPlace_37 : decode cX2_faultPlace 37 = .ok (.ireturn, 1) := by decide +kernel
theorem dX2_goesOn_0 : decode cX2_goesOn 0 = .ok (.aload_n 0, 1) := by decide +kernel
theorem dX2_goesOn_1 : decode cX2_goesOn 1 = .ok (.getfield 37, 3) := by decide +kernel
theorem dX2_goesOn_4 : decode cX2_goesOn 4 = .ok (.tableswitch 60 0 3 #[32, 38, 44, 52], 32) := by decide +kernel
theorem dX2_goesOn_36 : decode cX2_goesOn 36 = .ok (.aload_n 0, 1) := by decide +kernel
theorem dX2_goesOn_37 : decode cX2_goesOn 37 = .ok (.iload_n 1, 1) := by decide +kernel
theorem dX2_goesOn_38 : decode cX2_goesOn 38 = .ok (.invokevirtual 56, 3) := by decide +kernel
theorem dX2_goesOn_41 : decode cX2_goesOn 41 = .ok (.ireturn, 1) := by decide +kernel
theorem dX2_goesOn_42 : decode cX2_goesOn 42 = .ok (.aload_n 0, 1) := by decide +kernel
theorem dX2_goesOn_43 : decode cX2_goesOn 43 = .ok (.iload_n 1, 1) := by decide +kernel
theorem dX2_goesOn_44 : decode cX2_goesOn 44 = .ok (.invokevirtual 59, 3) := by decide +kernel
theorem dX2_goesOn_47 : decode cX2_goesOn 47 = .ok (.ireturn, 1) := by decide +kernel
theorem dX2_goesOn_48 : decode cX2_goesOn 48 = .ok (.aload_n 0, 1) := by decide +kernel
theorem dX2_goesOn_49 : decode cX2_goesOn 49 = .ok (.iload_n 1, 1) := by decide +kernel
theorem dX2_goesOn_50 : decode cX2_goesOn 50 = .ok (.iconst 1, 1) := by decide +kernel
theorem dX2_goesOn_51 : decode cX2_goesOn 51 = .ok (.iconst 3, 1) := by decide +kernel
theorem dX2_goesOn_52 : decode cX2_goesOn 52 = .ok (.invokevirtual 62, 3) := by decide +kernel
theorem dX2_goesOn_55 : decode cX2_goesOn 55 = .ok (.ireturn, 1) := by decide +kernel
theorem dX2_goesOn_56 : decode cX2_goesOn 56 = .ok (.aload_n 0, 1) := by decide +kernel
theorem dX2_goesOn_57 : decode cX2_goesOn 57 = .ok (.iload_n 1, 1) := by decide +kernel
theorem dX2_goesOn_58 : decode cX2_goesOn 58 = .ok (.iconst 2, 1) := by decide +kernel
theorem dX2_goesOn_59 : decode cX2_goesOn 59 = .ok (.iconst 4, 1) := by decide +kernel
theorem dX2_goesOn_60 : decode cX2_goesOn 60 = .ok (.invokevirtual 62, 3) := by decide +kernel
theorem dX2_goesOn_63 : decode cX2_goesOn 63 = .ok (.ireturn, 1) := by decide +kernel
theorem dX2_goesOn_64 : decode cX2_goesOn 64 = .ok (.aload_n 0, 1) := by decide +kernel
theorem dX2_goesOn_65 : decode cX2_goesOn 65 = .ok (.iload_n 1, 1) := by decide +kernel
theorem dX2_goesOn_66 : decode cX2_goesOn 66 = .ok (.invokevirtual 66, 3) := by decide +kernel
theorem dX2_goesOn_69 : decode cX2_goesOn 69 = .ok (.ireturn, 1) := by decide +kernel
theorem dX2_beginsNode_0 : decode cX2_beginsNode 0 = .ok (.iload_n 1, 1) := by decide +kernel
theorem dX2_beginsNode_1 : decode cX2_beginsNode 1 = .ok (.invokestatic 69, 3) := by decide +kernel
theorem dX2_beginsNode_4 : decode cX2_beginsNode 4 = .ok (.istore_n 2, 1) := by decide +kernel
theorem dX2_beginsNode_5 : decode cX2_beginsNode 5 = .ok (.iload_n 2, 1) := by decide +kernel
theorem dX2_beginsNode_6 : decode cX2_beginsNode 6 = .ok (.iconst (-1), 1) := by decide +kernel
theorem dX2_beginsNode_7 : decode cX2_beginsNode 7 = .ok (.if_icmp .ne 12, 3) := by decide +kernel
theorem dX2_beginsNode_10 : decode cX2_beginsNode 10 = .ok (.iload_n 1, 1) := by decide +kernel
theorem dX2_beginsNode_11 : decode cX2_beginsNode 11 = .ok (.invokestatic 73, 3) := by decide +kernel
theorem dX2_beginsNode_14 : decode cX2_beginsNode 14 = .ok (.ifCond .ne 5, 3) := by decide +kernel
theorem dX2_beginsNode_17 : decode cX2_beginsNode 17 = .ok (.iconst 0, 1) := by decide +kernel
theorem dX2_beginsNode_18 : decode cX2_beginsNode 18 = .ok (.ireturn, 1) := by decide +kernel
theorem dX2_beginsNode_19 : decode cX2_beginsNode 19 = .ok (.aload_n 0, 1) := by decide +kernel
theorem dX2_beginsNode_20 : decode cX2_beginsNode 20 = .ok (.iload_n 2, 1) := by decide +kernel
theorem dX2_beginsNode_21 : decode cX2_beginsNode 21 = .ok (.invokevirtual 76, 3) := by decide +kernel
theorem dX2_beginsNode_24 : decode cX2_beginsNode 24 = .ok (.iload_n 2, 1) := by decide +kernel
theorem dX2_beginsNode_25 : decode cX2_beginsNode 25 = .ok (.iconst (-1), 1) := by decide +kernel
theorem dX2_beginsNode_26 : decode cX2_beginsNode 26 = .ok (.if_icmp .ne 21, 3) := by decide +kernel
theorem dX2_beginsNode_29 : decode cX2_beginsNode 29 = .ok (.aload_n 0, 1) := by decide +kernel
theorem dX2_beginsNode_30 : decode cX2_beginsNode 30 = .ok (.dup, 1) := by decide +kernel
theorem dX2_beginsNode_31 : decode cX2_beginsNode 31 = .ok (.getfield 53, 3) := by decide +kernel
theorem dX2_beginsNode_34 : decode cX2_beginsNode 34 = .ok (.iconst 1, 1) := by decide +kernel
theorem dX2_beginsNode_35 : decode cX2_beginsNode 35 = .ok (.iadd, 1) := by decide +kernel
theorem dX2_beginsNode_36 : decode cX2_beginsNode 36 = .ok (.putfield 53, 3) := by decide +kernel
theorem dX2_beginsNode_39 : decode cX2_beginsNode 39 = .ok (.aload_n 0, 1) := by decide +kernel
theorem dX2_beginsNode_40 : decode cX2_beginsNode 40 = .ok (.iload_n 1, 1) := by decide +kernel
theorem dX2_beginsNode_41 : decode cX2_beginsNode 41 = .ok (.iconst 0, 1) := by decide +kernel
theorem dX2_beginsNode_42 : decode cX2_beginsNode 42 = .ok (.iconst 2, 1) := by decide +kernel
theorem dX2_beginsNode_43 : decode cX2_beginsNode 43 = .ok (.invokevirtual 62, 3) := by decide +kernel
theorem dX2_beginsNode_46 : decode cX2_beginsNode 46 = .ok (.ireturn, 1) := by decide +kernel
theorem dX2_beginsNode_47 : decode cX2_beginsNode 47 = .ok (.aload_n 0, 1) := by decide +kernel
theorem dX2_beginsNode_48 : decode cX2_beginsNode 48 = .ok (.iconst 1, 1) := by decide +kernel
theorem dX2_beginsNode_49 : decode cX2_beginsNode 49 = .ok (.putfield 37, 3) := by decide +kernel
theorem dX2_beginsNode_52 : decode cX2_beginsNode 52 = .ok (.iconst 1, 1) := by decide +kernel
theorem dX2_beginsNode_53 : decode cX2_beginsNode 53 = .ok (.ireturn, 1) := by decide +kernel
theorem dX2_startNode_0 : decode cX2_startNode 0 = .ok (.aload_n 0, 1) := by decide +kernel
theorem dX2_startNode_1 : decode cX2_startNode 1 = .ok (.getfield 11, 3) := by decide +kernel
theorem dX2_startNode_4 : decode cX2_startNode 4 = .ok (.aload_n 0, 1) := by decide +kernel
theorem dX2_startNode_5 : decode cX2_startNode 5 = .ok (.getfield 50, 3) := by decide +kernel
theorem dX2_startNode_8 : decode cX2_startNode 8 = .ok (.iload_n 1, 1) := by decide +kernel
theorem dX2_startNode_9 : decode cX2_startNode 9 = .ok (.iastore, 1) := by decide +kernel
theorem dX2_startNode_10 : decode cX2_startNode 10 = .ok (.aload_n 0, 1) := by decide +kernel
theorem dX2_startNode_11 : decode cX2_startNode 11 = .ok (.getfield 15, 3) := by decide +kernel
theorem dX2_startNode_14 : decode cX2_startNode 14 = .ok (.aload_n 0, 1) := by decide +kernel
theorem dX2_startNode_15 : decode cX2_startNode 15 = .ok (.getfield 50, 3) := by decide +kernel
theorem dX2_startNode_18 : decode cX2_startNode 18 = .ok (.aload_n 0, 1) := by decide +kernel
theorem dX2_startNode_19 : decode cX2_startNode 19 = .ok (.getfield 40, 3) := by decide +kernel
theorem dX2_startNode_22 : decode cX2_startNode 22 = .ok (.iastore, 1) := by decide +kernel
theorem dX2_startNode_23 : decode cX2_startNode 23 = .ok (.aload_n 0, 1) := by decide +kernel
theorem dX2_startNode_24 : decode cX2_startNode 24 = .ok (.getfield 21, 3) := by decide +kernel
theorem dX2_startNode_27 : decode cX2_startNode 27 = .ok (.aload_n 0, 1) := by decide +kernel
theorem dX2_startNode_28 : decode cX2_startNode 28 = .ok (.getfield 50, 3) := by decide +kernel
theorem dX2_startNode_31 : decode cX2_startNode 31 = .ok (.iconst 0, 1) := by decide +kernel
theorem dX2_startNode_32 : decode cX2_startNode 32 = .ok (.iastore, 1) := by decide +kernel
theorem dX2_startNode_33 : decode cX2_startNode 33 = .ok (.aload_n 0, 1) := by decide +kernel
theorem dX2_startNode_34 : decode cX2_startNode 34 = .ok (.getfield 18, 3) := by decide +kernel
theorem dX2_startNode_37 : decode cX2_startNode 37 = .ok (.aload_n 0, 1) := by decide +kernel
theorem dX2_startNode_38 : decode cX2_startNode 38 = .ok (.getfield 50, 3) := by decide +kernel
theorem dX2_startNode_41 : decode cX2_startNode 41 = .ok (.iconst 0, 1) := by decide +kernel
theorem dX2_startNode_42 : decode cX2_startNode 42 = .ok (.iastore, 1) := by decide +kernel
theorem dX2_startNode_43 : decode cX2_startNode 43 = .ok (.aload_n 0, 1) := by decide +kernel
theorem dX2_startNode_44 : decode cX2_startNode 44 = .ok (.getfield 40, 3) := by decide +kernel
theorem dX2_startNode_47 : decode cX2_startNode 47 = .ok (.iconst (-1), 1) := by decide +kernel
theorem dX2_startNode_48 : decode cX2_startNode 48 = .ok (.if_icmp .eq 34, 3) := by decide +kernel
theorem dX2_startNode_51 : decode cX2_startNode 51 = .ok (.aload_n 0, 1) := by decide +kernel
theorem dX2_startNode_52 : decode cX2_startNode 52 = .ok (.getfield 18, 3) := by decide +kernel
theorem dX2_startNode_55 : decode cX2_startNode 55 = .ok (.aload_n 0, 1) := by decide +kernel
theorem dX2_startNode_56 : decode cX2_startNode 56 = .ok (.getfield 50, 3) := by decide +kernel
theorem dX2_startNode_59 : decode cX2_startNode 59 = .ok (.aload_n 0, 1) := by decide +kernel
theorem dX2_startNode_60 : decode cX2_startNode 60 = .ok (.getfield 21, 3) := by decide +kernel
theorem dX2_startNode_63 : decode cX2_startNode 63 = .ok (.aload_n 0, 1) := by decide +kernel
theorem dX2_startNode_64 : decode cX2_startNode 64 = .ok (.getfield 40, 3) := by decide +kernel
theorem dX2_startNode_67 : decode cX2_startNode 67 = .ok (.iaload, 1) := by decide +kernel
theorem dX2_startNode_68 : decode cX2_startNode 68 = .ok (.iastore, 1) := by decide +kernel
theorem dX2_startNode_69 : decode cX2_startNode 69 = .ok (.aload_n 0, 1) := by decide +kernel
theorem dX2_startNode_70 : decode cX2_startNode 70 = .ok (.getfield 21, 3) := by decide +kernel
theorem dX2_startNode_73 : decode cX2_startNode 73 = .ok (.aload_n 0, 1) := by decide +kernel
theorem dX2_startNode_74 : decode cX2_startNode 74 = .ok (.getfield 40, 3) := by decide +kernel
theorem dX2_startNode_77 : decode cX2_startNode 77 = .ok (.dup2, 1) := by decide +kernel
theorem dX2_startNode_78 : decode cX2_startNode 78 = .ok (.iaload, 1) := by decide +kernel
theorem dX2_startNode_79 : decode cX2_startNode 79 = .ok (.iconst 1, 1) := by decide +kernel
theorem dX2_startNode_80 : decode cX2_startNode 80 = .ok (.iadd, 1) := by decide +kernel
theorem dX2_startNode_81 : decode cX2_startNode 81 = .ok (.iastore, 1) := by decide +kernel
theorem dX2_startNode_82 : decode cX2_startNode 82 = .ok (.aload_n 0, 1) := by decide +kernel
theorem dX2_startNode_83 : decode cX2_startNode 83 = .ok (.dup, 1) := by decide +kernel
theorem dX2_startNode_84 : decode cX2_startNode 84 = .ok (.getfield 50, 3) := by decide +kernel
theorem dX2_startNode_87 : decode cX2_startNode 87 = .ok (.iconst 1, 1) := by decide +kernel
theorem dX2_startNode_88 : decode cX2_startNode 88 = .ok (.iadd, 1) := by decide +kernel
theorem dX2_startNode_89 : decode cX2_startNode 89 = .ok (.putfield 50, 3) := by decide +kernel
theorem dX2_startNode_92 : decode cX2_startNode 92 = .ok (.return_, 1) := by decide +kernel
theorem dX2_opens_0 : decode cX2_opens 0 = .ok (.iload_n 1, 1) := by decide +kernel
theorem dX2_opens_1 : decode cX2_opens 1 = .ok (.bipush 40, 2) := by decide +kernel
theorem dX2_opens_3 : decode cX2_opens 3 = .ok (.if_icmp .eq 5, 3) := by decide +kernel
theorem dX2_opens_6 : decode cX2_opens 6 = .ok (.iconst 0, 1) := by decide +kernel
theorem dX2_opens_7 : decode cX2_opens 7 = .ok (.ireturn, 1) := by decide +kernel
theorem dX2_opens_8 : decode cX2_opens 8 = .ok (.aload_n 0, 1) := by decide +kernel
theorem dX2_opens_9 : decode cX2_opens 9 = .ok (.aload_n 0, 1) := by decide +kernel
theorem dX2_opens_10 : decode cX2_opens 10 = .ok (.getfield 50, 3) := by decide +kernel
theorem dX2_opens_13 : decode cX2_opens 13 = .ok (.iconst 1, 1) := by decide +kernel
theorem dX2_opens_14 : decode cX2_opens 14 = .ok (.isub, 1) := by decide +kernel
theorem dX2_opens_15 : decode cX2_opens 15 = .ok (.putfield 40, 3) := by decide +kernel
theorem dX2_opens_18 : decode cX2_opens 18 = .ok (.aload_n 0, 1) := by decide +kernel
theorem dX2_opens_19 : decode cX2_opens 19 = .ok (.iconst 0, 1) := by decide +kernel
theorem dX2_opens_20 : decode cX2_opens 20 = .ok (.putfield 37, 3) := by decide +kernel
theorem dX2_opens_23 : decode cX2_opens 23 = .ok (.iconst 1, 1) := by decide +kernel
theorem dX2_opens_24 : decode cX2_opens 24 = .ok (.ireturn, 1) := by decide +kernel
theorem dX2_isNextFigure_0 : decode cX2_isNextFigure 0 = .ok (.iload_n 1, 1) := by decide +kernel
theorem dX2_isNextFigure_1 : decode cX2_isNextFigure 1 = .ok (.invokestatic 73, 3) := by decide +kernel
theorem dX2_isNextFigure_4 : decode cX2_isNextFigure 4 = .ok (.ifCond .ne 5, 3) := by decide +kernel
theorem dX2_isNextFigure_7 : decode cX2_isNextFigure 7 = .ok (.iconst 0, 1) := by decide +kernel
theorem dX2_isNextFigure_8 : decode cX2_isNextFigure 8 = .ok (.ireturn, 1) := by decide +kernel
theorem dX2_isNextFigure_9 : decode cX2_isNextFigure 9 = .ok (.aload_n 0, 1) := by decide +kernel
theorem dX2_isNextFigure_10 : decode cX2_isNextFigure 10 = .ok (.getfield 24, 3) := by decide +kernel
theorem dX2_isNextFigure_13 : decode cX2_isNextFigure 13 = .ok (.aload_n 0, 1) := by decide +kernel
theorem dX2_isNextFigure_14 : decode cX2_isNextFigure 14 = .ok (.getfield 50, 3) := by decide +kernel
theorem dX2_isNextFigure_17 : decode cX2_isNextFigure 17 = .ok (.iconst 1, 1) := by decide +kernel
theorem dX2_isNextFigure_18 : decode cX2_isNextFigure 18 = .ok (.isub, 1) := by decide +kernel
theorem dX2_isNextFigure_19 : decode cX2_isNextFigure 19 = .ok (.iconst 3, 1) := by decide +kernel
theorem dX2_isNextFigure_20 : decode cX2_isNextFigure 20 = .ok (.imul, 1) := by decide +kernel
theorem dX2_isNextFigure_21 : decode cX2_isNextFigure 21 = .ok (.iload_n 2, 1) := by decide +kernel
theorem dX2_isNextFigure_22 : decode cX2_isNextFigure 22 = .ok (.iadd, 1) := by decide +kernel
theorem dX2_isNextFigure_23 : decode cX2_isNextFigure 23 = .ok (.iload_n 1, 1) := by decide +kernel
theorem dX2_isNextFigure_24 : decode cX2_isNextFigure 24 = .ok (.bipush 48, 2) := by decide +kernel
theorem dX2_isNextFigure_26 : decode cX2_isNextFigure 26 = .ok (.isub, 1) := by decide +kernel
theorem dX2_isNextFigure_27 : decode cX2_isNextFigure 27 = .ok (.iastore, 1) := by decide +kernel
theorem dX2_isNextFigure_28 : decode cX2_isNextFigure 28 = .ok (.aload_n 0, 1) := by decide +kernel
theorem dX2_isNextFigure_29 : decode cX2_isNextFigure 29 = .ok (.iload_n 3, 1) := by decide +kernel
theorem dX2_isNextFigure_30 : decode cX2_isNextFigure 30 = .ok (.putfield 37, 3) := by decide +kernel
theorem dX2_isNextFigure_33 : decode cX2_isNextFigure 33 = .ok (.iconst 1, 1) := by decide +kernel
theorem dX2_isNextFigure_34 : decode cX2_isNextFigure 34 = .ok (.ireturn, 1) := by decide +kernel
theorem dX2_followsNode_0 : decode cX2_followsNode 0 = .ok (.aload_n 0, 1) := by decide +kernel
theorem dX2_followsNode_1 : decode cX2_followsNode 1 = .ok (.getfield 40, 3) := by decide +kernel
theorem dX2_followsNode_4 : decode cX2_followsNode 4 = .ok (.iconst (-1), 1) := by decide +kernel
theorem dX2_followsNode_5 : decode cX2_followsNode 5 = .ok (.if_icmp .ne 5, 3) := by decide +kernel
theorem dX2_followsNode_8 : decode cX2_followsNode 8 = .ok (.iconst 0, 1) := by decide +kernel
theorem dX2_followsNode_9 : decode cX2_followsNode 9 = .ok (.ireturn, 1) := by decide +kernel
theorem dX2_followsNode_10 : decode cX2_followsNode 10 = .ok (.iload_n 1, 1) := by decide +kernel
theorem dX2_followsNode_11 : decode cX2_followsNode 11 = .ok (.bipush 44, 2) := by decide +kernel
theorem dX2_followsNode_13 : decode cX2_followsNode 13 = .ok (.if_icmp .ne 23, 3) := by decide +kernel
theorem dX2_followsNode_16 : decode cX2_followsNode 16 = .ok (.aload_n 0, 1) := by decide +kernel
theorem dX2_followsNode_17 : decode cX2_followsNode 17 = .ok (.getfield 21, 3) := by decide +kernel
theorem dX2_followsNode_20 : decode cX2_followsNode 20 = .ok (.aload_n 0, 1) := by decide +kernel
theorem dX2_followsNode_21 : decode cX2_followsNode 21 = .ok (.getfield 40, 3) := by decide +kernel
theorem dX2_followsNode_24 : decode cX2_followsNode 24 = .ok (.iaload, 1) := by decide +kernel
theorem dX2_followsNode_25 : decode cX2_followsNode 25 = .ok (.iconst 4, 1) := by decide +kernel
theorem dX2_followsNode_26 : decode cX2_followsNode 26 = .ok (.if_icmp .ge 10, 3) := by decide +kernel
theorem dX2_followsNode_29 : decode cX2_followsNode 29 = .ok (.aload_n 0, 1) := by decide +kernel
theorem dX2_followsNode_30 : decode cX2_followsNode 30 = .ok (.iconst 0, 1) := by decide +kernel
theorem dX2_followsNode_31 : decode cX2_followsNode 31 = .ok (.putfield 37, 3) := by decide +kernel
theorem dX2_followsNode_34 : decode cX2_followsNode 34 = .ok (.iconst 1, 1) := by decide +kernel
theorem dX2_followsNode_35 : decode cX2_followsNode 35 = .ok (.ireturn, 1) := by decide +kernel
theorem dX2_followsNode_36 : decode cX2_followsNode 36 = .ok (.iload_n 1, 1) := by decide +kernel
theorem dX2_followsNode_37 : decode cX2_followsNode 37 = .ok (.bipush 41, 2) := by decide +kernel
theorem dX2_followsNode_39 : decode cX2_followsNode 39 = .ok (.if_icmp .ne 18, 3) := by decide +kernel
theorem dX2_followsNode_42 : decode cX2_followsNode 42 = .ok (.aload_n 0, 1) := by decide +kernel
theorem dX2_followsNode_43 : decode cX2_followsNode 43 = .ok (.aload_n 0, 1) := by decide +kernel
theorem dX2_followsNode_44 : decode cX2_followsNode 44 = .ok (.getfield 15, 3) := by decide +kernel
theorem dX2_followsNode_47 : decode cX2_followsNode 47 = .ok (.aload_n 0, 1) := by decide +kernel
theorem dX2_followsNode_48 : decode cX2_followsNode 48 = .ok (.getfield 40, 3) := by decide +kernel
theorem dX2_followsNode_51 : decode cX2_followsNode 51 = .ok (.iaload, 1) := by decide +kernel
theorem dX2_followsNode_52 : decode cX2_followsNode 52 = .ok (.putfield 40, 3) := by decide +kernel
theorem dX2_followsNode_55 : decode cX2_followsNode 55 = .ok (.iconst 1, 1) := by decide +kernel
theorem dX2_followsNode_56 : decode cX2_followsNode 56 = .ok (.ireturn, 1) := by decide +kernel
theorem dX2_followsNode_57 : decode cX2_followsNode 57 = .ok (.iconst 0, 1) := by decide +kernel
theorem dX2_followsNode_58 : decode cX2_followsNode 58 = .ok (.ireturn, 1) := by decide +kernel
theorem dX2_isFigure_0 : decode cX2_isFigure 0 = .ok (.iload_n 0, 1) := by decide +kernel
theorem dX2_isFigure_1 : decode cX2_isFigure 1 = .ok (.bipush 48, 2) := by decide +kernel
theorem dX2_isFigure_3 : decode cX2_isFigure 3 = .ok (.if_icmp .lt 13, 3) := by decide +kernel
theorem dX2_isFigure_6 : decode cX2_isFigure 6 = .ok (.iload_n 0, 1) := by decide +kernel
theorem dX2_isFigure_7 : decode cX2_isFigure 7 = .ok (.bipush 57, 2) := by decide +kernel
theorem dX2_isFigure_9 : decode cX2_isFigure 9 = .ok (.if_icmp .gt 7, 3) := by decide +kernel
theorem dX2_isFigure_12 : decode cX2_isFigure 12 = .ok (.iconst 1, 1) := by decide +kernel
theorem dX2_isFigure_13 : decode cX2_isFigure 13 = .ok (.goto 4, 3) := by decide +kernel
theorem dX2_isFigure_16 : decode cX2_isFigure 16 = .ok (.iconst 0, 1) := by decide +kernel
theorem dX2_isFigure_17 : decode cX2_isFigure 17 = .ok (.ireturn, 1) := by decide +kernel
theorem dX2_playerOf_0 : decode cX2_playerOf 0 = .ok (.iload_n 0, 1) := by decide +kernel
theorem dX2_playerOf_1 : decode cX2_playerOf 1 = .ok (.lookupswitch 41 #[(97, 37), (103, 35), (116, 39)], 35) := by decide +kernel
theorem dX2_playerOf_36 : decode cX2_playerOf 36 = .ok (.iconst 0, 1) := by decide +kernel
theorem dX2_playerOf_37 : decode cX2_playerOf 37 = .ok (.ireturn, 1) := by decide +kernel
theorem dX2_playerOf_38 : decode cX2_playerOf 38 = .ok (.iconst 1, 1) := by decide +kernel
theorem dX2_playerOf_39 : decode cX2_playerOf 39 = .ok (.ireturn, 1) := by decide +kernel
theorem dX2_playerOf_40 : decode cX2_playerOf 40 = .ok (.iconst 2, 1) := by decide +kernel
theorem dX2_playerOf_41 : decode cX2_playerOf 41 = .ok (.ireturn, 1) := by decide +kernel
theorem dX2_playerOf_42 : decode cX2_playerOf 42 = .ok (.iconst (-1), 1) := by decide +kernel
theorem dX2_playerOf_43 : decode cX2_playerOf 43 = .ok (.ireturn, 1) := by decide +kernel
theorem dX2_solve_0 : decode cX2_solve 0 = .ok (.aload_n 0, 1) := by decide +kernel
theorem dX2_solve_1 : decode cX2_solve 1 = .ok (.getfield 27, 3) := by decide +kernel
theorem dX2_solve_4 : decode cX2_solve 4 = .ok (.iconst (-1), 1) := by decide +kernel
theorem dX2_solve_5 : decode cX2_solve 5 = .ok (.invokestatic 80, 3) := by decide +kernel
theorem dX2_solve_8 : decode cX2_solve 8 = .ok (.aload_n 0, 1) := by decide +kernel
theorem dX2_solve_9 : decode cX2_solve 9 = .ok (.getfield 50, 3) := by decide +kernel
theorem dX2_solve_12 : decode cX2_solve 12 = .ok (.iconst 1, 1) := by decide +kernel
theorem dX2_solve_13 : decode cX2_solve 13 = .ok (.isub, 1) := by decide +kernel
theorem dX2_solve_14 : decode cX2_solve 14 = .ok (.istore_n 2, 1) := by decide +kernel
theorem dX2_solve_15 : decode cX2_solve 15 = .ok (.iload_n 2, 1) := by decide +kernel
theorem dX2_solve_16 : decode cX2_solve 16 = .ok (.ifCond .lt 90, 3) := by decide +kernel
theorem dX2_solve_19 : decode cX2_solve 19 = .ok (.aload_n 0, 1) := by decide +kernel
theorem dX2_solve_20 : decode cX2_solve 20 = .ok (.getfield 30, 3) := by decide +kernel
theorem dX2_solve_23 : decode cX2_solve 23 = .ok (.iload_n 2, 1) := by decide +kernel
theorem dX2_solve_24 : decode cX2_solve 24 = .ok (.aload_n 0, 1) := by decide +kernel
theorem dX2_solve_25 : decode cX2_solve 25 = .ok (.getfield 27, 3) := by decide +kernel
theorem dX2_solve_28 : decode cX2_solve 28 = .ok (.iload_n 2, 1) := by decide +kernel
theorem dX2_solve_29 : decode cX2_solve 29 = .ok (.iaload, 1) := by decide +kernel
theorem dX2_solve_30 : decode cX2_solve 30 = .ok (.iconst (-1), 1) := by decide +kernel
theorem dX2_solve_31 : decode cX2_solve 31 = .ok (.if_icmp .ne 7, 3) := by decide +kernel
theorem dX2_solve_34 : decode cX2_solve 34 = .ok (.iload_n 2, 1) := by decide +kernel
theorem dX2_solve_35 : decode cX2_solve 35 = .ok (.goto 14, 3) := by decide +kernel
theorem dX2_solve_38 : decode cX2_solve 38 = .ok (.aload_n 0, 1) := by decide +kernel
theorem dX2_solve_39 : decode cX2_solve 39 = .ok (.getfield 30, 3) := by decide +kernel
theorem dX2_solve_42 : decode cX2_solve 42 = .ok (.aload_n 0, 1) := by decide +kernel
theorem dX2_solve_43 : decode cX2_solve 43 = .ok (.getfield 27, 3) := by decide +kernel
theorem dX2_solve_46 : decode cX2_solve 46 = .ok (.iload_n 2, 1) := by decide +kernel
theorem dX2_solve_47 : decode cX2_solve 47 = .ok (.iaload, 1) := by decide +kernel
theorem dX2_solve_48 : decode cX2_solve 48 = .ok (.iaload, 1) := by decide +kernel
theorem dX2_solve_49 : decode cX2_solve 49 = .ok (.iastore, 1) := by decide +kernel
theorem dX2_solve_50 : decode cX2_solve 50 = .ok (.aload_n 0, 1) := by decide +kernel
theorem dX2_solve_51 : decode cX2_solve 51 = .ok (.getfield 15, 3) := by decide +kernel
theorem dX2_solve_54 : decode cX2_solve 54 = .ok (.iload_n 2, 1) := by decide +kernel
theorem dX2_solve_55 : decode cX2_solve 55 = .ok (.iaload, 1) := by decide +kernel
theorem dX2_solve_56 : decode cX2_solve 56 = .ok (.istore_n 3, 1) := by decide +kernel
theorem dX2_solve_57 : decode cX2_solve 57 = .ok (.iload_n 3, 1) := by decide +kernel
theorem dX2_solve_58 : decode cX2_solve 58 = .ok (.iconst (-1), 1) := by decide +kernel
theorem dX2_solve_59 : decode cX2_solve 59 = .ok (.if_icmp .eq 41, 3) := by decide +kernel
theorem dX2_solve_62 : decode cX2_solve 62 = .ok (.aload_n 0, 1) := by decide +kernel
theorem dX2_solve_63 : decode cX2_solve 63 = .ok (.getfield 27, 3) := by decide +kernel
theorem dX2_solve_66 : decode cX2_solve 66 = .ok (.iload_n 3, 1) := by decide +kernel
theorem dX2_solve_67 : decode cX2_solve 67 = .ok (.iaload, 1) := by decide +kernel
theorem dX2_solve_68 : decode cX2_solve 68 = .ok (.iconst (-1), 1) := by decide +kernel
theorem dX2_solve_69 : decode cX2_solve 69 = .ok (.if_icmp .eq 24, 3) := by decide +kernel
theorem dX2_solve_72 : decode cX2_solve 72 = .ok (.aload_n 0, 1) := by decide +kernel
theorem dX2_solve_73 : decode cX2_solve 73 = .ok (.iload_n 2, 1) := by decide +kernel
theorem dX2_solve_74 : decode cX2_solve 74 = .ok (.aload_n 0, 1) := by decide +kernel
theorem dX2_solve_75 : decode cX2_solve 75 = .ok (.getfield 27, 3) := by decide +kernel
theorem dX2_solve_78 : decode cX2_solve 78 = .ok (.iload_n 3, 1) := by decide +kernel
theorem dX2_solve_79 : decode cX2_solve 79 = .ok (.iaload, 1) := by decide +kernel
theorem dX2_solve_80 : decode cX2_solve 80 = .ok (.aload_n 0, 1) := by decide +kernel
theorem dX2_solve_81 : decode cX2_solve 81 = .ok (.getfield 11, 3) := by decide +kernel
theorem dX2_solve_84 : decode cX2_solve 84 = .ok (.iload_n 3, 1) := by decide +kernel
theorem dX2_solve_85 : decode cX2_solve 85 = .ok (.iaload, 1) := by decide +kernel
theorem dX2_solve_86 : decode cX2_solve 86 = .ok (.iload_n 1, 1) := by decide +kernel
theorem dX2_solve_87 : decode cX2_solve 87 = .ok (.invokevirtual 86, 3) := by decide +kernel
theorem dX2_solve_90 : decode cX2_solve 90 = .ok (.ifCond .eq 10, 3) := by decide +kernel
theorem dX2_solve_93 : decode cX2_solve 93 = .ok (.aload_n 0, 1) := by decide +kernel
theorem dX2_solve_94 : decode cX2_solve 94 = .ok (.getfield 27, 3) := by decide +kernel
theorem dX2_solve_97 : decode cX2_solve 97 = .ok (.iload_n 3, 1) := by decide +kernel
theorem dX2_solve_98 : decode cX2_solve 98 = .ok (.iload_n 2, 1) := by decide +kernel
theorem dX2_solve_99 : decode cX2_solve 99 = .ok (.iastore, 1) := by decide +kernel
theorem dX2_solve_100 : decode cX2_solve 100 = .ok (.iinc 2 (-1), 3) := by decide +kernel
theorem dX2_solve_103 : decode cX2_solve 103 = .ok (.goto (-88), 3) := by decide +kernel
theorem dX2_solve_106 : decode cX2_solve 106 = .ok (.return_, 1) := by decide +kernel
theorem dX2_isNoWorse_0 : decode cX2_isNoWorse 0 = .ok (.aload_n 0, 1) := by decide +kernel
theorem dX2_isNoWorse_1 : decode cX2_isNoWorse 1 = .ok (.aload_n 0, 1) := by decide +kernel
theorem dX2_isNoWorse_2 : decode cX2_isNoWorse 2 = .ok (.getfield 30, 3) := by decide +kernel
theorem dX2_isNoWorse_5 : decode cX2_isNoWorse 5 = .ok (.iload_n 1, 1) := by decide +kernel
theorem dX2_isNoWorse_6 : decode cX2_isNoWorse 6 = .ok (.iaload, 1) := by decide +kernel
theorem dX2_isNoWorse_7 : decode cX2_isNoWorse 7 = .ok (.iload_n 3, 1) := by decide +kernel
theorem dX2_isNoWorse_8 : decode cX2_isNoWorse 8 = .ok (.iload 4, 2) := by decide +kernel
theorem dX2_isNoWorse_10 : decode cX2_isNoWorse 10 = .ok (.invokevirtual 90, 3) := by decide +kernel
theorem dX2_isNoWorse_13 : decode cX2_isNoWorse 13 = .ok (.aload_n 0, 1) := by decide +kernel
theorem dX2_isNoWorse_14 : decode cX2_isNoWorse 14 = .ok (.aload_n 0, 1) := by decide +kernel
theorem dX2_isNoWorse_15 : decode cX2_isNoWorse 15 = .ok (.getfield 30, 3) := by decide +kernel
theorem dX2_isNoWorse_18 : decode cX2_isNoWorse 18 = .ok (.iload_n 2, 1) := by decide +kernel
theorem dX2_isNoWorse_19 : decode cX2_isNoWorse 19 = .ok (.iaload, 1) := by decide +kernel
theorem dX2_isNoWorse_20 : decode cX2_isNoWorse 20 = .ok (.iload_n 3, 1) := by decide +kernel
theorem dX2_isNoWorse_21 : decode cX2_isNoWorse 21 = .ok (.iload 4, 2) := by decide +kernel
theorem dX2_isNoWorse_23 : decode cX2_isNoWorse 23 = .ok (.invokevirtual 90, 3) := by decide +kernel
theorem dX2_isNoWorse_26 : decode cX2_isNoWorse 26 = .ok (.if_icmp .lt 7, 3) := by decide +kernel
theorem dX2_isNoWorse_29 : decode cX2_isNoWorse 29 = .ok (.iconst 1, 1) := by decide +kernel
theorem dX2_isNoWorse_30 : decode cX2_isNoWorse 30 = .ok (.goto 4, 3) := by decide +kernel
theorem dX2_isNoWorse_33 : decode cX2_isNoWorse 33 = .ok (.iconst 0, 1) := by decide +kernel
theorem dX2_isNoWorse_34 : decode cX2_isNoWorse 34 = .ok (.ireturn, 1) := by decide +kernel
theorem dX2_worth_0 : decode cX2_worth 0 = .ok (.aload_n 0, 1) := by decide +kernel
theorem dX2_worth_1 : decode cX2_worth 1 = .ok (.getfield 24, 3) := by decide +kernel
theorem dX2_worth_4 : decode cX2_worth 4 = .ok (.iload_n 1, 1) := by decide +kernel
theorem dX2_worth_5 : decode cX2_worth 5 = .ok (.iconst 3, 1) := by decide +kernel
theorem dX2_worth_6 : decode cX2_worth 6 = .ok (.imul, 1) := by decide +kernel
theorem dX2_worth_7 : decode cX2_worth 7 = .ok (.iload_n 2, 1) := by decide +kernel
theorem dX2_worth_8 : decode cX2_worth 8 = .ok (.iadd, 1) := by decide +kernel
theorem dX2_worth_9 : decode cX2_worth 9 = .ok (.iaload, 1) := by decide +kernel
theorem dX2_worth_10 : decode cX2_worth 10 = .ok (.istore 4, 2) := by decide +kernel
theorem dX2_worth_12 : decode cX2_worth 12 = .ok (.iload 4, 2) := by decide +kernel
theorem dX2_worth_14 : decode cX2_worth 14 = .ok (.istore 5, 2) := by decide +kernel
theorem dX2_worth_16 : decode cX2_worth 16 = .ok (.iconst 0, 1) := by decide +kernel
theorem dX2_worth_17 : decode cX2_worth 17 = .ok (.istore 6, 2) := by decide +kernel
theorem dX2_worth_19 : decode cX2_worth 19 = .ok (.iload 6, 2) := by decide +kernel
theorem dX2_worth_21 : decode cX2_worth 21 = .ok (.iconst 3, 1) := by decide +kernel
theorem dX2_worth_22 : decode cX2_worth 22 = .ok (.if_icmp .ge 27, 3) := by decide +kernel
theorem dX2_worth_25 : decode cX2_worth 25 = .ok (.iload 5, 2) := by decide +kernel
theorem dX2_worth_27 : decode cX2_worth 27 = .ok (.aload_n 0, 1) := by decide +kernel
theorem dX2_worth_28 : decode cX2_worth 28 = .ok (.getfield 24, 3) := by decide +kernel
theorem dX2_worth_31 : decode cX2_worth 31 = .ok (.iload_n 1, 1) := by decide +kernel
theorem dX2_worth_32 : decode cX2_worth 32 = .ok (.iconst 3, 1) := by decide +kernel
theorem dX2_worth_33 : decode cX2_worth 33 = .ok (.imul, 1) := by decide +kernel
theorem dX2_worth_34 : decode cX2_worth 34 = .ok (.iload 6, 2) := by decide +kernel
theorem dX2_worth_36 : decode cX2_worth 36 = .ok (.iadd, 1) := by decide +kernel
theorem dX2_worth_37 : decode cX2_worth 37 = .ok (.iaload, 1) := by decide +kernel
theorem dX2_worth_38 : decode cX2_worth 38 = .ok (.invokestatic 94, 3) := by decide +kernel
theorem dX2_worth_41 : decode cX2_worth 41 = .ok (.istore 5, 2) := by decide +kernel
theorem dX2_worth_43 : decode cX2_worth 43 = .ok (.iinc 6 1, 3) := by decide +kernel
theorem dX2_worth_46 : decode cX2_worth 46 = .ok (.goto (-27), 3) := by decide +kernel
theorem dX2_worth_49 : decode cX2_worth 49 = .ok (.iconst 4, 1) := by decide +kernel
theorem dX2_worth_50 : decode cX2_worth 50 = .ok (.iload 4, 2) := by decide +kernel
theorem dX2_worth_52 : decode cX2_worth 52 = .ok (.imul, 1) := by decide +kernel
theorem dX2_worth_53 : decode cX2_worth 53 = .ok (.iload_n 3, 1) := by decide +kernel
theorem dX2_worth_54 : decode cX2_worth 54 = .ok (.iload 5, 2) := by decide +kernel
theorem dX2_worth_56 : decode cX2_worth 56 = .ok (.iload 4, 2) := by decide +kernel
theorem dX2_worth_58 : decode cX2_worth 58 = .ok (.isub, 1) := by decide +kernel
theorem dX2_worth_59 : decode cX2_worth 59 = .ok (.imul, 1) := by decide +kernel
theorem dX2_worth_60 : decode cX2_worth 60 = .ok (.isub, 1) := by decide +kernel
theorem dX2_worth_61 : decode cX2_worth 61 = .ok (.ireturn, 1) := by decide +kernel
theorem dX2_gets_0 : decode cX2_gets 0 = .ok (.aload_n 0, 1) := by decide +kernel
theorem dX2_gets_1 : decode cX2_gets 1 = .ok (.getfield 24, 3) := by decide +kernel
theorem dX2_gets_4 : decode cX2_gets 4 = .ok (.aload_n 0, 1) := by decide +kernel
theorem dX2_gets_5 : decode cX2_gets 5 = .ok (.getfield 30, 3) := by decide +kernel
theorem dX2_gets_8 : decode cX2_gets 8 = .ok (.iconst 0, 1) := by decide +kernel
theorem dX2_gets_9 : decode cX2_gets 9 = .ok (.iaload, 1) := by decide +kernel
theorem dX2_gets_10 : decode cX2_gets 10 = .ok (.iconst 3, 1) := by decide +kernel
theorem dX2_gets_11 : decode cX2_gets 11 = .ok (.imul, 1) := by decide +kernel
theorem dX2_gets_12 : decode cX2_gets 12 = .ok (.iload_n 1, 1) := by decide +kernel
theorem dX2_gets_13 : decode cX2_gets 13 = .ok (.iadd, 1) := by decide +kernel
theorem dX2_gets_14 : decode cX2_gets 14 = .ok (.iaload, 1) := by decide +kernel
theorem dX2_gets_15 : decode cX2_gets 15 = .ok (.ireturn, 1) := by decide +kernel
theorem dX2_wayLength_0 : decode cX2_wayLength 0 = .ok (.iconst 0, 1) := by decide +kernel
theorem dX2_wayLength_1 : decode cX2_wayLength 1 = .ok (.istore_n 1, 1) := by decide +kernel
theorem dX2_wayLength_2 : decode cX2_wayLength 2 = .ok (.iconst 0, 1) := by decide +kernel
theorem dX2_wayLength_3 : decode cX2_wayLength 3 = .ok (.istore_n 2, 1) := by decide +kernel
theorem dX2_wayLength_4 : decode cX2_wayLength 4 = .ok (.iconst 0, 1) := by decide +kernel
theorem dX2_wayLength_5 : decode cX2_wayLength 5 = .ok (.istore_n 3, 1) := by decide +kernel
theorem dX2_wayLength_6 : decode cX2_wayLength 6 = .ok (.iload_n 3, 1) := by decide +kernel
theorem dX2_wayLength_7 : decode cX2_wayLength 7 = .ok (.aload_n 0, 1) := by decide +kernel
theorem dX2_wayLength_8 : decode cX2_wayLength 8 = .ok (.getfield 50, 3) := by decide +kernel
theorem dX2_wayLength_11 : decode cX2_wayLength 11 = .ok (.if_icmp .ge 29, 3) := by decide +kernel
theorem dX2_wayLength_14 : decode cX2_wayLength 14 = .ok (.aload_n 0, 1) := by decide +kernel
theorem dX2_wayLength_15 : decode cX2_wayLength 15 = .ok (.getfield 27, 3) := by decide +kernel
theorem dX2_wayLength_18 : decode cX2_wayLength 18 = .ok (.iload_n 2, 1) := by decide +kernel
theorem dX2_wayLength_19 : decode cX2_wayLength 19 = .ok (.iaload, 1) := by decide +kernel
theorem dX2_wayLength_20 : decode cX2_wayLength 20 = .ok (.iconst (-1), 1) := by decide +kernel
theorem dX2_wayLength_21 : decode cX2_wayLength 21 = .ok (.if_icmp .eq 19, 3) := by decide +kernel
theorem dX2_wayLength_24 : decode cX2_wayLength 24 = .ok (.iinc 1 1, 3) := by decide +kernel
theorem dX2_wayLength_27 : decode cX2_wayLength 27 = .ok (.aload_n 0, 1) := by decide +kernel
theorem dX2_wayLength_28 : decode cX2_wayLength 28 = .ok (.getfield 27, 3) := by decide +kernel
theorem dX2_wayLength_31 : decode cX2_wayLength 31 = .ok (.iload_n 2, 1) := by decide +kernel
theorem dX2_wayLength_32 : decode cX2_wayLength 32 = .ok (.iaload, 1) := by decide +kernel
theorem dX2_wayLength_33 : decode cX2_wayLength 33 = .ok (.istore_n 2, 1) := by decide +kernel
theorem dX2_wayLength_34 : decode cX2_wayLength 34 = .ok (.iinc 3 1, 3) := by decide +kernel
theorem dX2_wayLength_37 : decode cX2_wayLength 37 = .ok (.goto (-31), 3) := by decide +kernel
theorem dX2_wayLength_40 : decode cX2_wayLength 40 = .ok (.iload_n 1, 1) := by decide +kernel
theorem dX2_wayLength_41 : decode cX2_wayLength 41 = .ok (.ireturn, 1) := by decide +kernel
theorem dX2_choiceAt_0 : decode cX2_choiceAt 0 = .ok (.iconst 0, 1) := by decide +kernel
theorem dX2_choiceAt_1 : decode cX2_choiceAt 1 = .ok (.istore_n 2, 1) := by decide +kernel
theorem dX2_choiceAt_2 : decode cX2_choiceAt 2 = .ok (.iconst 0, 1) := by decide +kernel
theorem dX2_choiceAt_3 : decode cX2_choiceAt 3 = .ok (.istore_n 3, 1) := by decide +kernel
theorem dX2_choiceAt_4 : decode cX2_choiceAt 4 = .ok (.iload_n 3, 1) := by decide +kernel
theorem dX2_choiceAt_5 : decode cX2_choiceAt 5 = .ok (.aload_n 0, 1) := by decide +kernel
theorem dX2_choiceAt_6 : decode cX2_choiceAt 6 = .ok (.getfield 50, 3) := by decide +kernel
theorem dX2_choiceAt_9 : decode cX2_choiceAt 9 = .ok (.if_icmp .ge 38, 3) := by decide +kernel
theorem dX2_choiceAt_12 : decode cX2_choiceAt 12 = .ok (.aload_n 0, 1) := by decide +kernel
theorem dX2_choiceAt_13 : decode cX2_choiceAt 13 = .ok (.getfield 27, 3) := by decide +kernel
theorem dX2_choiceAt_16 : decode cX2_choiceAt 16 = .ok (.iload_n 2, 1) := by decide +kernel
theorem dX2_choiceAt_17 : decode cX2_choiceAt 17 = .ok (.iaload, 1) := by decide +kernel
theorem dX2_choiceAt_18 : decode cX2_choiceAt 18 = .ok (.iconst (-1), 1) := by decide +kernel
theorem dX2_choiceAt_19 : decode cX2_choiceAt 19 = .ok (.if_icmp .eq 28, 3) := by decide +kernel
theorem dX2_choiceAt_22 : decode cX2_choiceAt 22 = .ok (.aload_n 0, 1) := by decide +kernel
theorem dX2_choiceAt_23 : decode cX2_choiceAt 23 = .ok (.getfield 27, 3) := by decide +kernel
theorem dX2_choiceAt_26 : decode cX2_choiceAt 26 = .ok (.iload_n 2, 1) := by decide +kernel
theorem dX2_choiceAt_27 : decode cX2_choiceAt 27 = .ok (.iaload, 1) := by decide +kernel
theorem dX2_choiceAt_28 : decode cX2_choiceAt 28 = .ok (.istore_n 2, 1) := by decide +kernel
theorem dX2_choiceAt_29 : decode cX2_choiceAt 29 = .ok (.iload_n 3, 1) := by decide +kernel
theorem dX2_choiceAt_30 : decode cX2_choiceAt 30 = .ok (.iload_n 1, 1) := by decide +kernel
theorem dX2_choiceAt_31 : decode cX2_choiceAt 31 = .ok (.if_icmp .ne 10, 3) := by decide +kernel
theorem dX2_choiceAt_34 : decode cX2_choiceAt 34 = .ok (.aload_n 0, 1) := by decide +kernel
theorem dX2_choiceAt_35 : decode cX2_choiceAt 35 = .ok (.getfield 18, 3) := by decide +kernel
theorem dX2_choiceAt_38 : decode cX2_choiceAt 38 = .ok (.iload_n 2, 1) := by decide +kernel
theorem dX2_choiceAt_39 : decode cX2_choiceAt 39 = .ok (.iaload, 1) := by decide +kernel
theorem dX2_choiceAt_40 : decode cX2_choiceAt 40 = .ok (.ireturn, 1) := by decide +kernel
theorem dX2_choiceAt_41 : decode cX2_choiceAt 41 = .ok (.iinc 3 1, 3) := by decide +kernel
theorem dX2_choiceAt_44 : decode cX2_choiceAt 44 = .ok (.goto (-40), 3) := by decide +kernel
theorem dX2_choiceAt_47 : decode cX2_choiceAt 47 = .ok (.iconst (-1), 1) := by decide +kernel
theorem dX2_choiceAt_48 : decode cX2_choiceAt 48 = .ok (.ireturn, 1) := by decide +kernel
theorem dX2_leastAngerThatMatters_0 : decode cX2_leastAngerThatMatters 0 = .ok (.aload_n 0, 1) := by decide +kernel
theorem dX2_leastAngerThatMatters_1 : decode cX2_leastAngerThatMatters 1 = .ok (.iconst 0, 1) := by decide +kernel
theorem dX2_leastAngerThatMatters_2 : decode cX2_leastAngerThatMatters 2 = .ok (.invokevirtual 100, 3) := by decide +kernel
theorem dX2_leastAngerThatMatters_5 : decode cX2_leastAngerThatMatters 5 = .ok (.aload_n 0, 1) := by decide +kernel
theorem dX2_leastAngerThatMatters_6 : decode cX2_leastAngerThatMatters 6 = .ok (.getfield 30, 3) := by decide +kernel
theorem dX2_leastAngerThatMatters_9 : decode cX2_leastAngerThatMatters 9 = .ok (.iconst 0, 1) := by decide +kernel
theorem dX2_leastAngerThatMatters_10 : decode cX2_leastAngerThatMatters 10 = .ok (.iaload, 1) := by decide +kernel
theorem dX2_leastAngerThatMatters_11 : decode cX2_leastAngerThatMatters 11 = .ok (.istore_n 1, 1) := by decide +kernel
theorem dX2_leastAngerThatMatters_12 : decode cX2_leastAngerThatMatters 12 = .ok (.iconst 1, 1) := by decide +kernel
theorem dX2_leastAngerThatMatters_13 : decode cX2_leastAngerThatMatters 13 = .ok (.istore_n 2, 1) := by decide +kernel
theorem dX2_leastAngerThatMatters_14 : decode cX2_leastAngerThatMatters 14 = .ok (.iload_n 2, 1) := by decide +kernel
theorem dX2_leastAngerThatMatters_15 : decode cX2_leastAngerThatMatters 15 = .ok (.bipush 40, 2) := by decide +kernel
theorem dX2_leastAngerThatMatters_17 : decode cX2_leastAngerThatMatters 17 = .ok (.if_icmp .gt 26, 3) := by decide +kernel
theorem dX2_leastAngerThatMatters_20 : decode cX2_leastAngerThatMatters 20 = .ok (.aload_n 0, 1) := by decide +kernel
theorem dX2_leastAngerThatMatters_21 : decode cX2_leastAngerThatMatters 21 = .ok (.iload_n 2, 1) := by decide +kernel
theorem dX2_leastAngerThatMatters_22 : decode cX2_leastAngerThatMatters 22 = .ok (.invokevirtual 100, 3) := by decide +kernel
theorem dX2_leastAngerThatMatters_25 : decode cX2_leastAngerThatMatters 25 = .ok (.aload_n 0, 1) := by decide +kernel
theorem dX2_leastAngerThatMatters_26 : decode cX2_leastAngerThatMatters 26 = .ok (.getfield 30, 3) := by decide +kernel
theorem dX2_leastAngerThatMatters_29 : decode cX2_leastAngerThatMatters 29 = .ok (.iconst 0, 1) := by decide +kernel
theorem dX2_leastAngerThatMatters_30 : decode cX2_leastAngerThatMatters 30 = .ok (.iaload, 1) := by decide +kernel
theorem dX2_leastAngerThatMatters_31 : decode cX2_leastAngerThatMatters 31 = .ok (.iload_n 1, 1) := by decide +kernel
theorem dX2_leastAngerThatMatters_32 : decode cX2_leastAngerThatMatters 32 = .ok (.if_icmp .eq 5, 3) := by decide +kernel
theorem dX2_leastAngerThatMatters_35 : decode cX2_leastAngerThatMatters 35 = .ok (.iload_n 2, 1) := by decide +kernel
theorem dX2_leastAngerThatMatters_36 : decode cX2_leastAngerThatMatters 36 = .ok (.ireturn, 1) := by decide +kernel
theorem dX2_leastAngerThatMatters_37 : decode cX2_leastAngerThatMatters 37 = .ok (.iinc 2 1, 3) := by decide +kernel
theorem dX2_leastAngerThatMatters_40 : decode cX2_leastAngerThatMatters 40 = .ok (.goto (-26), 3) := by decide +kernel
theorem dX2_leastAngerThatMatters_43 : decode cX2_leastAngerThatMatters 43 = .ok (.iconst (-1), 1) := by decide +kernel
theorem dX2_leastAngerThatMatters_44 : decode cX2_leastAngerThatMatters 44 = .ok (.ireturn, 1) := by decide +kernel
theorem dX3_init_0 : decode cX3_init 0 = .ok (.aload_n 0, 1) := by decide +kernel
theorem dX3_init_1 : decode cX3_init 1 = .ok (.invokespecial 3, 3) := by decide +kernel
theorem dX3_init_4 : decode cX3_init 4 = .ok (.aload_n 0, 1) := by decide +kernel
theorem dX3_init_5 : decode cX3_init 5 = .ok (.iconst 4, 1) := by decide +kernel
theorem dX3_init_6 : decode cX3_init 6 = .ok (.newarray .int, 2) := by decide +kernel
theorem dX3_init_8 : decode cX3_init 8 = .ok (.putfield 9, 3) := by decide +kernel
theorem dX3_init_11 : decode cX3_init 11 = .ok (.aload_n 0, 1) := by decide +kernel
theorem dX3_init_12 : decode cX3_init 12 = .ok (.iconst 4, 1) := by decide +kernel
theorem dX3_init_13 : decode cX3_init 13 = .ok (.newarray .int, 2) := by decide +kernel
theorem dX3_init_15 : decode cX3_init 15 = .ok (.putfield 15, 3) := by decide +kernel
theorem dX3_init_18 : decode cX3_init 18 = .ok (.aload_n 0, 1) := by decide +kernel
theorem dX3_init_19 : decode cX3_init 19 = .ok (.iconst 4, 1) := by decide +kernel
theorem dX3_init_20 : decode cX3_init 20 = .ok (.newarray .int, 2) := by decide +kernel
theorem dX3_init_22 : decode cX3_init 22 = .ok (.putfield 18, 3) := by decide +kernel
theorem dX3_init_25 : decode cX3_init 25 = .ok (.return_, 1) := by decide +kernel
theorem dX3_clear_0 : decode cX3_clear 0 = .ok (.aload_n 0, 1) := by decide +kernel
theorem dX3_clear_1 : decode cX3_clear 1 = .ok (.iconst 0, 1) := by decide +kernel
theorem dX3_clear_2 : decode cX3_clear 2 = .ok (.putfield 21, 3) := by decide +kernel
theorem dX3_clear_5 : decode cX3_clear 5 = .ok (.return_, 1) := by decide +kernel
theorem dX3_learn_0 : decode cX3_learn 0 = .ok (.aload_n 0, 1) := by decide +kernel
theorem dX3_learn_1 : decode cX3_learn 1 = .ok (.getfield 9, 3) := by decide +kernel
theorem dX3_learn_4 : decode cX3_learn 4 = .ok (.iload_n 1, 1) := by decide +kernel
theorem dX3_learn_5 : decode cX3_learn 5 = .ok (.aload_n 2, 1) := by decide +kernel
theorem dX3_learn_6 : decode cX3_learn 6 = .ok (.getfield 25, 3) := by decide +kernel
theorem dX3_learn_9 : decode cX3_learn 9 = .ok (.iastore, 1) := by decide +kernel
theorem dX3_learn_10 : decode cX3_learn 10 = .ok (.aload_n 0, 1) := by decide +kernel
theorem dX3_learn_11 : decode cX3_learn 11 = .ok (.getfield 15, 3) := by decide +kernel
theorem dX3_learn_14 : decode cX3_learn 14 = .ok (.iload_n 1, 1) := by decide +kernel
theorem dX3_learn_15 : decode cX3_learn 15 = .ok (.aload_n 2, 1) := by decide +kernel
theorem dX3_learn_16 : decode cX3_learn 16 = .ok (.getfield 29, 3) := by decide +kernel
theorem dX3_learn_19 : decode cX3_learn 19 = .ok (.iastore, 1) := by decide +kernel
theorem dX3_learn_20 : decode cX3_learn 20 = .ok (.aload_n 0, 1) := by decide +kernel
theorem dX3_learn_21 : decode cX3_learn 21 = .ok (.getfield 18, 3) := by decide +kernel
theorem dX3_learn_24 : decode cX3_learn 24 = .ok (.iload_n 1, 1) := by decide +kernel
theorem dX3_learn_25 : decode cX3_learn 25 = .ok (.iload_n 1, 1) := by decide +kernel
theorem dX3_learn_26 : decode cX3_learn 26 = .ok (.iastore, 1) := by decide +kernel
theorem dX3_learn_27 : decode cX3_learn 27 = .ok (.aload_n 0, 1) := by decide +kernel
theorem dX3_learn_28 : decode cX3_learn 28 = .ok (.dup, 1) := by decide +kernel
theorem dX3_learn_29 : decode cX3_learn 29 = .ok (.getfield 21, 3) := by decide +kernel
theorem dX3_learn_32 : decode cX3_learn 32 = .ok (.aload_n 2, 1) := by decide +kernel
theorem dX3_learn_33 : decode cX3_learn 33 = .ok (.getfield 29, 3) := by decide +kernel
theorem dX3_learn_36 : decode cX3_learn 36 = .ok (.ifCond .le 7, 3) := by decide +kernel
theorem dX3_learn_39 : decode cX3_learn 39 = .ok (.iconst 1, 1) := by decide +kernel
theorem dX3_learn_40 : decode cX3_learn 40 = .ok (.goto 4, 3) := by decide +kernel
theorem dX3_learn_43 : decode cX3_learn 43 = .ok (.iconst 0, 1) := by decide +kernel
theorem dX3_learn_44 : decode cX3_learn 44 = .ok (.iadd, 1) := by decide +kernel
theorem dX3_learn_45 : decode cX3_learn 45 = .ok (.putfield 21, 3) := by decide +kernel
theorem dX3_learn_48 : decode cX3_learn 48 = .ok (.return_, 1) := by decide +kernel
theorem dX3_isKnown_0 : decode cX3_isKnown 0 = .ok (.aload_n 0, 1) := by decide +kernel
theorem dX3_isKnown_1 : decode cX3_isKnown 1 = .ok (.getfield 15, 3) := by decide +kernel
theorem dX3_isKnown_4 : decode cX3_isKnown 4 = .ok (.iload_n 1, 1) := by decide +kernel
theorem dX3_isKnown_5 : decode cX3_isKnown 5 = .ok (.iaload, 1) := by decide +kernel
theorem dX3_isKnown_6 : decode cX3_isKnown 6 = .ok (.ifCond .le 7, 3) := by decide +kernel
theorem dX3_isKnown_9 : decode cX3_isKnown 9 = .ok (.iconst 1, 1) := by decide +kernel
theorem dX3_isKnown_10 : decode cX3_isKnown 10 = .ok (.goto 4, 3) := by decide +kernel
theorem dX3_isKnown_13 : decode cX3_isKnown 13 = .ok (.iconst 0, 1) := by decide +kernel
theorem dX3_isKnown_14 : decode cX3_isKnown 14 = .ok (.ireturn, 1) := by decide +kernel
theorem dX3_reorder_0 : decode cX3_reorder 0 = .ok (.iconst 0, 1) := by decide +kernel
theorem dX3_reorder_1 : decode cX3_reorder 1 = .ok (.istore_n 2, 1) := by decide +kernel
theorem dX3_reorder_2 : decode cX3_reorder 2 = .ok (.iconst 0, 1) := by decide +kernel
theorem dX3_reorder_3 : decode cX3_reorder 3 = .ok (.istore_n 3, 1) := by decide +kernel
theorem dX3_reorder_4 : decode cX3_reorder 4 = .ok (.iload_n 3, 1) := by decide +kernel
theorem dX3_reorder_5 : decode cX3_reorder 5 = .ok (.iconst 4, 1) := by decide +kernel
theorem dX3_reorder_6 : decode cX3_reorder 6 = .ok (.if_icmp .ge 59, 3) := by decide +kernel
theorem dX3_reorder_9 : decode cX3_reorder 9 = .ok (.iload_n 1, 1) := by decide +kernel
theorem dX3_reorder_10 : decode cX3_reorder 10 = .ok (.iconst 2, 1) := by decide +kernel
theorem dX3_reorder_11 : decode cX3_reorder 11 = .ok (.iload_n 3, 1) := by decide +kernel
theorem dX3_reorder_12 : decode cX3_reorder 12 = .ok (.imul, 1) := by decide +kernel
theorem dX3_reorder_13 : decode cX3_reorder 13 = .ok (.ishr, 1) := by decide +kernel
theorem dX3_reorder_14 : decode cX3_reorder 14 = .ok (.iconst 3, 1) := by decide +kernel
theorem dX3_reorder_15 : decode cX3_reorder 15 = .ok (.iand, 1) := by decide +kernel
theorem dX3_reorder_16 : decode cX3_reorder 16 = .ok (.istore 4, 2) := by decide +kernel
theorem dX3_reorder_18 : decode cX3_reorder 18 = .ok (.iload_n 2, 1) := by decide +kernel
theorem dX3_reorder_19 : decode cX3_reorder 19 = .ok (.iload 4, 2) := by decide +kernel
theorem dX3_reorder_21 : decode cX3_reorder 21 = .ok (.ishr, 1) := by decide +kernel
theorem dX3_reorder_22 : decode cX3_reorder 22 = .ok (.iconst 1, 1) := by decide +kernel
theorem dX3_reorder_23 : decode cX3_reorder 23 = .ok (.iand, 1) := by decide +kernel
theorem dX3_reorder_24 : decode cX3_reorder 24 = .ok (.iconst 1, 1) := by decide +kernel
theorem dX3_reorder_25 : decode cX3_reorder 25 = .ok (.if_icmp .eq 17, 3) := by decide +kernel
theorem dX3_reorder_28 : decode cX3_reorder 28 = .ok (.aload_n 0, 1) := by decide +kernel
theorem dX3_reorder_29 : decode cX3_reorder 29 = .ok (.iload_n 3, 1) := by decide +kernel
theorem dX3_reorder_30 : decode cX3_reorder 30 = .ok (.invokevirtual 31, 3) := by decide +kernel
theorem dX3_reorder_33 : decode cX3_reorder 33 = .ok (.ifCond .ne 11, 3) := by decide +kernel
theorem dX3_reorder_36 : decode cX3_reorder 36 = .ok (.iload 4, 2) := by decide +kernel
theorem dX3_reorder_38 : decode cX3_reorder 38 = .ok (.iload_n 3, 1) := by decide +kernel
theorem dX3_reorder_39 : decode cX3_reorder 39 = .ok (.if_icmp .eq 5, 3) := by decide +kernel
theorem dX3_reorder_42 : decode cX3_reorder 42 = .ok (.iconst 0, 1) := by decide +kernel
theorem dX3_reorder_43 : decode cX3_reorder 43 = .ok (.ireturn, 1) := by decide +kernel
theorem dX3_reorder_44 : decode cX3_reorder 44 = .ok (.iload_n 2, 1) := by decide +kernel
theorem dX3_reorder_45 : decode cX3_reorder 45 = .ok (.iconst 1, 1) := by decide +kernel
theorem dX3_reorder_46 : decode cX3_reorder 46 = .ok (.iload 4, 2) := by decide +kernel
theorem dX3_reorder_48 : decode cX3_reorder 48 = .ok (.ishl, 1) := by decide +kernel
theorem dX3_reorder_49 : decode cX3_reorder 49 = .ok (.ior, 1) := by decide +kernel
theorem dX3_reorder_50 : decode cX3_reorder 50 = .ok (.istore_n 2, 1) := by decide +kernel
theorem dX3_reorder_51 : decode cX3_reorder 51 = .ok (.aload_n 0, 1) := by decide +kernel
theorem dX3_reorder_52 : decode cX3_reorder 52 = .ok (.getfield 18, 3) := by decide +kernel
theorem dX3_reorder_55 : decode cX3_reorder 55 = .ok (.iload_n 3, 1) := by decide +kernel
theorem dX3_reorder_56 : decode cX3_reorder 56 = .ok (.iload 4, 2) := by decide +kernel
theorem dX3_reorder_58 : decode cX3_reorder 58 = .ok (.iastore, 1) := by decide +kernel
theorem dX3_reorder_59 : decode cX3_reorder 59 = .ok (.iinc 3 1, 3) := by decide +kernel
theorem dX3_reorder_62 : decode cX3_reorder 62 = .ok (.goto (-58), 3) := by decide +kernel
theorem dX3_reorder_65 : decode cX3_reorder 65 = .ok (.iconst 1, 1) := by decide +kernel
theorem dX3_reorder_66 : decode cX3_reorder 66 = .ok (.ireturn, 1) := by decide +kernel
theorem dX3_order_0 : decode cX3_order 0 = .ok (.aload_n 0, 1) := by decide +kernel
theorem dX3_order_1 : decode cX3_order 1 = .ok (.getfield 18, 3) := by decide +kernel
theorem dX3_order_4 : decode cX3_order 4 = .ok (.iload_n 1, 1) := by decide +kernel
theorem dX3_order_5 : decode cX3_order 5 = .ok (.iaload, 1) := by decide +kernel
theorem dX3_order_6 : decode cX3_order 6 = .ok (.istore_n 3, 1) := by decide +kernel
theorem dX3_order_7 : decode cX3_order 7 = .ok (.aload_n 0, 1) := by decide +kernel
theorem dX3_order_8 : decode cX3_order 8 = .ok (.getfield 18, 3) := by decide +kernel
theorem dX3_order_11 : decode cX3_order 11 = .ok (.iload_n 2, 1) := by decide +kernel
theorem dX3_order_12 : decode cX3_order 12 = .ok (.iaload, 1) := by decide +kernel
theorem dX3_order_13 : decode cX3_order 13 = .ok (.istore 4, 2) := by decide +kernel
theorem dX3_order_15 : decode cX3_order 15 = .ok (.aload_n 0, 1) := by decide +kernel
theorem dX3_order_16 : decode cX3_order 16 = .ok (.getfield 9, 3) := by decide +kernel
theorem dX3_order_19 : decode cX3_order 19 = .ok (.iload_n 3, 1) := by decide +kernel
theorem dX3_order_20 : decode cX3_order 20 = .ok (.iaload, 1) := by decide +kernel
theorem dX3_order_21 : decode cX3_order 21 = .ok (.aload_n 0, 1) := by decide +kernel
theorem dX3_order_22 : decode cX3_order 22 = .ok (.getfield 15, 3) := by decide +kernel
theorem dX3_order_25 : decode cX3_order 25 = .ok (.iload 4, 2) := by decide +kernel
theorem dX3_order_27 : decode cX3_order 27 = .ok (.iaload, 1) := by decide +kernel
theorem dX3_order_28 : decode cX3_order 28 = .ok (.imul, 1) := by decide +kernel
theorem dX3_order_29 : decode cX3_order 29 = .ok (.aload_n 0, 1) := by decide +kernel
theorem dX3_order_30 : decode cX3_order 30 = .ok (.getfield 9, 3) := by decide +kernel
theorem dX3_order_33 : decode cX3_order 33 = .ok (.iload 4, 2) := by decide +kernel
theorem dX3_order_35 : decode cX3_order 35 = .ok (.iaload, 1) := by decide +kernel
theorem dX3_order_36 : decode cX3_order 36 = .ok (.aload_n 0, 1) := by decide +kernel
theorem dX3_order_37 : decode cX3_order 37 = .ok (.getfield 15, 3) := by decide +kernel
theorem dX3_order_40 : decode cX3_order 40 = .ok (.iload_n 3, 1) := by decide +kernel
theorem dX3_order_41 : decode cX3_order 41 = .ok (.iaload, 1) := by decide +kernel
theorem dX3_order_42 : decode cX3_order 42 = .ok (.imul, 1) := by decide +kernel
theorem dX3_order_43 : decode cX3_order 43 = .ok (.invokestatic 35, 3) := by decide +kernel
theorem dX3_order_46 : decode cX3_order 46 = .ok (.ireturn, 1) := by decide +kernel
theorem dX4_init_0 : decode cX4_init 0 = .ok (.aload_n 0, 1) := by decide +kernel
theorem dX4_init_1 : decode cX4_init 1 = .ok (.invokespecial 3, 3) := by decide +kernel
theorem dX4_init_4 : decode cX4_init 4 = .ok (.aload_n 0, 1) := by decide +kernel
theorem dX4_init_5 : decode cX4_init 5 = .ok (.bipush 60, 2) := by decide +kernel
theorem dX4_init_7 : decode cX4_init 7 = .ok (.newarray .int, 2) := by decide +kernel
theorem dX4_init_9 : decode cX4_init 9 = .ok (.putfield 11, 3) := by decide +kernel
theorem dX4_init_12 : decode cX4_init 12 = .ok (.aload_n 0, 1) := by decide +kernel
theorem dX4_init_13 : decode cX4_init 13 = .ok (.bipush 60, 2) := by decide +kernel
theorem dX4_init_15 : decode cX4_init 15 = .ok (.newarray .int, 2) := by decide +kernel
theorem dX4_init_17 : decode cX4_init 17 = .ok (.putfield 15, 3) := by decide +kernel
theorem dX4_init_20 : decode cX4_init 20 = .ok (.aload_n 0, 1) := by decide +kernel
theorem dX4_init_21 : decode cX4_init 21 = .ok (.bipush 60, 2) := by decide +kernel
theorem dX4_init_23 : decode cX4_init 23 = .ok (.newarray .int, 2) := by decide +kernel
theorem dX4_init_25 : decode cX4_init 25 = .ok (.putfield 18, 3) := by decide +kernel
theorem dX4_init_28 : decode cX4_init 28 = .ok (.aload_n 0, 1) := by decide +kernel
theorem dX4_init_29 : decode cX4_init 29 = .ok (.bipush 60, 2) := by decide +kernel
theorem dX4_init_31 : decode cX4_init 31 = .ok (.newarray .int, 2) := by decide +kernel
theorem dX4_init_33 : decode cX4_init 33 = .ok (.putfield 21, 3) := by decide +kernel
theorem dX4_init_36 : decode cX4_init 36 = .ok (.aload_n 0, 1) := by decide +kernel
theorem dX4_init_37 : decode cX4_init 37 = .ok (.bipush 60, 2) := by decide +kernel
theorem dX4_init_39 : decode cX4_init 39 = .ok (.newarray .int, 2) := by decide +kernel
theorem dX4_init_41 : decode cX4_init 41 = .ok (.putfield 24, 3) := by decide +kernel
theorem dX4_init_44 : decode cX4_init 44 = .ok (.aload_n 0, 1) := by decide +kernel
theorem dX4_init_45 : decode cX4_init 45 = .ok (.bipush 60, 2) := by decide +kernel
theorem dX4_init_47 : decode cX4_init 47 = .ok (.newarray .int, 2) := by decide +kernel
theorem dX4_init_49 : decode cX4_init 49 = .ok (.putfield 27, 3) := by decide +kernel
theorem dX4_init_52 : decode cX4_init 52 = .ok (.aload_n 0, 1) := by decide +kernel
theorem dX4_init_53 : decode cX4_init 53 = .ok (.sipush 999, 3) := by decide +kernel
theorem dX4_init_56 : decode cX4_init 56 = .ok (.putfield 30, 3) := by decide +kernel
theorem dX4_init_59 : decode cX4_init 59 = .ok (.return_, 1) := by decide +kernel
theorem dX4_mayBeTold_0 : decode cX4_mayBeTold 0 = .ok (.iload_n 1, 1) := by decide +kernel
theorem dX4_mayBeTold_1 : decode cX4_mayBeTold 1 = .ok (.invokestatic 34, 3) := by decide +kernel
theorem dX4_mayBeTold_4 : decode cX4_mayBeTold 4 = .ok (.ifCond .eq 15, 3) := by decide +kernel
theorem dX4_mayBeTold_7 : decode cX4_mayBeTold 7 = .ok (.iload_n 1, 1) := by decide +kernel
theorem dX4_mayBeTold_8 : decode cX4_mayBeTold 8 = .ok (.aload_n 0, 1) := by decide +kernel
theorem dX4_mayBeTold_9 : decode cX4_mayBeTold 9 = .ok (.getfield 38, 3) := by decide +kernel
theorem dX4_mayBeTold_12 : decode cX4_mayBeTold 12 = .ok (.if_icmp .lt 7, 3) := by decide +kernel
theorem dX4_mayBeTold_15 : decode cX4_mayBeTold 15 = .ok (.iconst 1, 1) := by decide +kernel
theorem dX4_mayBeTold_16 : decode cX4_mayBeTold 16 = .ok (.goto 4, 3) := by decide +kernel
theorem dX4_mayBeTold_19 : decode cX4_mayBeTold 19 = .ok (.iconst 0, 1) := by decide +kernel
theorem dX4_mayBeTold_20 : decode cX4_mayBeTold 20 = .ok (.ireturn, 1) := by decide +kernel
theorem dX4_has_0 : decode cX4_has 0 = .ok (.iload_n 1, 1) := by decide +kernel
theorem dX4_has_1 : decode cX4_has 1 = .ok (.ifCond .lt 15, 3) := by decide +kernel
theorem dX4_has_4 : decode cX4_has 4 = .ok (.iload_n 1, 1) := by decide +kernel
theorem dX4_has_5 : decode cX4_has 5 = .ok (.aload_n 0, 1) := by decide +kernel
theorem dX4_has_6 : decode cX4_has 6 = .ok (.getfield 41, 3) := by decide +kernel
theorem dX4_has_9 : decode cX4_has 9 = .ok (.if_icmp .ge 7, 3) := by decide +kernel
theorem dX4_has_12 : decode cX4_has 12 = .ok (.iconst 1, 1) := by decide +kernel
theorem dX4_has_13 : decode cX4_has 13 = .ok (.goto 4, 3) := by decide +kernel
theorem dX4_has_16 : decode cX4_has 16 = .ok (.iconst 0, 1) := by decide +kernel
theorem dX4_has_17 : decode cX4_has 17 = .ok (.ireturn, 1) := by decide +kernel
theorem dX4_add_0 : decode cX4_add 0 = .ok (.aload_n 0, 1) := by decide +kernel
theorem dX4_add_1 : decode cX4_add 1 = .ok (.getfield 41, 3) := by decide +kernel
theorem dX4_add_4 : decode cX4_add 4 = .ok (.bipush 60, 2) := by decide +kernel
theorem dX4_add_6 : decode cX4_add 6 = .ok (.if_icmp .lt 6, 3) := by decide +kernel
theorem dX4_add_9 : decode cX4_add 9 = .ok (.bipush (-4), 2) := by decide +kernel
theorem dX4_add_11 : decode cX4_add 11 = .ok (.ireturn, 1) := by decide +kernel
theorem dX4_add_12 : decode cX4_add 12 = .ok (.aload_n 0, 1) := by decide +kernel
theorem dX4_add_13 : decode cX4_add 13 = .ok (.getfield 11, 3) := by decide +kernel
theorem dX4_add_16 : decode cX4_add 16 = .ok (.aload_n 0, 1) := by decide +kernel
theorem dX4_add_17 : decode cX4_add 17 = .ok (.getfield 41, 3) := by decide +kernel
theorem dX4_add_20 : decode cX4_add 20 = .ok (.iload_n 1, 1) := by decide +kernel
theorem dX4_add_21 : decode cX4_add 21 = .ok (.iastore, 1) := by decide +kernel
theorem dX4_add_22 : decode cX4_add 22 = .ok (.aload_n 0, 1) := by decide +kernel
theorem dX4_add_23 : decode cX4_add 23 = .ok (.getfield 15, 3) := by decide +kernel
theorem dX4_add_26 : decode cX4_add 26 = .ok (.aload_n 0, 1) := by decide +kernel
theorem dX4_add_27 : decode cX4_add 27 = .ok (.getfield 41, 3) := by decide +kernel
theorem dX4_add_30 : decode cX4_add 30 = .ok (.iload_n 2, 1) := by decide +kernel
theorem dX4_add_31 : decode cX4_add 31 = .ok (.iastore, 1) := by decide +kernel
theorem dX4_add_32 : decode cX4_add 32 = .ok (.aload_n 0, 1) := by decide +kernel
theorem dX4_add_33 : decode cX4_add 33 = .ok (.getfield 18, 3) := by decide +kernel
theorem dX4_add_36 : decode cX4_add 36 = .ok (.aload_n 0, 1) := by decide +kernel
theorem dX4_add_37 : decode cX4_add 37 = .ok (.getfield 41, 3) := by decide +kernel
theorem dX4_add_40 : decode cX4_add 40 = .ok (.iload_n 3, 1) := by decide +kernel
theorem dX4_add_41 : decode cX4_add 41 = .ok (.iastore, 1) := by decide +kernel
theorem dX4_add_42 : decode cX4_add 42 = .ok (.aload_n 0, 1) := by decide +kernel
theorem dX4_add_43 : decode cX4_add 43 = .ok (.getfield 21, 3) := by decide +kernel
theorem dX4_add_46 : decode cX4_add 46 = .ok (.aload_n 0, 1) := by decide +kernel
theorem dX4_add_47 : decode cX4_add 47 = .ok (.getfield 41, 3) := by decide +kernel
theorem dX4_add_50 : decode cX4_add 50 = .ok (.iload 4, 2) := by decide +kernel
theorem dX4_add_52 : decode cX4_add 52 = .ok (.iastore, 1) := by decide +kernel
theorem dX4_add_53 : decode cX4_add 53 = .ok (.aload_n 0, 1) := by decide +kernel
theorem dX4_add_54 : decode cX4_add 54 = .ok (.getfield 24, 3) := by decide +kernel
theorem dX4_add_57 : decode cX4_add 57 = .ok (.aload_n 0, 1) := by decide +kernel
theorem dX4_add_58 : decode cX4_add 58 = .ok (.getfield 41, 3) := by decide +kernel
theorem dX4_add_61 : decode cX4_add 61 = .ok (.iload 5, 2) := by decide +kernel
theorem dX4_add_63 : decode cX4_add 63 = .ok (.iastore, 1) := by decide +kernel
theorem dX4_add_64 : decode cX4_add 64 = .ok (.aload_n 0, 1) := by decide +kernel
theorem dX4_add_65 : decode cX4_add 65 = .ok (.getfield 27, 3) := by decide +kernel
theorem dX4_add_68 : decode cX4_add 68 = .ok (.aload_n 0, 1) := by decide +kernel
theorem dX4_add_69 : decode cX4_add 69 = .ok (.getfield 41, 3) := by decide +kernel
theorem dX4_add_72 : decode cX4_add 72 = .ok (.sipush 1000, 3) := by decide +kernel
theorem dX4_add_75 : decode cX4_add 75 = .ok (.iastore, 1) := by decide +kernel
theorem dX4_add_76 : decode cX4_add 76 = .ok (.aload_n 0, 1) := by decide +kernel
theorem dX4_add_77 : decode cX4_add 77 = .ok (.iload 5, 2) := by decide +kernel
theorem dX4_add_79 : decode cX4_add 79 = .ok (.putfield 38, 3) := by decide +kernel
theorem dX4_add_82 : decode cX4_add 82 = .ok (.aload_n 0, 1) := by decide +kernel
theorem dX4_add_83 : decode cX4_add 83 = .ok (.dup, 1) := by decide +kernel
theorem dX4_add_84 : decode cX4_add 84 = .ok (.getfield 41, 3) := by decide +kernel
theorem dX4_add_87 : decode cX4_add 87 = .ok (.iconst 1, 1) := by decide +kernel
theorem dX4_add_88 : decode cX4_add 88 = .ok (.iadd, 1) := by decide +kernel
theorem dX4_add_89 : decode cX4_add 89 = .ok (.putfield 41, 3) := by decide +kernel
theorem dX4_add_92 : decode cX4_add 92 = .ok (.aload_n 0, 1) := by decide +kernel
theorem dX4_add_93 : decode cX4_add 93 = .ok (.getfield 41, 3) := by decide +kernel
theorem dX4_add_96 : decode cX4_add 96 = .ok (.iconst 1, 1) := by decide +kernel
theorem dX4_add_97 : decode cX4_add 97 = .ok (.isub, 1) := by decide +kernel
theorem dX4_add_98 : decode cX4_add 98 = .ok (.ireturn, 1) := by decide +kernel
theorem dX4_withdraw_0 : decode cX4_withdraw 0 = .ok (.aload_n 0, 1) := by decide +kernel
theorem dX4_withdraw_1 : decode cX4_withdraw 1 = .ok (.getfield 27, 3) := by decide +kernel
theorem dX4_withdraw_4 : decode cX4_withdraw 4 = .ok (.iload_n 1, 1) := by decide +kernel
theorem dX4_withdraw_5 : decode cX4_withdraw 5 = .ok (.iaload, 1) := by decide +kernel
theorem dX4_withdraw_6 : decode cX4_withdraw 6 = .ok (.sipush 1000, 3) := by decide +kernel
theorem dX4_withdraw_9 : decode cX4_withdraw 9 = .ok (.if_icmp .eq 6, 3) := by decide +kernel
theorem dX4_withdraw_12 : decode cX4_withdraw 12 = .ok (.bipush (-3), 2) := by decide +kernel
theorem dX4_withdraw_14 : decode cX4_withdraw 14 = .ok (.ireturn, 1) := by decide +kernel
theorem dX4_withdraw_15 : decode cX4_withdraw 15 = .ok (.aload_n 0, 1) := by decide +kernel
theorem dX4_withdraw_16 : decode cX4_withdraw 16 = .ok (.getfield 27, 3) := by decide +kernel
theorem dX4_withdraw_19 : decode cX4_withdraw 19 = .ok (.iload_n 1, 1) := by decide +kernel
theorem dX4_withdraw_20 : decode cX4_withdraw 20 = .ok (.iload_n 2, 1) := by decide +kernel
theorem dX4_withdraw_21 : decode cX4_withdraw 21 = .ok (.iastore, 1) := by decide +kernel
theorem dX4_withdraw_22 : decode cX4_withdraw 22 = .ok (.aload_n 0, 1) := by decide +kernel
theorem dX4_withdraw_23 : decode cX4_withdraw 23 = .ok (.iload_n 2, 1) := by decide +kernel
theorem dX4_withdraw_24 : decode cX4_withdraw 24 = .ok (.putfield 38, 3) := by decide +kernel
theorem dX4_withdraw_27 : decode cX4_withdraw 27 = .ok (.iconst 1, 1) := by decide +kernel
theorem dX4_withdraw_28 : decode cX4_withdraw 28 = .ok (.ireturn, 1) := by decide +kernel
theorem dX4_counts_0 : decode cX4_counts 0 = .ok (.aload_n 0, 1) := by decide +kernel
theorem dX4_counts_1 : decode cX4_counts 1 = .ok (.getfield 24, 3) := by decide +kernel
theorem dX4_counts_4 : decode cX4_counts 4 = .ok (.iload_n 1, 1) := by decide +kernel
theorem dX4_counts_5 : decode cX4_counts 5 = .ok (.iaload, 1) := by decide +kernel
theorem dX4_counts_6 : decode cX4_counts 6 = .ok (.aload_n 0, 1) := by decide +kernel
theorem dX4_counts_7 : decode cX4_counts 7 = .ok (.getfield 30, 3) := by decide +kernel
theorem dX4_counts_10 : decode cX4_counts 10 = .ok (.if_icmp .gt 20, 3) := by decide +kernel
theorem dX4_counts_13 : decode cX4_counts 13 = .ok (.aload_n 0, 1) := by decide +kernel
theorem dX4_counts_14 : decode cX4_counts 14 = .ok (.getfield 27, 3) := by decide +kernel
theorem dX4_counts_17 : decode cX4_counts 17 = .ok (.iload_n 1, 1) := by decide +kernel
theorem dX4_counts_18 : decode cX4_counts 18 = .ok (.iaload, 1) := by decide +kernel
theorem dX4_counts_19 : decode cX4_counts 19 = .ok (.aload_n 0, 1) := by decide +kernel
theorem dX4_counts_20 : decode cX4_counts 20 = .ok (.getfield 30, 3) := by decide +kernel
theorem dX4_counts_23 : decode cX4_counts 23 = .ok (.if_icmp .le 7, 3) := by decide +kernel
theorem dX4_counts_26 : decode cX4_counts 26 = .ok (.iconst 1, 1) := by decide +kernel
theorem dX4_counts_27 : decode cX4_counts 27 = .ok (.goto 4, 3) := by decide +kernel
theorem dX4_counts_30 : decode cX4_counts 30 = .ok (.iconst 0, 1) := by decide +kernel
theorem dX4_counts_31 : decode cX4_counts 31 = .ok (.ireturn, 1) := by decide +kernel
theorem dX4_isOf_0 : decode cX4_isOf 0 = .ok (.aload_n 0, 1) := by decide +kernel
theorem dX4_isOf_1 : decode cX4_isOf 1 = .ok (.getfield 15, 3) := by decide +kernel
theorem dX4_isOf_4 : decode cX4_isOf 4 = .ok (.iload_n 1, 1) := by decide +kernel
theorem dX4_isOf_5 : decode cX4_isOf 5 = .ok (.iaload, 1) := by decide +kernel
theorem dX4_isOf_6 : decode cX4_isOf 6 = .ok (.iload_n 3, 1) := by decide +kernel
theorem dX4_isOf_7 : decode cX4_isOf 7 = .ok (.if_icmp .ne 22, 3) := by decide +kernel
theorem dX4_isOf_10 : decode cX4_isOf 10 = .ok (.iload_n 2, 1) := by decide +kernel
theorem dX4_isOf_11 : decode cX4_isOf 11 = .ok (.iconst (-1), 1) := by decide +kernel
theorem dX4_isOf_12 : decode cX4_isOf 12 = .ok (.if_icmp .eq 13, 3) := by decide +kernel
theorem dX4_isOf_15 : decode cX4_isOf 15 = .ok (.aload_n 0, 1) := by decide +kernel
theorem dX4_isOf_16 : decode cX4_isOf 16 = .ok (.getfield 11, 3) := by decide +kernel
theorem dX4_isOf_19 : decode cX4_isOf 19 = .ok (.iload_n 1, 1) := by decide +kernel
theorem dX4_isOf_20 : decode cX4_isOf 20 = .ok (.iaload, 1) := by decide +kernel
theorem dX4_isOf_21 : decode cX4_isOf 21 = .ok (.iload_n 2, 1) := by decide +kernel
theorem dX4_isOf_22 : decode cX4_isOf 22 = .ok (.if_icmp .ne 7, 3) := by decide +kernel
theorem dX4_isOf_25 : decode cX4_isOf 25 = .ok (.iconst 1, 1) := by decide +kernel
theorem dX4_isOf_26 : decode cX4_isOf 26 = .ok (.goto 4, 3) := by decide +kernel
theorem dX4_isOf_29 : decode cX4_isOf 29 = .ok (.iconst 0, 1) := by decide +kernel
theorem dX4_isOf_30 : decode cX4_isOf 30 = .ok (.ireturn, 1) := by decide +kernel
theorem dX4_howManyCount_0 : decode cX4_howManyCount 0 = .ok (.iconst 0, 1) := by decide +kernel
theorem dX4_howManyCount_1 : decode cX4_howManyCount 1 = .ok (.istore_n 1, 1) := by decide +kernel
theorem dX4_howManyCount_2 : decode cX4_howManyCount 2 = .ok (.iconst 0, 1) := by decide +kernel
theorem dX4_howManyCount_3 : decode cX4_howManyCount 3 = .ok (.istore_n 2, 1) := by decide +kernel
theorem dX4_howManyCount_4 : decode cX4_howManyCount 4 = .ok (.iload_n 2, 1) := by decide +kernel
theorem dX4_howManyCount_5 : decode cX4_howManyCount 5 = .ok (.aload_n 0, 1) := by decide +kernel
theorem dX4_howManyCount_6 : decode cX4_howManyCount 6 = .ok (.getfield 41, 3) := by decide +kernel
theorem dX4_howManyCount_9 : decode cX4_howManyCount 9 = .ok (.if_icmp .ge 25, 3) := by decide +kernel
theorem dX4_howManyCount_12 : decode cX4_howManyCount 12 = .ok (.iload_n 1, 1) := by decide +kernel
theorem dX4_howManyCount_13 : decode cX4_howManyCount 13 = .ok (.aload_n 0, 1) := by decide +kernel
theorem dX4_howManyCount_14 : decode cX4_howManyCount 14 = .ok (.iload_n 2, 1) := by decide +kernel
theorem dX4_howManyCount_15 : decode cX4_howManyCount 15 = .ok (.invokevirtual 44, 3) := by decide +kernel
theorem dX4_howManyCount_18 : decode cX4_howManyCount 18 = .ok (.ifCond .eq 7, 3) := by decide +kernel
theorem dX4_howManyCount_21 : decode cX4_howManyCount 21 = .ok (.iconst 1, 1) := by decide +kernel
theorem dX4_howManyCount_22 : decode cX4_howManyCount 22 = .ok (.goto 4, 3) := by decide +kernel
theorem dX4_howManyCount_25 : decode cX4_howManyCount 25 = .ok (.iconst 0, 1) := by decide +kernel
theorem dX4_howManyCount_26 : decode cX4_howManyCount 26 = .ok (.iadd, 1) := by decide +kernel
theorem dX4_howManyCount_27 : decode cX4_howManyCount 27 = .ok (.istore_n 1, 1) := by decide +kernel
theorem dX4_howManyCount_28 : decode cX4_howManyCount 28 = .ok (.iinc 2 1, 3) := by decide +kernel
theorem dX4_howManyCount_31 : decode cX4_howManyCount 31 = .ok (.goto (-27), 3) := by decide +kernel
theorem dX4_howManyCount_34 : decode cX4_howManyCount 34 = .ok (.iload_n 1, 1) := by decide +kernel
theorem dX4_howManyCount_35 : decode cX4_howManyCount 35 = .ok (.ireturn, 1) := by decide +kernel
theorem dX4_tally_0 : decode cX4_tally 0 = .ok (.aload_n 3, 1) := by decide +kernel
theorem dX4_tally_1 : decode cX4_tally 1 = .ok (.invokevirtual 47, 3) := by decide +kernel
theorem dX4_tally_4 : decode cX4_tally 4 = .ok (.iconst 0, 1) := by decide +kernel
theorem dX4_tally_5 : decode cX4_tally 5 = .ok (.istore 4, 2) := by decide +kernel
theorem dX4_tally_7 : decode cX4_tally 7 = .ok (.iload 4, 2) := by decide +kernel
theorem dX4_tally_9 : decode cX4_tally 9 = .ok (.aload_n 0, 1) := by decide +kernel
theorem dX4_tally_10 : decode cX4_tally 10 = .ok (.getfield 41, 3) := by decide +kernel
theorem dX4_tally_13 : decode cX4_tally 13 = .ok (.if_icmp .ge 47, 3) := by decide +kernel
theorem dX4_tally_16 : decode cX4_tally 16 = .ok (.aload_n 0, 1) := by decide +kernel
theorem dX4_tally_17 : decode cX4_tally 17 = .ok (.iload 4, 2) := by decide +kernel
theorem dX4_tally_19 : decode cX4_tally 19 = .ok (.iload_n 1, 1) := by decide +kernel
theorem dX4_tally_20 : decode cX4_tally 20 = .ok (.iload_n 2, 1) := by decide +kernel
theorem dX4_tally_21 : decode cX4_tally 21 = .ok (.invokevirtual 52, 3) := by decide +kernel
theorem dX4_tally_24 : decode cX4_tally 24 = .ok (.ifCond .eq 30, 3) := by decide +kernel
theorem dX4_tally_27 : decode cX4_tally 27 = .ok (.aload_n 0, 1) := by decide +kernel
theorem dX4_tally_28 : decode cX4_tally 28 = .ok (.iload 4, 2) := by decide +kernel
theorem dX4_tally_30 : decode cX4_tally 30 = .ok (.invokevirtual 44, 3) := by decide +kernel
theorem dX4_tally_33 : decode cX4_tally 33 = .ok (.ifCond .eq 21, 3) := by decide +kernel
theorem dX4_tally_36 : decode cX4_tally 36 = .ok (.aload_n 3, 1) := by decide +kernel
theorem dX4_tally_37 : decode cX4_tally 37 = .ok (.aload_n 0, 1) := by decide +kernel
theorem dX4_tally_38 : decode cX4_tally 38 = .ok (.getfield 18, 3) := by decide +kernel
theorem dX4_tally_41 : decode cX4_tally 41 = .ok (.iload 4, 2) := by decide +kernel
theorem dX4_tally_43 : decode cX4_tally 43 = .ok (.iaload, 1) := by decide +kernel
theorem dX4_tally_44 : decode cX4_tally 44 = .ok (.aload_n 0, 1) := by decide +kernel
theorem dX4_tally_45 : decode cX4_tally 45 = .ok (.getfield 21, 3) := by decide +kernel
theorem dX4_tally_48 : decode cX4_tally 48 = .ok (.iload 4, 2) := by decide +kernel
theorem dX4_tally_50 : decode cX4_tally 50 = .ok (.iaload, 1) := by decide +kernel
theorem dX4_tally_51 : decode cX4_tally 51 = .ok (.invokevirtual 56, 3) := by decide +kernel
theorem dX4_tally_54 : decode cX4_tally 54 = .ok (.iinc 4 1, 3) := by decide +kernel
theorem dX4_tally_57 : decode cX4_tally 57 = .ok (.goto (-50), 3) := by decide +kernel
theorem dX4_tally_60 : decode cX4_tally 60 = .ok (.return_, 1) := by decide +kernel
theorem dX5_init_0 : decode cX5_init 0 = .ok (.aload_n 0, 1) := by decide +kernel
theorem dX5_init_1 : decode cX5_init 1 = .ok (.invokespecial 3, 3) := by decide +kernel
theorem dX5_init_4 : decode cX5_init 4 = .ok (.aload_n 0, 1) := by decide +kernel
theorem dX5_init_5 : decode cX5_init 5 = .ok (.bipush 24, 2) := by decide +kernel
theorem dX5_init_7 : decode cX5_init 7 = .ok (.newarray .int, 2) := by decide +kernel
theorem dX5_init_9 : decode cX5_init 9 = .ok (.putfield 11, 3) := by decide +kernel
theorem dX5_init_12 : decode cX5_init 12 = .ok (.aload_n 0, 1) := by decide +kernel
theorem dX5_init_13 : decode cX5_init 13 = .ok (.bipush 24, 2) := by decide +kernel
theorem dX5_init_15 : decode cX5_init 15 = .ok (.newarray .int, 2) := by decide +kernel
theorem dX5_init_17 : decode cX5_init 17 = .ok (.putfield 15, 3) := by decide +kernel
theorem dX5_init_20 : decode cX5_init 20 = .ok (.return_, 1) := by decide +kernel
theorem dX5_add_0 : decode cX5_add 0 = .ok (.aload_n 0, 1) := by decide +kernel
theorem dX5_add_1 : decode cX5_add 1 = .ok (.getfield 18, 3) := by decide +kernel
theorem dX5_add_4 : decode cX5_add 4 = .ok (.bipush 24, 2) := by decide +kernel
theorem dX5_add_6 : decode cX5_add 6 = .ok (.if_icmp .lt 6, 3) := by decide +kernel
theorem dX5_add_9 : decode cX5_add 9 = .ok (.bipush (-4), 2) := by decide +kernel
theorem dX5_add_11 : decode cX5_add 11 = .ok (.ireturn, 1) := by decide +kernel
theorem dX5_add_12 : decode cX5_add 12 = .ok (.aload_n 0, 1) := by decide +kernel
theorem dX5_add_13 : decode cX5_add 13 = .ok (.getfield 11, 3) := by decide +kernel
theorem dX5_add_16 : decode cX5_add 16 = .ok (.aload_n 0, 1) := by decide +kernel
theorem dX5_add_17 : decode cX5_add 17 = .ok (.getfield 18, 3) := by decide +kernel
theorem dX5_add_20 : decode cX5_add 20 = .ok (.iload_n 1, 1) := by decide +kernel
theorem dX5_add_21 : decode cX5_add 21 = .ok (.iastore, 1) := by decide +kernel
theorem dX5_add_22 : decode cX5_add 22 = .ok (.aload_n 0, 1) := by decide +kernel
theorem dX5_add_23 : decode cX5_add 23 = .ok (.getfield 15, 3) := by decide +kernel
theorem dX5_add_26 : decode cX5_add 26 = .ok (.aload_n 0, 1) := by decide +kernel
theorem dX5_add_27 : decode cX5_add 27 = .ok (.getfield 18, 3) := by decide +kernel
theorem dX5_add_30 : decode cX5_add 30 = .ok (.iload_n 2, 1) := by decide +kernel
theorem dX5_add_31 : decode cX5_add 31 = .ok (.iastore, 1) := by decide +kernel
theorem dX5_add_32 : decode cX5_add 32 = .ok (.aload_n 0, 1) := by decide +kernel
theorem dX5_add_33 : decode cX5_add 33 = .ok (.dup, 1) := by decide +kernel
theorem dX5_add_34 : decode cX5_add 34 = .ok (.getfield 18, 3) := by decide +kernel
theorem dX5_add_37 : decode cX5_add 37 = .ok (.iconst 1, 1) := by decide +kernel
theorem dX5_add_38 : decode cX5_add 38 = .ok (.iadd, 1) := by decide +kernel
theorem dX5_add_39 : decode cX5_add 39 = .ok (.putfield 18, 3) := by decide +kernel
theorem dX5_add_42 : decode cX5_add 42 = .ok (.aload_n 0, 1) := by decide +kernel
theorem dX5_add_43 : decode cX5_add 43 = .ok (.getfield 18, 3) := by decide +kernel
theorem dX5_add_46 : decode cX5_add 46 = .ok (.ireturn, 1) := by decide +kernel
theorem dX5_missesOf_0 : decode cX5_missesOf 0 = .ok (.iconst 0, 1) := by decide +kernel
theorem dX5_missesOf_1 : decode cX5_missesOf 1 = .ok (.istore_n 3, 1) := by decide +kernel
theorem dX5_missesOf_2 : decode cX5_missesOf 2 = .ok (.iconst 1, 1) := by decide +kernel
theorem dX5_missesOf_3 : decode cX5_missesOf 3 = .ok (.istore 4, 2) := by decide +kernel
theorem dX5_missesOf_5 : decode cX5_missesOf 5 = .ok (.iload 4, 2) := by decide +kernel
theorem dX5_missesOf_7 : decode cX5_missesOf 7 = .ok (.aload_n 0, 1) := by decide +kernel
theorem dX5_missesOf_8 : decode cX5_missesOf 8 = .ok (.getfield 18, 3) := by decide +kernel
theorem dX5_missesOf_11 : decode cX5_missesOf 11 = .ok (.if_icmp .ge 69, 3) := by decide +kernel
theorem dX5_missesOf_14 : decode cX5_missesOf 14 = .ok (.aload_n 0, 1) := by decide +kernel
theorem dX5_missesOf_15 : decode cX5_missesOf 15 = .ok (.getfield 15, 3) := by decide +kernel
theorem dX5_missesOf_18 : decode cX5_missesOf 18 = .ok (.iload 4, 2) := by decide +kernel
theorem dX5_missesOf_20 : decode cX5_missesOf 20 = .ok (.iconst 1, 1) := by decide +kernel
theorem dX5_missesOf_21 : decode cX5_missesOf 21 = .ok (.isub, 1) := by decide +kernel
theorem dX5_missesOf_22 : decode cX5_missesOf 22 = .ok (.iaload, 1) := by decide +kernel
theorem dX5_missesOf_23 : decode cX5_missesOf 23 = .ok (.iconst 1, 1) := by decide +kernel
theorem dX5_missesOf_24 : decode cX5_missesOf 24 = .ok (.if_icmp .ne 8, 3) := by decide +kernel
theorem dX5_missesOf_27 : decode cX5_missesOf 27 = .ok (.iload_n 2, 1) := by decide +kernel
theorem dX5_missesOf_28 : decode cX5_missesOf 28 = .ok (.ineg, 1) := by decide +kernel
theorem dX5_missesOf_29 : decode cX5_missesOf 29 = .ok (.goto 4, 3) := by decide +kernel
theorem dX5_missesOf_32 : decode cX5_missesOf 32 = .ok (.iload_n 1, 1) := by decide +kernel
theorem dX5_missesOf_33 : decode cX5_missesOf 33 = .ok (.istore 5, 2) := by decide +kernel
theorem dX5_missesOf_35 : decode cX5_missesOf 35 = .ok (.iconst 0, 1) := by decide +kernel
theorem dX5_missesOf_36 : decode cX5_missesOf 36 = .ok (.bipush 10, 2) := by decide +kernel
theorem dX5_missesOf_38 : decode cX5_missesOf 38 = .ok (.aload_n 0, 1) := by decide +kernel
theorem dX5_missesOf_39 : decode cX5_missesOf 39 = .ok (.getfield 11, 3) := by decide +kernel
theorem dX5_missesOf_42 : decode cX5_missesOf 42 = .ok (.iload 4, 2) := by decide +kernel
theorem dX5_missesOf_44 : decode cX5_missesOf 44 = .ok (.iconst 1, 1) := by decide +kernel
theorem dX5_missesOf_45 : decode cX5_missesOf 45 = .ok (.isub, 1) := by decide +kernel
theorem dX5_missesOf_46 : decode cX5_missesOf 46 = .ok (.iaload, 1) := by decide +kernel
theorem dX5_missesOf_47 : decode cX5_missesOf 47 = .ok (.iload 5, 2) := by decide +kernel
theorem dX5_missesOf_49 : decode cX5_missesOf 49 = .ok (.iadd, 1) := by decide +kernel
theorem dX5_missesOf_50 : decode cX5_missesOf 50 = .ok (.invokestatic 22, 3) := by decide +kernel
theorem dX5_missesOf_53 : decode cX5_missesOf 53 = .ok (.invokestatic 28, 3) := by decide +kernel
theorem dX5_missesOf_56 : decode cX5_missesOf 56 = .ok (.istore 6, 2) := by decide +kernel
theorem dX5_missesOf_58 : decode cX5_missesOf 58 = .ok (.iload_n 3, 1) := by decide +kernel
theorem dX5_missesOf_59 : decode cX5_missesOf 59 = .ok (.aload_n 0, 1) := by decide +kernel
theorem dX5_missesOf_60 : decode cX5_missesOf 60 = .ok (.getfield 11, 3) := by decide +kernel
theorem dX5_missesOf_63 : decode cX5_missesOf 63 = .ok (.iload 4, 2) := by decide +kernel
theorem dX5_missesOf_65 : decode cX5_missesOf 65 = .ok (.iaload, 1) := by decide +kernel
theorem dX5_missesOf_66 : decode cX5_missesOf 66 = .ok (.iload 6, 2) := by decide +kernel
theorem dX5_missesOf_68 : decode cX5_missesOf 68 = .ok (.isub, 1) := by decide +kernel
theorem dX5_missesOf_69 : decode cX5_missesOf 69 = .ok (.invokestatic 31, 3) := by decide +kernel
theorem dX5_missesOf_72 : decode cX5_missesOf 72 = .ok (.iadd, 1) := by decide +kernel
theorem dX5_missesOf_73 : decode cX5_missesOf 73 = .ok (.istore_n 3, 1) := by decide +kernel
theorem dX5_missesOf_74 : decode cX5_missesOf 74 = .ok (.iinc 4 1, 3) := by decide +kernel
theorem dX5_missesOf_77 : decode cX5_missesOf 77 = .ok (.goto (-72), 3) := by decide +kernel
theorem dX5_missesOf_80 : decode cX5_missesOf 80 = .ok (.iload_n 3, 1) := by decide +kernel
theorem dX5_missesOf_81 : decode cX5_missesOf 81 = .ok (.ireturn, 1) := by decide +kernel
theorem dX5_learn_0 : decode cX5_learn 0 = .ok (.aload_n 0, 1) := by decide +kernel
theorem dX5_learn_1 : decode cX5_learn 1 = .ok (.iconst 0, 1) := by decide +kernel
theorem dX5_learn_2 : decode cX5_learn 2 = .ok (.putfield 35, 3) := by decide +kernel
theorem dX5_learn_5 : decode cX5_learn 5 = .ok (.aload_n 0, 1) := by decide +kernel
theorem dX5_learn_6 : decode cX5_learn 6 = .ok (.iconst 0, 1) := by decide +kernel
theorem dX5_learn_7 : decode cX5_learn 7 = .ok (.putfield 38, 3) := by decide +kernel
theorem dX5_learn_10 : decode cX5_learn 10 = .ok (.aload_n 0, 1) := by decide +kernel
theorem dX5_learn_11 : decode cX5_learn 11 = .ok (.aload_n 0, 1) := by decide +kernel
theorem dX5_learn_12 : decode cX5_learn 12 = .ok (.iconst 0, 1) := by decide +kernel
theorem dX5_learn_13 : decode cX5_learn 13 = .ok (.iconst 0, 1) := by decide +kernel
theorem dX5_learn_14 : decode cX5_learn 14 = .ok (.invokevirtual 41, 3) := by decide +kernel
theorem dX5_learn_17 : decode cX5_learn 17 = .ok (.putfield 44, 3) := by decide +kernel
theorem dX5_learn_20 : decode cX5_learn 20 = .ok (.iconst 0, 1) := by decide +kernel
theorem dX5_learn_21 : decode cX5_learn 21 = .ok (.istore_n 1, 1) := by decide +kernel
theorem dX5_learn_22 : decode cX5_learn 22 = .ok (.iload_n 1, 1) := by decide +kernel
theorem dX5_learn_23 : decode cX5_learn 23 = .ok (.iconst 4, 1) := by decide +kernel
theorem dX5_learn_24 : decode cX5_learn 24 = .ok (.if_icmp .gt 52, 3) := by decide +kernel
theorem dX5_learn_27 : decode cX5_learn 27 = .ok (.iconst 0, 1) := by decide +kernel
theorem dX5_learn_28 : decode cX5_learn 28 = .ok (.istore_n 2, 1) := by decide +kernel
theorem dX5_learn_29 : decode cX5_learn 29 = .ok (.iload_n 2, 1) := by decide +kernel
theorem dX5_learn_30 : decode cX5_learn 30 = .ok (.iconst 4, 1) := by decide +kernel
theorem dX5_learn_31 : decode cX5_learn 31 = .ok (.if_icmp .gt 39, 3) := by decide +kernel
theorem dX5_learn_34 : decode cX5_learn 34 = .ok (.aload_n 0, 1) := by decide +kernel
theorem dX5_learn_35 : decode cX5_learn 35 = .ok (.iload_n 1, 1) := by decide +kernel
theorem dX5_learn_36 : decode cX5_learn 36 = .ok (.iload_n 2, 1) := by decide +kernel
theorem dX5_learn_37 : decode cX5_learn 37 = .ok (.invokevirtual 41, 3) := by decide +kernel
theorem dX5_learn_40 : decode cX5_learn 40 = .ok (.istore_n 3, 1) := by decide +kernel
theorem dX5_learn_41 : decode cX5_learn 41 = .ok (.iload_n 3, 1) := by decide +kernel
theorem dX5_learn_42 : decode cX5_learn 42 = .ok (.aload_n 0, 1) := by decide +kernel
theorem dX5_learn_43 : decode cX5_learn 43 = .ok (.getfield 44, 3) := by decide +kernel
theorem dX5_learn_46 : decode cX5_learn 46 = .ok (.if_icmp .ge 18, 3) := by decide +kernel
theorem dX5_learn_49 : decode cX5_learn 49 = .ok (.aload_n 0, 1) := by decide +kernel
theorem dX5_learn_50 : decode cX5_learn 50 = .ok (.iload_n 3, 1) := by decide +kernel
theorem dX5_learn_51 : decode cX5_learn 51 = .ok (.putfield 44, 3) := by decide +kernel
theorem dX5_learn_54 : decode cX5_learn 54 = .ok (.aload_n 0, 1) := by decide +kernel
theorem dX5_learn_55 : decode cX5_learn 55 = .ok (.iload_n 1, 1) := by decide +kernel
theorem dX5_learn_56 : decode cX5_learn 56 = .ok (.putfield 35, 3) := by decide +kernel
theorem dX5_learn_59 : decode cX5_learn 59 = .ok (.aload_n 0, 1) := by decide +kernel
theorem dX5_learn_60 : decode cX5_learn 60 = .ok (.iload_n 2, 1) := by decide +kernel
theorem dX5_learn_61 : decode cX5_learn 61 = .ok (.putfield 38, 3) := by decide +kernel
theorem dX5_learn_64 : decode cX5_learn 64 = .ok (.iinc 2 1, 3) := by decide +kernel
theorem dX5_learn_67 : decode cX5_learn 67 = .ok (.goto (-38), 3) := by decide +kernel
theorem dX5_learn_70 : decode cX5_learn 70 = .ok (.iinc 1 1, 3) := by decide +kernel
theorem dX5_learn_73 : decode cX5_learn 73 = .ok (.goto (-51), 3) := by decide +kernel
theorem dX5_learn_76 : decode cX5_learn 76 = .ok (.return_, 1) := by decide +kernel
theorem dX5_got_0 : decode cX5_got 0 = .ok (.iconst 0, 1) := by decide +kernel
theorem dX5_got_1 : decode cX5_got 1 = .ok (.istore_n 1, 1) := by decide +kernel
theorem dX5_got_2 : decode cX5_got 2 = .ok (.iconst 0, 1) := by decide +kernel
theorem dX5_got_3 : decode cX5_got 3 = .ok (.istore_n 2, 1) := by decide +kernel
theorem dX5_got_4 : decode cX5_got 4 = .ok (.iload_n 2, 1) := by decide +kernel
theorem dX5_got_5 : decode cX5_got 5 = .ok (.aload_n 0, 1) := by decide +kernel
theorem dX5_got_6 : decode cX5_got 6 = .ok (.getfield 18, 3) := by decide +kernel
theorem dX5_got_9 : decode cX5_got 9 = .ok (.if_icmp .ge 28, 3) := by decide +kernel
theorem dX5_got_12 : decode cX5_got 12 = .ok (.iload_n 1, 1) := by decide +kernel
theorem dX5_got_13 : decode cX5_got 13 = .ok (.aload_n 0, 1) := by decide +kernel
theorem dX5_got_14 : decode cX5_got 14 = .ok (.getfield 15, 3) := by decide +kernel
theorem dX5_got_17 : decode cX5_got 17 = .ok (.iload_n 2, 1) := by decide +kernel
theorem dX5_got_18 : decode cX5_got 18 = .ok (.iaload, 1) := by decide +kernel
theorem dX5_got_19 : decode cX5_got 19 = .ok (.bipush 10, 2) := by decide +kernel
theorem dX5_got_21 : decode cX5_got 21 = .ok (.aload_n 0, 1) := by decide +kernel
theorem dX5_got_22 : decode cX5_got 22 = .ok (.getfield 11, 3) := by decide +kernel
theorem dX5_got_25 : decode cX5_got 25 = .ok (.iload_n 2, 1) := by decide +kernel
theorem dX5_got_26 : decode cX5_got 26 = .ok (.iaload, 1) := by decide +kernel
theorem dX5_got_27 : decode cX5_got 27 = .ok (.isub, 1) := by decide +kernel
theorem dX5_got_28 : decode cX5_got 28 = .ok (.imul, 1) := by decide +kernel
theorem dX5_got_29 : decode cX5_got 29 = .ok (.iadd, 1) := by decide +kernel
theorem dX5_got_30 : decode cX5_got 30 = .ok (.istore_n 1, 1) := by decide +kernel
theorem dX5_got_31 : decode cX5_got 31 = .ok (.iinc 2 1, 3) := by decide +kernel
theorem dX5_got_34 : decode cX5_got 34 = .ok (.goto (-30), 3) := by decide +kernel
theorem dX5_got_37 : decode cX5_got 37 = .ok (.iload_n 1, 1) := by decide +kernel
theorem dX5_got_38 : decode cX5_got 38 = .ok (.ireturn, 1) := by decide +kernel
theorem dX5_could_0 : decode cX5_could 0 = .ok (.iconst 0, 1) := by decide +kernel
theorem dX5_could_1 : decode cX5_could 1 = .ok (.istore_n 1, 1) := by decide +kernel
theorem dX5_could_2 : decode cX5_could 2 = .ok (.iconst 0, 1) := by decide +kernel
theorem dX5_could_3 : decode cX5_could 3 = .ok (.istore_n 2, 1) := by decide +kernel
theorem dX5_could_4 : decode cX5_could 4 = .ok (.iload_n 2, 1) := by decide +kernel
theorem dX5_could_5 : decode cX5_could 5 = .ok (.bipush 11, 2) := by decide +kernel
theorem dX5_could_7 : decode cX5_could 7 = .ok (.if_icmp .ge 24, 3) := by decide +kernel
theorem dX5_could_10 : decode cX5_could 10 = .ok (.iload_n 1, 1) := by decide +kernel
theorem dX5_could_11 : decode cX5_could 11 = .ok (.bipush 10, 2) := by decide +kernel
theorem dX5_could_13 : decode cX5_could 13 = .ok (.iload_n 2, 1) := by decide +kernel
theorem dX5_could_14 : decode cX5_could 14 = .ok (.isub, 1) := by decide +kernel
theorem dX5_could_15 : decode cX5_could 15 = .ok (.aload_n 0, 1) := by decide +kernel
theorem dX5_could_16 : decode cX5_could 16 = .ok (.iload_n 2, 1) := by decide +kernel
theorem dX5_could_17 : decode cX5_could 17 = .ok (.invokevirtual 47, 3) := by decide +kernel
theorem dX5_could_20 : decode cX5_could 20 = .ok (.imul, 1) := by decide +kernel
theorem dX5_could_21 : decode cX5_could 21 = .ok (.invokestatic 28, 3) := by decide +kernel
theorem dX5_could_24 : decode cX5_could 24 = .ok (.istore_n 1, 1) := by decide +kernel
theorem dX5_could_25 : decode cX5_could 25 = .ok (.iinc 2 1, 3) := by decide +kernel
theorem dX5_could_28 : decode cX5_could 28 = .ok (.goto (-24), 3) := by decide +kernel
theorem dX5_could_31 : decode cX5_could 31 = .ok (.iload_n 1, 1) := by decide +kernel
theorem dX5_could_32 : decode cX5_could 32 = .ok (.ireturn, 1) := by decide +kernel
theorem dX5_takenUpTo_0 : decode cX5_takenUpTo 0 = .ok (.iconst 0, 1) := by decide +kernel
theorem dX5_takenUpTo_1 : decode cX5_takenUpTo 1 = .ok (.istore_n 2, 1) := by decide +kernel
theorem dX5_takenUpTo_2 : decode cX5_takenUpTo 2 = .ok (.iconst 0, 1) := by decide +kernel
theorem dX5_takenUpTo_3 : decode cX5_takenUpTo 3 = .ok (.istore_n 3, 1) := by decide +kernel
theorem dX5_takenUpTo_4 : decode cX5_takenUpTo 4 = .ok (.iload_n 3, 1) := by decide +kernel
theorem dX5_takenUpTo_5 : decode cX5_takenUpTo 5 = .ok (.aload_n 0, 1) := by decide +kernel
theorem dX5_takenUpTo_6 : decode cX5_takenUpTo 6 = .ok (.getfield 18, 3) := by decide +kernel
theorem dX5_takenUpTo_9 : decode cX5_takenUpTo 9 = .ok (.if_icmp .ge 32, 3) := by decide +kernel
theorem dX5_takenUpTo_12 : decode cX5_takenUpTo 12 = .ok (.iload_n 2, 1) := by decide +kernel
theorem dX5_takenUpTo_13 : decode cX5_takenUpTo 13 = .ok (.aload_n 0, 1) := by decide +kernel
theorem dX5_takenUpTo_14 : decode cX5_takenUpTo 14 = .ok (.getfield 11, 3) := by decide +kernel
theorem dX5_takenUpTo_17 : decode cX5_takenUpTo 17 = .ok (.iload_n 3, 1) := by decide +kernel
theorem dX5_takenUpTo_18 : decode cX5_takenUpTo 18 = .ok (.iaload, 1) := by decide +kernel
theorem dX5_takenUpTo_19 : decode cX5_takenUpTo 19 = .ok (.iload_n 1, 1) := by decide +kernel
theorem dX5_takenUpTo_20 : decode cX5_takenUpTo 20 = .ok (.if_icmp .gt 12, 3) := by decide +kernel
theorem dX5_takenUpTo_23 : decode cX5_takenUpTo 23 = .ok (.aload_n 0, 1) := by decide +kernel
theorem dX5_takenUpTo_24 : decode cX5_takenUpTo 24 = .ok (.getfield 15, 3) := by decide +kernel
theorem dX5_takenUpTo_27 : decode cX5_takenUpTo 27 = .ok (.iload_n 3, 1) := by decide +kernel
theorem dX5_takenUpTo_28 : decode cX5_takenUpTo 28 = .ok (.iaload, 1) := by decide +kernel
theorem dX5_takenUpTo_29 : decode cX5_takenUpTo 29 = .ok (.goto 4, 3) := by decide +kernel
theorem dX5_takenUpTo_32 : decode cX5_takenUpTo 32 = .ok (.iconst 0, 1) := by decide +kernel
theorem dX5_takenUpTo_33 : decode cX5_takenUpTo 33 = .ok (.iadd, 1) := by decide +kernel
theorem dX5_takenUpTo_34 : decode cX5_takenUpTo 34 = .ok (.istore_n 2, 1) := by decide +kernel
theorem dX5_takenUpTo_35 : decode cX5_takenUpTo 35 = .ok (.iinc 3 1, 3) := by decide +kernel
theorem dX5_takenUpTo_38 : decode cX5_takenUpTo 38 = .ok (.goto (-34), 3) := by decide +kernel
theorem dX5_takenUpTo_41 : decode cX5_takenUpTo 41 = .ok (.iload_n 2, 1) := by decide +kernel
theorem dX5_takenUpTo_42 : decode cX5_takenUpTo 42 = .ok (.ireturn, 1) := by decide +kernel
theorem dX6_init_0 : decode cX6_init 0 = .ok (.aload_n 0, 1) := by decide +kernel
theorem dX6_init_1 : decode cX6_init 1 = .ok (.invokespecial 3, 3) := by decide +kernel
theorem dX6_init_4 : decode cX6_init 4 = .ok (.aload_n 0, 1) := by decide +kernel
theorem dX6_init_5 : decode cX6_init 5 = .ok (.bipush 12, 2) := by decide +kernel
theorem dX6_init_7 : decode cX6_init 7 = .ok (.newarray .int, 2) := by decide +kernel
theorem dX6_init_9 : decode cX6_init 9 = .ok (.putfield 11, 3) := by decide +kernel
theorem dX6_init_12 : decode cX6_init 12 = .ok (.aload_n 0, 1) := by decide +kernel
theorem dX6_init_13 : decode cX6_init 13 = .ok (.bipush 12, 2) := by decide +kernel
theorem dX6_init_15 : decode cX6_init 15 = .ok (.newarray .int, 2) := by decide +kernel
theorem dX6_init_17 : decode cX6_init 17 = .ok (.putfield 15, 3) := by decide +kernel
theorem dX6_init_20 : decode cX6_init 20 = .ok (.aload_n 0, 1) := by decide +kernel
theorem dX6_init_21 : decode cX6_init 21 = .ok (.bipush 11, 2) := by decide +kernel
theorem dX6_init_23 : decode cX6_init 23 = .ok (.newarray .int, 2) := by decide +kernel
theorem dX6_init_25 : decode cX6_init 25 = .ok (.putfield 18, 3) := by decide +kernel
theorem dX6_init_28 : decode cX6_init 28 = .ok (.return_, 1) := by decide +kernel
theorem dX6_has_0 : decode cX6_has 0 = .ok (.iload_n 1, 1) := by decide +kernel
theorem dX6_has_1 : decode cX6_has 1 = .ok (.ifCond .lt 15, 3) := by decide +kernel
theorem dX6_has_4 : decode cX6_has 4 = .ok (.iload_n 1, 1) := by decide +kernel
theorem dX6_has_5 : decode cX6_has 5 = .ok (.aload_n 0, 1) := by decide +kernel
theorem dX6_has_6 : decode cX6_has 6 = .ok (.getfield 21, 3) := by decide +kernel
theorem dX6_has_9 : decode cX6_has 9 = .ok (.if_icmp .ge 7, 3) := by decide +kernel
theorem dX6_has_12 : decode cX6_has 12 = .ok (.iconst 1, 1) := by decide +kernel
theorem dX6_has_13 : decode cX6_has 13 = .ok (.goto 4, 3) := by decide +kernel
theorem dX6_has_16 : decode cX6_has 16 = .ok (.iconst 0, 1) := by decide +kernel
theorem dX6_has_17 : decode cX6_has 17 = .ok (.ireturn, 1) := by decide +kernel
theorem dX6_add_0 : decode cX6_add 0 = .ok (.aload_n 0, 1) := by decide +kernel
theorem dX6_add_1 : decode cX6_add 1 = .ok (.getfield 21, 3) := by decide +kernel
theorem dX6_add_4 : decode cX6_add 4 = .ok (.bipush 12, 2) := by decide +kernel
theorem dX6_add_6 : decode cX6_add 6 = .ok (.if_icmp .lt 6, 3) := by decide +kernel
theorem dX6_add_9 : decode cX6_add 9 = .ok (.bipush (-4), 2) := by decide +kernel
theorem dX6_add_11 : decode cX6_add 11 = .ok (.ireturn, 1) := by decide +kernel
theorem dX6_add_12 : decode cX6_add 12 = .ok (.aload_n 0, 1) := by decide +kernel
theorem dX6_add_13 : decode cX6_add 13 = .ok (.getfield 11, 3) := by decide +kernel
theorem dX6_add_16 : decode cX6_add 16 = .ok (.aload_n 0, 1) := by decide +kernel
theorem dX6_add_17 : decode cX6_add 17 = .ok (.getfield 21, 3) := by decide +kernel
theorem dX6_add_20 : decode cX6_add 20 = .ok (.iload_n 1, 1) := by decide +kernel
theorem dX6_add_21 : decode cX6_add 21 = .ok (.iastore, 1) := by decide +kernel
theorem dX6_add_22 : decode cX6_add 22 = .ok (.aload_n 0, 1) := by decide +kernel
theorem dX6_add_23 : decode cX6_add 23 = .ok (.getfield 15, 3) := by decide +kernel
theorem dX6_add_26 : decode cX6_add 26 = .ok (.aload_n 0, 1) := by decide +kernel
theorem dX6_add_27 : decode cX6_add 27 = .ok (.getfield 21, 3) := by decide +kernel
theorem dX6_add_30 : decode cX6_add 30 = .ok (.iload_n 2, 1) := by decide +kernel
theorem dX6_add_31 : decode cX6_add 31 = .ok (.iastore, 1) := by decide +kernel
theorem dX6_add_32 : decode cX6_add 32 = .ok (.aload_n 0, 1) := by decide +kernel
theorem dX6_add_33 : decode cX6_add 33 = .ok (.dup, 1) := by decide +kernel
theorem dX6_add_34 : decode cX6_add 34 = .ok (.getfield 21, 3) := by decide +kernel
theorem dX6_add_37 : decode cX6_add 37 = .ok (.iconst 1, 1) := by decide +kernel
theorem dX6_add_38 : decode cX6_add 38 = .ok (.iadd, 1) := by decide +kernel
theorem dX6_add_39 : decode cX6_add 39 = .ok (.putfield 21, 3) := by decide +kernel
theorem dX6_add_42 : decode cX6_add 42 = .ok (.aload_n 0, 1) := by decide +kernel
theorem dX6_add_43 : decode cX6_add 43 = .ok (.getfield 21, 3) := by decide +kernel
theorem dX6_add_46 : decode cX6_add 46 = .ok (.iconst 1, 1) := by decide +kernel
theorem dX6_add_47 : decode cX6_add 47 = .ok (.isub, 1) := by decide +kernel
theorem dX6_add_48 : decode cX6_add 48 = .ok (.ireturn, 1) := by decide +kernel
theorem dX6_mend_0 : decode cX6_mend 0 = .ok (.aload_n 0, 1) := by decide +kernel
theorem dX6_mend_1 : decode cX6_mend 1 = .ok (.bipush 12, 2) := by decide +kernel
theorem dX6_mend_3 : decode cX6_mend 3 = .ok (.putfield 25, 3) := by decide +kernel
theorem dX6_mend_6 : decode cX6_mend 6 = .ok (.iconst 0, 1) := by decide +kernel
theorem dX6_mend_7 : decode cX6_mend 7 = .ok (.istore_n 2, 1) := by decide +kernel
theorem dX6_mend_8 : decode cX6_mend 8 = .ok (.iload_n 2, 1) := by decide +kernel
theorem dX6_mend_9 : decode cX6_mend 9 = .ok (.bipush 11, 2) := by decide +kernel
theorem dX6_mend_11 : decode cX6_mend 11 = .ok (.if_icmp .ge 75, 3) := by decide +kernel
theorem dX6_mend_14 : decode cX6_mend 14 = .ok (.bipush 10, 2) := by decide +kernel
theorem dX6_mend_16 : decode cX6_mend 16 = .ok (.istore_n 3, 1) := by decide +kernel
theorem dX6_mend_17 : decode cX6_mend 17 = .ok (.iload_n 3, 1) := by decide +kernel
theorem dX6_mend_18 : decode cX6_mend 18 = .ok (.iload_n 2, 1) := by decide +kernel
theorem dX6_mend_19 : decode cX6_mend 19 = .ok (.if_icmp .lt 61, 3) := by decide +kernel
theorem dX6_mend_22 : decode cX6_mend 22 = .ok (.iconst 1, 1) := by decide +kernel
theorem dX6_mend_23 : decode cX6_mend 23 = .ok (.iload_n 3, 1) := by decide +kernel
theorem dX6_mend_24 : decode cX6_mend 24 = .ok (.iload_n 2, 1) := by decide +kernel
theorem dX6_mend_25 : decode cX6_mend 25 = .ok (.isub, 1) := by decide +kernel
theorem dX6_mend_26 : decode cX6_mend 26 = .ok (.iconst 1, 1) := by decide +kernel
theorem dX6_mend_27 : decode cX6_mend 27 = .ok (.iadd, 1) := by decide +kernel
theorem dX6_mend_28 : decode cX6_mend 28 = .ok (.ishl, 1) := by decide +kernel
theorem dX6_mend_29 : decode cX6_mend 29 = .ok (.iconst 1, 1) := by decide +kernel
theorem dX6_mend_30 : decode cX6_mend 30 = .ok (.isub, 1) := by decide +kernel
theorem dX6_mend_31 : decode cX6_mend 31 = .ok (.iload_n 2, 1) := by decide +kernel
theorem dX6_mend_32 : decode cX6_mend 32 = .ok (.ishl, 1) := by decide +kernel
theorem dX6_mend_33 : decode cX6_mend 33 = .ok (.istore 4, 2) := by decide +kernel
theorem dX6_mend_35 : decode cX6_mend 35 = .ok (.aload_n 0, 1) := by decide +kernel
theorem dX6_mend_36 : decode cX6_mend 36 = .ok (.getfield 15, 3) := by decide +kernel
theorem dX6_mend_39 : decode cX6_mend 39 = .ok (.iload_n 1, 1) := by decide +kernel
theorem dX6_mend_40 : decode cX6_mend 40 = .ok (.iaload, 1) := by decide +kernel
theorem dX6_mend_41 : decode cX6_mend 41 = .ok (.iload 4, 2) := by decide +kernel
theorem dX6_mend_43 : decode cX6_mend 43 = .ok (.ixor, 1) := by decide +kernel
theorem dX6_mend_44 : decode cX6_mend 44 = .ok (.invokestatic 28, 3) := by decide +kernel
theorem dX6_mend_47 : decode cX6_mend 47 = .ok (.istore 5, 2) := by decide +kernel
theorem dX6_mend_49 : decode cX6_mend 49 = .ok (.iload 5, 2) := by decide +kernel
theorem dX6_mend_51 : decode cX6_mend 51 = .ok (.aload_n 0, 1) := by decide +kernel
theorem dX6_mend_52 : decode cX6_mend 52 = .ok (.getfield 25, 3) := by decide +kernel
theorem dX6_mend_55 : decode cX6_mend 55 = .ok (.if_icmp .ge 19, 3) := by decide +kernel
theorem dX6_mend_58 : decode cX6_mend 58 = .ok (.aload_n 0, 1) := by decide +kernel
theorem dX6_mend_59 : decode cX6_mend 59 = .ok (.iload 5, 2) := by decide +kernel
theorem dX6_mend_61 : decode cX6_mend 61 = .ok (.putfield 25, 3) := by decide +kernel
theorem dX6_mend_64 : decode cX6_mend 64 = .ok (.aload_n 0, 1) := by decide +kernel
theorem dX6_mend_65 : decode cX6_mend 65 = .ok (.iload_n 2, 1) := by decide +kernel
theorem dX6_mend_66 : decode cX6_mend 66 = .ok (.putfield 34, 3) := by decide +kernel
theorem dX6_mend_69 : decode cX6_mend 69 = .ok (.aload_n 0, 1) := by decide +kernel
theorem dX6_mend_70 : decode cX6_mend 70 = .ok (.iload_n 3, 1) := by decide +kernel
theorem dX6_mend_71 : decode cX6_mend 71 = .ok (.putfield 37, 3) := by decide +kernel
theorem dX6_mend_74 : decode cX6_mend 74 = .ok (.iinc 3 (-1), 3) := by decide +kernel
theorem dX6_mend_77 : decode cX6_mend 77 = .ok (.goto (-60), 3) := by decide +kernel
theorem dX6_mend_80 : decode cX6_mend 80 = .ok (.iinc 2 1, 3) := by decide +kernel
theorem dX6_mend_83 : decode cX6_mend 83 = .ok (.goto (-75), 3) := by decide +kernel
theorem dX6_mend_86 : decode cX6_mend 86 = .ok (.return_, 1) := by decide +kernel
theorem dX6_isOf_0 : decode cX6_isOf 0 = .ok (.iload_n 2, 1) := by decide +kernel
theorem dX6_isOf_1 : decode cX6_isOf 1 = .ok (.iconst (-1), 1) := by decide +kernel
theorem dX6_isOf_2 : decode cX6_isOf 2 = .ok (.if_icmp .eq 13, 3) := by decide +kernel
theorem dX6_isOf_5 : decode cX6_isOf 5 = .ok (.aload_n 0, 1) := by decide +kernel
theorem dX6_isOf_6 : decode cX6_isOf 6 = .ok (.getfield 11, 3) := by decide +kernel
theorem dX6_isOf_9 : decode cX6_isOf 9 = .ok (.iload_n 1, 1) := by decide +kernel
theorem dX6_isOf_10 : decode cX6_isOf 10 = .ok (.iaload, 1) := by decide +kernel
theorem dX6_isOf_11 : decode cX6_isOf 11 = .ok (.iload_n 2, 1) := by decide +kernel
theorem dX6_isOf_12 : decode cX6_isOf 12 = .ok (.if_icmp .ne 7, 3) := by decide +kernel
theorem dX6_isOf_15 : decode cX6_isOf 15 = .ok (.iconst 1, 1) := by decide +kernel
theorem dX6_isOf_16 : decode cX6_isOf 16 = .ok (.goto 4, 3) := by decide +kernel
theorem dX6_isOf_19 : decode cX6_isOf 19 = .ok (.iconst 0, 1) := by decide +kernel
theorem dX6_isOf_20 : decode cX6_isOf 20 = .ok (.ireturn, 1) := by decide +kernel
theorem dX6_howMany_0 : decode cX6_howMany 0 = .ok (.iconst 0, 1) := by decide +kernel
theorem dX6_howMany_1 : decode cX6_howMany 1 = .ok (.istore_n 2, 1) := by decide +kernel
theorem dX6_howMany_2 : decode cX6_howMany 2 = .ok (.iconst 0, 1) := by decide +kernel
theorem dX6_howMany_3 : decode cX6_howMany 3 = .ok (.istore_n 3, 1) := by decide +kernel
theorem dX6_howMany_4 : decode cX6_howMany 4 = .ok (.iload_n 3, 1) := by decide +kernel
theorem dX6_howMany_5 : decode cX6_howMany 5 = .ok (.aload_n 0, 1) := by decide +kernel
theorem dX6_howMany_6 : decode cX6_howMany 6 = .ok (.getfield 21, 3) := by decide +kernel
theorem dX6_howMany_9 : decode cX6_howMany 9 = .ok (.if_icmp .ge 26, 3) := by decide +kernel
theorem dX6_howMany_12 : decode cX6_howMany 12 = .ok (.iload_n 2, 1) := by decide +kernel
theorem dX6_howMany_13 : decode cX6_howMany 13 = .ok (.aload_n 0, 1) := by decide +kernel
theorem dX6_howMany_14 : decode cX6_howMany 14 = .ok (.iload_n 3, 1) := by decide +kernel
theorem dX6_howMany_15 : decode cX6_howMany 15 = .ok (.iload_n 1, 1) := by decide +kernel
theorem dX6_howMany_16 : decode cX6_howMany 16 = .ok (.invokevirtual 40, 3) := by decide +kernel
theorem dX6_howMany_19 : decode cX6_howMany 19 = .ok (.ifCond .eq 7, 3) := by decide +kernel
theorem dX6_howMany_22 : decode cX6_howMany 22 = .ok (.iconst 1, 1) := by decide +kernel
theorem dX6_howMany_23 : decode cX6_howMany 23 = .ok (.goto 4, 3) := by decide +kernel
theorem dX6_howMany_26 : decode cX6_howMany 26 = .ok (.iconst 0, 1) := by decide +kernel
theorem dX6_howMany_27 : decode cX6_howMany 27 = .ok (.iadd, 1) := by decide +kernel
theorem dX6_howMany_28 : decode cX6_howMany 28 = .ok (.istore_n 2, 1) := by decide +kernel
theorem dX6_howMany_29 : decode cX6_howMany 29 = .ok (.iinc 3 1, 3) := by decide +kernel
theorem dX6_howMany_32 : decode cX6_howMany 32 = .ok (.goto (-28), 3) := by decide +kernel
theorem dX6_howMany_35 : decode cX6_howMany 35 = .ok (.iload_n 2, 1) := by decide +kernel
theorem dX6_howMany_36 : decode cX6_howMany 36 = .ok (.ireturn, 1) := by decide +kernel
theorem dX6_yeses_0 : decode cX6_yeses 0 = .ok (.iconst 0, 1) := by decide +kernel
theorem dX6_yeses_1 : decode cX6_yeses 1 = .ok (.istore_n 3, 1) := by decide +kernel
theorem dX6_yeses_2 : decode cX6_yeses 2 = .ok (.iconst 0, 1) := by decide +kernel
theorem dX6_yeses_3 : decode cX6_yeses 3 = .ok (.istore 4, 2) := by decide +kernel
theorem dX6_yeses_5 : decode cX6_yeses 5 = .ok (.iload 4, 2) := by decide +kernel
theorem dX6_yeses_7 : decode cX6_yeses 7 = .ok (.aload_n 0, 1) := by decide +kernel
theorem dX6_yeses_8 : decode cX6_yeses 8 = .ok (.getfield 21, 3) := by decide +kernel
theorem dX6_yeses_11 : decode cX6_yeses 11 = .ok (.if_icmp .ge 33, 3) := by decide +kernel
theorem dX6_yeses_14 : decode cX6_yeses 14 = .ok (.aload_n 0, 1) := by decide +kernel
theorem dX6_yeses_15 : decode cX6_yeses 15 = .ok (.iload 4, 2) := by decide +kernel
theorem dX6_yeses_17 : decode cX6_yeses 17 = .ok (.iload_n 1, 1) := by decide +kernel
theorem dX6_yeses_18 : decode cX6_yeses 18 = .ok (.invokevirtual 40, 3) := by decide +kernel
theorem dX6_yeses_21 : decode cX6_yeses 21 = .ok (.ifCond .eq 17, 3) := by decide +kernel
theorem dX6_yeses_24 : decode cX6_yeses 24 = .ok (.iload_n 3, 1) := by decide +kernel
theorem dX6_yeses_25 : decode cX6_yeses 25 = .ok (.aload_n 0, 1) := by decide +kernel
theorem dX6_yeses_26 : decode cX6_yeses 26 = .ok (.getfield 15, 3) := by decide +kernel
theorem dX6_yeses_29 : decode cX6_yeses 29 = .ok (.iload 4, 2) := by decide +kernel
theorem dX6_yeses_31 : decode cX6_yeses 31 = .ok (.iaload, 1) := by decide +kernel
theorem dX6_yeses_32 : decode cX6_yeses 32 = .ok (.iload_n 2, 1) := by decide +kernel
theorem dX6_yeses_33 : decode cX6_yeses 33 = .ok (.ishr, 1) := by decide +kernel
theorem dX6_yeses_34 : decode cX6_yeses 34 = .ok (.iconst 1, 1) := by decide +kernel
theorem dX6_yeses_35 : decode cX6_yeses 35 = .ok (.iand, 1) := by decide +kernel
theorem dX6_yeses_36 : decode cX6_yeses 36 = .ok (.iadd, 1) := by decide +kernel
theorem dX6_yeses_37 : decode cX6_yeses 37 = .ok (.istore_n 3, 1) := by decide +kernel
theorem dX6_yeses_38 : decode cX6_yeses 38 = .ok (.iinc 4 1, 3) := by decide +kernel
theorem dX6_yeses_41 : decode cX6_yeses 41 = .ok (.goto (-36), 3) := by decide +kernel
theorem dX6_yeses_44 : decode cX6_yeses 44 = .ok (.iload_n 3, 1) := by decide +kernel
theorem dX6_yeses_45 : decode cX6_yeses 45 = .ok (.ireturn, 1) := by decide +kernel
theorem dX6_bring_0 : decode cX6_bring 0 = .ok (.bipush 10, 2) := by decide +kernel
theorem dX6_bring_2 : decode cX6_bring 2 = .ok (.iload_n 2, 1) := by decide +kernel
theorem dX6_bring_3 : decode cX6_bring 3 = .ok (.isub, 1) := by decide +kernel
theorem dX6_bring_4 : decode cX6_bring 4 = .ok (.aload_n 0, 1) := by decide +kernel
theorem dX6_bring_5 : decode cX6_bring 5 = .ok (.iload_n 1, 1) := by decide +kernel
theorem dX6_bring_6 : decode cX6_bring 6 = .ok (.iload_n 2, 1) := by decide +kernel
theorem dX6_bring_7 : decode cX6_bring 7 = .ok (.invokevirtual 44, 3) := by decide +kernel
theorem dX6_bring_10 : decode cX6_bring 10 = .ok (.imul, 1) := by decide +kernel
theorem dX6_bring_11 : decode cX6_bring 11 = .ok (.ireturn, 1) := by decide +kernel
theorem dX6_bestOffer_0 : decode cX6_bestOffer 0 = .ok (.iconst 0, 1) := by decide +kernel
theorem dX6_bestOffer_1 : decode cX6_bestOffer 1 = .ok (.istore_n 2, 1) := by decide +kernel
theorem dX6_bestOffer_2 : decode cX6_bestOffer 2 = .ok (.iload_n 2, 1) := by decide +kernel
theorem dX6_bestOffer_3 : decode cX6_bestOffer 3 = .ok (.bipush 11, 2) := by decide +kernel
theorem dX6_bestOffer_5 : decode cX6_bestOffer 5 = .ok (.if_icmp .ge 21, 3) := by decide +kernel
theorem dX6_bestOffer_8 : decode cX6_bestOffer 8 = .ok (.aload_n 0, 1) := by decide +kernel
theorem dX6_bestOffer_9 : decode cX6_bestOffer 9 = .ok (.getfield 18, 3) := by decide +kernel
theorem dX6_bestOffer_12 : decode cX6_bestOffer 12 = .ok (.iload_n 2, 1) := by decide +kernel
theorem dX6_bestOffer_13 : decode cX6_bestOffer 13 = .ok (.aload_n 0, 1) := by decide +kernel
theorem dX6_bestOffer_14 : decode cX6_bestOffer 14 = .ok (.iload_n 1, 1) := by decide +kernel
theorem dX6_bestOffer_15 : decode cX6_bestOffer 15 = .ok (.iload_n 2, 1) := by decide +kernel
theorem dX6_bestOffer_16 : decode cX6_bestOffer 16 = .ok (.invokevirtual 48, 3) := by decide +kernel
theorem dX6_bestOffer_19 : decode cX6_bestOffer 19 = .ok (.iastore, 1) := by decide +kernel
theorem dX6_bestOffer_20 : decode cX6_bestOffer 20 = .ok (.iinc 2 1, 3) := by decide +kernel
theorem dX6_bestOffer_23 : decode cX6_bestOffer 23 = .ok (.goto (-21), 3) := by decide +kernel
theorem dX6_bestOffer_26 : decode cX6_bestOffer 26 = .ok (.aload_n 0, 1) := by decide +kernel
theorem dX6_bestOffer_27 : decode cX6_bestOffer 27 = .ok (.getfield 18, 3) := by decide +kernel
theorem dX6_bestOffer_30 : decode cX6_bestOffer 30 = .ok (.invokestatic 51, 3) := by decide +kernel
theorem dX6_bestOffer_33 : decode cX6_bestOffer 33 = .ok (.ireturn, 1) := by decide +kernel
theorem dX7_init_0 : decode cX7_init 0 = .ok (.aload_n 0, 1) := by decide +kernel
theorem dX7_init_1 : decode cX7_init 1 = .ok (.invokespecial 3, 3) := by decide +kernel
theorem dX7_init_4 : decode cX7_init 4 = .ok (.aload_n 0, 1) := by decide +kernel
theorem dX7_init_5 : decode cX7_init 5 = .ok (.iconst 4, 1) := by decide +kernel
theorem dX7_init_6 : decode cX7_init 6 = .ok (.newarray .int, 2) := by decide +kernel
theorem dX7_init_8 : decode cX7_init 8 = .ok (.dup, 1) := by decide +kernel
theorem dX7_init_9 : decode cX7_init 9 = .ok (.iconst 0, 1) := by decide +kernel
theorem dX7_init_10 : decode cX7_init 10 = .ok (.iconst (-1), 1) := by decide +kernel
theorem dX7_init_11 : decode cX7_init 11 = .ok (.iastore, 1) := by decide +kernel
theorem dX7_init_12 : decode cX7_init 12 = .ok (.dup, 1) := by decide +kernel
theorem dX7_init_13 : decode cX7_init 13 = .ok (.iconst 1, 1) := by decide +kernel
theorem dX7_init_14 : decode cX7_init 14 = .ok (.iconst (-1), 1) := by decide +kernel
theorem dX7_init_15 : decode cX7_init 15 = .ok (.iastore, 1) := by decide +kernel
theorem dX7_init_16 : decode cX7_init 16 = .ok (.dup, 1) := by decide +kernel
theorem dX7_init_17 : decode cX7_init 17 = .ok (.iconst 2, 1) := by decide +kernel
theorem dX7_init_18 : decode cX7_init 18 = .ok (.iconst (-1), 1) := by decide +kernel
theorem dX7_init_19 : decode cX7_init 19 = .ok (.iastore, 1) := by decide +kernel
theorem dX7_init_20 : decode cX7_init 20 = .ok (.dup, 1) := by decide +kernel
theorem dX7_init_21 : decode cX7_init 21 = .ok (.iconst 3, 1) := by decide +kernel
theorem dX7_init_22 : decode cX7_init 22 = .ok (.iconst (-1), 1) := by decide +kernel
theorem dX7_init_23 : decode cX7_init 23 = .ok (.iastore, 1) := by decide +kernel
theorem dX7_init_24 : decode cX7_init 24 = .ok (.putfield 9, 3) := by decide +kernel
theorem dX7_init_27 : decode cX7_init 27 = .ok (.aload_n 0, 1) := by decide +kernel
theorem dX7_init_28 : decode cX7_init 28 = .ok (.iconst 4, 1) := by decide +kernel
theorem dX7_init_29 : decode cX7_init 29 = .ok (.newarray .int, 2) := by decide +kernel
theorem dX7_init_31 : decode cX7_init 31 = .ok (.putfield 15, 3) := by decide +kernel
theorem dX7_init_34 : decode cX7_init 34 = .ok (.aload_n 0, 1) := by decide +kernel
theorem dX7_init_35 : decode cX7_init 35 = .ok (.sipush 192, 3) := by decide +kernel
theorem dX7_init_38 : decode cX7_init 38 = .ok (.newarray .int, 2) := by decide +kernel
theorem dX7_init_40 : decode cX7_init 40 = .ok (.putfield 18, 3) := by decide +kernel
theorem dX7_init_43 : decode cX7_init 43 = .ok (.return_, 1) := by decide +kernel
theorem dX7_found_0 : decode cX7_found 0 = .ok (.aload_n 0, 1) := by decide +kernel
theorem dX7_found_1 : decode cX7_found 1 = .ok (.iload_n 1, 1) := by decide +kernel
theorem dX7_found_2 : decode cX7_found 2 = .ok (.putfield 21, 3) := by decide +kernel
theorem dX7_found_5 : decode cX7_found 5 = .ok (.bipush (-10), 2) := by decide +kernel
theorem dX7_found_7 : decode cX7_found 7 = .ok (.iload_n 1, 1) := by decide +kernel
theorem dX7_found_8 : decode cX7_found 8 = .ok (.isub, 1) := by decide +kernel
theorem dX7_found_9 : decode cX7_found 9 = .ok (.ireturn, 1) := by decide +kernel
theorem dX7_isLost_0 : decode cX7_isLost 0 = .ok (.aload_n 0, 1) := by decide +kernel
theorem dX7_isLost_1 : decode cX7_isLost 1 = .ok (.getfield 9, 3) := by decide +kernel
theorem dX7_isLost_4 : decode cX7_isLost 4 = .ok (.iload_n 1, 1) := by decide +kernel
theorem dX7_isLost_5 : decode cX7_isLost 5 = .ok (.iaload, 1) := by decide +kernel
theorem dX7_isLost_6 : decode cX7_isLost 6 = .ok (.iconst (-1), 1) := by decide +kernel
theorem dX7_isLost_7 : decode cX7_isLost 7 = .ok (.if_icmp .ne 7, 3) := by decide +kernel
theorem dX7_isLost_10 : decode cX7_isLost 10 = .ok (.iconst 1, 1) := by decide +kernel
theorem dX7_isLost_11 : decode cX7_isLost 11 = .ok (.goto 4, 3) := by decide +kernel
theorem dX7_isLost_14 : decode cX7_isLost 14 = .ok (.iconst 0, 1) := by decide +kernel
theorem dX7_isLost_15 : decode cX7_isLost 15 = .ok (.ireturn, 1) := by decide +kernel
theorem dX7_formOf_0 : decode cX7_formOf 0 = .ok (.aload_n 0, 1) := by decide +kernel
theorem dX7_formOf_1 : decode cX7_formOf 1 = .ok (.getfield 9, 3) := by decide +kernel
theorem dX7_formOf_4 : decode cX7_formOf 4 = .ok (.iload_n 1, 1) := by decide +kernel
theorem dX7_formOf_5 : decode cX7_formOf 5 = .ok (.iaload, 1) := by decide +kernel
theorem dX7_formOf_6 : decode cX7_formOf 6 = .ok (.ireturn, 1) := by decide +kernel
theorem dX7_sizeOf_0 : decode cX7_sizeOf 0 = .ok (.aload_n 0, 1) := by decide +kernel
theorem dX7_sizeOf_1 : decode cX7_sizeOf 1 = .ok (.getfield 15, 3) := by decide +kernel
theorem dX7_sizeOf_4 : decode cX7_sizeOf 4 = .ok (.iload_n 1, 1) := by decide +kernel
theorem dX7_sizeOf_5 : decode cX7_sizeOf 5 = .ok (.iaload, 1) := by decide +kernel
theorem dX7_sizeOf_6 : decode cX7_sizeOf 6 = .ok (.ireturn, 1) := by decide +kernel
theorem dX7_renew_0 : decode cX7_renew 0 = .ok (.aload_n 0, 1) := by decide +kernel
theorem dX7_renew_1 : decode cX7_renew 1 = .ok (.getfield 9, 3) := by decide +kernel
theorem dX7_renew_4 : decode cX7_renew 4 = .ok (.iload_n 1, 1) := by decide +kernel
theorem dX7_renew_5 : decode cX7_renew 5 = .ok (.iload_n 2, 1) := by decide +kernel
theorem dX7_renew_6 : decode cX7_renew 6 = .ok (.iastore, 1) := by decide +kernel
theorem dX7_renew_7 : decode cX7_renew 7 = .ok (.aload_n 0, 1) := by decide +kernel
theorem dX7_renew_8 : decode cX7_renew 8 = .ok (.getfield 15, 3) := by decide +kernel
theorem dX7_renew_11 : decode cX7_renew 11 = .ok (.iload_n 1, 1) := by decide +kernel
theorem dX7_renew_12 : decode cX7_renew 12 = .ok (.iload_n 3, 1) := by decide +kernel
theorem dX7_renew_13 : decode cX7_renew 13 = .ok (.iastore, 1) := by decide +kernel
theorem dX7_renew_14 : decode cX7_renew 14 = .ok (.aload_n 0, 1) := by decide +kernel
theorem dX7_renew_15 : decode cX7_renew 15 = .ok (.getfield 18, 3) := by decide +kernel
theorem dX7_renew_18 : decode cX7_renew 18 = .ok (.iload_n 1, 1) := by decide +kernel
theorem dX7_renew_19 : decode cX7_renew 19 = .ok (.bipush 48, 2) := by decide +kernel
theorem dX7_renew_21 : decode cX7_renew 21 = .ok (.imul, 1) := by decide +kernel
theorem dX7_renew_22 : decode cX7_renew 22 = .ok (.iload_n 1, 1) := by decide +kernel
theorem dX7_renew_23 : decode cX7_renew 23 = .ok (.iconst 1, 1) := by decide +kernel
theorem dX7_renew_24 : decode cX7_renew 24 = .ok (.iadd, 1) := by decide +kernel
theorem dX7_renew_25 : decode cX7_renew 25 = .ok (.bipush 48, 2) := by decide +kernel
theorem dX7_renew_27 : decode cX7_renew 27 = .ok (.imul, 1) := by decide +kernel
theorem dX7_renew_28 : decode cX7_renew 28 = .ok (.iconst 0, 1) := by decide +kernel
theorem dX7_renew_29 : decode cX7_renew 29 = .ok (.invokestatic 25, 3) := by decide +kernel
theorem dX7_renew_32 : decode cX7_renew 32 = .ok (.return_, 1) := by decide +kernel
theorem dX7_drop_0 : decode cX7_drop 0 = .ok (.aload_n 0, 1) := by decide +kernel
theorem dX7_drop_1 : decode cX7_drop 1 = .ok (.getfield 9, 3) := by decide +kernel
theorem dX7_drop_4 : decode cX7_drop 4 = .ok (.iload_n 1, 1) := by decide +kernel
theorem dX7_drop_5 : decode cX7_drop 5 = .ok (.iconst (-1), 1) := by decide +kernel
theorem dX7_drop_6 : decode cX7_drop 6 = .ok (.iastore, 1) := by decide +kernel
theorem dX7_drop_7 : decode cX7_drop 7 = .ok (.aload_n 0, 1) := by decide +kernel
theorem dX7_drop_8 : decode cX7_drop 8 = .ok (.getfield 15, 3) := by decide +kernel
theorem dX7_drop_11 : decode cX7_drop 11 = .ok (.iload_n 1, 1) := by decide +kernel
theorem dX7_drop_12 : decode cX7_drop 12 = .ok (.iaload, 1) := by decide +kernel
theorem dX7_drop_13 : decode cX7_drop 13 = .ok (.ireturn, 1) := by decide +kernel
theorem dX7_findingAt_0 : decode cX7_findingAt 0 = .ok (.aload_n 0, 1) := by decide +kernel
theorem dX7_findingAt_1 : decode cX7_findingAt 1 = .ok (.iload_n 1, 1) := by decide +kernel
theorem dX7_findingAt_2 : decode cX7_findingAt 2 = .ok (.invokevirtual 31, 3) := by decide +kernel
theorem dX7_findingAt_5 : decode cX7_findingAt 5 = .ok (.ifCond .eq 5, 3) := by decide +kernel
theorem dX7_findingAt_8 : decode cX7_findingAt 8 = .ok (.iconst 1, 1) := by decide +kernel
theorem dX7_findingAt_9 : decode cX7_findingAt 9 = .ok (.ireturn, 1) := by decide +kernel
theorem dX7_findingAt_10 : decode cX7_findingAt 10 = .ok (.aload_n 0, 1) := by decide +kernel
theorem dX7_findingAt_11 : decode cX7_findingAt 11 = .ok (.getfield 9, 3) := by decide +kernel
theorem dX7_findingAt_14 : decode cX7_findingAt 14 = .ok (.iload_n 1, 1) := by decide +kernel
theorem dX7_findingAt_15 : decode cX7_findingAt 15 = .ok (.iaload, 1) := by decide +kernel
theorem dX7_findingAt_16 : decode cX7_findingAt 16 = .ok (.iload_n 2, 1) := by decide +kernel
theorem dX7_findingAt_17 : decode cX7_findingAt 17 = .ok (.if_icmp .eq 5, 3) := by decide +kernel
theorem dX7_findingAt_20 : decode cX7_findingAt 20 = .ok (.iconst 3, 1) := by decide +kernel
theorem dX7_findingAt_21 : decode cX7_findingAt 21 = .ok (.ireturn, 1) := by decide +kernel
theorem dX7_findingAt_22 : decode cX7_findingAt 22 = .ok (.iload_n 3, 1) := by decide +kernel
theorem dX7_findingAt_23 : decode cX7_findingAt 23 = .ok (.ifCond .lt 13, 3) := by decide +kernel
theorem dX7_findingAt_26 : decode cX7_findingAt 26 = .ok (.iload_n 3, 1) := by decide +kernel
theorem dX7_findingAt_27 : decode cX7_findingAt 27 = .ok (.aload_n 0, 1) := by decide +kernel
theorem dX7_findingAt_28 : decode cX7_findingAt 28 = .ok (.getfield 15, 3) := by decide +kernel
theorem dX7_findingAt_31 : decode cX7_findingAt 31 = .ok (.iload_n 1, 1) := by decide +kernel
theorem dX7_findingAt_32 : decode cX7_findingAt 32 = .ok (.iaload, 1) := by decide +kernel
theorem dX7_findingAt_33 : decode cX7_findingAt 33 = .ok (.if_icmp .lt 7, 3) := by decide +kernel
theorem dX7_findingAt_36 : decode cX7_findingAt 36 = .ok (.iconst 2, 1) := by decide +kernel
theorem dX7_findingAt_37 : decode cX7_findingAt 37 = .ok (.goto 4, 3) := by decide +kernel
theorem dX7_findingAt_40 : decode cX7_findingAt 40 = .ok (.iconst 0, 1) := by decide +kernel
theorem dX7_findingAt_41 : decode cX7_findingAt 41 = .ok (.ireturn, 1) := by decide +kernel
theorem dX7_item_0 : decode cX7_item 0 = .ok (.aload_n 0, 1) := by decide +kernel
theorem dX7_item_1 : decode cX7_item 1 = .ok (.getfield 18, 3) := by decide +kernel
theorem dX7_item_4 : decode cX7_item 4 = .ok (.iload_n 1, 1) := by decide +kernel
theorem dX7_item_5 : decode cX7_item 5 = .ok (.bipush 48, 2) := by decide +kernel
theorem dX7_item_7 : decode cX7_item 7 = .ok (.imul, 1) := by decide +kernel
theorem dX7_item_8 : decode cX7_item 8 = .ok (.iload_n 2, 1) := by decide +kernel
theorem dX7_item_9 : decode cX7_item 9 = .ok (.iadd, 1) := by decide +kernel
theorem dX7_item_10 : decode cX7_item 10 = .ok (.iaload, 1) := by decide +kernel
theorem dX7_item_11 : decode cX7_item 11 = .ok (.ireturn, 1) := by decide +kernel
theorem dX7_keep_0 : decode cX7_keep 0 = .ok (.aload_n 0, 1) := by decide +kernel
theorem dX7_keep_1 : decode cX7_keep 1 = .ok (.getfield 18, 3) := by decide +kernel
theorem dX7_keep_4 : decode cX7_keep 4 = .ok (.iload_n 1, 1) := by decide +kernel
theorem dX7_keep_5 : decode cX7_keep 5 = .ok (.bipush 48, 2) := by decide +kernel
theorem dX7_keep_7 : decode cX7_keep 7 = .ok (.imul, 1) := by decide +kernel
theorem dX7_keep_8 : decode cX7_keep 8 = .ok (.iload_n 2, 1) := by decide +kernel
theorem dX7_keep_9 : decode cX7_keep 9 = .ok (.iadd, 1) := by decide +kernel
theorem dX7_keep_10 : decode cX7_keep 10 = .ok (.aload_n 0, 1) := by decide +kernel
theorem dX7_keep_11 : decode cX7_keep 11 = .ok (.getfield 9, 3) := by decide +kernel
theorem dX7_keep_14 : decode cX7_keep 14 = .ok (.iload_n 1, 1) := by decide +kernel
theorem dX7_keep_15 : decode cX7_keep 15 = .ok (.iaload, 1) := by decide +kernel
theorem dX7_keep_16 : decode cX7_keep 16 = .ok (.iload_n 3, 1) := by decide +kernel
theorem dX7_keep_17 : decode cX7_keep 17 = .ok (.invokestatic 35, 3) := by decide +kernel
theorem dX7_keep_20 : decode cX7_keep 20 = .ok (.iastore, 1) := by decide +kernel
theorem dX7_keep_21 : decode cX7_keep 21 = .ok (.return_, 1) := by decide +kernel
theorem dX7_narrowed_0 : decode cX7_narrowed 0 = .ok (.iload_n 0, 1) := by decide +kernel
theorem dX7_narrowed_1 : decode cX7_narrowed 1 = .ok (.ifCond .ne 6, 3) := by decide +kernel
theorem dX7_narrowed_4 : decode cX7_narrowed 4 = .ok (.iload_n 1, 1) := by decide +kernel
theorem dX7_narrowed_5 : decode cX7_narrowed 5 = .ok (.i2b, 1) := by decide +kernel
theorem dX7_narrowed_6 : decode cX7_narrowed 6 = .ok (.ireturn, 1) := by decide +kernel
theorem dX7_narrowed_7 : decode cX7_narrowed 7 = .ok (.iload_n 0, 1) := by decide +kernel
theorem dX7_narrowed_8 : decode cX7_narrowed 8 = .ok (.iconst 1, 1) := by decide +kernel
theorem dX7_narrowed_9 : decode cX7_narrowed 9 = .ok (.if_icmp .ne 8, 3) := by decide +kernel
theorem dX7_narrowed_12 : decode cX7_narrowed 12 = .ok (.iload_n 1, 1) := by decide +kernel
theorem dX7_narrowed_13 : decode cX7_narrowed 13 = .ok (.i2s, 1) := by decide +kernel
theorem dX7_narrowed_14 : decode cX7_narrowed 14 = .ok (.goto 4, 3) := by decide +kernel
theorem dX7_narrowed_17 : decode cX7_narrowed 17 = .ok (.iload_n 1, 1) := by decide +kernel
theorem dX7_narrowed_18 : decode cX7_narrowed 18 = .ok (.ireturn, 1) := by decide +kernel
theorem dX7_hasSpan_0 : decode cX7_hasSpan 0 = .ok (.iload_n 2, 1) := by decide +kernel
theorem dX7_hasSpan_1 : decode cX7_hasSpan 1 = .ok (.ifCond .lt 33, 3) := by decide +kernel
theorem dX7_hasSpan_4 : decode cX7_hasSpan 4 = .ok (.iload_n 3, 1) := by decide +kernel
theorem dX7_hasSpan_5 : decode cX7_hasSpan 5 = .ok (.ifCond .lt 29, 3) := by decide +kernel
theorem dX7_hasSpan_8 : decode cX7_hasSpan 8 = .ok (.iload_n 3, 1) := by decide +kernel
theorem dX7_hasSpan_9 : decode cX7_hasSpan 9 = .ok (.aload_n 0, 1) := by decide +kernel
theorem dX7_hasSpan_10 : decode cX7_hasSpan 10 = .ok (.getfield 15, 3) := by decide +kernel
theorem dX7_hasSpan_13 : decode cX7_hasSpan 13 = .ok (.iload_n 1, 1) := by decide +kernel
theorem dX7_hasSpan_14 : decode cX7_hasSpan 14 = .ok (.iaload, 1) := by decide +kernel
theorem dX7_hasSpan_15 : decode cX7_hasSpan 15 = .ok (.if_icmp .gt 19, 3) := by decide +kernel
theorem dX7_hasSpan_18 : decode cX7_hasSpan 18 = .ok (.iload_n 2, 1) := by decide +kernel
theorem dX7_hasSpan_19 : decode cX7_hasSpan 19 = .ok (.aload_n 0, 1) := by decide +kernel
theorem dX7_hasSpan_20 : decode cX7_hasSpan 20 = .ok (.getfield 15, 3) := by decide +kernel
theorem dX7_hasSpan_23 : decode cX7_hasSpan 23 = .ok (.iload_n 1, 1) := by decide +kernel
theorem dX7_hasSpan_24 : decode cX7_hasSpan 24 = .ok (.iaload, 1) := by decide +kernel
theorem dX7_hasSpan_25 : decode cX7_hasSpan 25 = .ok (.iload_n 3, 1) := by decide +kernel
theorem dX7_hasSpan_26 : decode cX7_hasSpan 26 = .ok (.isub, 1) := by decide +kernel
theorem dX7_hasSpan_27 : decode cX7_hasSpan 27 = .ok (.if_icmp .gt 7, 3) := by decide +kernel
theorem dX7_hasSpan_30 : decode cX7_hasSpan 30 = .ok (.iconst 1, 1) := by decide +kernel
theorem dX7_hasSpan_31 : decode cX7_hasSpan 31 = .ok (.goto 4, 3) := by decide +kernel
theorem dX7_hasSpan_34 : decode cX7_hasSpan 34 = .ok (.iconst 0, 1) := by decide +kernel
theorem dX7_hasSpan_35 : decode cX7_hasSpan 35 = .ok (.ireturn, 1) := by decide +kernel
theorem dX7_move_0 : decode cX7_move 0 = .ok (.aload_n 0, 1) := by decide +kernel
theorem dX7_move_1 : decode cX7_move 1 = .ok (.getfield 18, 3) := by decide +kernel
theorem dX7_move_4 : decode cX7_move 4 = .ok (.iload_n 1, 1) := by decide +kernel
theorem dX7_move_5 : decode cX7_move 5 = .ok (.bipush 48, 2) := by decide +kernel
theorem dX7_move_7 : decode cX7_move 7 = .ok (.imul, 1) := by decide +kernel
theorem dX7_move_8 : decode cX7_move 8 = .ok (.iload_n 2, 1) := by decide +kernel
theorem dX7_move_9 : decode cX7_move 9 = .ok (.iadd, 1) := by decide +kernel
theorem dX7_move_10 : decode cX7_move 10 = .ok (.aload_n 0, 1) := by decide +kernel
theorem dX7_move_11 : decode cX7_move 11 = .ok (.getfield 18, 3) := by decide +kernel
theorem dX7_move_14 : decode cX7_move 14 = .ok (.iload_n 3, 1) := by decide +kernel
theorem dX7_move_15 : decode cX7_move 15 = .ok (.bipush 48, 2) := by decide +kernel
theorem dX7_move_17 : decode cX7_move 17 = .ok (.imul, 1) := by decide +kernel
theorem dX7_move_18 : decode cX7_move 18 = .ok (.iload 4, 2) := by decide +kernel
theorem dX7_move_20 : decode cX7_move 20 = .ok (.iadd, 1) := by decide +kernel
theorem dX7_move_21 : decode cX7_move 21 = .ok (.iload 5, 2) := by decide +kernel
theorem dX7_move_23 : decode cX7_move 23 = .ok (.invokestatic 39, 3) := by decide +kernel
theorem dX7_move_26 : decode cX7_move 26 = .ok (.return_, 1) := by decide +kernel
theorem dX8_init_0 : decode cX8_init 0 = .ok (.aload_n 0, 1) := by decide +kernel
theorem dX8_init_1 : decode cX8_init 1 = .ok (.invokespecial 3, 3) := by decide +kernel
theorem dX8_init_4 : decode cX8_init 4 = .ok (.aload_n 0, 1) := by decide +kernel
theorem dX8_init_5 : decode cX8_init 5 = .ok (.bipush 9, 2) := by decide +kernel
theorem dX8_init_7 : decode cX8_init 7 = .ok (.newarray .int, 2) := by decide +kernel
theorem dX8_init_9 : decode cX8_init 9 = .ok (.dup, 1) := by decide +kernel
theorem dX8_init_10 : decode cX8_init 10 = .ok (.iconst 0, 1) := by decide +kernel
theorem dX8_init_11 : decode cX8_init 11 = .ok (.bipush 8, 2) := by decide +kernel
theorem dX8_init_13 : decode cX8_init 13 = .ok (.iastore, 1) := by decide +kernel
theorem dX8_init_14 : decode cX8_init 14 = .ok (.dup, 1) := by decide +kernel
theorem dX8_init_15 : decode cX8_init 15 = .ok (.iconst 1, 1) := by decide +kernel
theorem dX8_init_16 : decode cX8_init 16 = .ok (.bipush 8, 2) := by decide +kernel
theorem dX8_init_18 : decode cX8_init 18 = .ok (.iastore, 1) := by decide +kernel
theorem dX8_init_19 : decode cX8_init 19 = .ok (.dup, 1) := by decide +kernel
theorem dX8_init_20 : decode cX8_init 20 = .ok (.iconst 2, 1) := by decide +kernel
theorem dX8_init_21 : decode cX8_init 21 = .ok (.bipush 8, 2) := by decide +kernel
theorem dX8_init_23 : decode cX8_init 23 = .ok (.iastore, 1) := by decide +kernel
theorem dX8_init_24 : decode cX8_init 24 = .ok (.dup, 1) := by decide +kernel
theorem dX8_init_25 : decode cX8_init 25 = .ok (.iconst 3, 1) := by decide +kernel
theorem dX8_init_26 : decode cX8_init 26 = .ok (.bipush 8, 2) := by decide +kernel
theorem dX8_init_28 : decode cX8_init 28 = .ok (.iastore, 1) := by decide +kernel
theorem dX8_init_29 : decode cX8_init 29 = .ok (.dup, 1) := by decide +kernel
theorem dX8_init_30 : decode cX8_init 30 = .ok (.iconst 4, 1) := by decide +kernel
theorem dX8_init_31 : decode cX8_init 31 = .ok (.bipush 8, 2) := by decide +kernel
theorem dX8_init_33 : decode cX8_init 33 = .ok (.iastore, 1) := by decide +kernel
theorem dX8_init_34 : decode cX8_init 34 = .ok (.dup, 1) := by decide +kernel
theorem dX8_init_35 : decode cX8_init 35 = .ok (.iconst 5, 1) := by decide +kernel
theorem dX8_init_36 : decode cX8_init 36 = .ok (.bipush 8, 2) := by decide +kernel
theorem dX8_init_38 : decode cX8_init 38 = .ok (.iastore, 1) := by decide +kernel
theorem dX8_init_39 : decode cX8_init 39 = .ok (.dup, 1) := by decide +kernel
theorem dX8_init_40 : decode cX8_init 40 = .ok (.bipush 6, 2) := by decide +kernel
theorem dX8_init_42 : decode cX8_init 42 = .ok (.bipush 8, 2) := by decide +kernel
theorem dX8_init_44 : decode cX8_init 44 = .ok (.iastore, 1) := by decide +kernel
theorem dX8_init_45 : decode cX8_init 45 = .ok (.dup, 1) := by decide +kernel
theorem dX8_init_46 : decode cX8_init 46 = .ok (.bipush 7, 2) := by decide +kernel
theorem dX8_init_48 : decode cX8_init 48 = .ok (.bipush 8, 2) := by decide +kernel
theorem dX8_init_50 : decode cX8_init 50 = .ok (.iastore, 1) := by decide +kernel
theorem dX8_init_51 : decode cX8_init 51 = .ok (.dup, 1) := by decide +kernel
theorem dX8_init_52 : decode cX8_init 52 = .ok (.bipush 8, 2) := by decide +kernel
theorem dX8_init_54 : decode cX8_init 54 = .ok (.bipush 8, 2) := by decide +kernel
theorem dX8_init_56 : decode cX8_init 56 = .ok (.iastore, 1) := by decide +kernel
theorem dX8_init_57 : decode cX8_init 57 = .ok (.putfield 9, 3) := by decide +kernel
theorem dX8_init_60 : decode cX8_init 60 = .ok (.return_, 1) := by decide +kernel
theorem dX8_change_0 : decode cX8_change 0 = .ok (.aload_n 0, 1) := by decide +kernel
theorem dX8_change_1 : decode cX8_change 1 = .ok (.getfield 9, 3) := by decide +kernel
theorem dX8_change_4 : decode cX8_change 4 = .ok (.iload_n 1, 1) := by decide +kernel
theorem dX8_change_5 : decode cX8_change 5 = .ok (.iconst 3, 1) := by decide +kernel
theorem dX8_change_6 : decode cX8_change 6 = .ok (.imul, 1) := by decide +kernel
theorem dX8_change_7 : decode cX8_change 7 = .ok (.iload_n 2, 1) := by decide +kernel
theorem dX8_change_8 : decode cX8_change 8 = .ok (.iadd, 1) := by decide +kernel
theorem dX8_change_9 : decode cX8_change 9 = .ok (.iaload, 1) := by decide +kernel
theorem dX8_change_10 : decode cX8_change 10 = .ok (.istore 4, 2) := by decide +kernel
theorem dX8_change_12 : decode cX8_change 12 = .ok (.aload_n 0, 1) := by decide +kernel
theorem dX8_change_13 : decode cX8_change 13 = .ok (.getfield 9, 3) := by decide +kernel
theorem dX8_change_16 : decode cX8_change 16 = .ok (.iload_n 1, 1) := by decide +kernel
theorem dX8_change_17 : decode cX8_change 17 = .ok (.iconst 3, 1) := by decide +kernel
theorem dX8_change_18 : decode cX8_change 18 = .ok (.imul, 1) := by decide +kernel
theorem dX8_change_19 : decode cX8_change 19 = .ok (.iload_n 2, 1) := by decide +kernel
theorem dX8_change_20 : decode cX8_change 20 = .ok (.iadd, 1) := by decide +kernel
theorem dX8_change_21 : decode cX8_change 21 = .ok (.iload_n 3, 1) := by decide +kernel
theorem dX8_change_22 : decode cX8_change 22 = .ok (.iastore, 1) := by decide +kernel
theorem dX8_change_23 : decode cX8_change 23 = .ok (.iload 4, 2) := by decide +kernel
theorem dX8_change_25 : decode cX8_change 25 = .ok (.ireturn, 1) := by decide +kernel
theorem dX8_spanOf_0 : decode cX8_spanOf 0 = .ok (.iload_n 0, 1) := by decide +kernel
theorem dX8_spanOf_1 : decode cX8_spanOf 1 = .ok (.iconst 3, 1) := by decide +kernel
theorem dX8_spanOf_2 : decode cX8_spanOf 2 = .ok (.if_icmp .gt 5, 3) := by decide +kernel
theorem dX8_spanOf_5 : decode cX8_spanOf 5 = .ok (.iconst 0, 1) := by decide +kernel
theorem dX8_spanOf_6 : decode cX8_spanOf 6 = .ok (.ireturn, 1) := by decide +kernel
theorem dX8_spanOf_7 : decode cX8_spanOf 7 = .ok (.iload_n 0, 1) := by decide +kernel
theorem dX8_spanOf_8 : decode cX8_spanOf 8 = .ok (.bipush 6, 2) := by decide +kernel
theorem dX8_spanOf_10 : decode cX8_spanOf 10 = .ok (.if_icmp .gt 7, 3) := by decide +kernel
theorem dX8_spanOf_13 : decode cX8_spanOf 13 = .ok (.iconst 1, 1) := by decide +kernel
theorem dX8_spanOf_14 : decode cX8_spanOf 14 = .ok (.goto 4, 3) := by decide +kernel
theorem dX8_spanOf_17 : decode cX8_spanOf 17 = .ok (.iconst 2, 1) := by decide +kernel
theorem dX8_spanOf_18 : decode cX8_spanOf 18 = .ok (.ireturn, 1) := by decide +kernel
theorem dX8_likely_0 : decode cX8_likely 0 = .ok (.lconst 1, 1) := by decide +kernel
theorem dX8_likely_1 : decode cX8_likely 1 = .ok (.lstore_n 3, 1) := by decide +kernel
theorem dX8_likely_2 : decode cX8_likely 2 = .ok (.iconst 0, 1) := by decide +kernel
theorem dX8_likely_3 : decode cX8_likely 3 = .ok (.istore 5, 2) := by decide +kernel
theorem dX8_likely_5 : decode cX8_likely 5 = .ok (.iload 5, 2) := by decide +kernel
theorem dX8_likely_7 : decode cX8_likely 7 = .ok (.bipush 11, 2) := by decide +kernel
theorem dX8_likely_9 : decode cX8_likely 9 = .ok (.if_icmp .ge 73, 3) := by decide +kernel
theorem dX8_likely_12 : decode cX8_likely 12 = .ok (.aload_n 0, 1) := by decide +kernel
theorem dX8_likely_13 : decode cX8_likely 13 = .ok (.getfield 9, 3) := by decide +kernel
theorem dX8_likely_16 : decode cX8_likely 16 = .ok (.iload_n 1, 1) := by decide +kernel
theorem dX8_likely_17 : decode cX8_likely 17 = .ok (.iconst 3, 1) := by decide +kernel
theorem dX8_likely_18 : decode cX8_likely 18 = .ok (.imul, 1) := by decide +kernel
theorem dX8_likely_19 : decode cX8_likely 19 = .ok (.iload 5, 2) := by decide +kernel
theorem dX8_likely_21 : decode cX8_likely 21 = .ok (.invokestatic 15, 3) := by decide +kernel
theorem dX8_likely_24 : decode cX8_likely 24 = .ok (.iadd, 1) := by decide +kernel
theorem dX8_likely_25 : decode cX8_likely 25 = .ok (.iaload, 1) := by decide +kernel
theorem dX8_likely_26 : decode cX8_likely 26 = .ok (.istore 6, 2) := by decide +kernel
theorem dX8_likely_28 : decode cX8_likely 28 = .ok (.iconst 0, 1) := by decide +kernel
theorem dX8_likely_29 : decode cX8_likely 29 = .ok (.istore 7, 2) := by decide +kernel
theorem dX8_likely_31 : decode cX8_likely 31 = .ok (.iload 7, 2) := by decide +kernel
theorem dX8_likely_33 : decode cX8_likely 33 = .ok (.aload_n 2, 1) := by decide +kernel
theorem dX8_likely_34 : decode cX8_likely 34 = .ok (.getfield 19, 3) := by decide +kernel
theorem dX8_likely_37 : decode cX8_likely 37 = .ok (.iload 5, 2) := by decide +kernel
theorem dX8_likely_39 : decode cX8_likely 39 = .ok (.iaload, 1) := by decide +kernel
theorem dX8_likely_40 : decode cX8_likely 40 = .ok (.if_icmp .ge 36, 3) := by decide +kernel
theorem dX8_likely_43 : decode cX8_likely 43 = .ok (.lload_n 3, 1) := by decide +kernel
theorem dX8_likely_44 : decode cX8_likely 44 = .ok (.iload 7, 2) := by decide +kernel
theorem dX8_likely_46 : decode cX8_likely 46 = .ok (.aload_n 2, 1) := by decide +kernel
theorem dX8_likely_47 : decode cX8_likely 47 = .ok (.getfield 24, 3) := by decide +kernel
theorem dX8_likely_50 : decode cX8_likely 50 = .ok (.iload 5, 2) := by decide +kernel
theorem dX8_likely_52 : decode cX8_likely 52 = .ok (.iaload, 1) := by decide +kernel
theorem dX8_likely_53 : decode cX8_likely 53 = .ok (.if_icmp .ge 9, 3) := by decide +kernel
theorem dX8_likely_56 : decode cX8_likely 56 = .ok (.iload 6, 2) := by decide +kernel
theorem dX8_likely_58 : decode cX8_likely 58 = .ok (.i2l, 1) := by decide +kernel
theorem dX8_likely_59 : decode cX8_likely 59 = .ok (.goto 9, 3) := by decide +kernel
theorem dX8_likely_62 : decode cX8_likely 62 = .ok (.bipush 16, 2) := by decide +kernel
theorem dX8_likely_64 : decode cX8_likely 64 = .ok (.iload 6, 2) := by decide +kernel
theorem dX8_likely_66 : decode cX8_likely 66 = .ok (.isub, 1) := by decide +kernel
theorem dX8_likely_67 : decode cX8_likely 67 = .ok (.i2l, 1) := by decide +kernel
theorem dX8_likely_68 : decode cX8_likely 68 = .ok (.lmul, 1) := by decide +kernel
theorem dX8_likely_69 : decode cX8_likely 69 = .ok (.lstore_n 3, 1) := by decide +kernel
theorem dX8_likely_70 : decode cX8_likely 70 = .ok (.iinc 7 1, 3) := by decide +kernel
theorem dX8_likely_73 : decode cX8_likely 73 = .ok (.goto (-42), 3) := by decide +kernel
theorem dX8_likely_76 : decode cX8_likely 76 = .ok (.iinc 5 1, 3) := by decide +kernel
theorem dX8_likely_79 : decode cX8_likely 79 = .ok (.goto (-74), 3) := by decide +kernel
theorem dX8_likely_82 : decode cX8_likely 82 = .ok (.lload_n 3, 1) := by decide +kernel
theorem dX8_likely_83 : decode cX8_likely 83 = .ok (.lreturn, 1) := by decide +kernel
theorem dX9_init_0 : decode cX9_init 0 = .ok (.aload_n 0, 1) := by decide +kernel
theorem dX9_init_1 : decode cX9_init 1 = .ok (.invokespecial 3, 3) := by decide +kernel
theorem dX9_init_4 : decode cX9_init 4 = .ok (.aload_n 0, 1) := by decide +kernel
theorem dX9_init_5 : decode cX9_init 5 = .ok (.bipush 11, 2) := by decide +kernel
theorem dX9_init_7 : decode cX9_init 7 = .ok (.newarray .int, 2) := by decide +kernel
theorem dX9_init_9 : decode cX9_init 9 = .ok (.putfield 9, 3) := by decide +kernel
theorem dX9_init_12 : decode cX9_init 12 = .ok (.aload_n 0, 1) := by decide +kernel
theorem dX9_init_13 : decode cX9_init 13 = .ok (.bipush 11, 2) := by decide +kernel
theorem dX9_init_15 : decode cX9_init 15 = .ok (.newarray .int, 2) := by decide +kernel
theorem dX9_init_17 : decode cX9_init 17 = .ok (.putfield 15, 3) := by decide +kernel
theorem dX9_init_20 : decode cX9_init 20 = .ok (.return_, 1) := by decide +kernel
theorem dX9_clear_0 : decode cX9_clear 0 = .ok (.aload_n 0, 1) := by decide +kernel
theorem dX9_clear_1 : decode cX9_clear 1 = .ok (.getfield 9, 3) := by decide +kernel
theorem dX9_clear_4 : decode cX9_clear 4 = .ok (.iconst 0, 1) := by decide +kernel
theorem dX9_clear_5 : decode cX9_clear 5 = .ok (.invokestatic 18, 3) := by decide +kernel
theorem dX9_clear_8 : decode cX9_clear 8 = .ok (.aload_n 0, 1) := by decide +kernel
theorem dX9_clear_9 : decode cX9_clear 9 = .ok (.getfield 15, 3) := by decide +kernel
theorem dX9_clear_12 : decode cX9_clear 12 = .ok (.iconst 0, 1) := by decide +kernel
theorem dX9_clear_13 : decode cX9_clear 13 = .ok (.invokestatic 18, 3) := by decide +kernel
theorem dX9_clear_16 : decode cX9_clear 16 = .ok (.aload_n 0, 1) := by decide +kernel
theorem dX9_clear_17 : decode cX9_clear 17 = .ok (.iconst 0, 1) := by decide +kernel
theorem dX9_clear_18 : decode cX9_clear 18 = .ok (.putfield 24, 3) := by decide +kernel
theorem dX9_clear_21 : decode cX9_clear 21 = .ok (.aload_n 0, 1) := by decide +kernel
theorem dX9_clear_22 : decode cX9_clear 22 = .ok (.iconst 0, 1) := by decide +kernel
theorem dX9_clear_23 : decode cX9_clear 23 = .ok (.putfield 28, 3) := by decide +kernel
theorem dX9_clear_26 : decode cX9_clear 26 = .ok (.aload_n 0, 1) := by decide +kernel
theorem dX9_clear_27 : decode cX9_clear 27 = .ok (.iconst 0, 1) := by decide +kernel
theorem dX9_clear_28 : decode cX9_clear 28 = .ok (.putfield 31, 3) := by decide +kernel
theorem dX9_clear_31 : decode cX9_clear 31 = .ok (.return_, 1) := by decide +kernel
theorem dX9_add_0 : decode cX9_add 0 = .ok (.iconst 1, 1) := by decide +kernel
theorem dX9_add_1 : decode cX9_add 1 = .ok (.iload_n 2, 1) := by decide +kernel
theorem dX9_add_2 : decode cX9_add 2 = .ok (.isub, 1) := by decide +kernel
theorem dX9_add_3 : decode cX9_add 3 = .ok (.istore_n 3, 1) := by decide +kernel
theorem dX9_add_4 : decode cX9_add 4 = .ok (.aload_n 0, 1) := by decide +kernel
theorem dX9_add_5 : decode cX9_add 5 = .ok (.getfield 9, 3) := by decide +kernel
theorem dX9_add_8 : decode cX9_add 8 = .ok (.iload_n 1, 1) := by decide +kernel
theorem dX9_add_9 : decode cX9_add 9 = .ok (.dup2, 1) := by decide +kernel
theorem dX9_add_10 : decode cX9_add 10 = .ok (.iaload, 1) := by decide +kernel
theorem dX9_add_11 : decode cX9_add 11 = .ok (.iconst 1, 1) := by decide +kernel
theorem dX9_add_12 : decode cX9_add 12 = .ok (.iadd, 1) := by decide +kernel
theorem dX9_add_13 : decode cX9_add 13 = .ok (.iastore, 1) := by decide +kernel
theorem dX9_add_14 : decode cX9_add 14 = .ok (.aload_n 0, 1) := by decide +kernel
theorem dX9_add_15 : decode cX9_add 15 = .ok (.getfield 15, 3) := by decide +kernel
theorem dX9_add_18 : decode cX9_add 18 = .ok (.iload_n 1, 1) := by decide +kernel
theorem dX9_add_19 : decode cX9_add 19 = .ok (.dup2, 1) := by decide +kernel
theorem dX9_add_20 : decode cX9_add 20 = .ok (.iaload, 1) := by decide +kernel
theorem dX9_add_21 : decode cX9_add 21 = .ok (.iload_n 3, 1) := by decide +kernel
theorem dX9_add_22 : decode cX9_add 22 = .ok (.iadd, 1) := by decide +kernel
theorem dX9_add_23 : decode cX9_add 23 = .ok (.iastore, 1) := by decide +kernel
theorem dX9_add_24 : decode cX9_add 24 = .ok (.aload_n 0, 1) := by decide +kernel
theorem dX9_add_25 : decode cX9_add 25 = .ok (.dup, 1) := by decide +kernel
theorem dX9_add_26 : decode cX9_add 26 = .ok (.getfield 24, 3) := by decide +kernel
theorem dX9_add_29 : decode cX9_add 29 = .ok (.iconst 1, 1) := by decide +kernel
theorem dX9_add_30 : decode cX9_add 30 = .ok (.iadd, 1) := by decide +kernel
theorem dX9_add_31 : decode cX9_add 31 = .ok (.putfield 24, 3) := by decide +kernel
theorem dX9_add_34 : decode cX9_add 34 = .ok (.aload_n 0, 1) := by decide +kernel
theorem dX9_add_35 : decode cX9_add 35 = .ok (.dup, 1) := by decide +kernel
theorem dX9_add_36 : decode cX9_add 36 = .ok (.getfield 28, 3) := by decide +kernel
theorem dX9_add_39 : decode cX9_add 39 = .ok (.iload_n 3, 1) := by decide +kernel
theorem dX9_add_40 : decode cX9_add 40 = .ok (.iadd, 1) := by decide +kernel
theorem dX9_add_41 : decode cX9_add 41 = .ok (.putfield 28, 3) := by decide +kernel
theorem dX9_add_44 : decode cX9_add 44 = .ok (.aload_n 0, 1) := by decide +kernel
theorem dX9_add_45 : decode cX9_add 45 = .ok (.dup, 1) := by decide +kernel
theorem dX9_add_46 : decode cX9_add 46 = .ok (.getfield 31, 3) := by decide +kernel
theorem dX9_add_49 : decode cX9_add 49 = .ok (.iload_n 1, 1) := by decide +kernel
theorem dX9_add_50 : decode cX9_add 50 = .ok (.iadd, 1) := by decide +kernel
theorem dX9_add_51 : decode cX9_add 51 = .ok (.putfield 31, 3) := by decide +kernel
theorem dX9_add_54 : decode cX9_add 54 = .ok (.return_, 1) := by decide +kernel
theorem dX9_middle_0 : decode cX9_middle 0 = .ok (.iconst 0, 1) := by decide +kernel
theorem dX9_middle_1 : decode cX9_middle 1 = .ok (.istore_n 1, 1) := by decide +kernel
theorem dX9_middle_2 : decode cX9_middle 2 = .ok (.iconst 0, 1) := by decide +kernel
theorem dX9_middle_3 : decode cX9_middle 3 = .ok (.istore_n 2, 1) := by decide +kernel
theorem dX9_middle_4 : decode cX9_middle 4 = .ok (.iload_n 2, 1) := by decide +kernel
theorem dX9_middle_5 : decode cX9_middle 5 = .ok (.bipush 11, 2) := by decide +kernel
theorem dX9_middle_7 : decode cX9_middle 7 = .ok (.if_icmp .ge 30, 3) := by decide +kernel
theorem dX9_middle_10 : decode cX9_middle 10 = .ok (.iload_n 1, 1) := by decide +kernel
theorem dX9_middle_11 : decode cX9_middle 11 = .ok (.aload_n 0, 1) := by decide +kernel
theorem dX9_middle_12 : decode cX9_middle 12 = .ok (.getfield 9, 3) := by decide +kernel
theorem dX9_middle_15 : decode cX9_middle 15 = .ok (.iload_n 2, 1) := by decide +kernel
theorem dX9_middle_16 : decode cX9_middle 16 = .ok (.iaload, 1) := by decide +kernel
theorem dX9_middle_17 : decode cX9_middle 17 = .ok (.iadd, 1) := by decide +kernel
theorem dX9_middle_18 : decode cX9_middle 18 = .ok (.istore_n 1, 1) := by decide +kernel
theorem dX9_middle_19 : decode cX9_middle 19 = .ok (.iconst 2, 1) := by decide +kernel
theorem dX9_middle_20 : decode cX9_middle 20 = .ok (.iload_n 1, 1) := by decide +kernel
theorem dX9_middle_21 : decode cX9_middle 21 = .ok (.imul, 1) := by decide +kernel
theorem dX9_middle_22 : decode cX9_middle 22 = .ok (.aload_n 0, 1) := by decide +kernel
theorem dX9_middle_23 : decode cX9_middle 23 = .ok (.getfield 24, 3) := by decide +kernel
theorem dX9_middle_26 : decode cX9_middle 26 = .ok (.if_icmp .lt 5, 3) := by decide +kernel
theorem dX9_middle_29 : decode cX9_middle 29 = .ok (.iload_n 2, 1) := by decide +kernel
theorem dX9_middle_30 : decode cX9_middle 30 = .ok (.ireturn, 1) := by decide +kernel
theorem dX9_middle_31 : decode cX9_middle 31 = .ok (.iinc 2 1, 3) := by decide +kernel
theorem dX9_middle_34 : decode cX9_middle 34 = .ok (.goto (-30), 3) := by decide +kernel
theorem dX9_middle_37 : decode cX9_middle 37 = .ok (.bipush 10, 2) := by decide +kernel
theorem dX9_middle_39 : decode cX9_middle 39 = .ok (.ireturn, 1) := by decide +kernel
theorem dX10_init_0 : decode cX10_init 0 = .ok (.aload_n 0, 1) := by decide +kernel
theorem dX10_init_1 : decode cX10_init 1 = .ok (.invokespecial 3, 3) := by decide +kernel
theorem dX10_init_4 : decode cX10_init 4 = .ok (.aload_n 0, 1) := by decide +kernel
theorem dX10_init_5 : decode cX10_init 5 = .ok (.bipush 24, 2) := by decide +kernel
theorem dX10_init_7 : decode cX10_init 7 = .ok (.newarray .int, 2) := by decide +kernel
theorem dX10_init_9 : decode cX10_init 9 = .ok (.putfield 11, 3) := by decide +kernel
theorem dX10_init_12 : decode cX10_init 12 = .ok (.return_, 1) := by decide +kernel
theorem dX10_has_0 : decode cX10_has 0 = .ok (.iload_n 1, 1) := by decide +kernel
theorem dX10_has_1 : decode cX10_has 1 = .ok (.ifCond .lt 15, 3) := by decide +kernel
theorem dX10_has_4 : decode cX10_has 4 = .ok (.iload_n 1, 1) := by decide +kernel
theorem dX10_has_5 : decode cX10_has 5 = .ok (.aload_n 0, 1) := by decide +kernel
theorem dX10_has_6 : decode cX10_has 6 = .ok (.getfield 15, 3) := by decide +kernel
theorem dX10_has_9 : decode cX10_has 9 = .ok (.if_icmp .ge 7, 3) := by decide +kernel
theorem dX10_has_12 : decode cX10_has 12 = .ok (.iconst 1, 1) := by decide +kernel
theorem dX10_has_13 : decode cX10_has 13 = .ok (.goto 4, 3) := by decide +kernel
theorem dX10_has_16 : decode cX10_has 16 = .ok (.iconst 0, 1) := by decide +kernel
theorem dX10_has_17 : decode cX10_has 17 = .ok (.ireturn, 1) := by decide +kernel
theorem dX10_add_0 : decode cX10_add 0 = .ok (.aload_n 0, 1) := by decide +kernel
theorem dX10_add_1 : decode cX10_add 1 = .ok (.getfield 15, 3) := by decide +kernel
theorem dX10_add_4 : decode cX10_add 4 = .ok (.bipush 6, 2) := by decide +kernel
theorem dX10_add_6 : decode cX10_add 6 = .ok (.if_icmp .lt 6, 3) := by decide +kernel
theorem dX10_add_9 : decode cX10_add 9 = .ok (.bipush (-4), 2) := by decide +kernel
theorem dX10_add_11 : decode cX10_add 11 = .ok (.ireturn, 1) := by decide +kernel
theorem dX10_add_12 : decode cX10_add 12 = .ok (.aload_n 0, 1) := by decide +kernel
theorem dX10_add_13 : decode cX10_add 13 = .ok (.getfield 15, 3) := by decide +kernel
theorem dX10_add_16 : decode cX10_add 16 = .ok (.iconst 4, 1) := by decide +kernel
theorem dX10_add_17 : decode cX10_add 17 = .ok (.imul, 1) := by decide +kernel
theorem dX10_add_18 : decode cX10_add 18 = .ok (.istore 5, 2) := by decide +kernel
theorem dX10_add_20 : decode cX10_add 20 = .ok (.aload_n 0, 1) := by decide +kernel
theorem dX10_add_21 : decode cX10_add 21 = .ok (.getfield 11, 3) := by decide +kernel
theorem dX10_add_24 : decode cX10_add 24 = .ok (.iload 5, 2) := by decide +kernel
theorem dX10_add_26 : decode cX10_add 26 = .ok (.iload_n 1, 1) := by decide +kernel
theorem dX10_add_27 : decode cX10_add 27 = .ok (.iastore, 1) := by decide +kernel
theorem dX10_add_28 : decode cX10_add 28 = .ok (.aload_n 0, 1) := by decide +kernel
theorem dX10_add_29 : decode cX10_add 29 = .ok (.getfield 11, 3) := by decide +kernel
theorem dX10_add_32 : decode cX10_add 32 = .ok (.iload 5, 2) := by decide +kernel
theorem dX10_add_34 : decode cX10_add 34 = .ok (.iconst 1, 1) := by decide +kernel
theorem dX10_add_35 : decode cX10_add 35 = .ok (.iadd, 1) := by decide +kernel
theorem dX10_add_36 : decode cX10_add 36 = .ok (.iload_n 2, 1) := by decide +kernel
theorem dX10_add_37 : decode cX10_add 37 = .ok (.iastore, 1) := by decide +kernel
theorem dX10_add_38 : decode cX10_add 38 = .ok (.aload_n 0, 1) := by decide +kernel
theorem dX10_add_39 : decode cX10_add 39 = .ok (.getfield 11, 3) := by decide +kernel
theorem dX10_add_42 : decode cX10_add 42 = .ok (.iload 5, 2) := by decide +kernel
theorem dX10_add_44 : decode cX10_add 44 = .ok (.iconst 2, 1) := by decide +kernel
theorem dX10_add_45 : decode cX10_add 45 = .ok (.iadd, 1) := by decide +kernel
theorem dX10_add_46 : decode cX10_add 46 = .ok (.iload_n 3, 1) := by decide +kernel
theorem dX10_add_47 : decode cX10_add 47 = .ok (.iastore, 1) := by decide +kernel
theorem dX10_add_48 : decode cX10_add 48 = .ok (.aload_n 0, 1) := by decide +kernel
theorem dX10_add_49 : decode cX10_add 49 = .ok (.getfield 11, 3) := by decide +kernel
theorem dX10_add_52 : decode cX10_add 52 = .ok (.iload 5, 2) := by decide +kernel
theorem dX10_add_54 : decode cX10_add 54 = .ok (.iconst 3, 1) := by decide +kernel
theorem dX10_add_55 : decode cX10_add 55 = .ok (.iadd, 1) := by decide +kernel
theorem dX10_add_56 : decode cX10_add 56 = .ok (.iload 4, 2) := by decide +kernel
theorem dX10_add_58 : decode cX10_add 58 = .ok (.iastore, 1) := by decide +kernel
theorem dX10_add_59 : decode cX10_add 59 = .ok (.aload_n 0, 1) := by decide +kernel
theorem dX10_add_60 : decode cX10_add 60 = .ok (.dup, 1) := by decide +kernel
theorem dX10_add_61 : decode cX10_add 61 = .ok (.getfield 15, 3) := by decide +kernel
theorem dX10_add_64 : decode cX10_add 64 = .ok (.iconst 1, 1) := by decide +kernel
theorem dX10_add_65 : decode cX10_add 65 = .ok (.iadd, 1) := by decide +kernel
theorem dX10_add_66 : decode cX10_add 66 = .ok (.putfield 15, 3) := by decide +kernel
theorem dX10_add_69 : decode cX10_add 69 = .ok (.aload_n 0, 1) := by decide +kernel
theorem dX10_add_70 : decode cX10_add 70 = .ok (.getfield 15, 3) := by decide +kernel
theorem dX10_add_73 : decode cX10_add 73 = .ok (.iconst 1, 1) := by decide +kernel
theorem dX10_add_74 : decode cX10_add 74 = .ok (.isub, 1) := by decide +kernel
theorem dX10_add_75 : decode cX10_add 75 = .ok (.ireturn, 1) := by decide +kernel
theorem dX10_together_0 : decode cX10_together 0 = .ok (.iload_n 1, 1) := by decide +kernel
theorem dX10_together_1 : decode cX10_together 1 = .ok (.iconst 4, 1) := by decide +kernel
theorem dX10_together_2 : decode cX10_together 2 = .ok (.imul, 1) := by decide +kernel
theorem dX10_together_3 : decode cX10_together 3 = .ok (.istore_n 3, 1) := by decide +kernel
theorem dX10_together_4 : decode cX10_together 4 = .ok (.iconst 0, 1) := by decide +kernel
theorem dX10_together_5 : decode cX10_together 5 = .ok (.istore 4, 2) := by decide +kernel
theorem dX10_together_7 : decode cX10_together 7 = .ok (.iconst 0, 1) := by decide +kernel
theorem dX10_together_8 : decode cX10_together 8 = .ok (.istore 5, 2) := by decide +kernel
theorem dX10_together_10 : decode cX10_together 10 = .ok (.iload 5, 2) := by decide +kernel
theorem dX10_together_12 : decode cX10_together 12 = .ok (.iconst 4, 1) := by decide +kernel
theorem dX10_together_13 : decode cX10_together 13 = .ok (.if_icmp .ge 82, 3) := by decide +kernel
theorem dX10_together_16 : decode cX10_together 16 = .ok (.iconst 0, 1) := by decide +kernel
theorem dX10_together_17 : decode cX10_together 17 = .ok (.istore 6, 2) := by decide +kernel
theorem dX10_together_19 : decode cX10_together 19 = .ok (.iload 6, 2) := by decide +kernel
theorem dX10_together_21 : decode cX10_together 21 = .ok (.iload 5, 2) := by decide +kernel
theorem dX10_together_23 : decode cX10_together 23 = .ok (.if_icmp .ge 66, 3) := by decide +kernel
theorem dX10_together_26 : decode cX10_together 26 = .ok (.aload_n 2, 1) := by decide +kernel
theorem dX10_together_27 : decode cX10_together 27 = .ok (.iload 5, 2) := by decide +kernel
theorem dX10_together_29 : decode cX10_together 29 = .ok (.invokevirtual 19, 3) := by decide +kernel
theorem dX10_together_32 : decode cX10_together 32 = .ok (.ifCond .eq 51, 3) := by decide +kernel
theorem dX10_together_35 : decode cX10_together 35 = .ok (.aload_n 2, 1) := by decide +kernel
theorem dX10_together_36 : decode cX10_together 36 = .ok (.iload 6, 2) := by decide +kernel
theorem dX10_together_38 : decode cX10_together 38 = .ok (.invokevirtual 19, 3) := by decide +kernel
theorem dX10_together_41 : decode cX10_together 41 = .ok (.ifCond .eq 42, 3) := by decide +kernel
theorem dX10_together_44 : decode cX10_together 44 = .ok (.aload_n 0, 1) := by decide +kernel
theorem dX10_together_45 : decode cX10_together 45 = .ok (.getfield 11, 3) := by decide +kernel
theorem dX10_together_48 : decode cX10_together 48 = .ok (.iload_n 3, 1) := by decide +kernel
theorem dX10_together_49 : decode cX10_together 49 = .ok (.iload 5, 2) := by decide +kernel
theorem dX10_together_51 : decode cX10_together 51 = .ok (.iadd, 1) := by decide +kernel
theorem dX10_together_52 : decode cX10_together 52 = .ok (.iaload, 1) := by decide +kernel
theorem dX10_together_53 : decode cX10_together 53 = .ok (.aload_n 0, 1) := by decide +kernel
theorem dX10_together_54 : decode cX10_together 54 = .ok (.getfield 11, 3) := by decide +kernel
theorem dX10_together_57 : decode cX10_together 57 = .ok (.iload_n 3, 1) := by decide +kernel
theorem dX10_together_58 : decode cX10_together 58 = .ok (.iload 6, 2) := by decide +kernel
theorem dX10_together_60 : decode cX10_together 60 = .ok (.iadd, 1) := by decide +kernel
theorem dX10_together_61 : decode cX10_together 61 = .ok (.iaload, 1) := by decide +kernel
theorem dX10_together_62 : decode cX10_together 62 = .ok (.invokestatic 25, 3) := by decide +kernel
theorem dX10_together_65 : decode cX10_together 65 = .ok (.istore 7, 2) := by decide +kernel
theorem dX10_together_67 : decode cX10_together 67 = .ok (.iload 4, 2) := by decide +kernel
theorem dX10_together_69 : decode cX10_together 69 = .ok (.iload 7, 2) := by decide +kernel
theorem dX10_together_71 : decode cX10_together 71 = .ok (.aload_n 2, 1) := by decide +kernel
theorem dX10_together_72 : decode cX10_together 72 = .ok (.iload 5, 2) := by decide +kernel
theorem dX10_together_74 : decode cX10_together 74 = .ok (.iload 6, 2) := by decide +kernel
theorem dX10_together_76 : decode cX10_together 76 = .ok (.invokevirtual 31, 3) := by decide +kernel
theorem dX10_together_79 : decode cX10_together 79 = .ok (.imul, 1) := by decide +kernel
theorem dX10_together_80 : decode cX10_together 80 = .ok (.iadd, 1) := by decide +kernel
theorem dX10_together_81 : decode cX10_together 81 = .ok (.istore 4, 2) := by decide +kernel
theorem dX10_together_83 : decode cX10_together 83 = .ok (.iinc 6 1, 3) := by decide +kernel
theorem dX10_together_86 : decode cX10_together 86 = .ok (.goto (-67), 3) := by decide +kernel
theorem dX10_together_89 : decode cX10_together 89 = .ok (.iinc 5 1, 3) := by decide +kernel
theorem dX10_together_92 : decode cX10_together 92 = .ok (.goto (-82), 3) := by decide +kernel
theorem dX10_together_95 : decode cX10_together 95 = .ok (.iload 4, 2) := by decide +kernel
theorem dX10_together_97 : decode cX10_together 97 = .ok (.ireturn, 1) := by decide +kernel
theorem dX10_greatest_0 : decode cX10_greatest 0 = .ok (.iconst 0, 1) := by decide +kernel
theorem dX10_greatest_1 : decode cX10_greatest 1 = .ok (.istore_n 2, 1) := by decide +kernel
theorem dX10_greatest_2 : decode cX10_greatest 2 = .ok (.iconst 0, 1) := by decide +kernel
theorem dX10_greatest_3 : decode cX10_greatest 3 = .ok (.istore_n 3, 1) := by decide +kernel
theorem dX10_greatest_4 : decode cX10_greatest 4 = .ok (.iload_n 3, 1) := by decide +kernel
theorem dX10_greatest_5 : decode cX10_greatest 5 = .ok (.aload_n 0, 1) := by decide +kernel
theorem dX10_greatest_6 : decode cX10_greatest 6 = .ok (.getfield 15, 3) := by decide +kernel
theorem dX10_greatest_9 : decode cX10_greatest 9 = .ok (.if_icmp .ge 23, 3) := by decide +kernel
theorem dX10_greatest_12 : decode cX10_greatest 12 = .ok (.iload_n 2, 1) := by decide +kernel
theorem dX10_greatest_13 : decode cX10_greatest 13 = .ok (.aload_n 0, 1) := by decide +kernel
theorem dX10_greatest_14 : decode cX10_greatest 14 = .ok (.iload_n 3, 1) := by decide +kernel
theorem dX10_greatest_15 : decode cX10_greatest 15 = .ok (.aload_n 1, 1) := by decide +kernel
theorem dX10_greatest_16 : decode cX10_greatest 16 = .ok (.invokevirtual 34, 3) := by decide +kernel
theorem dX10_greatest_19 : decode cX10_greatest 19 = .ok (.invokestatic 38, 3) := by decide +kernel
theorem dX10_greatest_22 : decode cX10_greatest 22 = .ok (.invokestatic 44, 3) := by decide +kernel
theorem dX10_greatest_25 : decode cX10_greatest 25 = .ok (.istore_n 2, 1) := by decide +kernel
theorem dX10_greatest_26 : decode cX10_greatest 26 = .ok (.iinc 3 1, 3) := by decide +kernel
theorem dX10_greatest_29 : decode cX10_greatest 29 = .ok (.goto (-25), 3) := by decide +kernel
theorem dX10_greatest_32 : decode cX10_greatest 32 = .ok (.iload_n 2, 1) := by decide +kernel
theorem dX10_greatest_33 : decode cX10_greatest 33 = .ok (.ireturn, 1) := by decide +kernel
theorem dJ6_compare_7cf53_0 : decode cJ6_compare_7cf53 0 = .ok (.iload_n 0, 1) := by decide +kernel
theorem dJ6_compare_7cf53_1 : decode cJ6_compare_7cf53 1 = .ok (.iload_n 1, 1) := by decide +kernel
theorem dJ6_compare_7cf53_2 : decode cJ6_compare_7cf53 2 = .ok (.if_icmp .ge 7, 3) := by decide +kernel
theorem dJ6_compare_7cf53_5 : decode cJ6_compare_7cf53 5 = .ok (.iconst (-1), 1) := by decide +kernel
theorem dJ6_compare_7cf53_6 : decode cJ6_compare_7cf53 6 = .ok (.goto 13, 3) := by decide +kernel
theorem dJ6_compare_7cf53_9 : decode cJ6_compare_7cf53 9 = .ok (.iload_n 0, 1) := by decide +kernel
theorem dJ6_compare_7cf53_10 : decode cJ6_compare_7cf53 10 = .ok (.iload_n 1, 1) := by decide +kernel
theorem dJ6_compare_7cf53_11 : decode cJ6_compare_7cf53 11 = .ok (.if_icmp .ne 7, 3) := by decide +kernel
theorem dJ6_compare_7cf53_14 : decode cJ6_compare_7cf53 14 = .ok (.iconst 0, 1) := by decide +kernel
theorem dJ6_compare_7cf53_15 : decode cJ6_compare_7cf53 15 = .ok (.goto 4, 3) := by decide +kernel
theorem dJ6_compare_7cf53_18 : decode cJ6_compare_7cf53 18 = .ok (.iconst 1, 1) := by decide +kernel
theorem dJ6_compare_7cf53_19 : decode cJ6_compare_7cf53 19 = .ok (.ireturn, 1) := by decide +kernel
theorem dJ6_bitCount_0f7a4_0 : decode cJ6_bitCount_0f7a4 0 = .ok (.iload_n 0, 1) := by decide +kernel
theorem dJ6_bitCount_0f7a4_1 : decode cJ6_bitCount_0f7a4 1 = .ok (.iload_n 0, 1) := by decide +kernel
theorem dJ6_bitCount_0f7a4_2 : decode cJ6_bitCount_0f7a4 2 = .ok (.iconst 1, 1) := by decide +kernel
theorem dJ6_bitCount_0f7a4_3 : decode cJ6_bitCount_0f7a4 3 = .ok (.iushr, 1) := by decide +kernel
theorem dJ6_bitCount_0f7a4_4 : decode cJ6_bitCount_0f7a4 4 = .ok (.ldc_w 265, 3) := by decide +kernel
theorem dJ6_bitCount_0f7a4_7 : decode cJ6_bitCount_0f7a4 7 = .ok (.iand, 1) := by decide +kernel
theorem dJ6_bitCount_0f7a4_8 : decode cJ6_bitCount_0f7a4 8 = .ok (.isub, 1) := by decide +kernel
theorem dJ6_bitCount_0f7a4_9 : decode cJ6_bitCount_0f7a4 9 = .ok (.istore_n 0, 1) := by decide +kernel
theorem dJ6_bitCount_0f7a4_10 : decode cJ6_bitCount_0f7a4 10 = .ok (.iload_n 0, 1) := by decide +kernel
theorem dJ6_bitCount_0f7a4_11 : decode cJ6_bitCount_0f7a4 11 = .ok (.ldc_w 266, 3) := by decide +kernel
theorem dJ6_bitCount_0f7a4_14 : decode cJ6_bitCount_0f7a4 14 = .ok (.iand, 1) := by decide +kernel
theorem dJ6_bitCount_0f7a4_15 : decode cJ6_bitCount_0f7a4 15 = .ok (.iload_n 0, 1) := by decide +kernel
theorem dJ6_bitCount_0f7a4_16 : decode cJ6_bitCount_0f7a4 16 = .ok (.iconst 2, 1) := by decide +kernel
theorem dJ6_bitCount_0f7a4_17 : decode cJ6_bitCount_0f7a4 17 = .ok (.iushr, 1) := by decide +kernel
theorem dJ6_bitCount_0f7a4_18 : decode cJ6_bitCount_0f7a4 18 = .ok (.ldc_w 266, 3) := by decide +kernel
theorem dJ6_bitCount_0f7a4_21 : decode cJ6_bitCount_0f7a4 21 = .ok (.iand, 1) := by decide +kernel
theorem dJ6_bitCount_0f7a4_22 : decode cJ6_bitCount_0f7a4 22 = .ok (.iadd, 1) := by decide +kernel
theorem dJ6_bitCount_0f7a4_23 : decode cJ6_bitCount_0f7a4 23 = .ok (.istore_n 0, 1) := by decide +kernel
theorem dJ6_bitCount_0f7a4_24 : decode cJ6_bitCount_0f7a4 24 = .ok (.iload_n 0, 1) := by decide +kernel
theorem dJ6_bitCount_0f7a4_25 : decode cJ6_bitCount_0f7a4 25 = .ok (.iload_n 0, 1) := by decide +kernel
theorem dJ6_bitCount_0f7a4_26 : decode cJ6_bitCount_0f7a4 26 = .ok (.iconst 4, 1) := by decide +kernel
theorem dJ6_bitCount_0f7a4_27 : decode cJ6_bitCount_0f7a4 27 = .ok (.iushr, 1) := by decide +kernel
theorem dJ6_bitCount_0f7a4_28 : decode cJ6_bitCount_0f7a4 28 = .ok (.iadd, 1) := by decide +kernel
theorem dJ6_bitCount_0f7a4_29 : decode cJ6_bitCount_0f7a4 29 = .ok (.ldc_w 267, 3) := by decide +kernel
theorem dJ6_bitCount_0f7a4_32 : decode cJ6_bitCount_0f7a4 32 = .ok (.iand, 1) := by decide +kernel
theorem dJ6_bitCount_0f7a4_33 : decode cJ6_bitCount_0f7a4 33 = .ok (.istore_n 0, 1) := by decide +kernel
theorem dJ6_bitCount_0f7a4_34 : decode cJ6_bitCount_0f7a4 34 = .ok (.iload_n 0, 1) := by decide +kernel
theorem dJ6_bitCount_0f7a4_35 : decode cJ6_bitCount_0f7a4 35 = .ok (.iload_n 0, 1) := by decide +kernel
theorem dJ6_bitCount_0f7a4_36 : decode cJ6_bitCount_0f7a4 36 = .ok (.bipush 8, 2) := by decide +kernel
theorem dJ6_bitCount_0f7a4_38 : decode cJ6_bitCount_0f7a4 38 = .ok (.iushr, 1) := by decide +kernel
theorem dJ6_bitCount_0f7a4_39 : decode cJ6_bitCount_0f7a4 39 = .ok (.iadd, 1) := by decide +kernel
theorem dJ6_bitCount_0f7a4_40 : decode cJ6_bitCount_0f7a4 40 = .ok (.istore_n 0, 1) := by decide +kernel
theorem dJ6_bitCount_0f7a4_41 : decode cJ6_bitCount_0f7a4 41 = .ok (.iload_n 0, 1) := by decide +kernel
theorem dJ6_bitCount_0f7a4_42 : decode cJ6_bitCount_0f7a4 42 = .ok (.iload_n 0, 1) := by decide +kernel
theorem dJ6_bitCount_0f7a4_43 : decode cJ6_bitCount_0f7a4 43 = .ok (.bipush 16, 2) := by decide +kernel
theorem dJ6_bitCount_0f7a4_45 : decode cJ6_bitCount_0f7a4 45 = .ok (.iushr, 1) := by decide +kernel
theorem dJ6_bitCount_0f7a4_46 : decode cJ6_bitCount_0f7a4 46 = .ok (.iadd, 1) := by decide +kernel
theorem dJ6_bitCount_0f7a4_47 : decode cJ6_bitCount_0f7a4 47 = .ok (.istore_n 0, 1) := by decide +kernel
theorem dJ6_bitCount_0f7a4_48 : decode cJ6_bitCount_0f7a4 48 = .ok (.iload_n 0, 1) := by decide +kernel
theorem dJ6_bitCount_0f7a4_49 : decode cJ6_bitCount_0f7a4 49 = .ok (.bipush 63, 2) := by decide +kernel
theorem dJ6_bitCount_0f7a4_51 : decode cJ6_bitCount_0f7a4 51 = .ok (.iand, 1) := by decide +kernel
theorem dJ6_bitCount_0f7a4_52 : decode cJ6_bitCount_0f7a4 52 = .ok (.ireturn, 1) := by decide +kernel
theorem dJ9_abs_0f7a4_0 : decode cJ9_abs_0f7a4 0 = .ok (.iload_n 0, 1) := by decide +kernel
theorem dJ9_abs_0f7a4_1 : decode cJ9_abs_0f7a4 1 = .ok (.ifCond .ge 8, 3) := by decide +kernel
theorem dJ9_abs_0f7a4_4 : decode cJ9_abs_0f7a4 4 = .ok (.iload_n 0, 1) := by decide +kernel
theorem dJ9_abs_0f7a4_5 : decode cJ9_abs_0f7a4 5 = .ok (.ineg, 1) := by decide +kernel
theorem dJ9_abs_0f7a4_6 : decode cJ9_abs_0f7a4 6 = .ok (.goto 4, 3) := by decide +kernel
theorem dJ9_abs_0f7a4_9 : decode cJ9_abs_0f7a4 9 = .ok (.iload_n 0, 1) := by decide +kernel
theorem dJ9_abs_0f7a4_10 : decode cJ9_abs_0f7a4 10 = .ok (.ireturn, 1) := by decide +kernel
theorem dJ9_abs_067f4_0 : decode cJ9_abs_067f4 0 = .ok (.lload_n 0, 1) := by decide +kernel
theorem dJ9_abs_067f4_1 : decode cJ9_abs_067f4 1 = .ok (.lconst 0, 1) := by decide +kernel
theorem dJ9_abs_067f4_2 : decode cJ9_abs_067f4 2 = .ok (.lcmp, 1) := by decide +kernel
theorem dJ9_abs_067f4_3 : decode cJ9_abs_067f4 3 = .ok (.ifCond .ge 8, 3) := by decide +kernel
theorem dJ9_abs_067f4_6 : decode cJ9_abs_067f4 6 = .ok (.lload_n 0, 1) := by decide +kernel
theorem dJ9_abs_067f4_7 : decode cJ9_abs_067f4 7 = .ok (.lneg, 1) := by decide +kernel
theorem dJ9_abs_067f4_8 : decode cJ9_abs_067f4 8 = .ok (.goto 4, 3) := by decide +kernel
theorem dJ9_abs_067f4_11 : decode cJ9_abs_067f4 11 = .ok (.lload_n 0, 1) := by decide +kernel
theorem dJ9_abs_067f4_12 : decode cJ9_abs_067f4 12 = .ok (.lreturn, 1) := by decide +kernel
theorem dJ9_max_7cf53_0 : decode cJ9_max_7cf53 0 = .ok (.iload_n 0, 1) := by decide +kernel
theorem dJ9_max_7cf53_1 : decode cJ9_max_7cf53 1 = .ok (.iload_n 1, 1) := by decide +kernel
theorem dJ9_max_7cf53_2 : decode cJ9_max_7cf53 2 = .ok (.if_icmp .lt 7, 3) := by decide +kernel
theorem dJ9_max_7cf53_5 : decode cJ9_max_7cf53 5 = .ok (.iload_n 0, 1) := by decide +kernel
theorem dJ9_max_7cf53_6 : decode cJ9_max_7cf53 6 = .ok (.goto 4, 3) := by decide +kernel
theorem dJ9_max_7cf53_9 : decode cJ9_max_7cf53 9 = .ok (.iload_n 1, 1) := by decide +kernel
theorem dJ9_max_7cf53_10 : decode cJ9_max_7cf53 10 = .ok (.ireturn, 1) := by decide +kernel
theorem dJ9_min_7cf53_0 : decode cJ9_min_7cf53 0 = .ok (.iload_n 0, 1) := by decide +kernel
theorem dJ9_min_7cf53_1 : decode cJ9_min_7cf53 1 = .ok (.iload_n 1, 1) := by decide +kernel
theorem dJ9_min_7cf53_2 : decode cJ9_min_7cf53 2 = .ok (.if_icmp .gt 7, 3) := by decide +kernel
theorem dJ9_min_7cf53_5 : decode cJ9_min_7cf53 5 = .ok (.iload_n 0, 1) := by decide +kernel
theorem dJ9_min_7cf53_6 : decode cJ9_min_7cf53 6 = .ok (.goto 4, 3) := by decide +kernel
theorem dJ9_min_7cf53_9 : decode cJ9_min_7cf53 9 = .ok (.iload_n 1, 1) := by decide +kernel
theorem dJ9_min_7cf53_10 : decode cJ9_min_7cf53 10 = .ok (.ireturn, 1) := by decide +kernel
theorem dJ7_rangeCheck_23922_0 : decode cJ7_rangeCheck_23922 0 = .ok (.iload_n 1, 1) := by decide +kernel
theorem dJ7_rangeCheck_23922_1 : decode cJ7_rangeCheck_23922 1 = .ok (.iload_n 2, 1) := by decide +kernel
theorem dJ7_rangeCheck_23922_2 : decode cJ7_rangeCheck_23922 2 = .ok (.if_icmp .le 44, 3) := by decide +kernel
theorem dJ7_rangeCheck_23922_5 : decode cJ7_rangeCheck_23922 5 = .ok (.new 43, 3) := by decide +kernel
theorem dJ7_rangeCheck_23922_8 : decode cJ7_rangeCheck_23922 8 = .ok (.dup, 1) := by decide +kernel
theorem dJ7_rangeCheck_23922_9 : decode cJ7_rangeCheck_23922 9 = .ok (.new 45, 3) := by decide +kernel
theorem dJ7_rangeCheck_23922_12 : decode cJ7_rangeCheck_23922 12 = .ok (.dup, 1) := by decide +kernel
theorem dJ7_rangeCheck_23922_13 : decode cJ7_rangeCheck_23922 13 = .ok (.invokespecial 47, 3) := by decide +kernel
theorem dJ7_rangeCheck_23922_16 : decode cJ7_rangeCheck_23922 16 = .ok (.ldc 48, 2) := by decide +kernel
theorem dJ7_rangeCheck_23922_18 : decode cJ7_rangeCheck_23922 18 = .ok (.invokevirtual 50, 3) := by decide +kernel
theorem dJ7_rangeCheck_23922_21 : decode cJ7_rangeCheck_23922 21 = .ok (.iload_n 1, 1) := by decide +kernel
theorem dJ7_rangeCheck_23922_22 : decode cJ7_rangeCheck_23922 22 = .ok (.invokevirtual 54, 3) := by decide +kernel
theorem dJ7_rangeCheck_23922_25 : decode cJ7_rangeCheck_23922 25 = .ok (.ldc 57, 2) := by decide +kernel
theorem dJ7_rangeCheck_23922_27 : decode cJ7_rangeCheck_23922 27 = .ok (.invokevirtual 50, 3) := by decide +kernel
theorem dJ7_rangeCheck_23922_30 : decode cJ7_rangeCheck_23922 30 = .ok (.iload_n 2, 1) := by decide +kernel
theorem dJ7_rangeCheck_23922_31 : decode cJ7_rangeCheck_23922 31 = .ok (.invokevirtual 54, 3) := by decide +kernel
theorem dJ7_rangeCheck_23922_34 : decode cJ7_rangeCheck_23922 34 = .ok (.ldc 59, 2) := by decide +kernel
theorem dJ7_rangeCheck_23922_36 : decode cJ7_rangeCheck_23922 36 = .ok (.invokevirtual 50, 3) := by decide +kernel
theorem dJ7_rangeCheck_23922_39 : decode cJ7_rangeCheck_23922 39 = .ok (.invokevirtual 61, 3) := by decide +kernel
theorem dJ7_rangeCheck_23922_42 : decode cJ7_rangeCheck_23922 42 = .ok (.invokespecial 65, 3) := by decide +kernel
theorem dJ7_rangeCheck_23922_45 : decode cJ7_rangeCheck_23922 45 = .ok (.athrow, 1) := by decide +kernel
theorem dJ7_rangeCheck_23922_46 : decode cJ7_rangeCheck_23922 46 = .ok (.iload_n 1, 1) := by decide +kernel
theorem dJ7_rangeCheck_23922_47 : decode cJ7_rangeCheck_23922 47 = .ok (.ifCond .ge 12, 3) := by decide +kernel
theorem dJ7_rangeCheck_23922_50 : decode cJ7_rangeCheck_23922 50 = .ok (.new 68, 3) := by decide +kernel
theorem dJ7_rangeCheck_23922_53 : decode cJ7_rangeCheck_23922 53 = .ok (.dup, 1) := by decide +kernel
theorem dJ7_rangeCheck_23922_54 : decode cJ7_rangeCheck_23922 54 = .ok (.iload_n 1, 1) := by decide +kernel
theorem dJ7_rangeCheck_23922_55 : decode cJ7_rangeCheck_23922 55 = .ok (.invokespecial 70, 3) := by decide +kernel
theorem dJ7_rangeCheck_23922_58 : decode cJ7_rangeCheck_23922 58 = .ok (.athrow, 1) := by decide +kernel
theorem dJ7_rangeCheck_23922_59 : decode cJ7_rangeCheck_23922 59 = .ok (.iload_n 2, 1) := by decide +kernel
theorem dJ7_rangeCheck_23922_60 : decode cJ7_rangeCheck_23922 60 = .ok (.iload_n 0, 1) := by decide +kernel
theorem dJ7_rangeCheck_23922_61 : decode cJ7_rangeCheck_23922 61 = .ok (.if_icmp .le 12, 3) := by decide +kernel
theorem dJ7_rangeCheck_23922_64 : decode cJ7_rangeCheck_23922 64 = .ok (.new 68, 3) := by decide +kernel
theorem dJ7_rangeCheck_23922_67 : decode cJ7_rangeCheck_23922 67 = .ok (.dup, 1) := by decide +kernel
theorem dJ7_rangeCheck_23922_68 : decode cJ7_rangeCheck_23922 68 = .ok (.iload_n 2, 1) := by decide +kernel
theorem dJ7_rangeCheck_23922_69 : decode cJ7_rangeCheck_23922 69 = .ok (.invokespecial 70, 3) := by decide +kernel
theorem dJ7_rangeCheck_23922_72 : decode cJ7_rangeCheck_23922 72 = .ok (.athrow, 1) := by decide +kernel
theorem dJ7_rangeCheck_23922_73 : decode cJ7_rangeCheck_23922 73 = .ok (.return_, 1) := by decide +kernel
theorem dJ7_fill_53178_0 : decode cJ7_fill_53178 0 = .ok (.iconst 0, 1) := by decide +kernel
theorem dJ7_fill_53178_1 : decode cJ7_fill_53178 1 = .ok (.istore_n 2, 1) := by decide +kernel
theorem dJ7_fill_53178_2 : decode cJ7_fill_53178 2 = .ok (.aload_n 0, 1) := by decide +kernel
theorem dJ7_fill_53178_3 : decode cJ7_fill_53178 3 = .ok (.arraylength, 1) := by decide +kernel
theorem dJ7_fill_53178_4 : decode cJ7_fill_53178 4 = .ok (.istore_n 3, 1) := by decide +kernel
theorem dJ7_fill_53178_5 : decode cJ7_fill_53178 5 = .ok (.iload_n 2, 1) := by decide +kernel
theorem dJ7_fill_53178_6 : decode cJ7_fill_53178 6 = .ok (.iload_n 3, 1) := by decide +kernel
theorem dJ7_fill_53178_7 : decode cJ7_fill_53178 7 = .ok (.if_icmp .ge 13, 3) := by decide +kernel
theorem dJ7_fill_53178_10 : decode cJ7_fill_53178 10 = .ok (.aload_n 0, 1) := by decide +kernel
theorem dJ7_fill_53178_11 : decode cJ7_fill_53178 11 = .ok (.iload_n 2, 1) := by decide +kernel
theorem dJ7_fill_53178_12 : decode cJ7_fill_53178 12 = .ok (.iload_n 1, 1) := by decide +kernel
theorem dJ7_fill_53178_13 : decode cJ7_fill_53178 13 = .ok (.iastore, 1) := by decide +kernel
theorem dJ7_fill_53178_14 : decode cJ7_fill_53178 14 = .ok (.iinc 2 1, 3) := by decide +kernel
theorem dJ7_fill_53178_17 : decode cJ7_fill_53178 17 = .ok (.goto (-12), 3) := by decide +kernel
theorem dJ7_fill_53178_20 : decode cJ7_fill_53178 20 = .ok (.return_, 1) := by decide +kernel
theorem dJ7_fill_fda19_0 : decode cJ7_fill_fda19 0 = .ok (.aload_n 0, 1) := by decide +kernel
theorem dJ7_fill_fda19_1 : decode cJ7_fill_fda19 1 = .ok (.arraylength, 1) := by decide +kernel
theorem dJ7_fill_fda19_2 : decode cJ7_fill_fda19 2 = .ok (.iload_n 1, 1) := by decide +kernel
theorem dJ7_fill_fda19_3 : decode cJ7_fill_fda19 3 = .ok (.iload_n 2, 1) := by decide +kernel
theorem dJ7_fill_fda19_4 : decode cJ7_fill_fda19 4 = .ok (.invokestatic 13, 3) := by decide +kernel
theorem dJ7_fill_fda19_7 : decode cJ7_fill_fda19 7 = .ok (.iload_n 1, 1) := by decide +kernel
theorem dJ7_fill_fda19_8 : decode cJ7_fill_fda19 8 = .ok (.istore 4, 2) := by decide +kernel
theorem dJ7_fill_fda19_10 : decode cJ7_fill_fda19 10 = .ok (.iload 4, 2) := by decide +kernel
theorem dJ7_fill_fda19_12 : decode cJ7_fill_fda19 12 = .ok (.iload_n 2, 1) := by decide +kernel
theorem dJ7_fill_fda19_13 : decode cJ7_fill_fda19 13 = .ok (.if_icmp .ge 14, 3) := by decide +kernel
theorem dJ7_fill_fda19_16 : decode cJ7_fill_fda19 16 = .ok (.aload_n 0, 1) := by decide +kernel
theorem dJ7_fill_fda19_17 : decode cJ7_fill_fda19 17 = .ok (.iload 4, 2) := by decide +kernel
theorem dJ7_fill_fda19_19 : decode cJ7_fill_fda19 19 = .ok (.iload_n 3, 1) := by decide +kernel
theorem dJ7_fill_fda19_20 : decode cJ7_fill_fda19 20 = .ok (.iastore, 1) := by decide +kernel
theorem dJ7_fill_fda19_21 : decode cJ7_fill_fda19 21 = .ok (.iinc 4 1, 3) := by decide +kernel
theorem dJ7_fill_fda19_24 : decode cJ7_fill_fda19 24 = .ok (.goto (-14), 3) := by decide +kernel
theorem dJ7_fill_fda19_27 : decode cJ7_fill_fda19 27 = .ok (.return_, 1) := by decide +kernel
end
section
theorem dX11_init_0 : decode cX11_init 0 = .ok (.aload_n 0, 1) := by decide +kernel
theorem dX11_init_1 : decode cX11_init 1 = .ok (.invokespecial 3, 3) := by decide +kernel
theorem dX11_init_4 : decode cX11_init 4 = .ok (.aload_n 0, 1) := by decide +kernel
theorem dX11_init_5 : decode cX11_init 5 = .ok (.new 9, 3) := by decide +kernel
theorem dX11_init_8 : decode cX11_init 8 = .ok (.dup, 1) := by decide +kernel
theorem dX11_init_9 : decode cX11_init 9 = .ok (.invokespecial 11, 3) := by decide +kernel
theorem dX11_init_12 : decode cX11_init 12 = .ok (.putfield 12, 3) := by decide +kernel
theorem dX11_init_15 : decode cX11_init 15 = .ok (.aload_n 0, 1) := by decide +kernel
theorem dX11_init_16 : decode cX11_init 16 = .ok (.new 16, 3) := by decide +kernel
theorem dX11_init_19 : decode cX11_init 19 = .ok (.dup, 1) := by decide +kernel
theorem dX11_init_20 : decode cX11_init 20 = .ok (.invokespecial 18, 3) := by decide +kernel
theorem dX11_init_23 : decode cX11_init 23 = .ok (.putfield 19, 3) := by decide +kernel
theorem dX11_init_26 : decode cX11_init 26 = .ok (.aload_n 0, 1) := by decide +kernel
theorem dX11_init_27 : decode cX11_init 27 = .ok (.new 16, 3) := by decide +kernel
theorem dX11_init_30 : decode cX11_init 30 = .ok (.dup, 1) := by decide +kernel
theorem dX11_init_31 : decode cX11_init 31 = .ok (.invokespecial 18, 3) := by decide +kernel
theorem dX11_init_34 : decode cX11_init 34 = .ok (.putfield 23, 3) := by decide +kernel
theorem dX11_init_37 : decode cX11_init 37 = .ok (.aload_n 0, 1) := by decide +kernel
theorem dX11_init_38 : decode cX11_init 38 = .ok (.new 26, 3) := by decide +kernel
theorem dX11_init_41 : decode cX11_init 41 = .ok (.dup, 1) := by decide +kernel
theorem dX11_init_42 : decode cX11_init 42 = .ok (.invokespecial 28, 3) := by decide +kernel
theorem dX11_init_45 : decode cX11_init 45 = .ok (.putfield 29, 3) := by decide +kernel
theorem dX11_init_48 : decode cX11_init 48 = .ok (.aload_n 0, 1) := by decide +kernel
theorem dX11_init_49 : decode cX11_init 49 = .ok (.new 33, 3) := by decide +kernel
theorem dX11_init_52 : decode cX11_init 52 = .ok (.dup, 1) := by decide +kernel
theorem dX11_init_53 : decode cX11_init 53 = .ok (.invokespecial 35, 3) := by decide +kernel
theorem dX11_init_56 : decode cX11_init 56 = .ok (.putfield 36, 3) := by decide +kernel
theorem dX11_init_59 : decode cX11_init 59 = .ok (.aload_n 0, 1) := by decide +kernel
theorem dX11_init_60 : decode cX11_init 60 = .ok (.new 40, 3) := by decide +kernel
theorem dX11_init_63 : decode cX11_init 63 = .ok (.dup, 1) := by decide +kernel
theorem dX11_init_64 : decode cX11_init 64 = .ok (.invokespecial 42, 3) := by decide +kernel
theorem dX11_init_67 : decode cX11_init 67 = .ok (.putfield 43, 3) := by decide +kernel
theorem dX11_init_70 : decode cX11_init 70 = .ok (.aload_n 0, 1) := by decide +kernel
theorem dX11_init_71 : decode cX11_init 71 = .ok (.new 47, 3) := by decide +kernel
theorem dX11_init_74 : decode cX11_init 74 = .ok (.dup, 1) := by decide +kernel
theorem dX11_init_75 : decode cX11_init 75 = .ok (.invokespecial 49, 3) := by decide +kernel
theorem dX11_init_78 : decode cX11_init 78 = .ok (.putfield 50, 3) := by decide +kernel
theorem dX11_init_81 : decode cX11_init 81 = .ok (.aload_n 0, 1) := by decide +kernel
theorem dX11_init_82 : decode cX11_init 82 = .ok (.new 54, 3) := by decide +kernel
theorem dX11_init_85 : decode cX11_init 85 = .ok (.dup, 1) := by decide +kernel
theorem dX11_init_86 : decode cX11_init 86 = .ok (.invokespecial 56, 3) := by decide +kernel
theorem dX11_init_89 : decode cX11_init 89 = .ok (.putfield 57, 3) := by decide +kernel
theorem dX11_init_92 : decode cX11_init 92 = .ok (.aload_n 0, 1) := by decide +kernel
theorem dX11_init_93 : decode cX11_init 93 = .ok (.new 61, 3) := by decide +kernel
theorem dX11_init_96 : decode cX11_init 96 = .ok (.dup, 1) := by decide +kernel
theorem dX11_init_97 : decode cX11_init 97 = .ok (.invokespecial 63, 3) := by decide +kernel
theorem dX11_init_100 : decode cX11_init 100 = .ok (.putfield 64, 3) := by decide +kernel
theorem dX11_init_103 : decode cX11_init 103 = .ok (.aload_n 0, 1) := by decide +kernel
theorem dX11_init_104 : decode cX11_init 104 = .ok (.new 68, 3) := by decide +kernel
theorem dX11_init_107 : decode cX11_init 107 = .ok (.dup, 1) := by decide +kernel
theorem dX11_init_108 : decode cX11_init 108 = .ok (.invokespecial 70, 3) := by decide +kernel
theorem dX11_init_111 : decode cX11_init 111 = .ok (.putfield 71, 3) := by decide +kernel
theorem dX11_init_114 : decode cX11_init 114 = .ok (.aload_n 0, 1) := by decide +kernel
theorem dX11_init_115 : decode cX11_init 115 = .ok (.new 75, 3) := by decide +kernel
theorem dX11_init_118 : decode cX11_init 118 = .ok (.dup, 1) := by decide +kernel
theorem dX11_init_119 : decode cX11_init 119 = .ok (.invokespecial 77, 3) := by decide +kernel
theorem dX11_init_122 : decode cX11_init 122 = .ok (.putfield 78, 3) := by decide +kernel
theorem dX11_init_125 : decode cX11_init 125 = .ok (.aload_n 0, 1) := by decide +kernel
theorem dX11_init_126 : decode cX11_init 126 = .ok (.new 82, 3) := by decide +kernel
theorem dX11_init_129 : decode cX11_init 129 = .ok (.dup, 1) := by decide +kernel
theorem dX11_init_130 : decode cX11_init 130 = .ok (.invokespecial 84, 3) := by decide +kernel
theorem dX11_init_133 : decode cX11_init 133 = .ok (.putfield 85, 3) := by decide +kernel
theorem dX11_init_136 : decode cX11_init 136 = .ok (.return_, 1) := by decide +kernel
theorem dX11_pair_0 : decode cX11_pair 0 = .ok (.iload_n 1, 1) := by decide +kernel
theorem dX11_pair_1 : decode cX11_pair 1 = .ok (.invokestatic 89, 3) := by decide +kernel
theorem dX11_pair_4 : decode cX11_pair 4 = .ok (.ifCond .eq 25, 3) := by decide +kernel
theorem dX11_pair_7 : decode cX11_pair 7 = .ok (.iload_n 2, 1) := by decide +kernel
theorem dX11_pair_8 : decode cX11_pair 8 = .ok (.invokestatic 93, 3) := by decide +kernel
theorem dX11_pair_11 : decode cX11_pair 11 = .ok (.ifCond .eq 18, 3) := by decide +kernel
theorem dX11_pair_14 : decode cX11_pair 14 = .ok (.iload_n 3, 1) := by decide +kernel
theorem dX11_pair_15 : decode cX11_pair 15 = .ok (.invokestatic 96, 3) := by decide +kernel
theorem dX11_pair_18 : decode cX11_pair 18 = .ok (.ifCond .eq 11, 3) := by decide +kernel
theorem dX11_pair_21 : decode cX11_pair 21 = .ok (.iload 4, 2) := by decide +kernel
theorem dX11_pair_23 : decode cX11_pair 23 = .ok (.invokestatic 99, 3) := by decide +kernel
theorem dX11_pair_26 : decode cX11_pair 26 = .ok (.ifCond .ne 6, 3) := by decide +kernel
theorem dX11_pair_29 : decode cX11_pair 29 = .ok (.bipush (-2), 2) := by decide +kernel
theorem dX11_pair_31 : decode cX11_pair 31 = .ok (.ireturn, 1) := by decide +kernel
theorem dX11_pair_32 : decode cX11_pair 32 = .ok (.iload_n 2, 1) := by decide +kernel
theorem dX11_pair_33 : decode cX11_pair 33 = .ok (.iconst 1, 1) := by decide +kernel
theorem dX11_pair_34 : decode cX11_pair 34 = .ok (.if_icmp .ne 8, 3) := by decide +kernel
theorem dX11_pair_37 : decode cX11_pair 37 = .ok (.iload 4, 2) := by decide +kernel
theorem dX11_pair_39 : decode cX11_pair 39 = .ok (.ifCond .eq 15, 3) := by decide +kernel
theorem dX11_pair_42 : decode cX11_pair 42 = .ok (.aload_n 0, 1) := by decide +kernel
theorem dX11_pair_43 : decode cX11_pair 43 = .ok (.getfield 12, 3) := by decide +kernel
theorem dX11_pair_46 : decode cX11_pair 46 = .ok (.iload 5, 2) := by decide +kernel
theorem dX11_pair_48 : decode cX11_pair 48 = .ok (.invokevirtual 102, 3) := by decide +kernel
theorem dX11_pair_51 : decode cX11_pair 51 = .ok (.ifCond .ne 6, 3) := by decide +kernel
theorem dX11_pair_54 : decode cX11_pair 54 = .ok (.bipush (-2), 2) := by decide +kernel
theorem dX11_pair_56 : decode cX11_pair 56 = .ok (.ireturn, 1) := by decide +kernel
theorem dX11_pair_57 : decode cX11_pair 57 = .ok (.aload_n 0, 1) := by decide +kernel
theorem dX11_pair_58 : decode cX11_pair 58 = .ok (.getfield 12, 3) := by decide +kernel
theorem dX11_pair_61 : decode cX11_pair 61 = .ok (.iload_n 1, 1) := by decide +kernel
theorem dX11_pair_62 : decode cX11_pair 62 = .ok (.iload_n 2, 1) := by decide +kernel
theorem dX11_pair_63 : decode cX11_pair 63 = .ok (.iload_n 3, 1) := by decide +kernel
theorem dX11_pair_64 : decode cX11_pair 64 = .ok (.iload 4, 2) := by decide +kernel
theorem dX11_pair_66 : decode cX11_pair 66 = .ok (.iload 5, 2) := by decide +kernel
theorem dX11_pair_68 : decode cX11_pair 68 = .ok (.invokevirtual 105, 3) := by decide +kernel
theorem dX11_pair_71 : decode cX11_pair 71 = .ok (.ireturn, 1) := by decide +kernel
theorem dX11_read_0 : decode cX11_read 0 = .ok (.iload_n 1, 1) := by decide +kernel
theorem dX11_read_1 : decode cX11_read 1 = .ok (.invokestatic 109, 3) := by decide +kernel
theorem dX11_read_4 : decode cX11_read 4 = .ok (.ifCond .eq 29, 3) := by decide +kernel
theorem dX11_read_7 : decode cX11_read 7 = .ok (.iload_n 2, 1) := by decide +kernel
theorem dX11_read_8 : decode cX11_read 8 = .ok (.invokestatic 89, 3) := by decide +kernel
theorem dX11_read_11 : decode cX11_read 11 = .ok (.ifCond .eq 22, 3) := by decide +kernel
theorem dX11_read_14 : decode cX11_read 14 = .ok (.iload_n 3, 1) := by decide +kernel
theorem dX11_read_15 : decode cX11_read 15 = .ok (.invokestatic 93, 3) := by decide +kernel
theorem dX11_read_18 : decode cX11_read 18 = .ok (.ifCond .eq 15, 3) := by decide +kernel
theorem dX11_read_21 : decode cX11_read 21 = .ok (.aload_n 0, 1) := by decide +kernel
theorem dX11_read_22 : decode cX11_read 22 = .ok (.getfield 12, 3) := by decide +kernel
theorem dX11_read_25 : decode cX11_read 25 = .ok (.iload 4, 2) := by decide +kernel
theorem dX11_read_27 : decode cX11_read 27 = .ok (.invokevirtual 102, 3) := by decide +kernel
theorem dX11_read_30 : decode cX11_read 30 = .ok (.ifCond .ne 6, 3) := by decide +kernel
theorem dX11_read_33 : decode cX11_read 33 = .ok (.bipush (-2), 2) := by decide +kernel
theorem dX11_read_35 : decode cX11_read 35 = .ok (.ireturn, 1) := by decide +kernel
theorem dX11_read_36 : decode cX11_read 36 = .ok (.aload_n 0, 1) := by decide +kernel
theorem dX11_read_37 : decode cX11_read 37 = .ok (.getfield 85, 3) := by decide +kernel
theorem dX11_read_40 : decode cX11_read 40 = .ok (.iload_n 1, 1) := by decide +kernel
theorem dX11_read_41 : decode cX11_read 41 = .ok (.invokevirtual 112, 3) := by decide +kernel
theorem dX11_read_44 : decode cX11_read 44 = .ok (.ifCond .eq 12, 3) := by decide +kernel
theorem dX11_read_47 : decode cX11_read 47 = .ok (.aload_n 0, 1) := by decide +kernel
theorem dX11_read_48 : decode cX11_read 48 = .ok (.getfield 85, 3) := by decide +kernel
theorem dX11_read_51 : decode cX11_read 51 = .ok (.iconst 1, 1) := by decide +kernel
theorem dX11_read_52 : decode cX11_read 52 = .ok (.invokevirtual 115, 3) := by decide +kernel
theorem dX11_read_55 : decode cX11_read 55 = .ok (.ireturn, 1) := by decide +kernel
theorem dX11_read_56 : decode cX11_read 56 = .ok (.aload_n 0, 1) := by decide +kernel
theorem dX11_read_57 : decode cX11_read 57 = .ok (.getfield 85, 3) := by decide +kernel
theorem dX11_read_60 : decode cX11_read 60 = .ok (.iload_n 1, 1) := by decide +kernel
theorem dX11_read_61 : decode cX11_read 61 = .ok (.invokevirtual 119, 3) := by decide +kernel
theorem dX11_read_64 : decode cX11_read 64 = .ok (.iconst 2, 1) := by decide +kernel
theorem dX11_read_65 : decode cX11_read 65 = .ok (.idiv, 1) := by decide +kernel
theorem dX11_read_66 : decode cX11_read 66 = .ok (.istore 5, 2) := by decide +kernel
theorem dX11_read_68 : decode cX11_read 68 = .ok (.iconst 0, 1) := by decide +kernel
theorem dX11_read_69 : decode cX11_read 69 = .ok (.istore 6, 2) := by decide +kernel
theorem dX11_read_71 : decode cX11_read 71 = .ok (.iload 6, 2) := by decide +kernel
theorem dX11_read_73 : decode cX11_read 73 = .ok (.iload 5, 2) := by decide +kernel
theorem dX11_read_75 : decode cX11_read 75 = .ok (.if_icmp .ge 49, 3) := by decide +kernel
theorem dX11_read_78 : decode cX11_read 78 = .ok (.aload_n 0, 1) := by decide +kernel
theorem dX11_read_79 : decode cX11_read 79 = .ok (.iload_n 2, 1) := by decide +kernel
theorem dX11_read_80 : decode cX11_read 80 = .ok (.iload_n 3, 1) := by decide +kernel
theorem dX11_read_81 : decode cX11_read 81 = .ok (.aload_n 0, 1) := by decide +kernel
theorem dX11_read_82 : decode cX11_read 82 = .ok (.getfield 85, 3) := by decide +kernel
theorem dX11_read_85 : decode cX11_read 85 = .ok (.iload_n 1, 1) := by decide +kernel
theorem dX11_read_86 : decode cX11_read 86 = .ok (.iconst 2, 1) := by decide +kernel
theorem dX11_read_87 : decode cX11_read 87 = .ok (.iload 6, 2) := by decide +kernel
theorem dX11_read_89 : decode cX11_read 89 = .ok (.imul, 1) := by decide +kernel
theorem dX11_read_90 : decode cX11_read 90 = .ok (.invokevirtual 122, 3) := by decide +kernel
theorem dX11_read_93 : decode cX11_read 93 = .ok (.aload_n 0, 1) := by decide +kernel
theorem dX11_read_94 : decode cX11_read 94 = .ok (.getfield 85, 3) := by decide +kernel
theorem dX11_read_97 : decode cX11_read 97 = .ok (.iload_n 1, 1) := by decide +kernel
theorem dX11_read_98 : decode cX11_read 98 = .ok (.iconst 2, 1) := by decide +kernel
theorem dX11_read_99 : decode cX11_read 99 = .ok (.iload 6, 2) := by decide +kernel
theorem dX11_read_101 : decode cX11_read 101 = .ok (.imul, 1) := by decide +kernel
theorem dX11_read_102 : decode cX11_read 102 = .ok (.iconst 1, 1) := by decide +kernel
theorem dX11_read_103 : decode cX11_read 103 = .ok (.iadd, 1) := by decide +kernel
theorem dX11_read_104 : decode cX11_read 104 = .ok (.invokevirtual 122, 3) := by decide +kernel
theorem dX11_read_107 : decode cX11_read 107 = .ok (.iload 4, 2) := by decide +kernel
theorem dX11_read_109 : decode cX11_read 109 = .ok (.invokevirtual 126, 3) := by decide +kernel
theorem dX11_read_112 : decode cX11_read 112 = .ok (.ifCond .ge 6, 3) := by decide +kernel
theorem dX11_read_115 : decode cX11_read 115 = .ok (.iload 6, 2) := by decide +kernel
theorem dX11_read_117 : decode cX11_read 117 = .ok (.ireturn, 1) := by decide +kernel
theorem dX11_read_118 : decode cX11_read 118 = .ok (.iinc 6 1, 3) := by decide +kernel
theorem dX11_read_121 : decode cX11_read 121 = .ok (.goto (-50), 3) := by decide +kernel
theorem dX11_read_124 : decode cX11_read 124 = .ok (.iload 5, 2) := by decide +kernel
theorem dX11_read_126 : decode cX11_read 126 = .ok (.ireturn, 1) := by decide +kernel
theorem dX11_takeBack_0 : decode cX11_takeBack 0 = .ok (.aload_n 0, 1) := by decide +kernel
theorem dX11_takeBack_1 : decode cX11_takeBack 1 = .ok (.getfield 12, 3) := by decide +kernel
theorem dX11_takeBack_4 : decode cX11_takeBack 4 = .ok (.iload_n 1, 1) := by decide +kernel
theorem dX11_takeBack_5 : decode cX11_takeBack 5 = .ok (.invokevirtual 129, 3) := by decide +kernel
theorem dX11_takeBack_8 : decode cX11_takeBack 8 = .ok (.ifCond .eq 14, 3) := by decide +kernel
theorem dX11_takeBack_11 : decode cX11_takeBack 11 = .ok (.aload_n 0, 1) := by decide +kernel
theorem dX11_takeBack_12 : decode cX11_takeBack 12 = .ok (.getfield 12, 3) := by decide +kernel
theorem dX11_takeBack_15 : decode cX11_takeBack 15 = .ok (.iload_n 2, 1) := by decide +kernel
theorem dX11_takeBack_16 : decode cX11_takeBack 16 = .ok (.invokevirtual 102, 3) := by decide +kernel
theorem dX11_takeBack_19 : decode cX11_takeBack 19 = .ok (.ifCond .ne 6, 3) := by decide +kernel
theorem dX11_takeBack_22 : decode cX11_takeBack 22 = .ok (.bipush (-2), 2) := by decide +kernel
theorem dX11_takeBack_24 : decode cX11_takeBack 24 = .ok (.ireturn, 1) := by decide +kernel
theorem dX11_takeBack_25 : decode cX11_takeBack 25 = .ok (.aload_n 0, 1) := by decide +kernel
theorem dX11_takeBack_26 : decode cX11_takeBack 26 = .ok (.getfield 12, 3) := by decide +kernel
theorem dX11_takeBack_29 : decode cX11_takeBack 29 = .ok (.iload_n 1, 1) := by decide +kernel
theorem dX11_takeBack_30 : decode cX11_takeBack 30 = .ok (.iload_n 2, 1) := by decide +kernel
theorem dX11_takeBack_31 : decode cX11_takeBack 31 = .ok (.invokevirtual 132, 3) := by decide +kernel
theorem dX11_takeBack_34 : decode cX11_takeBack 34 = .ok (.ireturn, 1) := by decide +kernel
theorem dX11_asOf_0 : decode cX11_asOf 0 = .ok (.iload_n 1, 1) := by decide +kernel
theorem dX11_asOf_1 : decode cX11_asOf 1 = .ok (.invokestatic 135, 3) := by decide +kernel
theorem dX11_asOf_4 : decode cX11_asOf 4 = .ok (.ifCond .ne 6, 3) := by decide +kernel
theorem dX11_asOf_7 : decode cX11_asOf 7 = .ok (.bipush (-2), 2) := by decide +kernel
theorem dX11_asOf_9 : decode cX11_asOf 9 = .ok (.ireturn, 1) := by decide +kernel
theorem dX11_asOf_10 : decode cX11_asOf 10 = .ok (.aload_n 0, 1) := by decide +kernel
theorem dX11_asOf_11 : decode cX11_asOf 11 = .ok (.getfield 12, 3) := by decide +kernel
theorem dX11_asOf_14 : decode cX11_asOf 14 = .ok (.getfield 138, 3) := by decide +kernel
theorem dX11_asOf_17 : decode cX11_asOf 17 = .ok (.istore_n 2, 1) := by decide +kernel
theorem dX11_asOf_18 : decode cX11_asOf 18 = .ok (.aload_n 0, 1) := by decide +kernel
theorem dX11_asOf_19 : decode cX11_asOf 19 = .ok (.getfield 12, 3) := by decide +kernel
theorem dX11_asOf_22 : decode cX11_asOf 22 = .ok (.iload_n 1, 1) := by decide +kernel
theorem dX11_asOf_23 : decode cX11_asOf 23 = .ok (.putfield 138, 3) := by decide +kernel
theorem dX11_asOf_26 : decode cX11_asOf 26 = .ok (.iload_n 2, 1) := by decide +kernel
theorem dX11_asOf_27 : decode cX11_asOf 27 = .ok (.ireturn, 1) := by decide +kernel
theorem dX11_many_0 : decode cX11_many 0 = .ok (.iload_n 1, 1) := by decide +kernel
theorem dX11_many_1 : decode cX11_many 1 = .ok (.invokestatic 142, 3) := by decide +kernel
theorem dX11_many_4 : decode cX11_many 4 = .ok (.ifCond .eq 18, 3) := by decide +kernel
theorem dX11_many_7 : decode cX11_many 7 = .ok (.iload_n 2, 1) := by decide +kernel
theorem dX11_many_8 : decode cX11_many 8 = .ok (.invokestatic 93, 3) := by decide +kernel
theorem dX11_many_11 : decode cX11_many 11 = .ok (.ifCond .eq 11, 3) := by decide +kernel
theorem dX11_many_14 : decode cX11_many 14 = .ok (.iload_n 3, 1) := by decide +kernel
theorem dX11_many_15 : decode cX11_many 15 = .ok (.iconst 2, 1) := by decide +kernel
theorem dX11_many_16 : decode cX11_many 16 = .ok (.invokestatic 145, 3) := by decide +kernel
theorem dX11_many_19 : decode cX11_many 19 = .ok (.ifCond .ne 6, 3) := by decide +kernel
theorem dX11_many_22 : decode cX11_many 22 = .ok (.bipush (-2), 2) := by decide +kernel
theorem dX11_many_24 : decode cX11_many 24 = .ok (.ireturn, 1) := by decide +kernel
theorem dX11_many_25 : decode cX11_many 25 = .ok (.aload_n 0, 1) := by decide +kernel
theorem dX11_many_26 : decode cX11_many 26 = .ok (.getfield 12, 3) := by decide +kernel
theorem dX11_many_29 : decode cX11_many 29 = .ok (.iload_n 1, 1) := by decide +kernel
theorem dX11_many_30 : decode cX11_many 30 = .ok (.iload_n 2, 1) := by decide +kernel
theorem dX11_many_31 : decode cX11_many 31 = .ok (.aload_n 0, 1) := by decide +kernel
theorem dX11_many_32 : decode cX11_many 32 = .ok (.getfield 19, 3) := by decide +kernel
theorem dX11_many_35 : decode cX11_many 35 = .ok (.invokevirtual 149, 3) := by decide +kernel
theorem dX11_many_38 : decode cX11_many 38 = .ok (.iload_n 3, 1) := by decide +kernel
theorem dX11_many_39 : decode cX11_many 39 = .ok (.ifCond .ne 11, 3) := by decide +kernel
theorem dX11_many_42 : decode cX11_many 42 = .ok (.aload_n 0, 1) := by decide +kernel
theorem dX11_many_43 : decode cX11_many 43 = .ok (.getfield 19, 3) := by decide +kernel
theorem dX11_many_46 : decode cX11_many 46 = .ok (.getfield 153, 3) := by decide +kernel
theorem dX11_many_49 : decode cX11_many 49 = .ok (.ireturn, 1) := by decide +kernel
theorem dX11_many_50 : decode cX11_many 50 = .ok (.iload_n 3, 1) := by decide +kernel
theorem dX11_many_51 : decode cX11_many 51 = .ok (.iconst 1, 1) := by decide +kernel
theorem dX11_many_52 : decode cX11_many 52 = .ok (.if_icmp .ne 11, 3) := by decide +kernel
theorem dX11_many_55 : decode cX11_many 55 = .ok (.aload_n 0, 1) := by decide +kernel
theorem dX11_many_56 : decode cX11_many 56 = .ok (.getfield 19, 3) := by decide +kernel
theorem dX11_many_59 : decode cX11_many 59 = .ok (.getfield 156, 3) := by decide +kernel
theorem dX11_many_62 : decode cX11_many 62 = .ok (.ireturn, 1) := by decide +kernel
theorem dX11_many_63 : decode cX11_many 63 = .ok (.aload_n 0, 1) := by decide +kernel
theorem dX11_many_64 : decode cX11_many 64 = .ok (.getfield 19, 3) := by decide +kernel
theorem dX11_many_67 : decode cX11_many 67 = .ok (.getfield 153, 3) := by decide +kernel
theorem dX11_many_70 : decode cX11_many 70 = .ok (.ifCond .ne 8, 3) := by decide +kernel
theorem dX11_many_73 : decode cX11_many 73 = .ok (.bipush (-3), 2) := by decide +kernel
theorem dX11_many_75 : decode cX11_many 75 = .ok (.goto 10, 3) := by decide +kernel
theorem dX11_many_78 : decode cX11_many 78 = .ok (.aload_n 0, 1) := by decide +kernel
theorem dX11_many_79 : decode cX11_many 79 = .ok (.getfield 19, 3) := by decide +kernel
theorem dX11_many_82 : decode cX11_many 82 = .ok (.invokevirtual 159, 3) := by decide +kernel
theorem dX11_many_85 : decode cX11_many 85 = .ok (.ireturn, 1) := by decide +kernel
theorem dX11_mean_0 : decode cX11_mean 0 = .ok (.iload_n 1, 1) := by decide +kernel
theorem dX11_mean_1 : decode cX11_mean 1 = .ok (.invokestatic 142, 3) := by decide +kernel
theorem dX11_mean_4 : decode cX11_mean 4 = .ok (.ifCond .eq 17, 3) := by decide +kernel
theorem dX11_mean_7 : decode cX11_mean 7 = .ok (.iload_n 2, 1) := by decide +kernel
theorem dX11_mean_8 : decode cX11_mean 8 = .ok (.invokestatic 93, 3) := by decide +kernel
theorem dX11_mean_11 : decode cX11_mean 11 = .ok (.ifCond .eq 10, 3) := by decide +kernel
theorem dX11_mean_14 : decode cX11_mean 14 = .ok (.iload_n 3, 1) := by decide +kernel
theorem dX11_mean_15 : decode cX11_mean 15 = .ok (.invokestatic 163, 3) := by decide +kernel
theorem dX11_mean_18 : decode cX11_mean 18 = .ok (.ifCond .ne 9, 3) := by decide +kernel
theorem dX11_mean_21 : decode cX11_mean 21 = .ok (.bipush (-2), 2) := by decide +kernel
theorem dX11_mean_23 : decode cX11_mean 23 = .ok (.invokestatic 166, 3) := by decide +kernel
theorem dX11_mean_26 : decode cX11_mean 26 = .ok (.lreturn, 1) := by decide +kernel
theorem dX11_mean_27 : decode cX11_mean 27 = .ok (.aload_n 0, 1) := by decide +kernel
theorem dX11_mean_28 : decode cX11_mean 28 = .ok (.getfield 12, 3) := by decide +kernel
theorem dX11_mean_31 : decode cX11_mean 31 = .ok (.iload_n 1, 1) := by decide +kernel
theorem dX11_mean_32 : decode cX11_mean 32 = .ok (.iload_n 2, 1) := by decide +kernel
theorem dX11_mean_33 : decode cX11_mean 33 = .ok (.aload_n 0, 1) := by decide +kernel
theorem dX11_mean_34 : decode cX11_mean 34 = .ok (.getfield 19, 3) := by decide +kernel
theorem dX11_mean_37 : decode cX11_mean 37 = .ok (.invokevirtual 149, 3) := by decide +kernel
theorem dX11_mean_40 : decode cX11_mean 40 = .ok (.aload_n 0, 1) := by decide +kernel
theorem dX11_mean_41 : decode cX11_mean 41 = .ok (.getfield 19, 3) := by decide +kernel
theorem dX11_mean_44 : decode cX11_mean 44 = .ok (.getfield 153, 3) := by decide +kernel
theorem dX11_mean_47 : decode cX11_mean 47 = .ok (.ifCond .ne 9, 3) := by decide +kernel
theorem dX11_mean_50 : decode cX11_mean 50 = .ok (.bipush (-3), 2) := by decide +kernel
theorem dX11_mean_52 : decode cX11_mean 52 = .ok (.invokestatic 166, 3) := by decide +kernel
theorem dX11_mean_55 : decode cX11_mean 55 = .ok (.lreturn, 1) := by decide +kernel
theorem dX11_mean_56 : decode cX11_mean 56 = .ok (.aload_n 0, 1) := by decide +kernel
theorem dX11_mean_57 : decode cX11_mean 57 = .ok (.getfield 19, 3) := by decide +kernel
theorem dX11_mean_60 : decode cX11_mean 60 = .ok (.getfield 170, 3) := by decide +kernel
theorem dX11_mean_63 : decode cX11_mean 63 = .ok (.i2l, 1) := by decide +kernel
theorem dX11_mean_64 : decode cX11_mean 64 = .ok (.aload_n 0, 1) := by decide +kernel
theorem dX11_mean_65 : decode cX11_mean 65 = .ok (.getfield 19, 3) := by decide +kernel
theorem dX11_mean_68 : decode cX11_mean 68 = .ok (.getfield 153, 3) := by decide +kernel
theorem dX11_mean_71 : decode cX11_mean 71 = .ok (.i2l, 1) := by decide +kernel
theorem dX11_mean_72 : decode cX11_mean 72 = .ok (.iload_n 3, 1) := by decide +kernel
theorem dX11_mean_73 : decode cX11_mean 73 = .ok (.invokestatic 173, 3) := by decide +kernel
theorem dX11_mean_76 : decode cX11_mean 76 = .ok (.lreturn, 1) := by decide +kernel
theorem dX11_refused_0 : decode cX11_refused 0 = .ok (.iload_n 1, 1) := by decide +kernel
theorem dX11_refused_1 : decode cX11_refused 1 = .ok (.invokestatic 142, 3) := by decide +kernel
theorem dX11_refused_4 : decode cX11_refused 4 = .ok (.ifCond .eq 25, 3) := by decide +kernel
theorem dX11_refused_7 : decode cX11_refused 7 = .ok (.iload_n 2, 1) := by decide +kernel
theorem dX11_refused_8 : decode cX11_refused 8 = .ok (.invokestatic 93, 3) := by decide +kernel
theorem dX11_refused_11 : decode cX11_refused 11 = .ok (.ifCond .eq 18, 3) := by decide +kernel
theorem dX11_refused_14 : decode cX11_refused 14 = .ok (.iload_n 3, 1) := by decide +kernel
theorem dX11_refused_15 : decode cX11_refused 15 = .ok (.invokestatic 96, 3) := by decide +kernel
theorem dX11_refused_18 : decode cX11_refused 18 = .ok (.ifCond .eq 11, 3) := by decide +kernel
theorem dX11_refused_21 : decode cX11_refused 21 = .ok (.iload 4, 2) := by decide +kernel
theorem dX11_refused_23 : decode cX11_refused 23 = .ok (.invokestatic 163, 3) := by decide +kernel
theorem dX11_refused_26 : decode cX11_refused 26 = .ok (.ifCond .ne 9, 3) := by decide +kernel
theorem dX11_refused_29 : decode cX11_refused 29 = .ok (.bipush (-2), 2) := by decide +kernel
theorem dX11_refused_31 : decode cX11_refused 31 = .ok (.invokestatic 166, 3) := by decide +kernel
theorem dX11_refused_34 : decode cX11_refused 34 = .ok (.lreturn, 1) := by decide +kernel
theorem dX11_refused_35 : decode cX11_refused 35 = .ok (.aload_n 0, 1) := by decide +kernel
theorem dX11_refused_36 : decode cX11_refused 36 = .ok (.getfield 12, 3) := by decide +kernel
theorem dX11_refused_39 : decode cX11_refused 39 = .ok (.iload_n 1, 1) := by decide +kernel
theorem dX11_refused_40 : decode cX11_refused 40 = .ok (.iload_n 2, 1) := by decide +kernel
theorem dX11_refused_41 : decode cX11_refused 41 = .ok (.aload_n 0, 1) := by decide +kernel
theorem dX11_refused_42 : decode cX11_refused 42 = .ok (.getfield 19, 3) := by decide +kernel
theorem dX11_refused_45 : decode cX11_refused 45 = .ok (.invokevirtual 149, 3) := by decide +kernel
theorem dX11_refused_48 : decode cX11_refused 48 = .ok (.aload_n 0, 1) := by decide +kernel
theorem dX11_refused_49 : decode cX11_refused 49 = .ok (.getfield 19, 3) := by decide +kernel
theorem dX11_refused_52 : decode cX11_refused 52 = .ok (.getfield 177, 3) := by decide +kernel
theorem dX11_refused_55 : decode cX11_refused 55 = .ok (.iload_n 3, 1) := by decide +kernel
theorem dX11_refused_56 : decode cX11_refused 56 = .ok (.iaload, 1) := by decide +kernel
theorem dX11_refused_57 : decode cX11_refused 57 = .ok (.ifCond .ne 9, 3) := by decide +kernel
theorem dX11_refused_60 : decode cX11_refused 60 = .ok (.bipush (-3), 2) := by decide +kernel
theorem dX11_refused_62 : decode cX11_refused 62 = .ok (.invokestatic 166, 3) := by decide +kernel
theorem dX11_refused_65 : decode cX11_refused 65 = .ok (.lreturn, 1) := by decide +kernel
theorem dX11_refused_66 : decode cX11_refused 66 = .ok (.aload_n 0, 1) := by decide +kernel
theorem dX11_refused_67 : decode cX11_refused 67 = .ok (.getfield 19, 3) := by decide +kernel
theorem dX11_refused_70 : decode cX11_refused 70 = .ok (.getfield 181, 3) := by decide +kernel
theorem dX11_refused_73 : decode cX11_refused 73 = .ok (.iload_n 3, 1) := by decide +kernel
theorem dX11_refused_74 : decode cX11_refused 74 = .ok (.iaload, 1) := by decide +kernel
theorem dX11_refused_75 : decode cX11_refused 75 = .ok (.i2l, 1) := by decide +kernel
theorem dX11_refused_76 : decode cX11_refused 76 = .ok (.aload_n 0, 1) := by decide +kernel
theorem dX11_refused_77 : decode cX11_refused 77 = .ok (.getfield 19, 3) := by decide +kernel
theorem dX11_refused_80 : decode cX11_refused 80 = .ok (.getfield 177, 3) := by decide +kernel
theorem dX11_refused_83 : decode cX11_refused 83 = .ok (.iload_n 3, 1) := by decide +kernel
theorem dX11_refused_84 : decode cX11_refused 84 = .ok (.iaload, 1) := by decide +kernel
theorem dX11_refused_85 : decode cX11_refused 85 = .ok (.i2l, 1) := by decide +kernel
theorem dX11_refused_86 : decode cX11_refused 86 = .ok (.iload 4, 2) := by decide +kernel
theorem dX11_refused_88 : decode cX11_refused 88 = .ok (.invokestatic 173, 3) := by decide +kernel
theorem dX11_refused_91 : decode cX11_refused 91 = .ok (.lreturn, 1) := by decide +kernel
theorem dX11_moves_0 : decode cX11_moves 0 = .ok (.iload_n 1, 1) := by decide +kernel
theorem dX11_moves_1 : decode cX11_moves 1 = .ok (.invokestatic 142, 3) := by decide +kernel
theorem dX11_moves_4 : decode cX11_moves 4 = .ok (.ifCond .eq 18, 3) := by decide +kernel
theorem dX11_moves_7 : decode cX11_moves 7 = .ok (.iload_n 2, 1) := by decide +kernel
theorem dX11_moves_8 : decode cX11_moves 8 = .ok (.iconst 2, 1) := by decide +kernel
theorem dX11_moves_9 : decode cX11_moves 9 = .ok (.invokestatic 145, 3) := by decide +kernel
theorem dX11_moves_12 : decode cX11_moves 12 = .ok (.ifCond .eq 10, 3) := by decide +kernel
theorem dX11_moves_15 : decode cX11_moves 15 = .ok (.iload_n 3, 1) := by decide +kernel
theorem dX11_moves_16 : decode cX11_moves 16 = .ok (.invokestatic 163, 3) := by decide +kernel
theorem dX11_moves_19 : decode cX11_moves 19 = .ok (.ifCond .ne 9, 3) := by decide +kernel
theorem dX11_moves_22 : decode cX11_moves 22 = .ok (.bipush (-2), 2) := by decide +kernel
theorem dX11_moves_24 : decode cX11_moves 24 = .ok (.invokestatic 166, 3) := by decide +kernel
theorem dX11_moves_27 : decode cX11_moves 27 = .ok (.lreturn, 1) := by decide +kernel
theorem dX11_moves_28 : decode cX11_moves 28 = .ok (.aload_n 0, 1) := by decide +kernel
theorem dX11_moves_29 : decode cX11_moves 29 = .ok (.getfield 12, 3) := by decide +kernel
theorem dX11_moves_32 : decode cX11_moves 32 = .ok (.iload_n 1, 1) := by decide +kernel
theorem dX11_moves_33 : decode cX11_moves 33 = .ok (.iload_n 2, 1) := by decide +kernel
theorem dX11_moves_34 : decode cX11_moves 34 = .ok (.iconst 1, 1) := by decide +kernel
theorem dX11_moves_35 : decode cX11_moves 35 = .ok (.if_icmp .ne 7, 3) := by decide +kernel
theorem dX11_moves_38 : decode cX11_moves 38 = .ok (.iconst 3, 1) := by decide +kernel
theorem dX11_moves_39 : decode cX11_moves 39 = .ok (.goto 4, 3) := by decide +kernel
theorem dX11_moves_42 : decode cX11_moves 42 = .ok (.iconst 0, 1) := by decide +kernel
theorem dX11_moves_43 : decode cX11_moves 43 = .ok (.aload_n 0, 1) := by decide +kernel
theorem dX11_moves_44 : decode cX11_moves 44 = .ok (.getfield 19, 3) := by decide +kernel
theorem dX11_moves_47 : decode cX11_moves 47 = .ok (.invokevirtual 149, 3) := by decide +kernel
theorem dX11_moves_50 : decode cX11_moves 50 = .ok (.aload_n 0, 1) := by decide +kernel
theorem dX11_moves_51 : decode cX11_moves 51 = .ok (.getfield 12, 3) := by decide +kernel
theorem dX11_moves_54 : decode cX11_moves 54 = .ok (.iload_n 1, 1) := by decide +kernel
theorem dX11_moves_55 : decode cX11_moves 55 = .ok (.iload_n 2, 1) := by decide +kernel
theorem dX11_moves_56 : decode cX11_moves 56 = .ok (.invokestatic 184, 3) := by decide +kernel
theorem dX11_moves_59 : decode cX11_moves 59 = .ok (.aload_n 0, 1) := by decide +kernel
theorem dX11_moves_60 : decode cX11_moves 60 = .ok (.getfield 23, 3) := by decide +kernel
theorem dX11_moves_63 : decode cX11_moves 63 = .ok (.invokevirtual 149, 3) := by decide +kernel
theorem dX11_moves_66 : decode cX11_moves 66 = .ok (.aload_n 0, 1) := by decide +kernel
theorem dX11_moves_67 : decode cX11_moves 67 = .ok (.getfield 19, 3) := by decide +kernel
theorem dX11_moves_70 : decode cX11_moves 70 = .ok (.getfield 153, 3) := by decide +kernel
theorem dX11_moves_73 : decode cX11_moves 73 = .ok (.ifCond .eq 13, 3) := by decide +kernel
theorem dX11_moves_76 : decode cX11_moves 76 = .ok (.aload_n 0, 1) := by decide +kernel
theorem dX11_moves_77 : decode cX11_moves 77 = .ok (.getfield 23, 3) := by decide +kernel
theorem dX11_moves_80 : decode cX11_moves 80 = .ok (.getfield 153, 3) := by decide +kernel
theorem dX11_moves_83 : decode cX11_moves 83 = .ok (.ifCond .ne 9, 3) := by decide +kernel
theorem dX11_moves_86 : decode cX11_moves 86 = .ok (.bipush (-3), 2) := by decide +kernel
theorem dX11_moves_88 : decode cX11_moves 88 = .ok (.invokestatic 166, 3) := by decide +kernel
theorem dX11_moves_91 : decode cX11_moves 91 = .ok (.lreturn, 1) := by decide +kernel
theorem dX11_moves_92 : decode cX11_moves 92 = .ok (.iload_n 2, 1) := by decide +kernel
theorem dX11_moves_93 : decode cX11_moves 93 = .ok (.iconst 2, 1) := by decide +kernel
theorem dX11_moves_94 : decode cX11_moves 94 = .ok (.if_icmp .ne 13, 3) := by decide +kernel
theorem dX11_moves_97 : decode cX11_moves 97 = .ok (.aload_n 0, 1) := by decide +kernel
theorem dX11_moves_98 : decode cX11_moves 98 = .ok (.getfield 19, 3) := by decide +kernel
theorem dX11_moves_101 : decode cX11_moves 101 = .ok (.getfield 156, 3) := by decide +kernel
theorem dX11_moves_104 : decode cX11_moves 104 = .ok (.goto 10, 3) := by decide +kernel
theorem dX11_moves_107 : decode cX11_moves 107 = .ok (.aload_n 0, 1) := by decide +kernel
theorem dX11_moves_108 : decode cX11_moves 108 = .ok (.getfield 19, 3) := by decide +kernel
theorem dX11_moves_111 : decode cX11_moves 111 = .ok (.getfield 170, 3) := by decide +kernel
theorem dX11_moves_114 : decode cX11_moves 114 = .ok (.istore 4, 2) := by decide +kernel
theorem dX11_moves_116 : decode cX11_moves 116 = .ok (.iload_n 2, 1) := by decide +kernel
theorem dX11_moves_117 : decode cX11_moves 117 = .ok (.iconst 2, 1) := by decide +kernel
theorem dX11_moves_118 : decode cX11_moves 118 = .ok (.if_icmp .ne 13, 3) := by decide +kernel
theorem dX11_moves_121 : decode cX11_moves 121 = .ok (.aload_n 0, 1) := by decide +kernel
theorem dX11_moves_122 : decode cX11_moves 122 = .ok (.getfield 23, 3) := by decide +kernel
theorem dX11_moves_125 : decode cX11_moves 125 = .ok (.getfield 156, 3) := by decide +kernel
theorem dX11_moves_128 : decode cX11_moves 128 = .ok (.goto 10, 3) := by decide +kernel
theorem dX11_moves_131 : decode cX11_moves 131 = .ok (.aload_n 0, 1) := by decide +kernel
theorem dX11_moves_132 : decode cX11_moves 132 = .ok (.getfield 23, 3) := by decide +kernel
theorem dX11_moves_135 : decode cX11_moves 135 = .ok (.getfield 170, 3) := by decide +kernel
theorem dX11_moves_138 : decode cX11_moves 138 = .ok (.istore 5, 2) := by decide +kernel
theorem dX11_moves_140 : decode cX11_moves 140 = .ok (.iload 4, 2) := by decide +kernel
theorem dX11_moves_142 : decode cX11_moves 142 = .ok (.aload_n 0, 1) := by decide +kernel
theorem dX11_moves_143 : decode cX11_moves 143 = .ok (.getfield 23, 3) := by decide +kernel
theorem dX11_moves_146 : decode cX11_moves 146 = .ok (.getfield 153, 3) := by decide +kernel
theorem dX11_moves_149 : decode cX11_moves 149 = .ok (.imul, 1) := by decide +kernel
theorem dX11_moves_150 : decode cX11_moves 150 = .ok (.iload 5, 2) := by decide +kernel
theorem dX11_moves_152 : decode cX11_moves 152 = .ok (.aload_n 0, 1) := by decide +kernel
theorem dX11_moves_153 : decode cX11_moves 153 = .ok (.getfield 19, 3) := by decide +kernel
theorem dX11_moves_156 : decode cX11_moves 156 = .ok (.getfield 153, 3) := by decide +kernel
theorem dX11_moves_159 : decode cX11_moves 159 = .ok (.imul, 1) := by decide +kernel
theorem dX11_moves_160 : decode cX11_moves 160 = .ok (.isub, 1) := by decide +kernel
theorem dX11_moves_161 : decode cX11_moves 161 = .ok (.i2l, 1) := by decide +kernel
theorem dX11_moves_162 : decode cX11_moves 162 = .ok (.aload_n 0, 1) := by decide +kernel
theorem dX11_moves_163 : decode cX11_moves 163 = .ok (.getfield 19, 3) := by decide +kernel
theorem dX11_moves_166 : decode cX11_moves 166 = .ok (.getfield 153, 3) := by decide +kernel
theorem dX11_moves_169 : decode cX11_moves 169 = .ok (.aload_n 0, 1) := by decide +kernel
theorem dX11_moves_170 : decode cX11_moves 170 = .ok (.getfield 23, 3) := by decide +kernel
theorem dX11_moves_173 : decode cX11_moves 173 = .ok (.getfield 153, 3) := by decide +kernel
theorem dX11_moves_176 : decode cX11_moves 176 = .ok (.imul, 1) := by decide +kernel
theorem dX11_moves_177 : decode cX11_moves 177 = .ok (.i2l, 1) := by decide +kernel
theorem dX11_moves_178 : decode cX11_moves 178 = .ok (.iload_n 3, 1) := by decide +kernel
theorem dX11_moves_179 : decode cX11_moves 179 = .ok (.invokestatic 173, 3) := by decide +kernel
theorem dX11_moves_182 : decode cX11_moves 182 = .ok (.lreturn, 1) := by decide +kernel
theorem dX11_lessKind_0 : decode cX11_lessKind 0 = .ok (.iload_n 0, 1) := by decide +kernel
theorem dX11_lessKind_1 : decode cX11_lessKind 1 = .ok (.ifCond .ne 5, 3) := by decide +kernel
theorem dX11_lessKind_4 : decode cX11_lessKind 4 = .ok (.iconst 1, 1) := by decide +kernel
theorem dX11_lessKind_5 : decode cX11_lessKind 5 = .ok (.ireturn, 1) := by decide +kernel
theorem dX11_lessKind_6 : decode cX11_lessKind 6 = .ok (.iload_n 0, 1) := by decide +kernel
theorem dX11_lessKind_7 : decode cX11_lessKind 7 = .ok (.iconst 1, 1) := by decide +kernel
theorem dX11_lessKind_8 : decode cX11_lessKind 8 = .ok (.if_icmp .ne 7, 3) := by decide +kernel
theorem dX11_lessKind_11 : decode cX11_lessKind 11 = .ok (.iconst 0, 1) := by decide +kernel
theorem dX11_lessKind_12 : decode cX11_lessKind 12 = .ok (.goto 4, 3) := by decide +kernel
theorem dX11_lessKind_15 : decode cX11_lessKind 15 = .ok (.iconst 2, 1) := by decide +kernel
theorem dX11_lessKind_16 : decode cX11_lessKind 16 = .ok (.ireturn, 1) := by decide +kernel
theorem dX11_row_0 : decode cX11_row 0 = .ok (.iload_n 1, 1) := by decide +kernel
theorem dX11_row_1 : decode cX11_row 1 = .ok (.invokestatic 89, 3) := by decide +kernel
theorem dX11_row_4 : decode cX11_row 4 = .ok (.ifCond .eq 13, 3) := by decide +kernel
theorem dX11_row_7 : decode cX11_row 7 = .ok (.iload_n 2, 1) := by decide +kernel
theorem dX11_row_8 : decode cX11_row 8 = .ok (.sipush 2047, 3) := by decide +kernel
theorem dX11_row_11 : decode cX11_row 11 = .ok (.invokestatic 145, 3) := by decide +kernel
theorem dX11_row_14 : decode cX11_row 14 = .ok (.ifCond .ne 6, 3) := by decide +kernel
theorem dX11_row_17 : decode cX11_row 17 = .ok (.bipush (-2), 2) := by decide +kernel
theorem dX11_row_19 : decode cX11_row 19 = .ok (.ireturn, 1) := by decide +kernel
theorem dX11_row_20 : decode cX11_row 20 = .ok (.aload_n 0, 1) := by decide +kernel
theorem dX11_row_21 : decode cX11_row 21 = .ok (.getfield 29, 3) := by decide +kernel
theorem dX11_row_24 : decode cX11_row 24 = .ok (.iload_n 1, 1) := by decide +kernel
theorem dX11_row_25 : decode cX11_row 25 = .ok (.iload_n 2, 1) := by decide +kernel
theorem dX11_row_26 : decode cX11_row 26 = .ok (.invokevirtual 187, 3) := by decide +kernel
theorem dX11_row_29 : decode cX11_row 29 = .ok (.ireturn, 1) := by decide +kernel
theorem dX11_line_0 : decode cX11_line 0 = .ok (.aload_n 0, 1) := by decide +kernel
theorem dX11_line_1 : decode cX11_line 1 = .ok (.getfield 29, 3) := by decide +kernel
theorem dX11_line_4 : decode cX11_line 4 = .ok (.iload_n 1, 1) := by decide +kernel
theorem dX11_line_5 : decode cX11_line 5 = .ok (.invokevirtual 189, 3) := by decide +kernel
theorem dX11_line_8 : decode cX11_line 8 = .ok (.ifCond .eq 11, 3) := by decide +kernel
theorem dX11_line_11 : decode cX11_line 11 = .ok (.iload_n 2, 1) := by decide +kernel
theorem dX11_line_12 : decode cX11_line 12 = .ok (.iconst 2, 1) := by decide +kernel
theorem dX11_line_13 : decode cX11_line 13 = .ok (.invokestatic 145, 3) := by decide +kernel
theorem dX11_line_16 : decode cX11_line 16 = .ok (.ifCond .ne 6, 3) := by decide +kernel
theorem dX11_line_19 : decode cX11_line 19 = .ok (.bipush (-2), 2) := by decide +kernel
theorem dX11_line_21 : decode cX11_line 21 = .ok (.ireturn, 1) := by decide +kernel
theorem dX11_line_22 : decode cX11_line 22 = .ok (.aload_n 0, 1) := by decide +kernel
theorem dX11_line_23 : decode cX11_line 23 = .ok (.getfield 29, 3) := by decide +kernel
theorem dX11_line_26 : decode cX11_line 26 = .ok (.iload_n 1, 1) := by decide +kernel
theorem dX11_line_27 : decode cX11_line 27 = .ok (.invokevirtual 190, 3) := by decide +kernel
theorem dX11_line_30 : decode cX11_line 30 = .ok (.iload_n 2, 1) := by decide +kernel
theorem dX11_line_31 : decode cX11_line 31 = .ok (.ifCond .ne 11, 3) := by decide +kernel
theorem dX11_line_34 : decode cX11_line 34 = .ok (.aload_n 0, 1) := by decide +kernel
theorem dX11_line_35 : decode cX11_line 35 = .ok (.getfield 29, 3) := by decide +kernel
theorem dX11_line_38 : decode cX11_line 38 = .ok (.getfield 194, 3) := by decide +kernel
theorem dX11_line_41 : decode cX11_line 41 = .ok (.ireturn, 1) := by decide +kernel
theorem dX11_line_42 : decode cX11_line 42 = .ok (.iload_n 2, 1) := by decide +kernel
theorem dX11_line_43 : decode cX11_line 43 = .ok (.iconst 1, 1) := by decide +kernel
theorem dX11_line_44 : decode cX11_line 44 = .ok (.if_icmp .ne 13, 3) := by decide +kernel
theorem dX11_line_47 : decode cX11_line 47 = .ok (.aload_n 0, 1) := by decide +kernel
theorem dX11_line_48 : decode cX11_line 48 = .ok (.getfield 29, 3) := by decide +kernel
theorem dX11_line_51 : decode cX11_line 51 = .ok (.getfield 197, 3) := by decide +kernel
theorem dX11_line_54 : decode cX11_line 54 = .ok (.goto 10, 3) := by decide +kernel
theorem dX11_line_57 : decode cX11_line 57 = .ok (.aload_n 0, 1) := by decide +kernel
theorem dX11_line_58 : decode cX11_line 58 = .ok (.getfield 29, 3) := by decide +kernel
theorem dX11_line_61 : decode cX11_line 61 = .ok (.getfield 200, 3) := by decide +kernel
theorem dX11_line_64 : decode cX11_line 64 = .ok (.ireturn, 1) := by decide +kernel
theorem dX11_taken_0 : decode cX11_taken 0 = .ok (.iload_n 1, 1) := by decide +kernel
theorem dX11_taken_1 : decode cX11_taken 1 = .ok (.invokestatic 142, 3) := by decide +kernel
theorem dX11_taken_4 : decode cX11_taken 4 = .ok (.ifCond .eq 17, 3) := by decide +kernel
theorem dX11_taken_7 : decode cX11_taken 7 = .ok (.iload_n 2, 1) := by decide +kernel
theorem dX11_taken_8 : decode cX11_taken 8 = .ok (.invokestatic 96, 3) := by decide +kernel
theorem dX11_taken_11 : decode cX11_taken 11 = .ok (.ifCond .eq 10, 3) := by decide +kernel
theorem dX11_taken_14 : decode cX11_taken 14 = .ok (.iload_n 3, 1) := by decide +kernel
theorem dX11_taken_15 : decode cX11_taken 15 = .ok (.invokestatic 163, 3) := by decide +kernel
theorem dX11_taken_18 : decode cX11_taken 18 = .ok (.ifCond .ne 9, 3) := by decide +kernel
theorem dX11_taken_21 : decode cX11_taken 21 = .ok (.bipush (-2), 2) := by decide +kernel
theorem dX11_taken_23 : decode cX11_taken 23 = .ok (.invokestatic 166, 3) := by decide +kernel
theorem dX11_taken_26 : decode cX11_taken 26 = .ok (.lreturn, 1) := by decide +kernel
theorem dX11_taken_27 : decode cX11_taken 27 = .ok (.aload_n 0, 1) := by decide +kernel
theorem dX11_taken_28 : decode cX11_taken 28 = .ok (.getfield 29, 3) := by decide +kernel
theorem dX11_taken_31 : decode cX11_taken 31 = .ok (.iload_n 1, 1) := by decide +kernel
theorem dX11_taken_32 : decode cX11_taken 32 = .ok (.invokevirtual 203, 3) := by decide +kernel
theorem dX11_taken_35 : decode cX11_taken 35 = .ok (.istore 4, 2) := by decide +kernel
theorem dX11_taken_37 : decode cX11_taken 37 = .ok (.iload 4, 2) := by decide +kernel
theorem dX11_taken_39 : decode cX11_taken 39 = .ok (.ifCond .ne 9, 3) := by decide +kernel
theorem dX11_taken_42 : decode cX11_taken 42 = .ok (.bipush (-3), 2) := by decide +kernel
theorem dX11_taken_44 : decode cX11_taken 44 = .ok (.invokestatic 166, 3) := by decide +kernel
theorem dX11_taken_47 : decode cX11_taken 47 = .ok (.lreturn, 1) := by decide +kernel
theorem dX11_taken_48 : decode cX11_taken 48 = .ok (.aload_n 0, 1) := by decide +kernel
theorem dX11_taken_49 : decode cX11_taken 49 = .ok (.getfield 29, 3) := by decide +kernel
theorem dX11_taken_52 : decode cX11_taken 52 = .ok (.iload_n 1, 1) := by decide +kernel
theorem dX11_taken_53 : decode cX11_taken 53 = .ok (.iload_n 2, 1) := by decide +kernel
theorem dX11_taken_54 : decode cX11_taken 54 = .ok (.invokevirtual 206, 3) := by decide +kernel
theorem dX11_taken_57 : decode cX11_taken 57 = .ok (.i2l, 1) := by decide +kernel
theorem dX11_taken_58 : decode cX11_taken 58 = .ok (.iload 4, 2) := by decide +kernel
theorem dX11_taken_60 : decode cX11_taken 60 = .ok (.i2l, 1) := by decide +kernel
theorem dX11_taken_61 : decode cX11_taken 61 = .ok (.iload_n 3, 1) := by decide +kernel
theorem dX11_taken_62 : decode cX11_taken 62 = .ok (.invokestatic 173, 3) := by decide +kernel
theorem dX11_taken_65 : decode cX11_taken 65 = .ok (.lreturn, 1) := by decide +kernel
theorem dX11_best_0 : decode cX11_best 0 = .ok (.iload_n 1, 1) := by decide +kernel
theorem dX11_best_1 : decode cX11_best 1 = .ok (.invokestatic 142, 3) := by decide +kernel
theorem dX11_best_4 : decode cX11_best 4 = .ok (.ifCond .ne 6, 3) := by decide +kernel
theorem dX11_best_7 : decode cX11_best 7 = .ok (.bipush (-2), 2) := by decide +kernel
theorem dX11_best_9 : decode cX11_best 9 = .ok (.ireturn, 1) := by decide +kernel
theorem dX11_best_10 : decode cX11_best 10 = .ok (.aload_n 0, 1) := by decide +kernel
theorem dX11_best_11 : decode cX11_best 11 = .ok (.getfield 29, 3) := by decide +kernel
theorem dX11_best_14 : decode cX11_best 14 = .ok (.iload_n 1, 1) := by decide +kernel
theorem dX11_best_15 : decode cX11_best 15 = .ok (.invokevirtual 203, 3) := by decide +kernel
theorem dX11_best_18 : decode cX11_best 18 = .ok (.ifCond .ne 8, 3) := by decide +kernel
theorem dX11_best_21 : decode cX11_best 21 = .ok (.bipush (-3), 2) := by decide +kernel
theorem dX11_best_23 : decode cX11_best 23 = .ok (.goto 11, 3) := by decide +kernel
theorem dX11_best_26 : decode cX11_best 26 = .ok (.aload_n 0, 1) := by decide +kernel
theorem dX11_best_27 : decode cX11_best 27 = .ok (.getfield 29, 3) := by decide +kernel
theorem dX11_best_30 : decode cX11_best 30 = .ok (.iload_n 1, 1) := by decide +kernel
theorem dX11_best_31 : decode cX11_best 31 = .ok (.invokevirtual 209, 3) := by decide +kernel
theorem dX11_best_34 : decode cX11_best 34 = .ok (.ireturn, 1) := by decide +kernel
theorem dX11_belief_0 : decode cX11_belief 0 = .ok (.iload_n 1, 1) := by decide +kernel
theorem dX11_belief_1 : decode cX11_belief 1 = .ok (.invokestatic 89, 3) := by decide +kernel
theorem dX11_belief_4 : decode cX11_belief 4 = .ok (.ifCond .ne 6, 3) := by decide +kernel
theorem dX11_belief_7 : decode cX11_belief 7 = .ok (.bipush (-2), 2) := by decide +kernel
theorem dX11_belief_9 : decode cX11_belief 9 = .ok (.ireturn, 1) := by decide +kernel
theorem dX11_belief_10 : decode cX11_belief 10 = .ok (.aload_n 0, 1) := by decide +kernel
theorem dX11_belief_11 : decode cX11_belief 11 = .ok (.getfield 36, 3) := by decide +kernel
theorem dX11_belief_14 : decode cX11_belief 14 = .ok (.iload_n 1, 1) := by decide +kernel
theorem dX11_belief_15 : decode cX11_belief 15 = .ok (.invokevirtual 212, 3) := by decide +kernel
theorem dX11_belief_18 : decode cX11_belief 18 = .ok (.ireturn, 1) := by decide +kernel
theorem dX11_believe_0 : decode cX11_believe 0 = .ok (.aload_n 0, 1) := by decide +kernel
theorem dX11_believe_1 : decode cX11_believe 1 = .ok (.getfield 36, 3) := by decide +kernel
theorem dX11_believe_4 : decode cX11_believe 4 = .ok (.iload_n 1, 1) := by decide +kernel
theorem dX11_believe_5 : decode cX11_believe 5 = .ok (.invokevirtual 214, 3) := by decide +kernel
theorem dX11_believe_8 : decode cX11_believe 8 = .ok (.ifCond .eq 19, 3) := by decide +kernel
theorem dX11_believe_11 : decode cX11_believe 11 = .ok (.iload_n 2, 1) := by decide +kernel
theorem dX11_believe_12 : decode cX11_believe 12 = .ok (.invokestatic 96, 3) := by decide +kernel
theorem dX11_believe_15 : decode cX11_believe 15 = .ok (.ifCond .eq 12, 3) := by decide +kernel
theorem dX11_believe_18 : decode cX11_believe 18 = .ok (.iload_n 3, 1) := by decide +kernel
theorem dX11_believe_19 : decode cX11_believe 19 = .ok (.bipush 10, 2) := by decide +kernel
theorem dX11_believe_21 : decode cX11_believe 21 = .ok (.invokestatic 145, 3) := by decide +kernel
theorem dX11_believe_24 : decode cX11_believe 24 = .ok (.ifCond .ne 6, 3) := by decide +kernel
theorem dX11_believe_27 : decode cX11_believe 27 = .ok (.bipush (-2), 2) := by decide +kernel
theorem dX11_believe_29 : decode cX11_believe 29 = .ok (.ireturn, 1) := by decide +kernel
theorem dX11_believe_30 : decode cX11_believe 30 = .ok (.aload_n 0, 1) := by decide +kernel
theorem dX11_believe_31 : decode cX11_believe 31 = .ok (.getfield 36, 3) := by decide +kernel
theorem dX11_believe_34 : decode cX11_believe 34 = .ok (.iload_n 1, 1) := by decide +kernel
theorem dX11_believe_35 : decode cX11_believe 35 = .ok (.iload_n 2, 1) := by decide +kernel
theorem dX11_believe_36 : decode cX11_believe 36 = .ok (.iload_n 3, 1) := by decide +kernel
theorem dX11_believe_37 : decode cX11_believe 37 = .ok (.invokevirtual 215, 3) := by decide +kernel
theorem dX11_believe_40 : decode cX11_believe 40 = .ok (.ireturn, 1) := by decide +kernel
theorem dX11_hisBest_0 : decode cX11_hisBest 0 = .ok (.aload_n 0, 1) := by decide +kernel
theorem dX11_hisBest_1 : decode cX11_hisBest 1 = .ok (.getfield 36, 3) := by decide +kernel
theorem dX11_hisBest_4 : decode cX11_hisBest 4 = .ok (.iload_n 1, 1) := by decide +kernel
theorem dX11_hisBest_5 : decode cX11_hisBest 5 = .ok (.invokevirtual 214, 3) := by decide +kernel
theorem dX11_hisBest_8 : decode cX11_hisBest 8 = .ok (.ifCond .ne 6, 3) := by decide +kernel
theorem dX11_hisBest_11 : decode cX11_hisBest 11 = .ok (.bipush (-2), 2) := by decide +kernel
theorem dX11_hisBest_13 : decode cX11_hisBest 13 = .ok (.ireturn, 1) := by decide +kernel
theorem dX11_hisBest_14 : decode cX11_hisBest 14 = .ok (.aload_n 0, 1) := by decide +kernel
theorem dX11_hisBest_15 : decode cX11_hisBest 15 = .ok (.getfield 36, 3) := by decide +kernel
theorem dX11_hisBest_18 : decode cX11_hisBest 18 = .ok (.iload_n 1, 1) := by decide +kernel
theorem dX11_hisBest_19 : decode cX11_hisBest 19 = .ok (.invokevirtual 219, 3) := by decide +kernel
theorem dX11_hisBest_22 : decode cX11_hisBest 22 = .ok (.ireturn, 1) := by decide +kernel
theorem dX11_off_0 : decode cX11_off 0 = .ok (.aload_n 0, 1) := by decide +kernel
theorem dX11_off_1 : decode cX11_off 1 = .ok (.getfield 36, 3) := by decide +kernel
theorem dX11_off_4 : decode cX11_off 4 = .ok (.iload_n 1, 1) := by decide +kernel
theorem dX11_off_5 : decode cX11_off 5 = .ok (.invokevirtual 214, 3) := by decide +kernel
theorem dX11_off_8 : decode cX11_off 8 = .ok (.ifCond .eq 18, 3) := by decide +kernel
theorem dX11_off_11 : decode cX11_off 11 = .ok (.iload_n 2, 1) := by decide +kernel
theorem dX11_off_12 : decode cX11_off 12 = .ok (.iconst 1, 1) := by decide +kernel
theorem dX11_off_13 : decode cX11_off 13 = .ok (.invokestatic 145, 3) := by decide +kernel
theorem dX11_off_16 : decode cX11_off 16 = .ok (.ifCond .eq 10, 3) := by decide +kernel
theorem dX11_off_19 : decode cX11_off 19 = .ok (.iload_n 3, 1) := by decide +kernel
theorem dX11_off_20 : decode cX11_off 20 = .ok (.invokestatic 163, 3) := by decide +kernel
theorem dX11_off_23 : decode cX11_off 23 = .ok (.ifCond .ne 9, 3) := by decide +kernel
theorem dX11_off_26 : decode cX11_off 26 = .ok (.bipush (-2), 2) := by decide +kernel
theorem dX11_off_28 : decode cX11_off 28 = .ok (.invokestatic 166, 3) := by decide +kernel
theorem dX11_off_31 : decode cX11_off 31 = .ok (.lreturn, 1) := by decide +kernel
theorem dX11_off_32 : decode cX11_off 32 = .ok (.aload_n 0, 1) := by decide +kernel
theorem dX11_off_33 : decode cX11_off 33 = .ok (.getfield 36, 3) := by decide +kernel
theorem dX11_off_36 : decode cX11_off 36 = .ok (.getfield 220, 3) := by decide +kernel
theorem dX11_off_39 : decode cX11_off 39 = .ok (.iload_n 1, 1) := by decide +kernel
theorem dX11_off_40 : decode cX11_off 40 = .ok (.iaload, 1) := by decide +kernel
theorem dX11_off_41 : decode cX11_off 41 = .ok (.istore 4, 2) := by decide +kernel
theorem dX11_off_43 : decode cX11_off 43 = .ok (.aload_n 0, 1) := by decide +kernel
theorem dX11_off_44 : decode cX11_off 44 = .ok (.getfield 29, 3) := by decide +kernel
theorem dX11_off_47 : decode cX11_off 47 = .ok (.iload 4, 2) := by decide +kernel
theorem dX11_off_49 : decode cX11_off 49 = .ok (.invokevirtual 203, 3) := by decide +kernel
theorem dX11_off_52 : decode cX11_off 52 = .ok (.istore 5, 2) := by decide +kernel
theorem dX11_off_54 : decode cX11_off 54 = .ok (.iload 5, 2) := by decide +kernel
theorem dX11_off_56 : decode cX11_off 56 = .ok (.ifCond .ne 9, 3) := by decide +kernel
theorem dX11_off_59 : decode cX11_off 59 = .ok (.bipush (-3), 2) := by decide +kernel
theorem dX11_off_61 : decode cX11_off 61 = .ok (.invokestatic 166, 3) := by decide +kernel
theorem dX11_off_64 : decode cX11_off 64 = .ok (.lreturn, 1) := by decide +kernel
theorem dX11_off_65 : decode cX11_off 65 = .ok (.iload_n 2, 1) := by decide +kernel
theorem dX11_off_66 : decode cX11_off 66 = .ok (.ifCond .ne 24, 3) := by decide +kernel
theorem dX11_off_69 : decode cX11_off 69 = .ok (.aload_n 0, 1) := by decide +kernel
theorem dX11_off_70 : decode cX11_off 70 = .ok (.iload_n 1, 1) := by decide +kernel
theorem dX11_off_71 : decode cX11_off 71 = .ok (.iload 4, 2) := by decide +kernel
theorem dX11_off_73 : decode cX11_off 73 = .ok (.iload 5, 2) := by decide +kernel
theorem dX11_off_75 : decode cX11_off 75 = .ok (.invokevirtual 223, 3) := by decide +kernel
theorem dX11_off_78 : decode cX11_off 78 = .ok (.i2l, 1) := by decide +kernel
theorem dX11_off_79 : decode cX11_off 79 = .ok (.bipush 10, 2) := by decide +kernel
theorem dX11_off_81 : decode cX11_off 81 = .ok (.iload 5, 2) := by decide +kernel
theorem dX11_off_83 : decode cX11_off 83 = .ok (.imul, 1) := by decide +kernel
theorem dX11_off_84 : decode cX11_off 84 = .ok (.i2l, 1) := by decide +kernel
theorem dX11_off_85 : decode cX11_off 85 = .ok (.iload_n 3, 1) := by decide +kernel
theorem dX11_off_86 : decode cX11_off 86 = .ok (.invokestatic 173, 3) := by decide +kernel
theorem dX11_off_89 : decode cX11_off 89 = .ok (.lreturn, 1) := by decide +kernel
theorem dX11_off_90 : decode cX11_off 90 = .ok (.aload_n 0, 1) := by decide +kernel
theorem dX11_off_91 : decode cX11_off 91 = .ok (.getfield 29, 3) := by decide +kernel
theorem dX11_off_94 : decode cX11_off 94 = .ok (.iload 4, 2) := by decide +kernel
theorem dX11_off_96 : decode cX11_off 96 = .ok (.aload_n 0, 1) := by decide +kernel
theorem dX11_off_97 : decode cX11_off 97 = .ok (.getfield 29, 3) := by decide +kernel
theorem dX11_off_100 : decode cX11_off 100 = .ok (.iload 4, 2) := by decide +kernel
theorem dX11_off_102 : decode cX11_off 102 = .ok (.invokevirtual 209, 3) := by decide +kernel
theorem dX11_off_105 : decode cX11_off 105 = .ok (.invokevirtual 226, 3) := by decide +kernel
theorem dX11_off_108 : decode cX11_off 108 = .ok (.aload_n 0, 1) := by decide +kernel
theorem dX11_off_109 : decode cX11_off 109 = .ok (.getfield 29, 3) := by decide +kernel
theorem dX11_off_112 : decode cX11_off 112 = .ok (.iload 4, 2) := by decide +kernel
theorem dX11_off_114 : decode cX11_off 114 = .ok (.aload_n 0, 1) := by decide +kernel
theorem dX11_off_115 : decode cX11_off 115 = .ok (.getfield 36, 3) := by decide +kernel
theorem dX11_off_118 : decode cX11_off 118 = .ok (.iload_n 1, 1) := by decide +kernel
theorem dX11_off_119 : decode cX11_off 119 = .ok (.invokevirtual 219, 3) := by decide +kernel
theorem dX11_off_122 : decode cX11_off 122 = .ok (.invokevirtual 226, 3) := by decide +kernel
theorem dX11_off_125 : decode cX11_off 125 = .ok (.isub, 1) := by decide +kernel
theorem dX11_off_126 : decode cX11_off 126 = .ok (.istore 6, 2) := by decide +kernel
theorem dX11_off_128 : decode cX11_off 128 = .ok (.iload 6, 2) := by decide +kernel
theorem dX11_off_130 : decode cX11_off 130 = .ok (.i2l, 1) := by decide +kernel
theorem dX11_off_131 : decode cX11_off 131 = .ok (.iload 5, 2) := by decide +kernel
theorem dX11_off_133 : decode cX11_off 133 = .ok (.i2l, 1) := by decide +kernel
theorem dX11_off_134 : decode cX11_off 134 = .ok (.iload_n 3, 1) := by decide +kernel
theorem dX11_off_135 : decode cX11_off 135 = .ok (.invokestatic 173, 3) := by decide +kernel
theorem dX11_off_138 : decode cX11_off 138 = .ok (.lreturn, 1) := by decide +kernel
theorem dX11_amountsOff_0 : decode cX11_amountsOff 0 = .ok (.iconst 0, 1) := by decide +kernel
theorem dX11_amountsOff_1 : decode cX11_amountsOff 1 = .ok (.istore 4, 2) := by decide +kernel
theorem dX11_amountsOff_3 : decode cX11_amountsOff 3 = .ok (.iconst 0, 1) := by decide +kernel
theorem dX11_amountsOff_4 : decode cX11_amountsOff 4 = .ok (.istore 5, 2) := by decide +kernel
theorem dX11_amountsOff_6 : decode cX11_amountsOff 6 = .ok (.iload 5, 2) := by decide +kernel
theorem dX11_amountsOff_8 : decode cX11_amountsOff 8 = .ok (.bipush 11, 2) := by decide +kernel
theorem dX11_amountsOff_10 : decode cX11_amountsOff 10 = .ok (.if_icmp .ge 43, 3) := by decide +kernel
theorem dX11_amountsOff_13 : decode cX11_amountsOff 13 = .ok (.iload 4, 2) := by decide +kernel
theorem dX11_amountsOff_15 : decode cX11_amountsOff 15 = .ok (.aload_n 0, 1) := by decide +kernel
theorem dX11_amountsOff_16 : decode cX11_amountsOff 16 = .ok (.getfield 36, 3) := by decide +kernel
theorem dX11_amountsOff_19 : decode cX11_amountsOff 19 = .ok (.iload_n 1, 1) := by decide +kernel
theorem dX11_amountsOff_20 : decode cX11_amountsOff 20 = .ok (.iload 5, 2) := by decide +kernel
theorem dX11_amountsOff_22 : decode cX11_amountsOff 22 = .ok (.invokevirtual 229, 3) := by decide +kernel
theorem dX11_amountsOff_25 : decode cX11_amountsOff 25 = .ok (.iload_n 3, 1) := by decide +kernel
theorem dX11_amountsOff_26 : decode cX11_amountsOff 26 = .ok (.imul, 1) := by decide +kernel
theorem dX11_amountsOff_27 : decode cX11_amountsOff 27 = .ok (.bipush 10, 2) := by decide +kernel
theorem dX11_amountsOff_29 : decode cX11_amountsOff 29 = .ok (.aload_n 0, 1) := by decide +kernel
theorem dX11_amountsOff_30 : decode cX11_amountsOff 30 = .ok (.getfield 29, 3) := by decide +kernel
theorem dX11_amountsOff_33 : decode cX11_amountsOff 33 = .ok (.iload_n 2, 1) := by decide +kernel
theorem dX11_amountsOff_34 : decode cX11_amountsOff 34 = .ok (.iload 5, 2) := by decide +kernel
theorem dX11_amountsOff_36 : decode cX11_amountsOff 36 = .ok (.invokevirtual 206, 3) := by decide +kernel
theorem dX11_amountsOff_39 : decode cX11_amountsOff 39 = .ok (.imul, 1) := by decide +kernel
theorem dX11_amountsOff_40 : decode cX11_amountsOff 40 = .ok (.isub, 1) := by decide +kernel
theorem dX11_amountsOff_41 : decode cX11_amountsOff 41 = .ok (.invokestatic 232, 3) := by decide +kernel
theorem dX11_amountsOff_44 : decode cX11_amountsOff 44 = .ok (.iadd, 1) := by decide +kernel
theorem dX11_amountsOff_45 : decode cX11_amountsOff 45 = .ok (.istore 4, 2) := by decide +kernel
theorem dX11_amountsOff_47 : decode cX11_amountsOff 47 = .ok (.iinc 5 1, 3) := by decide +kernel
theorem dX11_amountsOff_50 : decode cX11_amountsOff 50 = .ok (.goto (-44), 3) := by decide +kernel
theorem dX11_amountsOff_53 : decode cX11_amountsOff 53 = .ok (.iload 4, 2) := by decide +kernel
theorem dX11_amountsOff_55 : decode cX11_amountsOff 55 = .ok (.ireturn, 1) := by decide +kernel
theorem dX11_type_0 : decode cX11_type 0 = .ok (.iload_n 1, 1) := by decide +kernel
theorem dX11_type_1 : decode cX11_type 1 = .ok (.sipush 255, 3) := by decide +kernel
theorem dX11_type_4 : decode cX11_type 4 = .ok (.invokestatic 145, 3) := by decide +kernel
theorem dX11_type_7 : decode cX11_type 7 = .ok (.ifCond .ne 6, 3) := by decide +kernel
theorem dX11_type_10 : decode cX11_type 10 = .ok (.bipush (-2), 2) := by decide +kernel
theorem dX11_type_12 : decode cX11_type 12 = .ok (.ireturn, 1) := by decide +kernel
theorem dX11_type_13 : decode cX11_type 13 = .ok (.aload_n 0, 1) := by decide +kernel
theorem dX11_type_14 : decode cX11_type 14 = .ok (.getfield 43, 3) := by decide +kernel
theorem dX11_type_17 : decode cX11_type 17 = .ok (.iload_n 1, 1) := by decide +kernel
theorem dX11_type_18 : decode cX11_type 18 = .ok (.invokevirtual 237, 3) := by decide +kernel
theorem dX11_type_21 : decode cX11_type 21 = .ok (.ireturn, 1) := by decide +kernel
theorem dX11_wipe_0 : decode cX11_wipe 0 = .ok (.aload_n 0, 1) := by decide +kernel
theorem dX11_wipe_1 : decode cX11_wipe 1 = .ok (.getfield 43, 3) := by decide +kernel
theorem dX11_wipe_4 : decode cX11_wipe 4 = .ok (.invokevirtual 238, 3) := by decide +kernel
theorem dX11_wipe_7 : decode cX11_wipe 7 = .ok (.ireturn, 1) := by decide +kernel
theorem dX11_fault_0 : decode cX11_fault 0 = .ok (.aload_n 0, 1) := by decide +kernel
theorem dX11_fault_1 : decode cX11_fault 1 = .ok (.getfield 43, 3) := by decide +kernel
theorem dX11_fault_4 : decode cX11_fault 4 = .ok (.invokevirtual 241, 3) := by decide +kernel
theorem dX11_fault_7 : decode cX11_fault 7 = .ok (.ireturn, 1) := by decide +kernel
theorem dX11_reckon_0 : decode cX11_reckon 0 = .ok (.iload_n 1, 1) := by decide +kernel
theorem dX11_reckon_1 : decode cX11_reckon 1 = .ok (.bipush 40, 2) := by decide +kernel
theorem dX11_reckon_3 : decode cX11_reckon 3 = .ok (.invokestatic 145, 3) := by decide +kernel
theorem dX11_reckon_6 : decode cX11_reckon 6 = .ok (.ifCond .eq 11, 3) := by decide +kernel
theorem dX11_reckon_9 : decode cX11_reckon 9 = .ok (.iload_n 2, 1) := by decide +kernel
theorem dX11_reckon_10 : decode cX11_reckon 10 = .ok (.iconst 5, 1) := by decide +kernel
theorem dX11_reckon_11 : decode cX11_reckon 11 = .ok (.invokestatic 145, 3) := by decide +kernel
theorem dX11_reckon_14 : decode cX11_reckon 14 = .ok (.ifCond .ne 6, 3) := by decide +kernel
theorem dX11_reckon_17 : decode cX11_reckon 17 = .ok (.bipush (-2), 2) := by decide +kernel
theorem dX11_reckon_19 : decode cX11_reckon 19 = .ok (.ireturn, 1) := by decide +kernel
theorem dX11_reckon_20 : decode cX11_reckon 20 = .ok (.aload_n 0, 1) := by decide +kernel
theorem dX11_reckon_21 : decode cX11_reckon 21 = .ok (.getfield 43, 3) := by decide +kernel
theorem dX11_reckon_24 : decode cX11_reckon 24 = .ok (.invokevirtual 241, 3) := by decide +kernel
theorem dX11_reckon_27 : decode cX11_reckon 27 = .ok (.iconst (-1), 1) := by decide +kernel
theorem dX11_reckon_28 : decode cX11_reckon 28 = .ok (.if_icmp .eq 6, 3) := by decide +kernel
theorem dX11_reckon_31 : decode cX11_reckon 31 = .ok (.bipush (-3), 2) := by decide +kernel
theorem dX11_reckon_33 : decode cX11_reckon 33 = .ok (.ireturn, 1) := by decide +kernel
theorem dX11_reckon_34 : decode cX11_reckon 34 = .ok (.iload_n 2, 1) := by decide +kernel
theorem dX11_reckon_35 : decode cX11_reckon 35 = .ok (.iconst 4, 1) := by decide +kernel
theorem dX11_reckon_36 : decode cX11_reckon 36 = .ok (.if_icmp .ne 11, 3) := by decide +kernel
theorem dX11_reckon_39 : decode cX11_reckon 39 = .ok (.aload_n 0, 1) := by decide +kernel
theorem dX11_reckon_40 : decode cX11_reckon 40 = .ok (.getfield 43, 3) := by decide +kernel
theorem dX11_reckon_43 : decode cX11_reckon 43 = .ok (.getfield 244, 3) := by decide +kernel
theorem dX11_reckon_46 : decode cX11_reckon 46 = .ok (.ireturn, 1) := by decide +kernel
theorem dX11_reckon_47 : decode cX11_reckon 47 = .ok (.iload_n 2, 1) := by decide +kernel
theorem dX11_reckon_48 : decode cX11_reckon 48 = .ok (.iconst 5, 1) := by decide +kernel
theorem dX11_reckon_49 : decode cX11_reckon 49 = .ok (.if_icmp .ne 19, 3) := by decide +kernel
theorem dX11_reckon_52 : decode cX11_reckon 52 = .ok (.aload_n 0, 1) := by decide +kernel
theorem dX11_reckon_53 : decode cX11_reckon 53 = .ok (.getfield 43, 3) := by decide +kernel
theorem dX11_reckon_56 : decode cX11_reckon 56 = .ok (.getfield 247, 3) := by decide +kernel
theorem dX11_reckon_59 : decode cX11_reckon 59 = .ok (.aload_n 0, 1) := by decide +kernel
theorem dX11_reckon_60 : decode cX11_reckon 60 = .ok (.getfield 43, 3) := by decide +kernel
theorem dX11_reckon_63 : decode cX11_reckon 63 = .ok (.getfield 244, 3) := by decide +kernel
theorem dX11_reckon_66 : decode cX11_reckon 66 = .ok (.isub, 1) := by decide +kernel
theorem dX11_reckon_67 : decode cX11_reckon 67 = .ok (.ireturn, 1) := by decide +kernel
theorem dX11_reckon_68 : decode cX11_reckon 68 = .ok (.aload_n 0, 1) := by decide +kernel
theorem dX11_reckon_69 : decode cX11_reckon 69 = .ok (.getfield 43, 3) := by decide +kernel
theorem dX11_reckon_72 : decode cX11_reckon 72 = .ok (.iload_n 1, 1) := by decide +kernel
theorem dX11_reckon_73 : decode cX11_reckon 73 = .ok (.invokevirtual 250, 3) := by decide +kernel
theorem dX11_reckon_76 : decode cX11_reckon 76 = .ok (.iload_n 2, 1) := by decide +kernel
theorem dX11_reckon_77 : decode cX11_reckon 77 = .ok (.iconst 3, 1) := by decide +kernel
theorem dX11_reckon_78 : decode cX11_reckon 78 = .ok (.if_icmp .ne 13, 3) := by decide +kernel
theorem dX11_reckon_81 : decode cX11_reckon 81 = .ok (.aload_n 0, 1) := by decide +kernel
theorem dX11_reckon_82 : decode cX11_reckon 82 = .ok (.getfield 43, 3) := by decide +kernel
theorem dX11_reckon_85 : decode cX11_reckon 85 = .ok (.invokevirtual 253, 3) := by decide +kernel
theorem dX11_reckon_88 : decode cX11_reckon 88 = .ok (.goto 11, 3) := by decide +kernel
theorem dX11_reckon_91 : decode cX11_reckon 91 = .ok (.aload_n 0, 1) := by decide +kernel
theorem dX11_reckon_92 : decode cX11_reckon 92 = .ok (.getfield 43, 3) := by decide +kernel
theorem dX11_reckon_95 : decode cX11_reckon 95 = .ok (.iload_n 2, 1) := by decide +kernel
theorem dX11_reckon_96 : decode cX11_reckon 96 = .ok (.invokevirtual 256, 3) := by decide +kernel
theorem dX11_reckon_99 : decode cX11_reckon 99 = .ok (.ireturn, 1) := by decide +kernel
theorem dX11_how_0 : decode cX11_how 0 = .ok (.iload_n 1, 1) := by decide +kernel
theorem dX11_how_1 : decode cX11_how 1 = .ok (.bipush 40, 2) := by decide +kernel
theorem dX11_how_3 : decode cX11_how 3 = .ok (.invokestatic 145, 3) := by decide +kernel
theorem dX11_how_6 : decode cX11_how 6 = .ok (.ifCond .eq 7, 3) := by decide +kernel
theorem dX11_how_9 : decode cX11_how 9 = .ok (.iload_n 2, 1) := by decide +kernel
theorem dX11_how_10 : decode cX11_how 10 = .ok (.ifCond .ge 6, 3) := by decide +kernel
theorem dX11_how_13 : decode cX11_how 13 = .ok (.bipush (-2), 2) := by decide +kernel
theorem dX11_how_15 : decode cX11_how 15 = .ok (.ireturn, 1) := by decide +kernel
theorem dX11_how_16 : decode cX11_how 16 = .ok (.aload_n 0, 1) := by decide +kernel
theorem dX11_how_17 : decode cX11_how 17 = .ok (.getfield 43, 3) := by decide +kernel
theorem dX11_how_20 : decode cX11_how 20 = .ok (.invokevirtual 241, 3) := by decide +kernel
theorem dX11_how_23 : decode cX11_how 23 = .ok (.iconst (-1), 1) := by decide +kernel
theorem dX11_how_24 : decode cX11_how 24 = .ok (.if_icmp .eq 6, 3) := by decide +kernel
theorem dX11_how_27 : decode cX11_how 27 = .ok (.bipush (-3), 2) := by decide +kernel
theorem dX11_how_29 : decode cX11_how 29 = .ok (.ireturn, 1) := by decide +kernel
theorem dX11_how_30 : decode cX11_how 30 = .ok (.aload_n 0, 1) := by decide +kernel
theorem dX11_how_31 : decode cX11_how 31 = .ok (.getfield 43, 3) := by decide +kernel
theorem dX11_how_34 : decode cX11_how 34 = .ok (.iload_n 1, 1) := by decide +kernel
theorem dX11_how_35 : decode cX11_how 35 = .ok (.invokevirtual 250, 3) := by decide +kernel
theorem dX11_how_38 : decode cX11_how 38 = .ok (.aload_n 0, 1) := by decide +kernel
theorem dX11_how_39 : decode cX11_how 39 = .ok (.getfield 43, 3) := by decide +kernel
theorem dX11_how_42 : decode cX11_how 42 = .ok (.iload_n 2, 1) := by decide +kernel
theorem dX11_how_43 : decode cX11_how 43 = .ok (.invokevirtual 259, 3) := by decide +kernel
theorem dX11_how_46 : decode cX11_how 46 = .ok (.ireturn, 1) := by decide +kernel
theorem dX11_temper_0 : decode cX11_temper 0 = .ok (.aload_n 0, 1) := by decide +kernel
theorem dX11_temper_1 : decode cX11_temper 1 = .ok (.getfield 43, 3) := by decide +kernel
theorem dX11_temper_4 : decode cX11_temper 4 = .ok (.invokevirtual 241, 3) := by decide +kernel
theorem dX11_temper_7 : decode cX11_temper 7 = .ok (.iconst (-1), 1) := by decide +kernel
theorem dX11_temper_8 : decode cX11_temper 8 = .ok (.if_icmp .eq 6, 3) := by decide +kernel
theorem dX11_temper_11 : decode cX11_temper 11 = .ok (.bipush (-3), 2) := by decide +kernel
theorem dX11_temper_13 : decode cX11_temper 13 = .ok (.ireturn, 1) := by decide +kernel
theorem dX11_temper_14 : decode cX11_temper 14 = .ok (.aload_n 0, 1) := by decide +kernel
theorem dX11_temper_15 : decode cX11_temper 15 = .ok (.getfield 43, 3) := by decide +kernel
theorem dX11_temper_18 : decode cX11_temper 18 = .ok (.invokevirtual 262, 3) := by decide +kernel
theorem dX11_temper_21 : decode cX11_temper 21 = .ok (.ireturn, 1) := by decide +kernel
theorem dX11_two_0 : decode cX11_two 0 = .ok (.iload_n 1, 1) := by decide +kernel
theorem dX11_two_1 : decode cX11_two 1 = .ok (.invokestatic 89, 3) := by decide +kernel
theorem dX11_two_4 : decode cX11_two 4 = .ok (.ifCond .eq 15, 3) := by decide +kernel
theorem dX11_two_7 : decode cX11_two 7 = .ok (.iload_n 2, 1) := by decide +kernel
theorem dX11_two_8 : decode cX11_two 8 = .ok (.invokestatic 89, 3) := by decide +kernel
theorem dX11_two_11 : decode cX11_two 11 = .ok (.ifCond .eq 8, 3) := by decide +kernel
theorem dX11_two_14 : decode cX11_two 14 = .ok (.iload_n 1, 1) := by decide +kernel
theorem dX11_two_15 : decode cX11_two 15 = .ok (.iload_n 2, 1) := by decide +kernel
theorem dX11_two_16 : decode cX11_two 16 = .ok (.if_icmp .ne 6, 3) := by decide +kernel
theorem dX11_two_19 : decode cX11_two 19 = .ok (.bipush (-2), 2) := by decide +kernel
theorem dX11_two_21 : decode cX11_two 21 = .ok (.ireturn, 1) := by decide +kernel
theorem dX11_two_22 : decode cX11_two 22 = .ok (.aload_n 0, 1) := by decide +kernel
theorem dX11_two_23 : decode cX11_two 23 = .ok (.getfield 12, 3) := by decide +kernel
theorem dX11_two_26 : decode cX11_two 26 = .ok (.iload_n 1, 1) := by decide +kernel
theorem dX11_two_27 : decode cX11_two 27 = .ok (.iconst 0, 1) := by decide +kernel
theorem dX11_two_28 : decode cX11_two 28 = .ok (.aload_n 0, 1) := by decide +kernel
theorem dX11_two_29 : decode cX11_two 29 = .ok (.getfield 19, 3) := by decide +kernel
theorem dX11_two_32 : decode cX11_two 32 = .ok (.invokevirtual 149, 3) := by decide +kernel
theorem dX11_two_35 : decode cX11_two 35 = .ok (.aload_n 0, 1) := by decide +kernel
theorem dX11_two_36 : decode cX11_two 36 = .ok (.getfield 12, 3) := by decide +kernel
theorem dX11_two_39 : decode cX11_two 39 = .ok (.iload_n 2, 1) := by decide +kernel
theorem dX11_two_40 : decode cX11_two 40 = .ok (.iconst 0, 1) := by decide +kernel
theorem dX11_two_41 : decode cX11_two 41 = .ok (.aload_n 0, 1) := by decide +kernel
theorem dX11_two_42 : decode cX11_two 42 = .ok (.getfield 23, 3) := by decide +kernel
theorem dX11_two_45 : decode cX11_two 45 = .ok (.invokevirtual 149, 3) := by decide +kernel
theorem dX11_two_48 : decode cX11_two 48 = .ok (.aload_n 0, 1) := by decide +kernel
theorem dX11_two_49 : decode cX11_two 49 = .ok (.getfield 19, 3) := by decide +kernel
theorem dX11_two_52 : decode cX11_two 52 = .ok (.getfield 153, 3) := by decide +kernel
theorem dX11_two_55 : decode cX11_two 55 = .ok (.ifCond .eq 13, 3) := by decide +kernel
theorem dX11_two_58 : decode cX11_two 58 = .ok (.aload_n 0, 1) := by decide +kernel
theorem dX11_two_59 : decode cX11_two 59 = .ok (.getfield 23, 3) := by decide +kernel
theorem dX11_two_62 : decode cX11_two 62 = .ok (.getfield 153, 3) := by decide +kernel
theorem dX11_two_65 : decode cX11_two 65 = .ok (.ifCond .ne 6, 3) := by decide +kernel
theorem dX11_two_68 : decode cX11_two 68 = .ok (.bipush (-3), 2) := by decide +kernel
theorem dX11_two_70 : decode cX11_two 70 = .ok (.ireturn, 1) := by decide +kernel
theorem dX11_two_71 : decode cX11_two 71 = .ok (.aload_n 0, 1) := by decide +kernel
theorem dX11_two_72 : decode cX11_two 72 = .ok (.getfield 19, 3) := by decide +kernel
theorem dX11_two_75 : decode cX11_two 75 = .ok (.getfield 153, 3) := by decide +kernel
theorem dX11_two_78 : decode cX11_two 78 = .ok (.aload_n 0, 1) := by decide +kernel
theorem dX11_two_79 : decode cX11_two 79 = .ok (.getfield 23, 3) := by decide +kernel
theorem dX11_two_82 : decode cX11_two 82 = .ok (.getfield 153, 3) := by decide +kernel
theorem dX11_two_85 : decode cX11_two 85 = .ok (.iadd, 1) := by decide +kernel
theorem dX11_two_86 : decode cX11_two 86 = .ok (.bipush 14, 2) := by decide +kernel
theorem dX11_two_88 : decode cX11_two 88 = .ok (.if_icmp .le 6, 3) := by decide +kernel
theorem dX11_two_91 : decode cX11_two 91 = .ok (.bipush (-4), 2) := by decide +kernel
theorem dX11_two_93 : decode cX11_two 93 = .ok (.ireturn, 1) := by decide +kernel
theorem dX11_two_94 : decode cX11_two 94 = .ok (.aload_n 0, 1) := by decide +kernel
theorem dX11_two_95 : decode cX11_two 95 = .ok (.getfield 50, 3) := by decide +kernel
theorem dX11_two_98 : decode cX11_two 98 = .ok (.invokevirtual 265, 3) := by decide +kernel
theorem dX11_two_101 : decode cX11_two 101 = .ok (.aload_n 0, 1) := by decide +kernel
theorem dX11_two_102 : decode cX11_two 102 = .ok (.getfield 50, 3) := by decide +kernel
theorem dX11_two_105 : decode cX11_two 105 = .ok (.aload_n 0, 1) := by decide +kernel
theorem dX11_two_106 : decode cX11_two 106 = .ok (.getfield 19, 3) := by decide +kernel
theorem dX11_two_109 : decode cX11_two 109 = .ok (.invokevirtual 267, 3) := by decide +kernel
theorem dX11_two_112 : decode cX11_two 112 = .ok (.aload_n 0, 1) := by decide +kernel
theorem dX11_two_113 : decode cX11_two 113 = .ok (.getfield 50, 3) := by decide +kernel
theorem dX11_two_116 : decode cX11_two 116 = .ok (.aload_n 0, 1) := by decide +kernel
theorem dX11_two_117 : decode cX11_two 117 = .ok (.getfield 23, 3) := by decide +kernel
theorem dX11_two_120 : decode cX11_two 120 = .ok (.invokevirtual 267, 3) := by decide +kernel
theorem dX11_two_123 : decode cX11_two 123 = .ok (.aload_n 0, 1) := by decide +kernel
theorem dX11_two_124 : decode cX11_two 124 = .ok (.getfield 50, 3) := by decide +kernel
theorem dX11_two_127 : decode cX11_two 127 = .ok (.aload_n 0, 1) := by decide +kernel
theorem dX11_two_128 : decode cX11_two 128 = .ok (.getfield 19, 3) := by decide +kernel
theorem dX11_two_131 : decode cX11_two 131 = .ok (.getfield 153, 3) := by decide +kernel
theorem dX11_two_134 : decode cX11_two 134 = .ok (.aload_n 0, 1) := by decide +kernel
theorem dX11_two_135 : decode cX11_two 135 = .ok (.getfield 23, 3) := by decide +kernel
theorem dX11_two_138 : decode cX11_two 138 = .ok (.getfield 153, 3) := by decide +kernel
theorem dX11_two_141 : decode cX11_two 141 = .ok (.if_icmp .gt 10, 3) := by decide +kernel
theorem dX11_two_144 : decode cX11_two 144 = .ok (.aload_n 0, 1) := by decide +kernel
theorem dX11_two_145 : decode cX11_two 145 = .ok (.getfield 19, 3) := by decide +kernel
theorem dX11_two_148 : decode cX11_two 148 = .ok (.goto 7, 3) := by decide +kernel
theorem dX11_two_151 : decode cX11_two 151 = .ok (.aload_n 0, 1) := by decide +kernel
theorem dX11_two_152 : decode cX11_two 152 = .ok (.getfield 23, 3) := by decide +kernel
theorem dX11_two_155 : decode cX11_two 155 = .ok (.invokevirtual 271, 3) := by decide +kernel
theorem dX11_two_158 : decode cX11_two 158 = .ok (.ireturn, 1) := by decide +kernel
theorem dX11_thing_0 : decode cX11_thing 0 = .ok (.iload_n 1, 1) := by decide +kernel
theorem dX11_thing_1 : decode cX11_thing 1 = .ok (.bipush 99, 2) := by decide +kernel
theorem dX11_thing_3 : decode cX11_thing 3 = .ok (.invokestatic 145, 3) := by decide +kernel
theorem dX11_thing_6 : decode cX11_thing 6 = .ok (.ifCond .eq 31, 3) := by decide +kernel
theorem dX11_thing_9 : decode cX11_thing 9 = .ok (.iload_n 2, 1) := by decide +kernel
theorem dX11_thing_10 : decode cX11_thing 10 = .ok (.bipush 99, 2) := by decide +kernel
theorem dX11_thing_12 : decode cX11_thing 12 = .ok (.invokestatic 145, 3) := by decide +kernel
theorem dX11_thing_15 : decode cX11_thing 15 = .ok (.ifCond .eq 22, 3) := by decide +kernel
theorem dX11_thing_18 : decode cX11_thing 18 = .ok (.iload_n 3, 1) := by decide +kernel
theorem dX11_thing_19 : decode cX11_thing 19 = .ok (.bipush 99, 2) := by decide +kernel
theorem dX11_thing_21 : decode cX11_thing 21 = .ok (.invokestatic 145, 3) := by decide +kernel
theorem dX11_thing_24 : decode cX11_thing 24 = .ok (.ifCond .eq 13, 3) := by decide +kernel
theorem dX11_thing_27 : decode cX11_thing 27 = .ok (.iload 4, 2) := by decide +kernel
theorem dX11_thing_29 : decode cX11_thing 29 = .ok (.bipush 99, 2) := by decide +kernel
theorem dX11_thing_31 : decode cX11_thing 31 = .ok (.invokestatic 145, 3) := by decide +kernel
theorem dX11_thing_34 : decode cX11_thing 34 = .ok (.ifCond .ne 6, 3) := by decide +kernel
theorem dX11_thing_37 : decode cX11_thing 37 = .ok (.bipush (-2), 2) := by decide +kernel
theorem dX11_thing_39 : decode cX11_thing 39 = .ok (.ireturn, 1) := by decide +kernel
theorem dX11_thing_40 : decode cX11_thing 40 = .ok (.aload_n 0, 1) := by decide +kernel
theorem dX11_thing_41 : decode cX11_thing 41 = .ok (.getfield 64, 3) := by decide +kernel
theorem dX11_thing_44 : decode cX11_thing 44 = .ok (.iload_n 1, 1) := by decide +kernel
theorem dX11_thing_45 : decode cX11_thing 45 = .ok (.iload_n 2, 1) := by decide +kernel
theorem dX11_thing_46 : decode cX11_thing 46 = .ok (.iload_n 3, 1) := by decide +kernel
theorem dX11_thing_47 : decode cX11_thing 47 = .ok (.iload 4, 2) := by decide +kernel
theorem dX11_thing_49 : decode cX11_thing 49 = .ok (.invokevirtual 275, 3) := by decide +kernel
theorem dX11_thing_52 : decode cX11_thing 52 = .ok (.ireturn, 1) := by decide +kernel
theorem dX11_goes_0 : decode cX11_goes 0 = .ok (.aload_n 0, 1) := by decide +kernel
theorem dX11_goes_1 : decode cX11_goes 1 = .ok (.getfield 64, 3) := by decide +kernel
theorem dX11_goes_4 : decode cX11_goes 4 = .ok (.iload_n 1, 1) := by decide +kernel
theorem dX11_goes_5 : decode cX11_goes 5 = .ok (.invokevirtual 278, 3) := by decide +kernel
theorem dX11_goes_8 : decode cX11_goes 8 = .ok (.ifCond .ne 6, 3) := by decide +kernel
theorem dX11_goes_11 : decode cX11_goes 11 = .ok (.bipush (-99), 2) := by decide +kernel
theorem dX11_goes_13 : decode cX11_goes 13 = .ok (.ireturn, 1) := by decide +kernel
theorem dX11_goes_14 : decode cX11_goes 14 = .ok (.aload_n 0, 1) := by decide +kernel
theorem dX11_goes_15 : decode cX11_goes 15 = .ok (.invokevirtual 279, 3) := by decide +kernel
theorem dX11_goes_18 : decode cX11_goes 18 = .ok (.aload_n 0, 1) := by decide +kernel
theorem dX11_goes_19 : decode cX11_goes 19 = .ok (.getfield 64, 3) := by decide +kernel
theorem dX11_goes_22 : decode cX11_goes 22 = .ok (.iload_n 1, 1) := by decide +kernel
theorem dX11_goes_23 : decode cX11_goes 23 = .ok (.aload_n 0, 1) := by decide +kernel
theorem dX11_goes_24 : decode cX11_goes 24 = .ok (.getfield 57, 3) := by decide +kernel
theorem dX11_goes_27 : decode cX11_goes 27 = .ok (.invokevirtual 282, 3) := by decide +kernel
theorem dX11_goes_30 : decode cX11_goes 30 = .ok (.ireturn, 1) := by decide +kernel
theorem dX11_looked_0 : decode cX11_looked 0 = .ok (.aload_n 0, 1) := by decide +kernel
theorem dX11_looked_1 : decode cX11_looked 1 = .ok (.invokevirtual 279, 3) := by decide +kernel
theorem dX11_looked_4 : decode cX11_looked 4 = .ok (.aload_n 0, 1) := by decide +kernel
theorem dX11_looked_5 : decode cX11_looked 5 = .ok (.getfield 64, 3) := by decide +kernel
theorem dX11_looked_8 : decode cX11_looked 8 = .ok (.getfield 286, 3) := by decide +kernel
theorem dX11_looked_11 : decode cX11_looked 11 = .ok (.ifCond .eq 14, 3) := by decide +kernel
theorem dX11_looked_14 : decode cX11_looked 14 = .ok (.aload_n 0, 1) := by decide +kernel
theorem dX11_looked_15 : decode cX11_looked 15 = .ok (.getfield 57, 3) := by decide +kernel
theorem dX11_looked_18 : decode cX11_looked 18 = .ok (.getfield 289, 3) := by decide +kernel
theorem dX11_looked_21 : decode cX11_looked 21 = .ok (.iconst 2, 1) := by decide +kernel
theorem dX11_looked_22 : decode cX11_looked 22 = .ok (.if_icmp .ge 6, 3) := by decide +kernel
theorem dX11_looked_25 : decode cX11_looked 25 = .ok (.bipush (-3), 2) := by decide +kernel
theorem dX11_looked_27 : decode cX11_looked 27 = .ok (.ireturn, 1) := by decide +kernel
theorem dX11_looked_28 : decode cX11_looked 28 = .ok (.aload_n 0, 1) := by decide +kernel
theorem dX11_looked_29 : decode cX11_looked 29 = .ok (.getfield 64, 3) := by decide +kernel
theorem dX11_looked_32 : decode cX11_looked 32 = .ok (.aload_n 0, 1) := by decide +kernel
theorem dX11_looked_33 : decode cX11_looked 33 = .ok (.getfield 57, 3) := by decide +kernel
theorem dX11_looked_36 : decode cX11_looked 36 = .ok (.invokevirtual 292, 3) := by decide +kernel
theorem dX11_looked_39 : decode cX11_looked 39 = .ok (.istore_n 1, 1) := by decide +kernel
theorem dX11_looked_40 : decode cX11_looked 40 = .ok (.iconst 0, 1) := by decide +kernel
theorem dX11_looked_41 : decode cX11_looked 41 = .ok (.istore_n 2, 1) := by decide +kernel
theorem dX11_looked_42 : decode cX11_looked 42 = .ok (.iconst 0, 1) := by decide +kernel
theorem dX11_looked_43 : decode cX11_looked 43 = .ok (.istore_n 3, 1) := by decide +kernel
theorem dX11_looked_44 : decode cX11_looked 44 = .ok (.iconst 0, 1) := by decide +kernel
theorem dX11_looked_45 : decode cX11_looked 45 = .ok (.istore 4, 2) := by decide +kernel
theorem dX11_looked_47 : decode cX11_looked 47 = .ok (.iload 4, 2) := by decide +kernel
theorem dX11_looked_49 : decode cX11_looked 49 = .ok (.sipush 256, 3) := by decide +kernel
theorem dX11_looked_52 : decode cX11_looked 52 = .ok (.if_icmp .ge 47, 3) := by decide +kernel
theorem dX11_looked_55 : decode cX11_looked 55 = .ok (.aload_n 0, 1) := by decide +kernel
theorem dX11_looked_56 : decode cX11_looked 56 = .ok (.getfield 57, 3) := by decide +kernel
theorem dX11_looked_59 : decode cX11_looked 59 = .ok (.iload 4, 2) := by decide +kernel
theorem dX11_looked_61 : decode cX11_looked 61 = .ok (.invokevirtual 295, 3) := by decide +kernel
theorem dX11_looked_64 : decode cX11_looked 64 = .ok (.ifCond .eq 29, 3) := by decide +kernel
theorem dX11_looked_67 : decode cX11_looked 67 = .ok (.iinc 2 1, 3) := by decide +kernel
theorem dX11_looked_70 : decode cX11_looked 70 = .ok (.iload_n 3, 1) := by decide +kernel
theorem dX11_looked_71 : decode cX11_looked 71 = .ok (.aload_n 0, 1) := by decide +kernel
theorem dX11_looked_72 : decode cX11_looked 72 = .ok (.getfield 64, 3) := by decide +kernel
theorem dX11_looked_75 : decode cX11_looked 75 = .ok (.aload_n 0, 1) := by decide +kernel
theorem dX11_looked_76 : decode cX11_looked 76 = .ok (.getfield 57, 3) := by decide +kernel
theorem dX11_looked_79 : decode cX11_looked 79 = .ok (.invokevirtual 292, 3) := by decide +kernel
theorem dX11_looked_82 : decode cX11_looked 82 = .ok (.iload_n 1, 1) := by decide +kernel
theorem dX11_looked_83 : decode cX11_looked 83 = .ok (.if_icmp .lt 7, 3) := by decide +kernel
theorem dX11_looked_86 : decode cX11_looked 86 = .ok (.iconst 1, 1) := by decide +kernel
theorem dX11_looked_87 : decode cX11_looked 87 = .ok (.goto 4, 3) := by decide +kernel
theorem dX11_looked_90 : decode cX11_looked 90 = .ok (.iconst 0, 1) := by decide +kernel
theorem dX11_looked_91 : decode cX11_looked 91 = .ok (.iadd, 1) := by decide +kernel
theorem dX11_looked_92 : decode cX11_looked 92 = .ok (.istore_n 3, 1) := by decide +kernel
theorem dX11_looked_93 : decode cX11_looked 93 = .ok (.iinc 4 1, 3) := by decide +kernel
theorem dX11_looked_96 : decode cX11_looked 96 = .ok (.goto (-49), 3) := by decide +kernel
theorem dX11_looked_99 : decode cX11_looked 99 = .ok (.iload_n 3, 1) := by decide +kernel
theorem dX11_looked_100 : decode cX11_looked 100 = .ok (.iload_n 2, 1) := by decide +kernel
theorem dX11_looked_101 : decode cX11_looked 101 = .ok (.invokestatic 298, 3) := by decide +kernel
theorem dX11_looked_104 : decode cX11_looked 104 = .ok (.ireturn, 1) := by decide +kernel
theorem dX11_learnMeans_0 : decode cX11_learnMeans 0 = .ok (.aload_n 0, 1) := by decide +kernel
theorem dX11_learnMeans_1 : decode cX11_learnMeans 1 = .ok (.getfield 57, 3) := by decide +kernel
theorem dX11_learnMeans_4 : decode cX11_learnMeans 4 = .ok (.invokevirtual 301, 3) := by decide +kernel
theorem dX11_learnMeans_7 : decode cX11_learnMeans 7 = .ok (.iconst 0, 1) := by decide +kernel
theorem dX11_learnMeans_8 : decode cX11_learnMeans 8 = .ok (.istore_n 1, 1) := by decide +kernel
theorem dX11_learnMeans_9 : decode cX11_learnMeans 9 = .ok (.iload_n 1, 1) := by decide +kernel
theorem dX11_learnMeans_10 : decode cX11_learnMeans 10 = .ok (.iconst 4, 1) := by decide +kernel
theorem dX11_learnMeans_11 : decode cX11_learnMeans 11 = .ok (.if_icmp .ge 34, 3) := by decide +kernel
theorem dX11_learnMeans_14 : decode cX11_learnMeans 14 = .ok (.aload_n 0, 1) := by decide +kernel
theorem dX11_learnMeans_15 : decode cX11_learnMeans 15 = .ok (.getfield 12, 3) := by decide +kernel
theorem dX11_learnMeans_18 : decode cX11_learnMeans 18 = .ok (.iload_n 1, 1) := by decide +kernel
theorem dX11_learnMeans_19 : decode cX11_learnMeans 19 = .ok (.iconst 0, 1) := by decide +kernel
theorem dX11_learnMeans_20 : decode cX11_learnMeans 20 = .ok (.aload_n 0, 1) := by decide +kernel
theorem dX11_learnMeans_21 : decode cX11_learnMeans 21 = .ok (.getfield 19, 3) := by decide +kernel
theorem dX11_learnMeans_24 : decode cX11_learnMeans 24 = .ok (.invokevirtual 149, 3) := by decide +kernel
theorem dX11_learnMeans_27 : decode cX11_learnMeans 27 = .ok (.aload_n 0, 1) := by decide +kernel
theorem dX11_learnMeans_28 : decode cX11_learnMeans 28 = .ok (.getfield 57, 3) := by decide +kernel
theorem dX11_learnMeans_31 : decode cX11_learnMeans 31 = .ok (.iload_n 1, 1) := by decide +kernel
theorem dX11_learnMeans_32 : decode cX11_learnMeans 32 = .ok (.aload_n 0, 1) := by decide +kernel
theorem dX11_learnMeans_33 : decode cX11_learnMeans 33 = .ok (.getfield 19, 3) := by decide +kernel
theorem dX11_learnMeans_36 : decode cX11_learnMeans 36 = .ok (.invokevirtual 302, 3) := by decide +kernel
theorem dX11_learnMeans_39 : decode cX11_learnMeans 39 = .ok (.iinc 1 1, 3) := by decide +kernel
theorem dX11_learnMeans_42 : decode cX11_learnMeans 42 = .ok (.goto (-33), 3) := by decide +kernel
theorem dX11_learnMeans_45 : decode cX11_learnMeans 45 = .ok (.return_, 1) := by decide +kernel
theorem dX11_story_0 : decode cX11_story 0 = .ok (.iload_n 1, 1) := by decide +kernel
theorem dX11_story_1 : decode cX11_story 1 = .ok (.iconst 2, 1) := by decide +kernel
theorem dX11_story_2 : decode cX11_story 2 = .ok (.invokestatic 145, 3) := by decide +kernel
theorem dX11_story_5 : decode cX11_story 5 = .ok (.ifCond .eq 11, 3) := by decide +kernel
theorem dX11_story_8 : decode cX11_story 8 = .ok (.iload_n 2, 1) := by decide +kernel
theorem dX11_story_9 : decode cX11_story 9 = .ok (.iconst 2, 1) := by decide +kernel
theorem dX11_story_10 : decode cX11_story 10 = .ok (.invokestatic 145, 3) := by decide +kernel
theorem dX11_story_13 : decode cX11_story 13 = .ok (.ifCond .ne 6, 3) := by decide +kernel
theorem dX11_story_16 : decode cX11_story 16 = .ok (.bipush (-2), 2) := by decide +kernel
theorem dX11_story_18 : decode cX11_story 18 = .ok (.ireturn, 1) := by decide +kernel
theorem dX11_story_19 : decode cX11_story 19 = .ok (.iload_n 3, 1) := by decide +kernel
theorem dX11_story_20 : decode cX11_story 20 = .ok (.iconst 1, 1) := by decide +kernel
theorem dX11_story_21 : decode cX11_story 21 = .ok (.if_icmp .lt 9, 3) := by decide +kernel
theorem dX11_story_24 : decode cX11_story 24 = .ok (.iload_n 3, 1) := by decide +kernel
theorem dX11_story_25 : decode cX11_story 25 = .ok (.bipush 15, 2) := by decide +kernel
theorem dX11_story_27 : decode cX11_story 27 = .ok (.if_icmp .le 6, 3) := by decide +kernel
theorem dX11_story_30 : decode cX11_story 30 = .ok (.bipush (-2), 2) := by decide +kernel
theorem dX11_story_32 : decode cX11_story 32 = .ok (.ireturn, 1) := by decide +kernel
theorem dX11_story_33 : decode cX11_story 33 = .ok (.aload_n 0, 1) := by decide +kernel
theorem dX11_story_34 : decode cX11_story 34 = .ok (.getfield 71, 3) := by decide +kernel
theorem dX11_story_37 : decode cX11_story 37 = .ok (.iload_n 1, 1) := by decide +kernel
theorem dX11_story_38 : decode cX11_story 38 = .ok (.iload_n 2, 1) := by decide +kernel
theorem dX11_story_39 : decode cX11_story 39 = .ok (.iload_n 3, 1) := by decide +kernel
theorem dX11_story_40 : decode cX11_story 40 = .ok (.invokevirtual 306, 3) := by decide +kernel
theorem dX11_story_43 : decode cX11_story 43 = .ok (.ireturn, 1) := by decide +kernel
theorem dX11_odds_0 : decode cX11_odds 0 = .ok (.iload_n 1, 1) := by decide +kernel
theorem dX11_odds_1 : decode cX11_odds 1 = .ok (.invokestatic 142, 3) := by decide +kernel
theorem dX11_odds_4 : decode cX11_odds 4 = .ok (.ifCond .eq 18, 3) := by decide +kernel
theorem dX11_odds_7 : decode cX11_odds 7 = .ok (.iload_n 2, 1) := by decide +kernel
theorem dX11_odds_8 : decode cX11_odds 8 = .ok (.iconst 2, 1) := by decide +kernel
theorem dX11_odds_9 : decode cX11_odds 9 = .ok (.invokestatic 145, 3) := by decide +kernel
theorem dX11_odds_12 : decode cX11_odds 12 = .ok (.ifCond .eq 10, 3) := by decide +kernel
theorem dX11_odds_15 : decode cX11_odds 15 = .ok (.iload_n 3, 1) := by decide +kernel
theorem dX11_odds_16 : decode cX11_odds 16 = .ok (.invokestatic 163, 3) := by decide +kernel
theorem dX11_odds_19 : decode cX11_odds 19 = .ok (.ifCond .ne 9, 3) := by decide +kernel
theorem dX11_odds_22 : decode cX11_odds 22 = .ok (.bipush (-2), 2) := by decide +kernel
theorem dX11_odds_24 : decode cX11_odds 24 = .ok (.invokestatic 166, 3) := by decide +kernel
theorem dX11_odds_27 : decode cX11_odds 27 = .ok (.lreturn, 1) := by decide +kernel
theorem dX11_odds_28 : decode cX11_odds 28 = .ok (.aload_n 0, 1) := by decide +kernel
theorem dX11_odds_29 : decode cX11_odds 29 = .ok (.getfield 12, 3) := by decide +kernel
theorem dX11_odds_32 : decode cX11_odds 32 = .ok (.iload_n 1, 1) := by decide +kernel
theorem dX11_odds_33 : decode cX11_odds 33 = .ok (.iconst 0, 1) := by decide +kernel
theorem dX11_odds_34 : decode cX11_odds 34 = .ok (.aload_n 0, 1) := by decide +kernel
theorem dX11_odds_35 : decode cX11_odds 35 = .ok (.getfield 19, 3) := by decide +kernel
theorem dX11_odds_38 : decode cX11_odds 38 = .ok (.invokevirtual 149, 3) := by decide +kernel
theorem dX11_odds_41 : decode cX11_odds 41 = .ok (.aload_n 0, 1) := by decide +kernel
theorem dX11_odds_42 : decode cX11_odds 42 = .ok (.getfield 19, 3) := by decide +kernel
theorem dX11_odds_45 : decode cX11_odds 45 = .ok (.getfield 153, 3) := by decide +kernel
theorem dX11_odds_48 : decode cX11_odds 48 = .ok (.bipush 14, 2) := by decide +kernel
theorem dX11_odds_50 : decode cX11_odds 50 = .ok (.if_icmp .le 9, 3) := by decide +kernel
theorem dX11_odds_53 : decode cX11_odds 53 = .ok (.bipush (-4), 2) := by decide +kernel
theorem dX11_odds_55 : decode cX11_odds 55 = .ok (.invokestatic 166, 3) := by decide +kernel
theorem dX11_odds_58 : decode cX11_odds 58 = .ok (.lreturn, 1) := by decide +kernel
theorem dX11_odds_59 : decode cX11_odds 59 = .ok (.lconst 0, 1) := by decide +kernel
theorem dX11_odds_60 : decode cX11_odds 60 = .ok (.lstore 4, 2) := by decide +kernel
theorem dX11_odds_62 : decode cX11_odds 62 = .ok (.iconst 0, 1) := by decide +kernel
theorem dX11_odds_63 : decode cX11_odds 63 = .ok (.istore 6, 2) := by decide +kernel
theorem dX11_odds_65 : decode cX11_odds 65 = .ok (.iload 6, 2) := by decide +kernel
theorem dX11_odds_67 : decode cX11_odds 67 = .ok (.iconst 3, 1) := by decide +kernel
theorem dX11_odds_68 : decode cX11_odds 68 = .ok (.if_icmp .ge 27, 3) := by decide +kernel
theorem dX11_odds_71 : decode cX11_odds 71 = .ok (.lload 4, 2) := by decide +kernel
theorem dX11_odds_73 : decode cX11_odds 73 = .ok (.aload_n 0, 1) := by decide +kernel
theorem dX11_odds_74 : decode cX11_odds 74 = .ok (.getfield 71, 3) := by decide +kernel
theorem dX11_odds_77 : decode cX11_odds 77 = .ok (.iload 6, 2) := by decide +kernel
theorem dX11_odds_79 : decode cX11_odds 79 = .ok (.aload_n 0, 1) := by decide +kernel
theorem dX11_odds_80 : decode cX11_odds 80 = .ok (.getfield 19, 3) := by decide +kernel
theorem dX11_odds_83 : decode cX11_odds 83 = .ok (.invokevirtual 307, 3) := by decide +kernel
theorem dX11_odds_86 : decode cX11_odds 86 = .ok (.ladd, 1) := by decide +kernel
theorem dX11_odds_87 : decode cX11_odds 87 = .ok (.lstore 4, 2) := by decide +kernel
theorem dX11_odds_89 : decode cX11_odds 89 = .ok (.iinc 6 1, 3) := by decide +kernel
theorem dX11_odds_92 : decode cX11_odds 92 = .ok (.goto (-27), 3) := by decide +kernel
theorem dX11_odds_95 : decode cX11_odds 95 = .ok (.aload_n 0, 1) := by decide +kernel
theorem dX11_odds_96 : decode cX11_odds 96 = .ok (.getfield 71, 3) := by decide +kernel
theorem dX11_odds_99 : decode cX11_odds 99 = .ok (.iload_n 2, 1) := by decide +kernel
theorem dX11_odds_100 : decode cX11_odds 100 = .ok (.aload_n 0, 1) := by decide +kernel
theorem dX11_odds_101 : decode cX11_odds 101 = .ok (.getfield 19, 3) := by decide +kernel
theorem dX11_odds_104 : decode cX11_odds 104 = .ok (.invokevirtual 307, 3) := by decide +kernel
theorem dX11_odds_107 : decode cX11_odds 107 = .ok (.lload 4, 2) := by decide +kernel
theorem dX11_odds_109 : decode cX11_odds 109 = .ok (.iload_n 3, 1) := by decide +kernel
theorem dX11_odds_110 : decode cX11_odds 110 = .ok (.invokestatic 173, 3) := by decide +kernel
theorem dX11_odds_113 : decode cX11_odds 113 = .ok (.lreturn, 1) := by decide +kernel
theorem dX11_round_0 : decode cX11_round 0 = .ok (.iload_n 1, 1) := by decide +kernel
theorem dX11_round_1 : decode cX11_round 1 = .ok (.invokestatic 96, 3) := by decide +kernel
theorem dX11_round_4 : decode cX11_round 4 = .ok (.ifCond .eq 10, 3) := by decide +kernel
theorem dX11_round_7 : decode cX11_round 7 = .ok (.iload_n 2, 1) := by decide +kernel
theorem dX11_round_8 : decode cX11_round 8 = .ok (.invokestatic 99, 3) := by decide +kernel
theorem dX11_round_11 : decode cX11_round 11 = .ok (.ifCond .ne 6, 3) := by decide +kernel
theorem dX11_round_14 : decode cX11_round 14 = .ok (.bipush (-2), 2) := by decide +kernel
theorem dX11_round_16 : decode cX11_round 16 = .ok (.ireturn, 1) := by decide +kernel
theorem dX11_round_17 : decode cX11_round 17 = .ok (.aload_n 0, 1) := by decide +kernel
theorem dX11_round_18 : decode cX11_round 18 = .ok (.getfield 78, 3) := by decide +kernel
theorem dX11_round_21 : decode cX11_round 21 = .ok (.iload_n 1, 1) := by decide +kernel
theorem dX11_round_22 : decode cX11_round 22 = .ok (.iload_n 2, 1) := by decide +kernel
theorem dX11_round_23 : decode cX11_round 23 = .ok (.invokevirtual 311, 3) := by decide +kernel
theorem dX11_round_26 : decode cX11_round 26 = .ok (.ireturn, 1) := by decide +kernel
theorem dX11_forget_0 : decode cX11_forget 0 = .ok (.aload_n 0, 1) := by decide +kernel
theorem dX11_forget_1 : decode cX11_forget 1 = .ok (.getfield 78, 3) := by decide +kernel
theorem dX11_forget_4 : decode cX11_forget 4 = .ok (.getfield 312, 3) := by decide +kernel
theorem dX11_forget_7 : decode cX11_forget 7 = .ok (.istore_n 1, 1) := by decide +kernel
theorem dX11_forget_8 : decode cX11_forget 8 = .ok (.aload_n 0, 1) := by decide +kernel
theorem dX11_forget_9 : decode cX11_forget 9 = .ok (.getfield 78, 3) := by decide +kernel
theorem dX11_forget_12 : decode cX11_forget 12 = .ok (.iconst 0, 1) := by decide +kernel
theorem dX11_forget_13 : decode cX11_forget 13 = .ok (.putfield 312, 3) := by decide +kernel
theorem dX11_forget_16 : decode cX11_forget 16 = .ok (.iload_n 1, 1) := by decide +kernel
theorem dX11_forget_17 : decode cX11_forget 17 = .ok (.ireturn, 1) := by decide +kernel
theorem dX11_misses_0 : decode cX11_misses 0 = .ok (.iload_n 1, 1) := by decide +kernel
theorem dX11_misses_1 : decode cX11_misses 1 = .ok (.iconst 4, 1) := by decide +kernel
theorem dX11_misses_2 : decode cX11_misses 2 = .ok (.invokestatic 145, 3) := by decide +kernel
theorem dX11_misses_5 : decode cX11_misses 5 = .ok (.ifCond .eq 11, 3) := by decide +kernel
theorem dX11_misses_8 : decode cX11_misses 8 = .ok (.iload_n 2, 1) := by decide +kernel
theorem dX11_misses_9 : decode cX11_misses 9 = .ok (.iconst 4, 1) := by decide +kernel
theorem dX11_misses_10 : decode cX11_misses 10 = .ok (.invokestatic 145, 3) := by decide +kernel
theorem dX11_misses_13 : decode cX11_misses 13 = .ok (.ifCond .ne 6, 3) := by decide +kernel
theorem dX11_misses_16 : decode cX11_misses 16 = .ok (.bipush (-2), 2) := by decide +kernel
theorem dX11_misses_18 : decode cX11_misses 18 = .ok (.ireturn, 1) := by decide +kernel
theorem dX11_misses_19 : decode cX11_misses 19 = .ok (.aload_n 0, 1) := by decide +kernel
theorem dX11_misses_20 : decode cX11_misses 20 = .ok (.getfield 78, 3) := by decide +kernel
theorem dX11_misses_23 : decode cX11_misses 23 = .ok (.iload_n 1, 1) := by decide +kernel
theorem dX11_misses_24 : decode cX11_misses 24 = .ok (.iload_n 2, 1) := by decide +kernel
theorem dX11_misses_25 : decode cX11_misses 25 = .ok (.invokevirtual 313, 3) := by decide +kernel
theorem dX11_misses_28 : decode cX11_misses 28 = .ok (.ireturn, 1) := by decide +kernel
theorem dX11_learnt_0 : decode cX11_learnt 0 = .ok (.iload_n 1, 1) := by decide +kernel
theorem dX11_learnt_1 : decode cX11_learnt 1 = .ok (.iconst 4, 1) := by decide +kernel
theorem dX11_learnt_2 : decode cX11_learnt 2 = .ok (.invokestatic 145, 3) := by decide +kernel
theorem dX11_learnt_5 : decode cX11_learnt 5 = .ok (.ifCond .ne 6, 3) := by decide +kernel
theorem dX11_learnt_8 : decode cX11_learnt 8 = .ok (.bipush (-2), 2) := by decide +kernel
theorem dX11_learnt_10 : decode cX11_learnt 10 = .ok (.ireturn, 1) := by decide +kernel
theorem dX11_learnt_11 : decode cX11_learnt 11 = .ok (.iload_n 1, 1) := by decide +kernel
theorem dX11_learnt_12 : decode cX11_learnt 12 = .ok (.iconst 3, 1) := by decide +kernel
theorem dX11_learnt_13 : decode cX11_learnt 13 = .ok (.if_icmp .ne 11, 3) := by decide +kernel
theorem dX11_learnt_16 : decode cX11_learnt 16 = .ok (.aload_n 0, 1) := by decide +kernel
theorem dX11_learnt_17 : decode cX11_learnt 17 = .ok (.getfield 78, 3) := by decide +kernel
theorem dX11_learnt_20 : decode cX11_learnt 20 = .ok (.invokevirtual 316, 3) := by decide +kernel
theorem dX11_learnt_23 : decode cX11_learnt 23 = .ok (.ireturn, 1) := by decide +kernel
theorem dX11_learnt_24 : decode cX11_learnt 24 = .ok (.iload_n 1, 1) := by decide +kernel
theorem dX11_learnt_25 : decode cX11_learnt 25 = .ok (.iconst 4, 1) := by decide +kernel
theorem dX11_learnt_26 : decode cX11_learnt 26 = .ok (.if_icmp .ne 11, 3) := by decide +kernel
theorem dX11_learnt_29 : decode cX11_learnt 29 = .ok (.aload_n 0, 1) := by decide +kernel
theorem dX11_learnt_30 : decode cX11_learnt 30 = .ok (.getfield 78, 3) := by decide +kernel
theorem dX11_learnt_33 : decode cX11_learnt 33 = .ok (.invokevirtual 319, 3) := by decide +kernel
theorem dX11_learnt_36 : decode cX11_learnt 36 = .ok (.ireturn, 1) := by decide +kernel
theorem dX11_learnt_37 : decode cX11_learnt 37 = .ok (.aload_n 0, 1) := by decide +kernel
theorem dX11_learnt_38 : decode cX11_learnt 38 = .ok (.getfield 78, 3) := by decide +kernel
theorem dX11_learnt_41 : decode cX11_learnt 41 = .ok (.getfield 312, 3) := by decide +kernel
theorem dX11_learnt_44 : decode cX11_learnt 44 = .ok (.iconst 2, 1) := by decide +kernel
theorem dX11_learnt_45 : decode cX11_learnt 45 = .ok (.if_icmp .ge 6, 3) := by decide +kernel
theorem dX11_learnt_48 : decode cX11_learnt 48 = .ok (.bipush (-3), 2) := by decide +kernel
theorem dX11_learnt_50 : decode cX11_learnt 50 = .ok (.ireturn, 1) := by decide +kernel
theorem dX11_learnt_51 : decode cX11_learnt 51 = .ok (.aload_n 0, 1) := by decide +kernel
theorem dX11_learnt_52 : decode cX11_learnt 52 = .ok (.getfield 78, 3) := by decide +kernel
theorem dX11_learnt_55 : decode cX11_learnt 55 = .ok (.invokevirtual 322, 3) := by decide +kernel
theorem dX11_learnt_58 : decode cX11_learnt 58 = .ok (.iload_n 1, 1) := by decide +kernel
theorem dX11_learnt_59 : decode cX11_learnt 59 = .ok (.iconst 2, 1) := by decide +kernel
theorem dX11_learnt_60 : decode cX11_learnt 60 = .ok (.if_icmp .ne 11, 3) := by decide +kernel
theorem dX11_learnt_63 : decode cX11_learnt 63 = .ok (.aload_n 0, 1) := by decide +kernel
theorem dX11_learnt_64 : decode cX11_learnt 64 = .ok (.getfield 78, 3) := by decide +kernel
theorem dX11_learnt_67 : decode cX11_learnt 67 = .ok (.getfield 324, 3) := by decide +kernel
theorem dX11_learnt_70 : decode cX11_learnt 70 = .ok (.ireturn, 1) := by decide +kernel
theorem dX11_learnt_71 : decode cX11_learnt 71 = .ok (.iload_n 1, 1) := by decide +kernel
theorem dX11_learnt_72 : decode cX11_learnt 72 = .ok (.ifCond .ne 13, 3) := by decide +kernel
theorem dX11_learnt_75 : decode cX11_learnt 75 = .ok (.aload_n 0, 1) := by decide +kernel
theorem dX11_learnt_76 : decode cX11_learnt 76 = .ok (.getfield 78, 3) := by decide +kernel
theorem dX11_learnt_79 : decode cX11_learnt 79 = .ok (.getfield 327, 3) := by decide +kernel
theorem dX11_learnt_82 : decode cX11_learnt 82 = .ok (.goto 10, 3) := by decide +kernel
theorem dX11_learnt_85 : decode cX11_learnt 85 = .ok (.aload_n 0, 1) := by decide +kernel
theorem dX11_learnt_86 : decode cX11_learnt 86 = .ok (.getfield 78, 3) := by decide +kernel
theorem dX11_learnt_89 : decode cX11_learnt 89 = .ok (.getfield 330, 3) := by decide +kernel
theorem dX11_learnt_92 : decode cX11_learnt 92 = .ok (.ireturn, 1) := by decide +kernel
theorem dX11_sheet_0 : decode cX11_sheet 0 = .ok (.iload_n 1, 1) := by decide +kernel
theorem dX11_sheet_1 : decode cX11_sheet 1 = .ok (.invokestatic 109, 3) := by decide +kernel
theorem dX11_sheet_4 : decode cX11_sheet 4 = .ok (.ifCond .eq 16, 3) := by decide +kernel
theorem dX11_sheet_7 : decode cX11_sheet 7 = .ok (.iload_n 2, 1) := by decide +kernel
theorem dX11_sheet_8 : decode cX11_sheet 8 = .ok (.invokestatic 333, 3) := by decide +kernel
theorem dX11_sheet_11 : decode cX11_sheet 11 = .ok (.ifCond .eq 9, 3) := by decide +kernel
theorem dX11_sheet_14 : decode cX11_sheet 14 = .ok (.iload_n 3, 1) := by decide +kernel
theorem dX11_sheet_15 : decode cX11_sheet 15 = .ok (.bipush 48, 2) := by decide +kernel
theorem dX11_sheet_17 : decode cX11_sheet 17 = .ok (.if_icmp .le 6, 3) := by decide +kernel
theorem dX11_sheet_20 : decode cX11_sheet 20 = .ok (.bipush (-2), 2) := by decide +kernel
theorem dX11_sheet_22 : decode cX11_sheet 22 = .ok (.ireturn, 1) := by decide +kernel
theorem dX11_sheet_23 : decode cX11_sheet 23 = .ok (.iload_n 3, 1) := by decide +kernel
theorem dX11_sheet_24 : decode cX11_sheet 24 = .ok (.ifCond .ge 12, 3) := by decide +kernel
theorem dX11_sheet_27 : decode cX11_sheet 27 = .ok (.aload_n 0, 1) := by decide +kernel
theorem dX11_sheet_28 : decode cX11_sheet 28 = .ok (.getfield 85, 3) := by decide +kernel
theorem dX11_sheet_31 : decode cX11_sheet 31 = .ok (.iconst 5, 1) := by decide +kernel
theorem dX11_sheet_32 : decode cX11_sheet 32 = .ok (.invokevirtual 115, 3) := by decide +kernel
theorem dX11_sheet_35 : decode cX11_sheet 35 = .ok (.ireturn, 1) := by decide +kernel
theorem dX11_sheet_36 : decode cX11_sheet 36 = .ok (.aload_n 0, 1) := by decide +kernel
theorem dX11_sheet_37 : decode cX11_sheet 37 = .ok (.getfield 85, 3) := by decide +kernel
theorem dX11_sheet_40 : decode cX11_sheet 40 = .ok (.iload_n 1, 1) := by decide +kernel
theorem dX11_sheet_41 : decode cX11_sheet 41 = .ok (.iload_n 2, 1) := by decide +kernel
theorem dX11_sheet_42 : decode cX11_sheet 42 = .ok (.iload_n 3, 1) := by decide +kernel
theorem dX11_sheet_43 : decode cX11_sheet 43 = .ok (.invokevirtual 336, 3) := by decide +kernel
theorem dX11_sheet_46 : decode cX11_sheet 46 = .ok (.iload_n 3, 1) := by decide +kernel
theorem dX11_sheet_47 : decode cX11_sheet 47 = .ok (.ireturn, 1) := by decide +kernel
theorem dX11_lose_0 : decode cX11_lose 0 = .ok (.iload_n 1, 1) := by decide +kernel
theorem dX11_lose_1 : decode cX11_lose 1 = .ok (.invokestatic 109, 3) := by decide +kernel
theorem dX11_lose_4 : decode cX11_lose 4 = .ok (.ifCond .ne 6, 3) := by decide +kernel
theorem dX11_lose_7 : decode cX11_lose 7 = .ok (.bipush (-2), 2) := by decide +kernel
theorem dX11_lose_9 : decode cX11_lose 9 = .ok (.ireturn, 1) := by decide +kernel
theorem dX11_lose_10 : decode cX11_lose 10 = .ok (.aload_n 0, 1) := by decide +kernel
theorem dX11_lose_11 : decode cX11_lose 11 = .ok (.getfield 85, 3) := by decide +kernel
theorem dX11_lose_14 : decode cX11_lose 14 = .ok (.iload_n 1, 1) := by decide +kernel
theorem dX11_lose_15 : decode cX11_lose 15 = .ok (.invokevirtual 112, 3) := by decide +kernel
theorem dX11_lose_18 : decode cX11_lose 18 = .ok (.ifCond .eq 12, 3) := by decide +kernel
theorem dX11_lose_21 : decode cX11_lose 21 = .ok (.aload_n 0, 1) := by decide +kernel
theorem dX11_lose_22 : decode cX11_lose 22 = .ok (.getfield 85, 3) := by decide +kernel
theorem dX11_lose_25 : decode cX11_lose 25 = .ok (.iconst 1, 1) := by decide +kernel
theorem dX11_lose_26 : decode cX11_lose 26 = .ok (.invokevirtual 115, 3) := by decide +kernel
theorem dX11_lose_29 : decode cX11_lose 29 = .ok (.ireturn, 1) := by decide +kernel
theorem dX11_lose_30 : decode cX11_lose 30 = .ok (.aload_n 0, 1) := by decide +kernel
theorem dX11_lose_31 : decode cX11_lose 31 = .ok (.getfield 85, 3) := by decide +kernel
theorem dX11_lose_34 : decode cX11_lose 34 = .ok (.iload_n 1, 1) := by decide +kernel
theorem dX11_lose_35 : decode cX11_lose 35 = .ok (.invokevirtual 340, 3) := by decide +kernel
theorem dX11_lose_38 : decode cX11_lose 38 = .ok (.ireturn, 1) := by decide +kernel
theorem dX11_put_0 : decode cX11_put 0 = .ok (.iload_n 1, 1) := by decide +kernel
theorem dX11_put_1 : decode cX11_put 1 = .ok (.invokestatic 109, 3) := by decide +kernel
theorem dX11_put_4 : decode cX11_put 4 = .ok (.ifCond .eq 10, 3) := by decide +kernel
theorem dX11_put_7 : decode cX11_put 7 = .ok (.iload_n 2, 1) := by decide +kernel
theorem dX11_put_8 : decode cX11_put 8 = .ok (.invokestatic 333, 3) := by decide +kernel
theorem dX11_put_11 : decode cX11_put 11 = .ok (.ifCond .ne 6, 3) := by decide +kernel
theorem dX11_put_14 : decode cX11_put 14 = .ok (.bipush (-2), 2) := by decide +kernel
theorem dX11_put_16 : decode cX11_put 16 = .ok (.ireturn, 1) := by decide +kernel
theorem dX11_put_17 : decode cX11_put 17 = .ok (.aload_n 0, 1) := by decide +kernel
theorem dX11_put_18 : decode cX11_put 18 = .ok (.getfield 85, 3) := by decide +kernel
theorem dX11_put_21 : decode cX11_put 21 = .ok (.iload_n 1, 1) := by decide +kernel
theorem dX11_put_22 : decode cX11_put 22 = .ok (.iload_n 2, 1) := by decide +kernel
theorem dX11_put_23 : decode cX11_put 23 = .ok (.iload_n 3, 1) := by decide +kernel
theorem dX11_put_24 : decode cX11_put 24 = .ok (.invokevirtual 343, 3) := by decide +kernel
theorem dX11_put_27 : decode cX11_put 27 = .ok (.istore 5, 2) := by decide +kernel
theorem dX11_put_29 : decode cX11_put 29 = .ok (.iload 5, 2) := by decide +kernel
theorem dX11_put_31 : decode cX11_put 31 = .ok (.ifCond .eq 13, 3) := by decide +kernel
theorem dX11_put_34 : decode cX11_put 34 = .ok (.aload_n 0, 1) := by decide +kernel
theorem dX11_put_35 : decode cX11_put 35 = .ok (.getfield 85, 3) := by decide +kernel
theorem dX11_put_38 : decode cX11_put 38 = .ok (.iload 5, 2) := by decide +kernel
theorem dX11_put_40 : decode cX11_put 40 = .ok (.invokevirtual 115, 3) := by decide +kernel
theorem dX11_put_43 : decode cX11_put 43 = .ok (.ireturn, 1) := by decide +kernel
theorem dX11_put_44 : decode cX11_put 44 = .ok (.aload_n 0, 1) := by decide +kernel
theorem dX11_put_45 : decode cX11_put 45 = .ok (.getfield 85, 3) := by decide +kernel
theorem dX11_put_48 : decode cX11_put 48 = .ok (.iload_n 1, 1) := by decide +kernel
theorem dX11_put_49 : decode cX11_put 49 = .ok (.iload_n 3, 1) := by decide +kernel
theorem dX11_put_50 : decode cX11_put 50 = .ok (.iload 4, 2) := by decide +kernel
theorem dX11_put_52 : decode cX11_put 52 = .ok (.invokevirtual 346, 3) := by decide +kernel
theorem dX11_put_55 : decode cX11_put 55 = .ok (.iconst 1, 1) := by decide +kernel
theorem dX11_put_56 : decode cX11_put 56 = .ok (.ireturn, 1) := by decide +kernel
theorem dX11_get_0 : decode cX11_get 0 = .ok (.iload_n 1, 1) := by decide +kernel
theorem dX11_get_1 : decode cX11_get 1 = .ok (.invokestatic 109, 3) := by decide +kernel
theorem dX11_get_4 : decode cX11_get 4 = .ok (.ifCond .eq 10, 3) := by decide +kernel
theorem dX11_get_7 : decode cX11_get 7 = .ok (.iload_n 2, 1) := by decide +kernel
theorem dX11_get_8 : decode cX11_get 8 = .ok (.invokestatic 333, 3) := by decide +kernel
theorem dX11_get_11 : decode cX11_get 11 = .ok (.ifCond .ne 7, 3) := by decide +kernel
theorem dX11_get_14 : decode cX11_get 14 = .ok (.ldc_w 349, 3) := by decide +kernel
theorem dX11_get_17 : decode cX11_get 17 = .ok (.ireturn, 1) := by decide +kernel
theorem dX11_get_18 : decode cX11_get 18 = .ok (.aload_n 0, 1) := by decide +kernel
theorem dX11_get_19 : decode cX11_get 19 = .ok (.getfield 85, 3) := by decide +kernel
theorem dX11_get_22 : decode cX11_get 22 = .ok (.iload_n 1, 1) := by decide +kernel
theorem dX11_get_23 : decode cX11_get 23 = .ok (.iload_n 2, 1) := by decide +kernel
theorem dX11_get_24 : decode cX11_get 24 = .ok (.iload_n 3, 1) := by decide +kernel
theorem dX11_get_25 : decode cX11_get 25 = .ok (.invokevirtual 343, 3) := by decide +kernel
theorem dX11_get_28 : decode cX11_get 28 = .ok (.istore 4, 2) := by decide +kernel
theorem dX11_get_30 : decode cX11_get 30 = .ok (.iload 4, 2) := by decide +kernel
theorem dX11_get_32 : decode cX11_get 32 = .ok (.ifCond .eq 17, 3) := by decide +kernel
theorem dX11_get_35 : decode cX11_get 35 = .ok (.aload_n 0, 1) := by decide +kernel
theorem dX11_get_36 : decode cX11_get 36 = .ok (.getfield 85, 3) := by decide +kernel
theorem dX11_get_39 : decode cX11_get 39 = .ok (.iload 4, 2) := by decide +kernel
theorem dX11_get_41 : decode cX11_get 41 = .ok (.invokevirtual 115, 3) := by decide +kernel
theorem dX11_get_44 : decode cX11_get 44 = .ok (.pop, 1) := by decide +kernel
theorem dX11_get_45 : decode cX11_get 45 = .ok (.ldc_w 349, 3) := by decide +kernel
theorem dX11_get_48 : decode cX11_get 48 = .ok (.ireturn, 1) := by decide +kernel
theorem dX11_get_49 : decode cX11_get 49 = .ok (.aload_n 0, 1) := by decide +kernel
theorem dX11_get_50 : decode cX11_get 50 = .ok (.getfield 85, 3) := by decide +kernel
theorem dX11_get_53 : decode cX11_get 53 = .ok (.iload_n 1, 1) := by decide +kernel
theorem dX11_get_54 : decode cX11_get 54 = .ok (.iload_n 3, 1) := by decide +kernel
theorem dX11_get_55 : decode cX11_get 55 = .ok (.invokevirtual 122, 3) := by decide +kernel
theorem dX11_get_58 : decode cX11_get 58 = .ok (.ireturn, 1) := by decide +kernel
theorem dX11_copy_0 : decode cX11_copy 0 = .ok (.iload_n 1, 1) := by decide +kernel
theorem dX11_copy_1 : decode cX11_copy 1 = .ok (.invokestatic 109, 3) := by decide +kernel
theorem dX11_copy_4 : decode cX11_copy 4 = .ok (.ifCond .eq 10, 3) := by decide +kernel
theorem dX11_copy_7 : decode cX11_copy 7 = .ok (.iload_n 3, 1) := by decide +kernel
theorem dX11_copy_8 : decode cX11_copy 8 = .ok (.invokestatic 109, 3) := by decide +kernel
theorem dX11_copy_11 : decode cX11_copy 11 = .ok (.ifCond .ne 6, 3) := by decide +kernel
theorem dX11_copy_14 : decode cX11_copy 14 = .ok (.bipush (-2), 2) := by decide +kernel
theorem dX11_copy_16 : decode cX11_copy 16 = .ok (.ireturn, 1) := by decide +kernel
theorem dX11_copy_17 : decode cX11_copy 17 = .ok (.aload_n 0, 1) := by decide +kernel
theorem dX11_copy_18 : decode cX11_copy 18 = .ok (.getfield 85, 3) := by decide +kernel
theorem dX11_copy_21 : decode cX11_copy 21 = .ok (.iload_n 1, 1) := by decide +kernel
theorem dX11_copy_22 : decode cX11_copy 22 = .ok (.invokevirtual 112, 3) := by decide +kernel
theorem dX11_copy_25 : decode cX11_copy 25 = .ok (.ifCond .ne 14, 3) := by decide +kernel
theorem dX11_copy_28 : decode cX11_copy 28 = .ok (.aload_n 0, 1) := by decide +kernel
theorem dX11_copy_29 : decode cX11_copy 29 = .ok (.getfield 85, 3) := by decide +kernel
theorem dX11_copy_32 : decode cX11_copy 32 = .ok (.iload_n 3, 1) := by decide +kernel
theorem dX11_copy_33 : decode cX11_copy 33 = .ok (.invokevirtual 112, 3) := by decide +kernel
theorem dX11_copy_36 : decode cX11_copy 36 = .ok (.ifCond .eq 12, 3) := by decide +kernel
theorem dX11_copy_39 : decode cX11_copy 39 = .ok (.aload_n 0, 1) := by decide +kernel
theorem dX11_copy_40 : decode cX11_copy 40 = .ok (.getfield 85, 3) := by decide +kernel
theorem dX11_copy_43 : decode cX11_copy 43 = .ok (.iconst 1, 1) := by decide +kernel
theorem dX11_copy_44 : decode cX11_copy 44 = .ok (.invokevirtual 115, 3) := by decide +kernel
theorem dX11_copy_47 : decode cX11_copy 47 = .ok (.ireturn, 1) := by decide +kernel
theorem dX11_copy_48 : decode cX11_copy 48 = .ok (.aload_n 0, 1) := by decide +kernel
theorem dX11_copy_49 : decode cX11_copy 49 = .ok (.getfield 85, 3) := by decide +kernel
theorem dX11_copy_52 : decode cX11_copy 52 = .ok (.iload_n 1, 1) := by decide +kernel
theorem dX11_copy_53 : decode cX11_copy 53 = .ok (.invokevirtual 350, 3) := by decide +kernel
theorem dX11_copy_56 : decode cX11_copy 56 = .ok (.aload_n 0, 1) := by decide +kernel
theorem dX11_copy_57 : decode cX11_copy 57 = .ok (.getfield 85, 3) := by decide +kernel
theorem dX11_copy_60 : decode cX11_copy 60 = .ok (.iload_n 3, 1) := by decide +kernel
theorem dX11_copy_61 : decode cX11_copy 61 = .ok (.invokevirtual 350, 3) := by decide +kernel
theorem dX11_copy_64 : decode cX11_copy 64 = .ok (.if_icmp .eq 12, 3) := by decide +kernel
theorem dX11_copy_67 : decode cX11_copy 67 = .ok (.aload_n 0, 1) := by decide +kernel
theorem dX11_copy_68 : decode cX11_copy 68 = .ok (.getfield 85, 3) := by decide +kernel
theorem dX11_copy_71 : decode cX11_copy 71 = .ok (.iconst 4, 1) := by decide +kernel
theorem dX11_copy_72 : decode cX11_copy 72 = .ok (.invokevirtual 115, 3) := by decide +kernel
theorem dX11_copy_75 : decode cX11_copy 75 = .ok (.ireturn, 1) := by decide +kernel
theorem dX11_copy_76 : decode cX11_copy 76 = .ok (.aload_n 0, 1) := by decide +kernel
theorem dX11_copy_77 : decode cX11_copy 77 = .ok (.getfield 85, 3) := by decide +kernel
theorem dX11_copy_80 : decode cX11_copy 80 = .ok (.iload_n 1, 1) := by decide +kernel
theorem dX11_copy_81 : decode cX11_copy 81 = .ok (.iload_n 2, 1) := by decide +kernel
theorem dX11_copy_82 : decode cX11_copy 82 = .ok (.iload 5, 2) := by decide +kernel
theorem dX11_copy_84 : decode cX11_copy 84 = .ok (.invokevirtual 353, 3) := by decide +kernel
theorem dX11_copy_87 : decode cX11_copy 87 = .ok (.ifCond .eq 18, 3) := by decide +kernel
theorem dX11_copy_90 : decode cX11_copy 90 = .ok (.aload_n 0, 1) := by decide +kernel
theorem dX11_copy_91 : decode cX11_copy 91 = .ok (.getfield 85, 3) := by decide +kernel
theorem dX11_copy_94 : decode cX11_copy 94 = .ok (.iload_n 3, 1) := by decide +kernel
theorem dX11_copy_95 : decode cX11_copy 95 = .ok (.iload 4, 2) := by decide +kernel
theorem dX11_copy_97 : decode cX11_copy 97 = .ok (.iload 5, 2) := by decide +kernel
theorem dX11_copy_99 : decode cX11_copy 99 = .ok (.invokevirtual 353, 3) := by decide +kernel
theorem dX11_copy_102 : decode cX11_copy 102 = .ok (.ifCond .ne 12, 3) := by decide +kernel
theorem dX11_copy_105 : decode cX11_copy 105 = .ok (.aload_n 0, 1) := by decide +kernel
theorem dX11_copy_106 : decode cX11_copy 106 = .ok (.getfield 85, 3) := by decide +kernel
theorem dX11_copy_109 : decode cX11_copy 109 = .ok (.iconst 2, 1) := by decide +kernel
theorem dX11_copy_110 : decode cX11_copy 110 = .ok (.invokevirtual 115, 3) := by decide +kernel
theorem dX11_copy_113 : decode cX11_copy 113 = .ok (.ireturn, 1) := by decide +kernel
theorem dX11_copy_114 : decode cX11_copy 114 = .ok (.aload_n 0, 1) := by decide +kernel
theorem dX11_copy_115 : decode cX11_copy 115 = .ok (.getfield 85, 3) := by decide +kernel
theorem dX11_copy_118 : decode cX11_copy 118 = .ok (.iload_n 1, 1) := by decide +kernel
theorem dX11_copy_119 : decode cX11_copy 119 = .ok (.iload_n 2, 1) := by decide +kernel
theorem dX11_copy_120 : decode cX11_copy 120 = .ok (.iload_n 3, 1) := by decide +kernel
theorem dX11_copy_121 : decode cX11_copy 121 = .ok (.iload 4, 2) := by decide +kernel
theorem dX11_copy_123 : decode cX11_copy 123 = .ok (.iload 5, 2) := by decide +kernel
theorem dX11_copy_125 : decode cX11_copy 125 = .ok (.invokevirtual 357, 3) := by decide +kernel
theorem dX11_copy_128 : decode cX11_copy 128 = .ok (.iconst 1, 1) := by decide +kernel
theorem dX11_copy_129 : decode cX11_copy 129 = .ok (.ireturn, 1) := by decide +kernel
theorem dX11_write_0 : decode cX11_write 0 = .ok (.iload_n 1, 1) := by decide +kernel
theorem dX11_write_1 : decode cX11_write 1 = .ok (.invokestatic 142, 3) := by decide +kernel
theorem dX11_write_4 : decode cX11_write 4 = .ok (.ifCond .eq 17, 3) := by decide +kernel
theorem dX11_write_7 : decode cX11_write 7 = .ok (.iload_n 2, 1) := by decide +kernel
theorem dX11_write_8 : decode cX11_write 8 = .ok (.invokestatic 93, 3) := by decide +kernel
theorem dX11_write_11 : decode cX11_write 11 = .ok (.ifCond .eq 10, 3) := by decide +kernel
theorem dX11_write_14 : decode cX11_write 14 = .ok (.iload_n 3, 1) := by decide +kernel
theorem dX11_write_15 : decode cX11_write 15 = .ok (.invokestatic 109, 3) := by decide +kernel
theorem dX11_write_18 : decode cX11_write 18 = .ok (.ifCond .ne 6, 3) := by decide +kernel
theorem dX11_write_21 : decode cX11_write 21 = .ok (.bipush (-2), 2) := by decide +kernel
theorem dX11_write_23 : decode cX11_write 23 = .ok (.ireturn, 1) := by decide +kernel
theorem dX11_write_24 : decode cX11_write 24 = .ok (.aload_n 0, 1) := by decide +kernel
theorem dX11_write_25 : decode cX11_write 25 = .ok (.getfield 85, 3) := by decide +kernel
theorem dX11_write_28 : decode cX11_write 28 = .ok (.iload_n 3, 1) := by decide +kernel
theorem dX11_write_29 : decode cX11_write 29 = .ok (.invokevirtual 112, 3) := by decide +kernel
theorem dX11_write_32 : decode cX11_write 32 = .ok (.ifCond .eq 12, 3) := by decide +kernel
theorem dX11_write_35 : decode cX11_write 35 = .ok (.aload_n 0, 1) := by decide +kernel
theorem dX11_write_36 : decode cX11_write 36 = .ok (.getfield 85, 3) := by decide +kernel
theorem dX11_write_39 : decode cX11_write 39 = .ok (.iconst 1, 1) := by decide +kernel
theorem dX11_write_40 : decode cX11_write 40 = .ok (.invokevirtual 115, 3) := by decide +kernel
theorem dX11_write_43 : decode cX11_write 43 = .ok (.ireturn, 1) := by decide +kernel
theorem dX11_write_44 : decode cX11_write 44 = .ok (.aload_n 0, 1) := by decide +kernel
theorem dX11_write_45 : decode cX11_write 45 = .ok (.getfield 85, 3) := by decide +kernel
theorem dX11_write_48 : decode cX11_write 48 = .ok (.iload_n 3, 1) := by decide +kernel
theorem dX11_write_49 : decode cX11_write 49 = .ok (.invokevirtual 119, 3) := by decide +kernel
theorem dX11_write_52 : decode cX11_write 52 = .ok (.istore 4, 2) := by decide +kernel
theorem dX11_write_54 : decode cX11_write 54 = .ok (.iconst 0, 1) := by decide +kernel
theorem dX11_write_55 : decode cX11_write 55 = .ok (.istore 5, 2) := by decide +kernel
theorem dX11_write_57 : decode cX11_write 57 = .ok (.iconst 0, 1) := by decide +kernel
theorem dX11_write_58 : decode cX11_write 58 = .ok (.istore 6, 2) := by decide +kernel
theorem dX11_write_60 : decode cX11_write 60 = .ok (.iload 6, 2) := by decide +kernel
theorem dX11_write_62 : decode cX11_write 62 = .ok (.aload_n 0, 1) := by decide +kernel
theorem dX11_write_63 : decode cX11_write 63 = .ok (.getfield 12, 3) := by decide +kernel
theorem dX11_write_66 : decode cX11_write 66 = .ok (.getfield 361, 3) := by decide +kernel
theorem dX11_write_69 : decode cX11_write 69 = .ok (.if_icmp .ge 65, 3) := by decide +kernel
theorem dX11_write_72 : decode cX11_write 72 = .ok (.iload 5, 2) := by decide +kernel
theorem dX11_write_74 : decode cX11_write 74 = .ok (.iload 4, 2) := by decide +kernel
theorem dX11_write_76 : decode cX11_write 76 = .ok (.if_icmp .ge 58, 3) := by decide +kernel
theorem dX11_write_79 : decode cX11_write 79 = .ok (.aload_n 0, 1) := by decide +kernel
theorem dX11_write_80 : decode cX11_write 80 = .ok (.getfield 12, 3) := by decide +kernel
theorem dX11_write_83 : decode cX11_write 83 = .ok (.iload 6, 2) := by decide +kernel
theorem dX11_write_85 : decode cX11_write 85 = .ok (.iload_n 1, 1) := by decide +kernel
theorem dX11_write_86 : decode cX11_write 86 = .ok (.iload_n 2, 1) := by decide +kernel
theorem dX11_write_87 : decode cX11_write 87 = .ok (.invokevirtual 362, 3) := by decide +kernel
theorem dX11_write_90 : decode cX11_write 90 = .ok (.ifCond .eq 38, 3) := by decide +kernel
theorem dX11_write_93 : decode cX11_write 93 = .ok (.aload_n 0, 1) := by decide +kernel
theorem dX11_write_94 : decode cX11_write 94 = .ok (.getfield 12, 3) := by decide +kernel
theorem dX11_write_97 : decode cX11_write 97 = .ok (.iload 6, 2) := by decide +kernel
theorem dX11_write_99 : decode cX11_write 99 = .ok (.invokevirtual 365, 3) := by decide +kernel
theorem dX11_write_102 : decode cX11_write 102 = .ok (.ifCond .eq 26, 3) := by decide +kernel
theorem dX11_write_105 : decode cX11_write 105 = .ok (.aload_n 0, 1) := by decide +kernel
theorem dX11_write_106 : decode cX11_write 106 = .ok (.getfield 85, 3) := by decide +kernel
theorem dX11_write_109 : decode cX11_write 109 = .ok (.iload_n 3, 1) := by decide +kernel
theorem dX11_write_110 : decode cX11_write 110 = .ok (.iload 5, 2) := by decide +kernel
theorem dX11_write_112 : decode cX11_write 112 = .ok (.aload_n 0, 1) := by decide +kernel
theorem dX11_write_113 : decode cX11_write 113 = .ok (.getfield 12, 3) := by decide +kernel
theorem dX11_write_116 : decode cX11_write 116 = .ok (.getfield 368, 3) := by decide +kernel
theorem dX11_write_119 : decode cX11_write 119 = .ok (.iload 6, 2) := by decide +kernel
theorem dX11_write_121 : decode cX11_write 121 = .ok (.iaload, 1) := by decide +kernel
theorem dX11_write_122 : decode cX11_write 122 = .ok (.invokevirtual 346, 3) := by decide +kernel
theorem dX11_write_125 : decode cX11_write 125 = .ok (.iinc 5 1, 3) := by decide +kernel
theorem dX11_write_128 : decode cX11_write 128 = .ok (.iinc 6 1, 3) := by decide +kernel
theorem dX11_write_131 : decode cX11_write 131 = .ok (.goto (-71), 3) := by decide +kernel
theorem dX11_write_134 : decode cX11_write 134 = .ok (.iload 5, 2) := by decide +kernel
theorem dX11_write_136 : decode cX11_write 136 = .ok (.ireturn, 1) := by decide +kernel
theorem dX11_count_0 : decode cX11_count 0 = .ok (.iload_n 1, 1) := by decide +kernel
theorem dX11_count_1 : decode cX11_count 1 = .ok (.tableswitch 123 0 8 #[51, 59, 67, 75, 83, 91, 99, 107, 115], 51) := by decide +kernel
theorem dX11_count_52 : decode cX11_count 52 = .ok (.aload_n 0, 1) := by decide +kernel
theorem dX11_count_53 : decode cX11_count 53 = .ok (.getfield 12, 3) := by decide +kernel
theorem dX11_count_56 : decode cX11_count 56 = .ok (.getfield 361, 3) := by decide +kernel
theorem dX11_count_59 : decode cX11_count 59 = .ok (.ireturn, 1) := by decide +kernel
theorem dX11_count_60 : decode cX11_count 60 = .ok (.aload_n 0, 1) := by decide +kernel
theorem dX11_count_61 : decode cX11_count 61 = .ok (.getfield 12, 3) := by decide +kernel
theorem dX11_count_64 : decode cX11_count 64 = .ok (.invokevirtual 371, 3) := by decide +kernel
theorem dX11_count_67 : decode cX11_count 67 = .ok (.ireturn, 1) := by decide +kernel
theorem dX11_count_68 : decode cX11_count 68 = .ok (.aload_n 0, 1) := by decide +kernel
theorem dX11_count_69 : decode cX11_count 69 = .ok (.getfield 29, 3) := by decide +kernel
theorem dX11_count_72 : decode cX11_count 72 = .ok (.getfield 374, 3) := by decide +kernel
theorem dX11_count_75 : decode cX11_count 75 = .ok (.ireturn, 1) := by decide +kernel
theorem dX11_count_76 : decode cX11_count 76 = .ok (.aload_n 0, 1) := by decide +kernel
theorem dX11_count_77 : decode cX11_count 77 = .ok (.getfield 36, 3) := by decide +kernel
theorem dX11_count_80 : decode cX11_count 80 = .ok (.getfield 375, 3) := by decide +kernel
theorem dX11_count_83 : decode cX11_count 83 = .ok (.ireturn, 1) := by decide +kernel
theorem dX11_count_84 : decode cX11_count 84 = .ok (.aload_n 0, 1) := by decide +kernel
theorem dX11_count_85 : decode cX11_count 85 = .ok (.getfield 43, 3) := by decide +kernel
theorem dX11_count_88 : decode cX11_count 88 = .ok (.getfield 376, 3) := by decide +kernel
theorem dX11_count_91 : decode cX11_count 91 = .ok (.ireturn, 1) := by decide +kernel
theorem dX11_count_92 : decode cX11_count 92 = .ok (.aload_n 0, 1) := by decide +kernel
theorem dX11_count_93 : decode cX11_count 93 = .ok (.getfield 64, 3) := by decide +kernel
theorem dX11_count_96 : decode cX11_count 96 = .ok (.getfield 286, 3) := by decide +kernel
theorem dX11_count_99 : decode cX11_count 99 = .ok (.ireturn, 1) := by decide +kernel
theorem dX11_count_100 : decode cX11_count 100 = .ok (.aload_n 0, 1) := by decide +kernel
theorem dX11_count_101 : decode cX11_count 101 = .ok (.getfield 78, 3) := by decide +kernel
theorem dX11_count_104 : decode cX11_count 104 = .ok (.getfield 312, 3) := by decide +kernel
theorem dX11_count_107 : decode cX11_count 107 = .ok (.ireturn, 1) := by decide +kernel
theorem dX11_count_108 : decode cX11_count 108 = .ok (.aload_n 0, 1) := by decide +kernel
theorem dX11_count_109 : decode cX11_count 109 = .ok (.getfield 12, 3) := by decide +kernel
theorem dX11_count_112 : decode cX11_count 112 = .ok (.getfield 138, 3) := by decide +kernel
theorem dX11_count_115 : decode cX11_count 115 = .ok (.ireturn, 1) := by decide +kernel
theorem dX11_count_116 : decode cX11_count 116 = .ok (.aload_n 0, 1) := by decide +kernel
theorem dX11_count_117 : decode cX11_count 117 = .ok (.getfield 85, 3) := by decide +kernel
theorem dX11_count_120 : decode cX11_count 120 = .ok (.getfield 379, 3) := by decide +kernel
theorem dX11_count_123 : decode cX11_count 123 = .ok (.ireturn, 1) := by decide +kernel
theorem dX11_count_124 : decode cX11_count 124 = .ok (.bipush (-2), 2) := by decide +kernel
theorem dX11_count_126 : decode cX11_count 126 = .ok (.ireturn, 1) := by decide +kernel
theorem dX11_digest_0 : decode cX11_digest 0 = .ok (.ldc2_w 382, 3) := by decide +kernel
theorem dX11_digest_3 : decode cX11_digest 3 = .ok (.lstore_n 1, 1) := by decide +kernel
theorem dX11_digest_4 : decode cX11_digest 4 = .ok (.iconst 0, 1) := by decide +kernel
theorem dX11_digest_5 : decode cX11_digest 5 = .ok (.istore_n 3, 1) := by decide +kernel
theorem dX11_digest_6 : decode cX11_digest 6 = .ok (.iload_n 3, 1) := by decide +kernel
theorem dX11_digest_7 : decode cX11_digest 7 = .ok (.bipush 7, 2) := by decide +kernel
theorem dX11_digest_9 : decode cX11_digest 9 = .ok (.if_icmp .gt 20, 3) := by decide +kernel
theorem dX11_digest_12 : decode cX11_digest 12 = .ok (.lload_n 1, 1) := by decide +kernel
theorem dX11_digest_13 : decode cX11_digest 13 = .ok (.aload_n 0, 1) := by decide +kernel
theorem dX11_digest_14 : decode cX11_digest 14 = .ok (.iload_n 3, 1) := by decide +kernel
theorem dX11_digest_15 : decode cX11_digest 15 = .ok (.invokevirtual 384, 3) := by decide +kernel
theorem dX11_digest_18 : decode cX11_digest 18 = .ok (.i2l, 1) := by decide +kernel
theorem dX11_digest_19 : decode cX11_digest 19 = .ok (.invokestatic 387, 3) := by decide +kernel
theorem dX11_digest_22 : decode cX11_digest 22 = .ok (.lstore_n 1, 1) := by decide +kernel
theorem dX11_digest_23 : decode cX11_digest 23 = .ok (.iinc 3 1, 3) := by decide +kernel
theorem dX11_digest_26 : decode cX11_digest 26 = .ok (.goto (-20), 3) := by decide +kernel
theorem dX11_digest_29 : decode cX11_digest 29 = .ok (.lload_n 1, 1) := by decide +kernel
theorem dX11_digest_30 : decode cX11_digest 30 = .ok (.aload_n 0, 1) := by decide +kernel
theorem dX11_digest_31 : decode cX11_digest 31 = .ok (.invokevirtual 391, 3) := by decide +kernel
theorem dX11_digest_34 : decode cX11_digest 34 = .ok (.i2l, 1) := by decide +kernel
theorem dX11_digest_35 : decode cX11_digest 35 = .ok (.invokestatic 387, 3) := by decide +kernel
theorem dX11_digest_38 : decode cX11_digest 38 = .ok (.lstore_n 1, 1) := by decide +kernel
theorem dX11_digest_39 : decode cX11_digest 39 = .ok (.aload_n 0, 1) := by decide +kernel
theorem dX11_digest_40 : decode cX11_digest 40 = .ok (.lload_n 1, 1) := by decide +kernel
theorem dX11_digest_41 : decode cX11_digest 41 = .ok (.invokevirtual 394, 3) := by decide +kernel
theorem dX11_digest_44 : decode cX11_digest 44 = .ok (.lstore_n 1, 1) := by decide +kernel
theorem dX11_digest_45 : decode cX11_digest 45 = .ok (.aload_n 0, 1) := by decide +kernel
theorem dX11_digest_46 : decode cX11_digest 46 = .ok (.lload_n 1, 1) := by decide +kernel
theorem dX11_digest_47 : decode cX11_digest 47 = .ok (.invokevirtual 398, 3) := by decide +kernel
theorem dX11_digest_50 : decode cX11_digest 50 = .ok (.lstore_n 1, 1) := by decide +kernel
theorem dX11_digest_51 : decode cX11_digest 51 = .ok (.aload_n 0, 1) := by decide +kernel
theorem dX11_digest_52 : decode cX11_digest 52 = .ok (.lload_n 1, 1) := by decide +kernel
theorem dX11_digest_53 : decode cX11_digest 53 = .ok (.invokevirtual 401, 3) := by decide +kernel
theorem dX11_digest_56 : decode cX11_digest 56 = .ok (.lstore_n 1, 1) := by decide +kernel
theorem dX11_digest_57 : decode cX11_digest 57 = .ok (.iconst 0, 1) := by decide +kernel
theorem dX11_digest_58 : decode cX11_digest 58 = .ok (.istore_n 3, 1) := by decide +kernel
theorem dX11_digest_59 : decode cX11_digest 59 = .ok (.iload_n 3, 1) := by decide +kernel
theorem dX11_digest_60 : decode cX11_digest 60 = .ok (.aload_n 0, 1) := by decide +kernel
theorem dX11_digest_61 : decode cX11_digest 61 = .ok (.getfield 64, 3) := by decide +kernel
theorem dX11_digest_64 : decode cX11_digest 64 = .ok (.getfield 286, 3) := by decide +kernel
theorem dX11_digest_67 : decode cX11_digest 67 = .ok (.if_icmp .ge 20, 3) := by decide +kernel
theorem dX11_digest_70 : decode cX11_digest 70 = .ok (.lload_n 1, 1) := by decide +kernel
theorem dX11_digest_71 : decode cX11_digest 71 = .ok (.aload_n 0, 1) := by decide +kernel
theorem dX11_digest_72 : decode cX11_digest 72 = .ok (.iload_n 3, 1) := by decide +kernel
theorem dX11_digest_73 : decode cX11_digest 73 = .ok (.invokevirtual 404, 3) := by decide +kernel
theorem dX11_digest_76 : decode cX11_digest 76 = .ok (.i2l, 1) := by decide +kernel
theorem dX11_digest_77 : decode cX11_digest 77 = .ok (.invokestatic 387, 3) := by decide +kernel
theorem dX11_digest_80 : decode cX11_digest 80 = .ok (.lstore_n 1, 1) := by decide +kernel
theorem dX11_digest_81 : decode cX11_digest 81 = .ok (.iinc 3 1, 3) := by decide +kernel
theorem dX11_digest_84 : decode cX11_digest 84 = .ok (.goto (-25), 3) := by decide +kernel
theorem dX11_digest_87 : decode cX11_digest 87 = .ok (.lload_n 1, 1) := by decide +kernel
theorem dX11_digest_88 : decode cX11_digest 88 = .ok (.aload_n 0, 1) := by decide +kernel
theorem dX11_digest_89 : decode cX11_digest 89 = .ok (.invokevirtual 407, 3) := by decide +kernel
theorem dX11_digest_92 : decode cX11_digest 92 = .ok (.i2l, 1) := by decide +kernel
theorem dX11_digest_93 : decode cX11_digest 93 = .ok (.invokestatic 387, 3) := by decide +kernel
theorem dX11_digest_96 : decode cX11_digest 96 = .ok (.lstore_n 1, 1) := by decide +kernel
theorem dX11_digest_97 : decode cX11_digest 97 = .ok (.iconst 0, 1) := by decide +kernel
theorem dX11_digest_98 : decode cX11_digest 98 = .ok (.istore_n 3, 1) := by decide +kernel
theorem dX11_digest_99 : decode cX11_digest 99 = .ok (.iload_n 3, 1) := by decide +kernel
theorem dX11_digest_100 : decode cX11_digest 100 = .ok (.iconst 4, 1) := by decide +kernel
theorem dX11_digest_101 : decode cX11_digest 101 = .ok (.if_icmp .gt 20, 3) := by decide +kernel
theorem dX11_digest_104 : decode cX11_digest 104 = .ok (.lload_n 1, 1) := by decide +kernel
theorem dX11_digest_105 : decode cX11_digest 105 = .ok (.aload_n 0, 1) := by decide +kernel
theorem dX11_digest_106 : decode cX11_digest 106 = .ok (.iload_n 3, 1) := by decide +kernel
theorem dX11_digest_107 : decode cX11_digest 107 = .ok (.invokevirtual 410, 3) := by decide +kernel
theorem dX11_digest_110 : decode cX11_digest 110 = .ok (.i2l, 1) := by decide +kernel
theorem dX11_digest_111 : decode cX11_digest 111 = .ok (.invokestatic 387, 3) := by decide +kernel
theorem dX11_digest_114 : decode cX11_digest 114 = .ok (.lstore_n 1, 1) := by decide +kernel
theorem dX11_digest_115 : decode cX11_digest 115 = .ok (.iinc 3 1, 3) := by decide +kernel
theorem dX11_digest_118 : decode cX11_digest 118 = .ok (.goto (-19), 3) := by decide +kernel
theorem dX11_digest_121 : decode cX11_digest 121 = .ok (.lload_n 1, 1) := by decide +kernel
theorem dX11_digest_122 : decode cX11_digest 122 = .ok (.lreturn, 1) := by decide +kernel
theorem dX11_mixPairs_0 : decode cX11_mixPairs 0 = .ok (.lload_n 1, 1) := by decide +kernel
theorem dX11_mixPairs_1 : decode cX11_mixPairs 1 = .ok (.lstore_n 3, 1) := by decide +kernel
theorem dX11_mixPairs_2 : decode cX11_mixPairs 2 = .ok (.iconst (-1), 1) := by decide +kernel
theorem dX11_mixPairs_3 : decode cX11_mixPairs 3 = .ok (.istore 5, 2) := by decide +kernel
theorem dX11_mixPairs_5 : decode cX11_mixPairs 5 = .ok (.iload 5, 2) := by decide +kernel
theorem dX11_mixPairs_7 : decode cX11_mixPairs 7 = .ok (.iconst 4, 1) := by decide +kernel
theorem dX11_mixPairs_8 : decode cX11_mixPairs 8 = .ok (.if_icmp .ge 54, 3) := by decide +kernel
theorem dX11_mixPairs_11 : decode cX11_mixPairs 11 = .ok (.iconst 0, 1) := by decide +kernel
theorem dX11_mixPairs_12 : decode cX11_mixPairs 12 = .ok (.istore 6, 2) := by decide +kernel
theorem dX11_mixPairs_14 : decode cX11_mixPairs 14 = .ok (.iload 6, 2) := by decide +kernel
theorem dX11_mixPairs_16 : decode cX11_mixPairs 16 = .ok (.iconst 4, 1) := by decide +kernel
theorem dX11_mixPairs_17 : decode cX11_mixPairs 17 = .ok (.if_icmp .ge 39, 3) := by decide +kernel
theorem dX11_mixPairs_20 : decode cX11_mixPairs 20 = .ok (.lload_n 3, 1) := by decide +kernel
theorem dX11_mixPairs_21 : decode cX11_mixPairs 21 = .ok (.aload_n 0, 1) := by decide +kernel
theorem dX11_mixPairs_22 : decode cX11_mixPairs 22 = .ok (.iload 5, 2) := by decide +kernel
theorem dX11_mixPairs_24 : decode cX11_mixPairs 24 = .ok (.iload 6, 2) := by decide +kernel
theorem dX11_mixPairs_26 : decode cX11_mixPairs 26 = .ok (.iconst 0, 1) := by decide +kernel
theorem dX11_mixPairs_27 : decode cX11_mixPairs 27 = .ok (.invokevirtual 413, 3) := by decide +kernel
theorem dX11_mixPairs_30 : decode cX11_mixPairs 30 = .ok (.i2l, 1) := by decide +kernel
theorem dX11_mixPairs_31 : decode cX11_mixPairs 31 = .ok (.invokestatic 387, 3) := by decide +kernel
theorem dX11_mixPairs_34 : decode cX11_mixPairs 34 = .ok (.lstore_n 3, 1) := by decide +kernel
theorem dX11_mixPairs_35 : decode cX11_mixPairs 35 = .ok (.lload_n 3, 1) := by decide +kernel
theorem dX11_mixPairs_36 : decode cX11_mixPairs 36 = .ok (.aload_n 0, 1) := by decide +kernel
theorem dX11_mixPairs_37 : decode cX11_mixPairs 37 = .ok (.iload 5, 2) := by decide +kernel
theorem dX11_mixPairs_39 : decode cX11_mixPairs 39 = .ok (.iload 6, 2) := by decide +kernel
theorem dX11_mixPairs_41 : decode cX11_mixPairs 41 = .ok (.iconst 1, 1) := by decide +kernel
theorem dX11_mixPairs_42 : decode cX11_mixPairs 42 = .ok (.invokevirtual 413, 3) := by decide +kernel
theorem dX11_mixPairs_45 : decode cX11_mixPairs 45 = .ok (.i2l, 1) := by decide +kernel
theorem dX11_mixPairs_46 : decode cX11_mixPairs 46 = .ok (.invokestatic 387, 3) := by decide +kernel
theorem dX11_mixPairs_49 : decode cX11_mixPairs 49 = .ok (.lstore_n 3, 1) := by decide +kernel
theorem dX11_mixPairs_50 : decode cX11_mixPairs 50 = .ok (.iinc 6 1, 3) := by decide +kernel
theorem dX11_mixPairs_53 : decode cX11_mixPairs 53 = .ok (.goto (-39), 3) := by decide +kernel
theorem dX11_mixPairs_56 : decode cX11_mixPairs 56 = .ok (.iinc 5 1, 3) := by decide +kernel
theorem dX11_mixPairs_59 : decode cX11_mixPairs 59 = .ok (.goto (-54), 3) := by decide +kernel
theorem dX11_mixPairs_62 : decode cX11_mixPairs 62 = .ok (.lload_n 3, 1) := by decide +kernel
theorem dX11_mixPairs_63 : decode cX11_mixPairs 63 = .ok (.aload_n 0, 1) := by decide +kernel
theorem dX11_mixPairs_64 : decode cX11_mixPairs 64 = .ok (.iconst (-1), 1) := by decide +kernel
theorem dX11_mixPairs_65 : decode cX11_mixPairs 65 = .ok (.iconst 0, 1) := by decide +kernel
theorem dX11_mixPairs_66 : decode cX11_mixPairs 66 = .ok (.iconst 0, 1) := by decide +kernel
theorem dX11_mixPairs_67 : decode cX11_mixPairs 67 = .ok (.invokevirtual 415, 3) := by decide +kernel
theorem dX11_mixPairs_70 : decode cX11_mixPairs 70 = .ok (.invokestatic 387, 3) := by decide +kernel
theorem dX11_mixPairs_73 : decode cX11_mixPairs 73 = .ok (.lstore_n 3, 1) := by decide +kernel
theorem dX11_mixPairs_74 : decode cX11_mixPairs 74 = .ok (.lload_n 3, 1) := by decide +kernel
theorem dX11_mixPairs_75 : decode cX11_mixPairs 75 = .ok (.aload_n 0, 1) := by decide +kernel
theorem dX11_mixPairs_76 : decode cX11_mixPairs 76 = .ok (.iconst (-1), 1) := by decide +kernel
theorem dX11_mixPairs_77 : decode cX11_mixPairs 77 = .ok (.iconst 0, 1) := by decide +kernel
theorem dX11_mixPairs_78 : decode cX11_mixPairs 78 = .ok (.iconst 1, 1) := by decide +kernel
theorem dX11_mixPairs_79 : decode cX11_mixPairs 79 = .ok (.invokevirtual 415, 3) := by decide +kernel
theorem dX11_mixPairs_82 : decode cX11_mixPairs 82 = .ok (.invokestatic 387, 3) := by decide +kernel
theorem dX11_mixPairs_85 : decode cX11_mixPairs 85 = .ok (.lreturn, 1) := by decide +kernel
theorem dX11_mixRowsAndBeliefs_0 : decode cX11_mixRowsAndBeliefs 0 = .ok (.lload_n 1, 1) := by decide +kernel
theorem dX11_mixRowsAndBeliefs_1 : decode cX11_mixRowsAndBeliefs 1 = .ok (.aload_n 0, 1) := by decide +kernel
theorem dX11_mixRowsAndBeliefs_2 : decode cX11_mixRowsAndBeliefs 2 = .ok (.iconst (-1), 1) := by decide +kernel
theorem dX11_mixRowsAndBeliefs_3 : decode cX11_mixRowsAndBeliefs 3 = .ok (.invokevirtual 419, 3) := by decide +kernel
theorem dX11_mixRowsAndBeliefs_6 : decode cX11_mixRowsAndBeliefs 6 = .ok (.i2l, 1) := by decide +kernel
theorem dX11_mixRowsAndBeliefs_7 : decode cX11_mixRowsAndBeliefs 7 = .ok (.invokestatic 387, 3) := by decide +kernel
theorem dX11_mixRowsAndBeliefs_10 : decode cX11_mixRowsAndBeliefs 10 = .ok (.lstore_n 3, 1) := by decide +kernel
theorem dX11_mixRowsAndBeliefs_11 : decode cX11_mixRowsAndBeliefs 11 = .ok (.iconst 0, 1) := by decide +kernel
theorem dX11_mixRowsAndBeliefs_12 : decode cX11_mixRowsAndBeliefs 12 = .ok (.istore 5, 2) := by decide +kernel
theorem dX11_mixRowsAndBeliefs_14 : decode cX11_mixRowsAndBeliefs 14 = .ok (.iload 5, 2) := by decide +kernel
theorem dX11_mixRowsAndBeliefs_16 : decode cX11_mixRowsAndBeliefs 16 = .ok (.aload_n 0, 1) := by decide +kernel
theorem dX11_mixRowsAndBeliefs_17 : decode cX11_mixRowsAndBeliefs 17 = .ok (.getfield 29, 3) := by decide +kernel
theorem dX11_mixRowsAndBeliefs_20 : decode cX11_mixRowsAndBeliefs 20 = .ok (.getfield 374, 3) := by decide +kernel
theorem dX11_mixRowsAndBeliefs_23 : decode cX11_mixRowsAndBeliefs 23 = .ok (.if_icmp .ge 38, 3) := by decide +kernel
theorem dX11_mixRowsAndBeliefs_26 : decode cX11_mixRowsAndBeliefs 26 = .ok (.iconst 0, 1) := by decide +kernel
theorem dX11_mixRowsAndBeliefs_27 : decode cX11_mixRowsAndBeliefs 27 = .ok (.istore 6, 2) := by decide +kernel
theorem dX11_mixRowsAndBeliefs_29 : decode cX11_mixRowsAndBeliefs 29 = .ok (.iload 6, 2) := by decide +kernel
theorem dX11_mixRowsAndBeliefs_31 : decode cX11_mixRowsAndBeliefs 31 = .ok (.iconst 2, 1) := by decide +kernel
theorem dX11_mixRowsAndBeliefs_32 : decode cX11_mixRowsAndBeliefs 32 = .ok (.if_icmp .gt 23, 3) := by decide +kernel
theorem dX11_mixRowsAndBeliefs_35 : decode cX11_mixRowsAndBeliefs 35 = .ok (.lload_n 3, 1) := by decide +kernel
theorem dX11_mixRowsAndBeliefs_36 : decode cX11_mixRowsAndBeliefs 36 = .ok (.aload_n 0, 1) := by decide +kernel
theorem dX11_mixRowsAndBeliefs_37 : decode cX11_mixRowsAndBeliefs 37 = .ok (.iload 5, 2) := by decide +kernel
theorem dX11_mixRowsAndBeliefs_39 : decode cX11_mixRowsAndBeliefs 39 = .ok (.iload 6, 2) := by decide +kernel
theorem dX11_mixRowsAndBeliefs_41 : decode cX11_mixRowsAndBeliefs 41 = .ok (.invokevirtual 422, 3) := by decide +kernel
theorem dX11_mixRowsAndBeliefs_44 : decode cX11_mixRowsAndBeliefs 44 = .ok (.i2l, 1) := by decide +kernel
theorem dX11_mixRowsAndBeliefs_45 : decode cX11_mixRowsAndBeliefs 45 = .ok (.invokestatic 387, 3) := by decide +kernel
theorem dX11_mixRowsAndBeliefs_48 : decode cX11_mixRowsAndBeliefs 48 = .ok (.lstore_n 3, 1) := by decide +kernel
theorem dX11_mixRowsAndBeliefs_49 : decode cX11_mixRowsAndBeliefs 49 = .ok (.iinc 6 1, 3) := by decide +kernel
theorem dX11_mixRowsAndBeliefs_52 : decode cX11_mixRowsAndBeliefs 52 = .ok (.goto (-23), 3) := by decide +kernel
theorem dX11_mixRowsAndBeliefs_55 : decode cX11_mixRowsAndBeliefs 55 = .ok (.iinc 5 1, 3) := by decide +kernel
theorem dX11_mixRowsAndBeliefs_58 : decode cX11_mixRowsAndBeliefs 58 = .ok (.goto (-44), 3) := by decide +kernel
theorem dX11_mixRowsAndBeliefs_61 : decode cX11_mixRowsAndBeliefs 61 = .ok (.iconst 0, 1) := by decide +kernel
theorem dX11_mixRowsAndBeliefs_62 : decode cX11_mixRowsAndBeliefs 62 = .ok (.istore 5, 2) := by decide +kernel
theorem dX11_mixRowsAndBeliefs_64 : decode cX11_mixRowsAndBeliefs 64 = .ok (.iload 5, 2) := by decide +kernel
theorem dX11_mixRowsAndBeliefs_66 : decode cX11_mixRowsAndBeliefs 66 = .ok (.aload_n 0, 1) := by decide +kernel
theorem dX11_mixRowsAndBeliefs_67 : decode cX11_mixRowsAndBeliefs 67 = .ok (.getfield 36, 3) := by decide +kernel
theorem dX11_mixRowsAndBeliefs_70 : decode cX11_mixRowsAndBeliefs 70 = .ok (.getfield 375, 3) := by decide +kernel
theorem dX11_mixRowsAndBeliefs_73 : decode cX11_mixRowsAndBeliefs 73 = .ok (.if_icmp .ge 21, 3) := by decide +kernel
theorem dX11_mixRowsAndBeliefs_76 : decode cX11_mixRowsAndBeliefs 76 = .ok (.lload_n 3, 1) := by decide +kernel
theorem dX11_mixRowsAndBeliefs_77 : decode cX11_mixRowsAndBeliefs 77 = .ok (.aload_n 0, 1) := by decide +kernel
theorem dX11_mixRowsAndBeliefs_78 : decode cX11_mixRowsAndBeliefs 78 = .ok (.iload 5, 2) := by decide +kernel
theorem dX11_mixRowsAndBeliefs_80 : decode cX11_mixRowsAndBeliefs 80 = .ok (.invokevirtual 425, 3) := by decide +kernel
theorem dX11_mixRowsAndBeliefs_83 : decode cX11_mixRowsAndBeliefs 83 = .ok (.i2l, 1) := by decide +kernel
theorem dX11_mixRowsAndBeliefs_84 : decode cX11_mixRowsAndBeliefs 84 = .ok (.invokestatic 387, 3) := by decide +kernel
theorem dX11_mixRowsAndBeliefs_87 : decode cX11_mixRowsAndBeliefs 87 = .ok (.lstore_n 3, 1) := by decide +kernel
theorem dX11_mixRowsAndBeliefs_88 : decode cX11_mixRowsAndBeliefs 88 = .ok (.iinc 5 1, 3) := by decide +kernel
theorem dX11_mixRowsAndBeliefs_91 : decode cX11_mixRowsAndBeliefs 91 = .ok (.goto (-27), 3) := by decide +kernel
theorem dX11_mixRowsAndBeliefs_94 : decode cX11_mixRowsAndBeliefs 94 = .ok (.lload_n 3, 1) := by decide +kernel
theorem dX11_mixRowsAndBeliefs_95 : decode cX11_mixRowsAndBeliefs 95 = .ok (.lreturn, 1) := by decide +kernel
theorem dX11_mixGame_0 : decode cX11_mixGame 0 = .ok (.lload_n 1, 1) := by decide +kernel
theorem dX11_mixGame_1 : decode cX11_mixGame 1 = .ok (.lstore_n 3, 1) := by decide +kernel
theorem dX11_mixGame_2 : decode cX11_mixGame 2 = .ok (.iconst 0, 1) := by decide +kernel
theorem dX11_mixGame_3 : decode cX11_mixGame 3 = .ok (.istore 5, 2) := by decide +kernel
theorem dX11_mixGame_5 : decode cX11_mixGame 5 = .ok (.iload 5, 2) := by decide +kernel
theorem dX11_mixGame_7 : decode cX11_mixGame 7 = .ok (.iconst 5, 1) := by decide +kernel
theorem dX11_mixGame_8 : decode cX11_mixGame 8 = .ok (.if_icmp .gt 22, 3) := by decide +kernel
theorem dX11_mixGame_11 : decode cX11_mixGame 11 = .ok (.lload_n 3, 1) := by decide +kernel
theorem dX11_mixGame_12 : decode cX11_mixGame 12 = .ok (.aload_n 0, 1) := by decide +kernel
theorem dX11_mixGame_13 : decode cX11_mixGame 13 = .ok (.iconst 0, 1) := by decide +kernel
theorem dX11_mixGame_14 : decode cX11_mixGame 14 = .ok (.iload 5, 2) := by decide +kernel
theorem dX11_mixGame_16 : decode cX11_mixGame 16 = .ok (.invokevirtual 428, 3) := by decide +kernel
theorem dX11_mixGame_19 : decode cX11_mixGame 19 = .ok (.i2l, 1) := by decide +kernel
theorem dX11_mixGame_20 : decode cX11_mixGame 20 = .ok (.invokestatic 387, 3) := by decide +kernel
theorem dX11_mixGame_23 : decode cX11_mixGame 23 = .ok (.lstore_n 3, 1) := by decide +kernel
theorem dX11_mixGame_24 : decode cX11_mixGame 24 = .ok (.iinc 5 1, 3) := by decide +kernel
theorem dX11_mixGame_27 : decode cX11_mixGame 27 = .ok (.goto (-22), 3) := by decide +kernel
theorem dX11_mixGame_30 : decode cX11_mixGame 30 = .ok (.iconst 0, 1) := by decide +kernel
theorem dX11_mixGame_31 : decode cX11_mixGame 31 = .ok (.istore 5, 2) := by decide +kernel
theorem dX11_mixGame_33 : decode cX11_mixGame 33 = .ok (.iload 5, 2) := by decide +kernel
theorem dX11_mixGame_35 : decode cX11_mixGame 35 = .ok (.iconst 2, 1) := by decide +kernel
theorem dX11_mixGame_36 : decode cX11_mixGame 36 = .ok (.if_icmp .gt 22, 3) := by decide +kernel
theorem dX11_mixGame_39 : decode cX11_mixGame 39 = .ok (.lload_n 3, 1) := by decide +kernel
theorem dX11_mixGame_40 : decode cX11_mixGame 40 = .ok (.aload_n 0, 1) := by decide +kernel
theorem dX11_mixGame_41 : decode cX11_mixGame 41 = .ok (.iconst 4, 1) := by decide +kernel
theorem dX11_mixGame_42 : decode cX11_mixGame 42 = .ok (.iload 5, 2) := by decide +kernel
theorem dX11_mixGame_44 : decode cX11_mixGame 44 = .ok (.invokevirtual 428, 3) := by decide +kernel
theorem dX11_mixGame_47 : decode cX11_mixGame 47 = .ok (.i2l, 1) := by decide +kernel
theorem dX11_mixGame_48 : decode cX11_mixGame 48 = .ok (.invokestatic 387, 3) := by decide +kernel
theorem dX11_mixGame_51 : decode cX11_mixGame 51 = .ok (.lstore_n 3, 1) := by decide +kernel
theorem dX11_mixGame_52 : decode cX11_mixGame 52 = .ok (.iinc 5 1, 3) := by decide +kernel
theorem dX11_mixGame_55 : decode cX11_mixGame 55 = .ok (.goto (-22), 3) := by decide +kernel
theorem dX11_mixGame_58 : decode cX11_mixGame 58 = .ok (.lload_n 3, 1) := by decide +kernel
theorem dX11_mixGame_59 : decode cX11_mixGame 59 = .ok (.aload_n 0, 1) := by decide +kernel
theorem dX11_mixGame_60 : decode cX11_mixGame 60 = .ok (.invokevirtual 431, 3) := by decide +kernel
theorem dX11_mixGame_63 : decode cX11_mixGame 63 = .ok (.i2l, 1) := by decide +kernel
theorem dX11_mixGame_64 : decode cX11_mixGame 64 = .ok (.invokestatic 387, 3) := by decide +kernel
theorem dX11_mixGame_67 : decode cX11_mixGame 67 = .ok (.lreturn, 1) := by decide +kernel
theorem dX11_mix_0 : decode cX11_mix 0 = .ok (.ldc2_w 434, 3) := by decide +kernel
theorem dX11_mix_3 : decode cX11_mix 3 = .ok (.lload_n 0, 1) := by decide +kernel
theorem dX11_mix_4 : decode cX11_mix 4 = .ok (.lmul, 1) := by decide +kernel
theorem dX11_mix_5 : decode cX11_mix 5 = .ok (.lload_n 2, 1) := by decide +kernel
theorem dX11_mix_6 : decode cX11_mix 6 = .ok (.ladd, 1) := by decide +kernel
theorem dX11_mix_7 : decode cX11_mix 7 = .ok (.lreturn, 1) := by decide +kernel
theorem dX11_isWithin_0 : decode cX11_isWithin 0 = .ok (.iload_n 0, 1) := by decide +kernel
theorem dX11_isWithin_1 : decode cX11_isWithin 1 = .ok (.ifCond .lt 12, 3) := by decide +kernel
theorem dX11_isWithin_4 : decode cX11_isWithin 4 = .ok (.iload_n 0, 1) := by decide +kernel
theorem dX11_isWithin_5 : decode cX11_isWithin 5 = .ok (.iload_n 1, 1) := by decide +kernel
theorem dX11_isWithin_6 : decode cX11_isWithin 6 = .ok (.if_icmp .gt 7, 3) := by decide +kernel
theorem dX11_isWithin_9 : decode cX11_isWithin 9 = .ok (.iconst 1, 1) := by decide +kernel
theorem dX11_isWithin_10 : decode cX11_isWithin 10 = .ok (.goto 4, 3) := by decide +kernel
theorem dX11_isWithin_13 : decode cX11_isWithin 13 = .ok (.iconst 0, 1) := by decide +kernel
theorem dX11_isWithin_14 : decode cX11_isWithin 14 = .ok (.ireturn, 1) := by decide +kernel
theorem dX11_isPeople_0 : decode cX11_isPeople 0 = .ok (.iload_n 0, 1) := by decide +kernel
theorem dX11_isPeople_1 : decode cX11_isPeople 1 = .ok (.iconst 3, 1) := by decide +kernel
theorem dX11_isPeople_2 : decode cX11_isPeople 2 = .ok (.invokestatic 145, 3) := by decide +kernel
theorem dX11_isPeople_5 : decode cX11_isPeople 5 = .ok (.ireturn, 1) := by decide +kernel
theorem dX11_isPeopleOrAll_0 : decode cX11_isPeopleOrAll 0 = .ok (.iload_n 0, 1) := by decide +kernel
theorem dX11_isPeopleOrAll_1 : decode cX11_isPeopleOrAll 1 = .ok (.iconst (-1), 1) := by decide +kernel
theorem dX11_isPeopleOrAll_2 : decode cX11_isPeopleOrAll 2 = .ok (.if_icmp .eq 10, 3) := by decide +kernel
theorem dX11_isPeopleOrAll_5 : decode cX11_isPeopleOrAll 5 = .ok (.iload_n 0, 1) := by decide +kernel
theorem dX11_isPeopleOrAll_6 : decode cX11_isPeopleOrAll 6 = .ok (.invokestatic 89, 3) := by decide +kernel
theorem dX11_isPeopleOrAll_9 : decode cX11_isPeopleOrAll 9 = .ok (.ifCond .eq 7, 3) := by decide +kernel
theorem dX11_isPeopleOrAll_12 : decode cX11_isPeopleOrAll 12 = .ok (.iconst 1, 1) := by decide +kernel
theorem dX11_isPeopleOrAll_13 : decode cX11_isPeopleOrAll 13 = .ok (.goto 4, 3) := by decide +kernel
theorem dX11_isPeopleOrAll_16 : decode cX11_isPeopleOrAll 16 = .ok (.iconst 0, 1) := by decide +kernel
theorem dX11_isPeopleOrAll_17 : decode cX11_isPeopleOrAll 17 = .ok (.ireturn, 1) := by decide +kernel
theorem dX11_isKind_0 : decode cX11_isKind 0 = .ok (.iload_n 0, 1) := by decide +kernel
theorem dX11_isKind_1 : decode cX11_isKind 1 = .ok (.iconst 3, 1) := by decide +kernel
theorem dX11_isKind_2 : decode cX11_isKind 2 = .ok (.invokestatic 145, 3) := by decide +kernel
theorem dX11_isKind_5 : decode cX11_isKind 5 = .ok (.ireturn, 1) := by decide +kernel
theorem dX11_isOffer_0 : decode cX11_isOffer 0 = .ok (.iload_n 0, 1) := by decide +kernel
theorem dX11_isOffer_1 : decode cX11_isOffer 1 = .ok (.bipush 10, 2) := by decide +kernel
theorem dX11_isOffer_3 : decode cX11_isOffer 3 = .ok (.invokestatic 145, 3) := by decide +kernel
theorem dX11_isOffer_6 : decode cX11_isOffer 6 = .ok (.ireturn, 1) := by decide +kernel
theorem dX11_isAnswer_0 : decode cX11_isAnswer 0 = .ok (.iload_n 0, 1) := by decide +kernel
theorem dX11_isAnswer_1 : decode cX11_isAnswer 1 = .ok (.iconst 1, 1) := by decide +kernel
theorem dX11_isAnswer_2 : decode cX11_isAnswer 2 = .ok (.invokestatic 145, 3) := by decide +kernel
theorem dX11_isAnswer_5 : decode cX11_isAnswer 5 = .ok (.ireturn, 1) := by decide +kernel
theorem dX11_isTime_0 : decode cX11_isTime 0 = .ok (.iload_n 0, 1) := by decide +kernel
theorem dX11_isTime_1 : decode cX11_isTime 1 = .ok (.sipush 999, 3) := by decide +kernel
theorem dX11_isTime_4 : decode cX11_isTime 4 = .ok (.invokestatic 145, 3) := by decide +kernel
theorem dX11_isTime_7 : decode cX11_isTime 7 = .ok (.ireturn, 1) := by decide +kernel
theorem dX11_isPart_0 : decode cX11_isPart 0 = .ok (.iload_n 0, 1) := by decide +kernel
theorem dX11_isPart_1 : decode cX11_isPart 1 = .ok (.iconst 1, 1) := by decide +kernel
theorem dX11_isPart_2 : decode cX11_isPart 2 = .ok (.invokestatic 145, 3) := by decide +kernel
theorem dX11_isPart_5 : decode cX11_isPart 5 = .ok (.ireturn, 1) := by decide +kernel
theorem dX11_isSheet_0 : decode cX11_isSheet 0 = .ok (.iload_n 0, 1) := by decide +kernel
theorem dX11_isSheet_1 : decode cX11_isSheet 1 = .ok (.iconst 3, 1) := by decide +kernel
theorem dX11_isSheet_2 : decode cX11_isSheet 2 = .ok (.invokestatic 145, 3) := by decide +kernel
theorem dX11_isSheet_5 : decode cX11_isSheet 5 = .ok (.ireturn, 1) := by decide +kernel
theorem dX11_isForm_0 : decode cX11_isForm 0 = .ok (.iload_n 0, 1) := by decide +kernel
theorem dX11_isForm_1 : decode cX11_isForm 1 = .ok (.iconst 2, 1) := by decide +kernel
theorem dX11_isForm_2 : decode cX11_isForm 2 = .ok (.invokestatic 145, 3) := by decide +kernel
theorem dX11_isForm_5 : decode cX11_isForm 5 = .ok (.ireturn, 1) := by decide +kernel
theorem dX11_asLong_0 : decode cX11_asLong 0 = .ok (.ldc2_w 436, 3) := by decide +kernel
theorem dX11_asLong_3 : decode cX11_asLong 3 = .ok (.iload_n 0, 1) := by decide +kernel
theorem dX11_asLong_4 : decode cX11_asLong 4 = .ok (.i2l, 1) := by decide +kernel
theorem dX11_asLong_5 : decode cX11_asLong 5 = .ok (.lsub, 1) := by decide +kernel
theorem dX11_asLong_6 : decode cX11_asLong 6 = .ok (.lreturn, 1) := by decide +kernel
theorem dX11_fraction_0 : decode cX11_fraction 0 = .ok (.lload_n 0, 1) := by decide +kernel
theorem dX11_fraction_1 : decode cX11_fraction 1 = .ok (.invokestatic 438, 3) := by decide +kernel
theorem dX11_fraction_4 : decode cX11_fraction 4 = .ok (.lload_n 2, 1) := by decide +kernel
theorem dX11_fraction_5 : decode cX11_fraction 5 = .ok (.invokestatic 440, 3) := by decide +kernel
theorem dX11_fraction_8 : decode cX11_fraction 8 = .ok (.lstore 5, 2) := by decide +kernel
theorem dX11_fraction_10 : decode cX11_fraction 10 = .ok (.lload 5, 2) := by decide +kernel
theorem dX11_fraction_12 : decode cX11_fraction 12 = .ok (.lconst 0, 1) := by decide +kernel
theorem dX11_fraction_13 : decode cX11_fraction 13 = .ok (.lcmp, 1) := by decide +kernel
theorem dX11_fraction_14 : decode cX11_fraction 14 = .ok (.ifCond .ne 5, 3) := by decide +kernel
theorem dX11_fraction_17 : decode cX11_fraction 17 = .ok (.lconst 0, 1) := by decide +kernel
theorem dX11_fraction_18 : decode cX11_fraction 18 = .ok (.lreturn, 1) := by decide +kernel
theorem dX11_fraction_19 : decode cX11_fraction 19 = .ok (.iload 4, 2) := by decide +kernel
theorem dX11_fraction_21 : decode cX11_fraction 21 = .ok (.ifCond .ne 7, 3) := by decide +kernel
theorem dX11_fraction_24 : decode cX11_fraction 24 = .ok (.lload_n 0, 1) := by decide +kernel
theorem dX11_fraction_25 : decode cX11_fraction 25 = .ok (.goto 4, 3) := by decide +kernel
theorem dX11_fraction_28 : decode cX11_fraction 28 = .ok (.lload_n 2, 1) := by decide +kernel
theorem dX11_fraction_29 : decode cX11_fraction 29 = .ok (.lload 5, 2) := by decide +kernel
theorem dX11_fraction_31 : decode cX11_fraction 31 = .ok (.ldiv, 1) := by decide +kernel
theorem dX11_fraction_32 : decode cX11_fraction 32 = .ok (.lreturn, 1) := by decide +kernel
theorem dX11_greatestDivisor_0 : decode cX11_greatestDivisor 0 = .ok (.lload_n 0, 1) := by decide +kernel
theorem dX11_greatestDivisor_1 : decode cX11_greatestDivisor 1 = .ok (.lstore 4, 2) := by decide +kernel
theorem dX11_greatestDivisor_3 : decode cX11_greatestDivisor 3 = .ok (.lload_n 2, 1) := by decide +kernel
theorem dX11_greatestDivisor_4 : decode cX11_greatestDivisor 4 = .ok (.lstore 6, 2) := by decide +kernel
theorem dX11_greatestDivisor_6 : decode cX11_greatestDivisor 6 = .ok (.iconst 0, 1) := by decide +kernel
theorem dX11_greatestDivisor_7 : decode cX11_greatestDivisor 7 = .ok (.istore 8, 2) := by decide +kernel
theorem dX11_greatestDivisor_9 : decode cX11_greatestDivisor 9 = .ok (.iload 8, 2) := by decide +kernel
theorem dX11_greatestDivisor_11 : decode cX11_greatestDivisor 11 = .ok (.sipush 200, 3) := by decide +kernel
theorem dX11_greatestDivisor_14 : decode cX11_greatestDivisor 14 = .ok (.if_icmp .ge 31, 3) := by decide +kernel
theorem dX11_greatestDivisor_17 : decode cX11_greatestDivisor 17 = .ok (.lload 6, 2) := by decide +kernel
theorem dX11_greatestDivisor_19 : decode cX11_greatestDivisor 19 = .ok (.lconst 0, 1) := by decide +kernel
theorem dX11_greatestDivisor_20 : decode cX11_greatestDivisor 20 = .ok (.lcmp, 1) := by decide +kernel
theorem dX11_greatestDivisor_21 : decode cX11_greatestDivisor 21 = .ok (.ifCond .eq 24, 3) := by decide +kernel
theorem dX11_greatestDivisor_24 : decode cX11_greatestDivisor 24 = .ok (.lload 4, 2) := by decide +kernel
theorem dX11_greatestDivisor_26 : decode cX11_greatestDivisor 26 = .ok (.lload 6, 2) := by decide +kernel
theorem dX11_greatestDivisor_28 : decode cX11_greatestDivisor 28 = .ok (.lrem, 1) := by decide +kernel
theorem dX11_greatestDivisor_29 : decode cX11_greatestDivisor 29 = .ok (.lstore 9, 2) := by decide +kernel
theorem dX11_greatestDivisor_31 : decode cX11_greatestDivisor 31 = .ok (.lload 6, 2) := by decide +kernel
theorem dX11_greatestDivisor_33 : decode cX11_greatestDivisor 33 = .ok (.lstore 4, 2) := by decide +kernel
theorem dX11_greatestDivisor_35 : decode cX11_greatestDivisor 35 = .ok (.lload 9, 2) := by decide +kernel
theorem dX11_greatestDivisor_37 : decode cX11_greatestDivisor 37 = .ok (.lstore 6, 2) := by decide +kernel
theorem dX11_greatestDivisor_39 : decode cX11_greatestDivisor 39 = .ok (.iinc 8 1, 3) := by decide +kernel
theorem dX11_greatestDivisor_42 : decode cX11_greatestDivisor 42 = .ok (.goto (-33), 3) := by decide +kernel
theorem dX11_greatestDivisor_45 : decode cX11_greatestDivisor 45 = .ok (.lload 4, 2) := by decide +kernel
theorem dX11_greatestDivisor_47 : decode cX11_greatestDivisor 47 = .ok (.lreturn, 1) := by decide +kernel
theorem dX11_millionths_0 : decode cX11_millionths 0 = .ok (.iload_n 1, 1) := by decide +kernel
theorem dX11_millionths_1 : decode cX11_millionths 1 = .ok (.ifCond .ne 5, 3) := by decide +kernel
theorem dX11_millionths_4 : decode cX11_millionths 4 = .ok (.iconst 0, 1) := by decide +kernel
theorem dX11_millionths_5 : decode cX11_millionths 5 = .ok (.ireturn, 1) := by decide +kernel
theorem dX11_millionths_6 : decode cX11_millionths 6 = .ok (.ldc2_w 443, 3) := by decide +kernel
theorem dX11_millionths_9 : decode cX11_millionths 9 = .ok (.iload_n 0, 1) := by decide +kernel
theorem dX11_millionths_10 : decode cX11_millionths 10 = .ok (.i2l, 1) := by decide +kernel
theorem dX11_millionths_11 : decode cX11_millionths 11 = .ok (.lmul, 1) := by decide +kernel
theorem dX11_millionths_12 : decode cX11_millionths 12 = .ok (.iload_n 1, 1) := by decide +kernel
theorem dX11_millionths_13 : decode cX11_millionths 13 = .ok (.i2l, 1) := by decide +kernel
theorem dX11_millionths_14 : decode cX11_millionths 14 = .ok (.ldiv, 1) := by decide +kernel
theorem dX11_millionths_15 : decode cX11_millionths 15 = .ok (.l2i, 1) := by decide +kernel
theorem dX11_millionths_16 : decode cX11_millionths 16 = .ok (.ireturn, 1) := by decide +kernel
theorem dX11_firstGreatest_0 : decode cX11_firstGreatest 0 = .ok (.iconst 0, 1) := by decide +kernel
theorem dX11_firstGreatest_1 : decode cX11_firstGreatest 1 = .ok (.istore_n 1, 1) := by decide +kernel
theorem dX11_firstGreatest_2 : decode cX11_firstGreatest 2 = .ok (.iconst 1, 1) := by decide +kernel
theorem dX11_firstGreatest_3 : decode cX11_firstGreatest 3 = .ok (.istore_n 2, 1) := by decide +kernel
theorem dX11_firstGreatest_4 : decode cX11_firstGreatest 4 = .ok (.iload_n 2, 1) := by decide +kernel
theorem dX11_firstGreatest_5 : decode cX11_firstGreatest 5 = .ok (.aload_n 0, 1) := by decide +kernel
theorem dX11_firstGreatest_6 : decode cX11_firstGreatest 6 = .ok (.arraylength, 1) := by decide +kernel
theorem dX11_firstGreatest_7 : decode cX11_firstGreatest 7 = .ok (.if_icmp .ge 20, 3) := by decide +kernel
theorem dX11_firstGreatest_10 : decode cX11_firstGreatest 10 = .ok (.aload_n 0, 1) := by decide +kernel
theorem dX11_firstGreatest_11 : decode cX11_firstGreatest 11 = .ok (.iload_n 2, 1) := by decide +kernel
theorem dX11_firstGreatest_12 : decode cX11_firstGreatest 12 = .ok (.iaload, 1) := by decide +kernel
theorem dX11_firstGreatest_13 : decode cX11_firstGreatest 13 = .ok (.aload_n 0, 1) := by decide +kernel
theorem dX11_firstGreatest_14 : decode cX11_firstGreatest 14 = .ok (.iload_n 1, 1) := by decide +kernel
theorem dX11_firstGreatest_15 : decode cX11_firstGreatest 15 = .ok (.iaload, 1) := by decide +kernel
theorem dX11_firstGreatest_16 : decode cX11_firstGreatest 16 = .ok (.if_icmp .le 5, 3) := by decide +kernel
theorem dX11_firstGreatest_19 : decode cX11_firstGreatest 19 = .ok (.iload_n 2, 1) := by decide +kernel
theorem dX11_firstGreatest_20 : decode cX11_firstGreatest 20 = .ok (.istore_n 1, 1) := by decide +kernel
theorem dX11_firstGreatest_21 : decode cX11_firstGreatest 21 = .ok (.iinc 2 1, 3) := by decide +kernel
theorem dX11_firstGreatest_24 : decode cX11_firstGreatest 24 = .ok (.goto (-20), 3) := by decide +kernel
theorem dX11_firstGreatest_27 : decode cX11_firstGreatest 27 = .ok (.iload_n 1, 1) := by decide +kernel
theorem dX11_firstGreatest_28 : decode cX11_firstGreatest 28 = .ok (.ireturn, 1) := by decide +kernel
end
section
theorem dX12_init_0 : decode cX12_init 0 = .ok (.aload_n 0, 1) := by decide +kernel
theorem dX12_init_1 : decode cX12_init 1 = .ok (.invokespecial 1, 3) := by decide +kernel
theorem dX12_init_4 : decode cX12_init 4 = .ok (.aload_n 0, 1) := by decide +kernel
theorem dX12_init_5 : decode cX12_init 5 = .ok (.bipush 60, 2) := by decide +kernel
theorem dX12_init_7 : decode cX12_init 7 = .ok (.newarray .int, 2) := by decide +kernel
theorem dX12_init_9 : decode cX12_init 9 = .ok (.putfield 7, 3) := by decide +kernel
theorem dX12_init_12 : decode cX12_init 12 = .ok (.aload_n 0, 1) := by decide +kernel
theorem dX12_init_13 : decode cX12_init 13 = .ok (.bipush 60, 2) := by decide +kernel
theorem dX12_init_15 : decode cX12_init 15 = .ok (.newarray .int, 2) := by decide +kernel
theorem dX12_init_17 : decode cX12_init 17 = .ok (.putfield 13, 3) := by decide +kernel
theorem dX12_init_20 : decode cX12_init 20 = .ok (.aload_n 0, 1) := by decide +kernel
theorem dX12_init_21 : decode cX12_init 21 = .ok (.bipush 60, 2) := by decide +kernel
theorem dX12_init_23 : decode cX12_init 23 = .ok (.newarray .int, 2) := by decide +kernel
theorem dX12_init_25 : decode cX12_init 25 = .ok (.putfield 16, 3) := by decide +kernel
theorem dX12_init_28 : decode cX12_init 28 = .ok (.aload_n 0, 1) := by decide +kernel
theorem dX12_init_29 : decode cX12_init 29 = .ok (.bipush 60, 2) := by decide +kernel
theorem dX12_init_31 : decode cX12_init 31 = .ok (.newarray .int, 2) := by decide +kernel
theorem dX12_init_33 : decode cX12_init 33 = .ok (.putfield 19, 3) := by decide +kernel
theorem dX12_init_36 : decode cX12_init 36 = .ok (.aload_n 0, 1) := by decide +kernel
theorem dX12_init_37 : decode cX12_init 37 = .ok (.bipush 60, 2) := by decide +kernel
theorem dX12_init_39 : decode cX12_init 39 = .ok (.newarray .int, 2) := by decide +kernel
theorem dX12_init_41 : decode cX12_init 41 = .ok (.putfield 22, 3) := by decide +kernel
theorem dX12_init_44 : decode cX12_init 44 = .ok (.aload_n 0, 1) := by decide +kernel
theorem dX12_init_45 : decode cX12_init 45 = .ok (.bipush 60, 2) := by decide +kernel
theorem dX12_init_47 : decode cX12_init 47 = .ok (.newarray .int, 2) := by decide +kernel
theorem dX12_init_49 : decode cX12_init 49 = .ok (.putfield 25, 3) := by decide +kernel
theorem dX12_init_52 : decode cX12_init 52 = .ok (.aload_n 0, 1) := by decide +kernel
theorem dX12_init_53 : decode cX12_init 53 = .ok (.sipush 999, 3) := by decide +kernel
theorem dX12_init_56 : decode cX12_init 56 = .ok (.putfield 28, 3) := by decide +kernel
theorem dX12_init_59 : decode cX12_init 59 = .ok (.aload_n 0, 1) := by decide +kernel
theorem dX12_init_60 : decode cX12_init 60 = .ok (.bipush 12, 2) := by decide +kernel
theorem dX12_init_62 : decode cX12_init 62 = .ok (.newarray .int, 2) := by decide +kernel
theorem dX12_init_64 : decode cX12_init 64 = .ok (.putfield 32, 3) := by decide +kernel
theorem dX12_init_67 : decode cX12_init 67 = .ok (.aload_n 0, 1) := by decide +kernel
theorem dX12_init_68 : decode cX12_init 68 = .ok (.bipush 12, 2) := by decide +kernel
theorem dX12_init_70 : decode cX12_init 70 = .ok (.newarray .int, 2) := by decide +kernel
theorem dX12_init_72 : decode cX12_init 72 = .ok (.putfield 35, 3) := by decide +kernel
theorem dX12_init_75 : decode cX12_init 75 = .ok (.aload_n 0, 1) := by decide +kernel
theorem dX12_init_76 : decode cX12_init 76 = .ok (.bipush 8, 2) := by decide +kernel
theorem dX12_init_78 : decode cX12_init 78 = .ok (.newarray .int, 2) := by decide +kernel
theorem dX12_init_80 : decode cX12_init 80 = .ok (.putfield 38, 3) := by decide +kernel
theorem dX12_init_83 : decode cX12_init 83 = .ok (.aload_n 0, 1) := by decide +kernel
theorem dX12_init_84 : decode cX12_init 84 = .ok (.bipush 88, 2) := by decide +kernel
theorem dX12_init_86 : decode cX12_init 86 = .ok (.newarray .int, 2) := by decide +kernel
theorem dX12_init_88 : decode cX12_init 88 = .ok (.putfield 41, 3) := by decide +kernel
theorem dX12_init_91 : decode cX12_init 91 = .ok (.aload_n 0, 1) := by decide +kernel
theorem dX12_init_92 : decode cX12_init 92 = .ok (.bipush 60, 2) := by decide +kernel
theorem dX12_init_94 : decode cX12_init 94 = .ok (.newarray .int, 2) := by decide +kernel
theorem dX12_init_96 : decode cX12_init 96 = .ok (.putfield 44, 3) := by decide +kernel
theorem dX12_init_99 : decode cX12_init 99 = .ok (.aload_n 0, 1) := by decide +kernel
theorem dX12_init_100 : decode cX12_init 100 = .ok (.bipush 60, 2) := by decide +kernel
theorem dX12_init_102 : decode cX12_init 102 = .ok (.newarray .int, 2) := by decide +kernel
theorem dX12_init_104 : decode cX12_init 104 = .ok (.putfield 47, 3) := by decide +kernel
theorem dX12_init_107 : decode cX12_init 107 = .ok (.aload_n 0, 1) := by decide +kernel
theorem dX12_init_108 : decode cX12_init 108 = .ok (.bipush 60, 2) := by decide +kernel
theorem dX12_init_110 : decode cX12_init 110 = .ok (.newarray .int, 2) := by decide +kernel
theorem dX12_init_112 : decode cX12_init 112 = .ok (.putfield 50, 3) := by decide +kernel
theorem dX12_init_115 : decode cX12_init 115 = .ok (.aload_n 0, 1) := by decide +kernel
theorem dX12_init_116 : decode cX12_init 116 = .ok (.bipush 60, 2) := by decide +kernel
theorem dX12_init_118 : decode cX12_init 118 = .ok (.newarray .int, 2) := by decide +kernel
theorem dX12_init_120 : decode cX12_init 120 = .ok (.putfield 53, 3) := by decide +kernel
theorem dX12_init_123 : decode cX12_init 123 = .ok (.aload_n 0, 1) := by decide +kernel
theorem dX12_init_124 : decode cX12_init 124 = .ok (.bipush 60, 2) := by decide +kernel
theorem dX12_init_126 : decode cX12_init 126 = .ok (.newarray .int, 2) := by decide +kernel
theorem dX12_init_128 : decode cX12_init 128 = .ok (.putfield 56, 3) := by decide +kernel
theorem dX12_init_131 : decode cX12_init 131 = .ok (.aload_n 0, 1) := by decide +kernel
theorem dX12_init_132 : decode cX12_init 132 = .ok (.bipush 60, 2) := by decide +kernel
theorem dX12_init_134 : decode cX12_init 134 = .ok (.newarray .int, 2) := by decide +kernel
theorem dX12_init_136 : decode cX12_init 136 = .ok (.putfield 59, 3) := by decide +kernel
theorem dX12_init_139 : decode cX12_init 139 = .ok (.aload_n 0, 1) := by decide +kernel
theorem dX12_init_140 : decode cX12_init 140 = .ok (.bipush 60, 2) := by decide +kernel
theorem dX12_init_142 : decode cX12_init 142 = .ok (.newarray .int, 2) := by decide +kernel
theorem dX12_init_144 : decode cX12_init 144 = .ok (.putfield 62, 3) := by decide +kernel
theorem dX12_init_147 : decode cX12_init 147 = .ok (.aload_n 0, 1) := by decide +kernel
theorem dX12_init_148 : decode cX12_init 148 = .ok (.sipush 180, 3) := by decide +kernel
theorem dX12_init_151 : decode cX12_init 151 = .ok (.newarray .int, 2) := by decide +kernel
theorem dX12_init_153 : decode cX12_init 153 = .ok (.putfield 65, 3) := by decide +kernel
theorem dX12_init_156 : decode cX12_init 156 = .ok (.aload_n 0, 1) := by decide +kernel
theorem dX12_init_157 : decode cX12_init 157 = .ok (.bipush 14, 2) := by decide +kernel
theorem dX12_init_159 : decode cX12_init 159 = .ok (.newarray .int, 2) := by decide +kernel
theorem dX12_init_161 : decode cX12_init 161 = .ok (.putfield 68, 3) := by decide +kernel
theorem dX12_init_164 : decode cX12_init 164 = .ok (.aload_n 0, 1) := by decide +kernel
theorem dX12_init_165 : decode cX12_init 165 = .ok (.bipush 24, 2) := by decide +kernel
theorem dX12_init_167 : decode cX12_init 167 = .ok (.newarray .int, 2) := by decide +kernel
theorem dX12_init_169 : decode cX12_init 169 = .ok (.putfield 71, 3) := by decide +kernel
theorem dX12_init_172 : decode cX12_init 172 = .ok (.aload_n 0, 1) := by decide +kernel
theorem dX12_init_173 : decode cX12_init 173 = .ok (.iconst 4, 1) := by decide +kernel
theorem dX12_init_174 : decode cX12_init 174 = .ok (.newarray .int, 2) := by decide +kernel
theorem dX12_init_176 : decode cX12_init 176 = .ok (.putfield 74, 3) := by decide +kernel
theorem dX12_init_179 : decode cX12_init 179 = .ok (.aload_n 0, 1) := by decide +kernel
theorem dX12_init_180 : decode cX12_init 180 = .ok (.iconst 4, 1) := by decide +kernel
theorem dX12_init_181 : decode cX12_init 181 = .ok (.newarray .int, 2) := by decide +kernel
theorem dX12_init_183 : decode cX12_init 183 = .ok (.putfield 77, 3) := by decide +kernel
theorem dX12_init_186 : decode cX12_init 186 = .ok (.aload_n 0, 1) := by decide +kernel
theorem dX12_init_187 : decode cX12_init 187 = .ok (.bipush 9, 2) := by decide +kernel
theorem dX12_init_189 : decode cX12_init 189 = .ok (.newarray .int, 2) := by decide +kernel
theorem dX12_init_191 : decode cX12_init 191 = .ok (.putfield 80, 3) := by decide +kernel
theorem dX12_init_194 : decode cX12_init 194 = .ok (.aload_n 0, 1) := by decide +kernel
theorem dX12_init_195 : decode cX12_init 195 = .ok (.bipush 24, 2) := by decide +kernel
theorem dX12_init_197 : decode cX12_init 197 = .ok (.newarray .int, 2) := by decide +kernel
theorem dX12_init_199 : decode cX12_init 199 = .ok (.putfield 83, 3) := by decide +kernel
theorem dX12_init_202 : decode cX12_init 202 = .ok (.aload_n 0, 1) := by decide +kernel
theorem dX12_init_203 : decode cX12_init 203 = .ok (.bipush 24, 2) := by decide +kernel
theorem dX12_init_205 : decode cX12_init 205 = .ok (.newarray .int, 2) := by decide +kernel
theorem dX12_init_207 : decode cX12_init 207 = .ok (.putfield 86, 3) := by decide +kernel
theorem dX12_init_210 : decode cX12_init 210 = .ok (.aload_n 0, 1) := by decide +kernel
theorem dX12_init_211 : decode cX12_init 211 = .ok (.iconst 4, 1) := by decide +kernel
theorem dX12_init_212 : decode cX12_init 212 = .ok (.newarray .boolean, 2) := by decide +kernel
theorem dX12_init_214 : decode cX12_init 214 = .ok (.putfield 89, 3) := by decide +kernel
theorem dX12_init_217 : decode cX12_init 217 = .ok (.aload_n 0, 1) := by decide +kernel
theorem dX12_init_218 : decode cX12_init 218 = .ok (.iconst 4, 1) := by decide +kernel
theorem dX12_init_219 : decode cX12_init 219 = .ok (.newarray .int, 2) := by decide +kernel
theorem dX12_init_221 : decode cX12_init 221 = .ok (.putfield 93, 3) := by decide +kernel
theorem dX12_init_224 : decode cX12_init 224 = .ok (.aload_n 0, 1) := by decide +kernel
theorem dX12_init_225 : decode cX12_init 225 = .ok (.iconst 4, 1) := by decide +kernel
theorem dX12_init_226 : decode cX12_init 226 = .ok (.newarray .int, 2) := by decide +kernel
theorem dX12_init_228 : decode cX12_init 228 = .ok (.putfield 96, 3) := by decide +kernel
theorem dX12_init_231 : decode cX12_init 231 = .ok (.aload_n 0, 1) := by decide +kernel
theorem dX12_init_232 : decode cX12_init 232 = .ok (.sipush 192, 3) := by decide +kernel
theorem dX12_init_235 : decode cX12_init 235 = .ok (.newarray .int, 2) := by decide +kernel
theorem dX12_init_237 : decode cX12_init 237 = .ok (.putfield 99, 3) := by decide +kernel
theorem dX12_init_240 : decode cX12_init 240 = .ok (.aload_n 0, 1) := by decide +kernel
theorem dX12_init_241 : decode cX12_init 241 = .ok (.bipush 48, 2) := by decide +kernel
theorem dX12_init_243 : decode cX12_init 243 = .ok (.newarray .int, 2) := by decide +kernel
theorem dX12_init_245 : decode cX12_init 245 = .ok (.putfield 102, 3) := by decide +kernel
theorem dX12_init_248 : decode cX12_init 248 = .ok (.iconst 0, 1) := by decide +kernel
theorem dX12_init_249 : decode cX12_init 249 = .ok (.istore_n 1, 1) := by decide +kernel
theorem dX12_init_250 : decode cX12_init 250 = .ok (.iload_n 1, 1) := by decide +kernel
theorem dX12_init_251 : decode cX12_init 251 = .ok (.bipush 9, 2) := by decide +kernel
theorem dX12_init_253 : decode cX12_init 253 = .ok (.if_icmp .ge 17, 3) := by decide +kernel
theorem dX12_init_256 : decode cX12_init 256 = .ok (.aload_n 0, 1) := by decide +kernel
theorem dX12_init_257 : decode cX12_init 257 = .ok (.getfield 80, 3) := by decide +kernel
theorem dX12_init_260 : decode cX12_init 260 = .ok (.iload_n 1, 1) := by decide +kernel
theorem dX12_init_261 : decode cX12_init 261 = .ok (.bipush 8, 2) := by decide +kernel
theorem dX12_init_263 : decode cX12_init 263 = .ok (.iastore, 1) := by decide +kernel
theorem dX12_init_264 : decode cX12_init 264 = .ok (.iinc 1 1, 3) := by decide +kernel
theorem dX12_init_267 : decode cX12_init 267 = .ok (.goto (-17), 3) := by decide +kernel
theorem dX12_init_270 : decode cX12_init 270 = .ok (.return_, 1) := by decide +kernel
theorem dX12_in_0 : decode cX12_in 0 = .ok (.iload_n 0, 1) := by decide +kernel
theorem dX12_in_1 : decode cX12_in 1 = .ok (.iload_n 1, 1) := by decide +kernel
theorem dX12_in_2 : decode cX12_in 2 = .ok (.if_icmp .lt 12, 3) := by decide +kernel
theorem dX12_in_5 : decode cX12_in 5 = .ok (.iload_n 0, 1) := by decide +kernel
theorem dX12_in_6 : decode cX12_in 6 = .ok (.iload_n 2, 1) := by decide +kernel
theorem dX12_in_7 : decode cX12_in 7 = .ok (.if_icmp .gt 7, 3) := by decide +kernel
theorem dX12_in_10 : decode cX12_in 10 = .ok (.iconst 1, 1) := by decide +kernel
theorem dX12_in_11 : decode cX12_in 11 = .ok (.goto 4, 3) := by decide +kernel
theorem dX12_in_14 : decode cX12_in 14 = .ok (.iconst 0, 1) := by decide +kernel
theorem dX12_in_15 : decode cX12_in 15 = .ok (.ireturn, 1) := by decide +kernel
theorem dX12_amount_0 : decode cX12_amount 0 = .ok (.iload_n 0, 1) := by decide +kernel
theorem dX12_amount_1 : decode cX12_amount 1 = .ok (.ifCond .ge 8, 3) := by decide +kernel
theorem dX12_amount_4 : decode cX12_amount 4 = .ok (.iload_n 0, 1) := by decide +kernel
theorem dX12_amount_5 : decode cX12_amount 5 = .ok (.ineg, 1) := by decide +kernel
theorem dX12_amount_6 : decode cX12_amount 6 = .ok (.goto 4, 3) := by decide +kernel
theorem dX12_amount_9 : decode cX12_amount 9 = .ok (.iload_n 0, 1) := by decide +kernel
theorem dX12_amount_10 : decode cX12_amount 10 = .ok (.ireturn, 1) := by decide +kernel
theorem dX12_ones_0 : decode cX12_ones 0 = .ok (.iconst 0, 1) := by decide +kernel
theorem dX12_ones_1 : decode cX12_ones 1 = .ok (.istore_n 1, 1) := by decide +kernel
theorem dX12_ones_2 : decode cX12_ones 2 = .ok (.iconst 0, 1) := by decide +kernel
theorem dX12_ones_3 : decode cX12_ones 3 = .ok (.istore_n 2, 1) := by decide +kernel
theorem dX12_ones_4 : decode cX12_ones 4 = .ok (.iload_n 2, 1) := by decide +kernel
theorem dX12_ones_5 : decode cX12_ones 5 = .ok (.bipush 14, 2) := by decide +kernel
theorem dX12_ones_7 : decode cX12_ones 7 = .ok (.if_icmp .ge 17, 3) := by decide +kernel
theorem dX12_ones_10 : decode cX12_ones 10 = .ok (.iload_n 1, 1) := by decide +kernel
theorem dX12_ones_11 : decode cX12_ones 11 = .ok (.iload_n 0, 1) := by decide +kernel
theorem dX12_ones_12 : decode cX12_ones 12 = .ok (.iload_n 2, 1) := by decide +kernel
theorem dX12_ones_13 : decode cX12_ones 13 = .ok (.ishr, 1) := by decide +kernel
theorem dX12_ones_14 : decode cX12_ones 14 = .ok (.iconst 1, 1) := by decide +kernel
theorem dX12_ones_15 : decode cX12_ones 15 = .ok (.iand, 1) := by decide +kernel
theorem dX12_ones_16 : decode cX12_ones 16 = .ok (.iadd, 1) := by decide +kernel
theorem dX12_ones_17 : decode cX12_ones 17 = .ok (.istore_n 1, 1) := by decide +kernel
theorem dX12_ones_18 : decode cX12_ones 18 = .ok (.iinc 2 1, 3) := by decide +kernel
theorem dX12_ones_21 : decode cX12_ones 21 = .ok (.goto (-17), 3) := by decide +kernel
theorem dX12_ones_24 : decode cX12_ones 24 = .ok (.iload_n 1, 1) := by decide +kernel
theorem dX12_ones_25 : decode cX12_ones 25 = .ok (.ireturn, 1) := by decide +kernel
theorem dX12_has_0 : decode cX12_has 0 = .ok (.iload_n 0, 1) := by decide +kernel
theorem dX12_has_1 : decode cX12_has 1 = .ok (.iload_n 1, 1) := by decide +kernel
theorem dX12_has_2 : decode cX12_has 2 = .ok (.ishr, 1) := by decide +kernel
theorem dX12_has_3 : decode cX12_has 3 = .ok (.iconst 1, 1) := by decide +kernel
theorem dX12_has_4 : decode cX12_has 4 = .ok (.iand, 1) := by decide +kernel
theorem dX12_has_5 : decode cX12_has 5 = .ok (.iconst 1, 1) := by decide +kernel
theorem dX12_has_6 : decode cX12_has 6 = .ok (.if_icmp .ne 7, 3) := by decide +kernel
theorem dX12_has_9 : decode cX12_has 9 = .ok (.iconst 1, 1) := by decide +kernel
theorem dX12_has_10 : decode cX12_has 10 = .ok (.goto 4, 3) := by decide +kernel
theorem dX12_has_13 : decode cX12_has 13 = .ok (.iconst 0, 1) := by decide +kernel
theorem dX12_has_14 : decode cX12_has 14 = .ok (.ireturn, 1) := by decide +kernel
theorem dX12_no_0 : decode cX12_no 0 = .ok (.ldc2_w 105, 3) := by decide +kernel
theorem dX12_no_3 : decode cX12_no 3 = .ok (.iload_n 0, 1) := by decide +kernel
theorem dX12_no_4 : decode cX12_no 4 = .ok (.i2l, 1) := by decide +kernel
theorem dX12_no_5 : decode cX12_no 5 = .ok (.lsub, 1) := by decide +kernel
theorem dX12_no_6 : decode cX12_no 6 = .ok (.lreturn, 1) := by decide +kernel
theorem dX12_lowest_0 : decode cX12_lowest 0 = .ok (.lload_n 0, 1) := by decide +kernel
theorem dX12_lowest_1 : decode cX12_lowest 1 = .ok (.lconst 0, 1) := by decide +kernel
theorem dX12_lowest_2 : decode cX12_lowest 2 = .ok (.lcmp, 1) := by decide +kernel
theorem dX12_lowest_3 : decode cX12_lowest 3 = .ok (.ifCond .ge 8, 3) := by decide +kernel
theorem dX12_lowest_6 : decode cX12_lowest 6 = .ok (.lload_n 0, 1) := by decide +kernel
theorem dX12_lowest_7 : decode cX12_lowest 7 = .ok (.lneg, 1) := by decide +kernel
theorem dX12_lowest_8 : decode cX12_lowest 8 = .ok (.goto 4, 3) := by decide +kernel
theorem dX12_lowest_11 : decode cX12_lowest 11 = .ok (.lload_n 0, 1) := by decide +kernel
theorem dX12_lowest_12 : decode cX12_lowest 12 = .ok (.lstore 5, 2) := by decide +kernel
theorem dX12_lowest_14 : decode cX12_lowest 14 = .ok (.lload_n 2, 1) := by decide +kernel
theorem dX12_lowest_15 : decode cX12_lowest 15 = .ok (.lstore 7, 2) := by decide +kernel
theorem dX12_lowest_17 : decode cX12_lowest 17 = .ok (.lload 7, 2) := by decide +kernel
theorem dX12_lowest_19 : decode cX12_lowest 19 = .ok (.lconst 0, 1) := by decide +kernel
theorem dX12_lowest_20 : decode cX12_lowest 20 = .ok (.lcmp, 1) := by decide +kernel
theorem dX12_lowest_21 : decode cX12_lowest 21 = .ok (.ifCond .eq 21, 3) := by decide +kernel
theorem dX12_lowest_24 : decode cX12_lowest 24 = .ok (.lload 5, 2) := by decide +kernel
theorem dX12_lowest_26 : decode cX12_lowest 26 = .ok (.lload 7, 2) := by decide +kernel
theorem dX12_lowest_28 : decode cX12_lowest 28 = .ok (.lrem, 1) := by decide +kernel
theorem dX12_lowest_29 : decode cX12_lowest 29 = .ok (.lstore 9, 2) := by decide +kernel
theorem dX12_lowest_31 : decode cX12_lowest 31 = .ok (.lload 7, 2) := by decide +kernel
theorem dX12_lowest_33 : decode cX12_lowest 33 = .ok (.lstore 5, 2) := by decide +kernel
theorem dX12_lowest_35 : decode cX12_lowest 35 = .ok (.lload 9, 2) := by decide +kernel
theorem dX12_lowest_37 : decode cX12_lowest 37 = .ok (.lstore 7, 2) := by decide +kernel
theorem dX12_lowest_39 : decode cX12_lowest 39 = .ok (.goto (-22), 3) := by decide +kernel
theorem dX12_lowest_42 : decode cX12_lowest 42 = .ok (.iload 4, 2) := by decide +kernel
theorem dX12_lowest_44 : decode cX12_lowest 44 = .ok (.ifCond .ne 10, 3) := by decide +kernel
theorem dX12_lowest_47 : decode cX12_lowest 47 = .ok (.lload_n 0, 1) := by decide +kernel
theorem dX12_lowest_48 : decode cX12_lowest 48 = .ok (.lload 5, 2) := by decide +kernel
theorem dX12_lowest_50 : decode cX12_lowest 50 = .ok (.ldiv, 1) := by decide +kernel
theorem dX12_lowest_51 : decode cX12_lowest 51 = .ok (.goto 7, 3) := by decide +kernel
theorem dX12_lowest_54 : decode cX12_lowest 54 = .ok (.lload_n 2, 1) := by decide +kernel
theorem dX12_lowest_55 : decode cX12_lowest 55 = .ok (.lload 5, 2) := by decide +kernel
theorem dX12_lowest_57 : decode cX12_lowest 57 = .ok (.ldiv, 1) := by decide +kernel
theorem dX12_lowest_58 : decode cX12_lowest 58 = .ok (.lreturn, 1) := by decide +kernel
theorem dX12_isPeople_0 : decode cX12_isPeople 0 = .ok (.iload_n 0, 1) := by decide +kernel
theorem dX12_isPeople_1 : decode cX12_isPeople 1 = .ok (.iconst 0, 1) := by decide +kernel
theorem dX12_isPeople_2 : decode cX12_isPeople 2 = .ok (.iconst 3, 1) := by decide +kernel
theorem dX12_isPeople_3 : decode cX12_isPeople 3 = .ok (.invokestatic 107, 3) := by decide +kernel
theorem dX12_isPeople_6 : decode cX12_isPeople 6 = .ok (.ireturn, 1) := by decide +kernel
theorem dX12_isAny_0 : decode cX12_isAny 0 = .ok (.iload_n 0, 1) := by decide +kernel
theorem dX12_isAny_1 : decode cX12_isAny 1 = .ok (.iconst (-1), 1) := by decide +kernel
theorem dX12_isAny_2 : decode cX12_isAny 2 = .ok (.iconst 3, 1) := by decide +kernel
theorem dX12_isAny_3 : decode cX12_isAny 3 = .ok (.invokestatic 107, 3) := by decide +kernel
theorem dX12_isAny_6 : decode cX12_isAny 6 = .ok (.ireturn, 1) := by decide +kernel
theorem dX12_isKind_0 : decode cX12_isKind 0 = .ok (.iload_n 0, 1) := by decide +kernel
theorem dX12_isKind_1 : decode cX12_isKind 1 = .ok (.iconst 0, 1) := by decide +kernel
theorem dX12_isKind_2 : decode cX12_isKind 2 = .ok (.iconst 3, 1) := by decide +kernel
theorem dX12_isKind_3 : decode cX12_isKind 3 = .ok (.invokestatic 107, 3) := by decide +kernel
theorem dX12_isKind_6 : decode cX12_isKind 6 = .ok (.ireturn, 1) := by decide +kernel
theorem dX12_isOffer_0 : decode cX12_isOffer 0 = .ok (.iload_n 0, 1) := by decide +kernel
theorem dX12_isOffer_1 : decode cX12_isOffer 1 = .ok (.iconst 0, 1) := by decide +kernel
theorem dX12_isOffer_2 : decode cX12_isOffer 2 = .ok (.bipush 10, 2) := by decide +kernel
theorem dX12_isOffer_4 : decode cX12_isOffer 4 = .ok (.invokestatic 107, 3) := by decide +kernel
theorem dX12_isOffer_7 : decode cX12_isOffer 7 = .ok (.ireturn, 1) := by decide +kernel
theorem dX12_pairMore_0 : decode cX12_pairMore 0 = .ok (.iload_n 1, 1) := by decide +kernel
theorem dX12_pairMore_1 : decode cX12_pairMore 1 = .ok (.invokestatic 111, 3) := by decide +kernel
theorem dX12_pairMore_4 : decode cX12_pairMore 4 = .ok (.ifCond .eq 51, 3) := by decide +kernel
theorem dX12_pairMore_7 : decode cX12_pairMore 7 = .ok (.iload_n 2, 1) := by decide +kernel
theorem dX12_pairMore_8 : decode cX12_pairMore 8 = .ok (.invokestatic 115, 3) := by decide +kernel
theorem dX12_pairMore_11 : decode cX12_pairMore 11 = .ok (.ifCond .eq 44, 3) := by decide +kernel
theorem dX12_pairMore_14 : decode cX12_pairMore 14 = .ok (.iload_n 3, 1) := by decide +kernel
theorem dX12_pairMore_15 : decode cX12_pairMore 15 = .ok (.invokestatic 118, 3) := by decide +kernel
theorem dX12_pairMore_18 : decode cX12_pairMore 18 = .ok (.ifCond .eq 37, 3) := by decide +kernel
theorem dX12_pairMore_21 : decode cX12_pairMore 21 = .ok (.iload 4, 2) := by decide +kernel
theorem dX12_pairMore_23 : decode cX12_pairMore 23 = .ok (.iload_n 2, 1) := by decide +kernel
theorem dX12_pairMore_24 : decode cX12_pairMore 24 = .ok (.iconst 1, 1) := by decide +kernel
theorem dX12_pairMore_25 : decode cX12_pairMore 25 = .ok (.if_icmp .ne 7, 3) := by decide +kernel
theorem dX12_pairMore_28 : decode cX12_pairMore 28 = .ok (.iconst 1, 1) := by decide +kernel
theorem dX12_pairMore_29 : decode cX12_pairMore 29 = .ok (.goto 4, 3) := by decide +kernel
theorem dX12_pairMore_32 : decode cX12_pairMore 32 = .ok (.iconst 0, 1) := by decide +kernel
theorem dX12_pairMore_33 : decode cX12_pairMore 33 = .ok (.iconst 1, 1) := by decide +kernel
theorem dX12_pairMore_34 : decode cX12_pairMore 34 = .ok (.invokestatic 107, 3) := by decide +kernel
theorem dX12_pairMore_37 : decode cX12_pairMore 37 = .ok (.ifCond .eq 18, 3) := by decide +kernel
theorem dX12_pairMore_40 : decode cX12_pairMore 40 = .ok (.iload 5, 2) := by decide +kernel
theorem dX12_pairMore_42 : decode cX12_pairMore 42 = .ok (.aload_n 0, 1) := by decide +kernel
theorem dX12_pairMore_43 : decode cX12_pairMore 43 = .ok (.getfield 121, 3) := by decide +kernel
theorem dX12_pairMore_46 : decode cX12_pairMore 46 = .ok (.sipush 999, 3) := by decide +kernel
theorem dX12_pairMore_49 : decode cX12_pairMore 49 = .ok (.invokestatic 107, 3) := by decide +kernel
theorem dX12_pairMore_52 : decode cX12_pairMore 52 = .ok (.ifCond .ne 6, 3) := by decide +kernel
theorem dX12_pairMore_55 : decode cX12_pairMore 55 = .ok (.bipush (-2), 2) := by decide +kernel
theorem dX12_pairMore_57 : decode cX12_pairMore 57 = .ok (.ireturn, 1) := by decide +kernel
theorem dX12_pairMore_58 : decode cX12_pairMore 58 = .ok (.aload_n 0, 1) := by decide +kernel
theorem dX12_pairMore_59 : decode cX12_pairMore 59 = .ok (.getfield 124, 3) := by decide +kernel
theorem dX12_pairMore_62 : decode cX12_pairMore 62 = .ok (.bipush 60, 2) := by decide +kernel
theorem dX12_pairMore_64 : decode cX12_pairMore 64 = .ok (.if_icmp .ne 6, 3) := by decide +kernel
theorem dX12_pairMore_67 : decode cX12_pairMore 67 = .ok (.bipush (-4), 2) := by decide +kernel
theorem dX12_pairMore_69 : decode cX12_pairMore 69 = .ok (.ireturn, 1) := by decide +kernel
theorem dX12_pairMore_70 : decode cX12_pairMore 70 = .ok (.aload_n 0, 1) := by decide +kernel
theorem dX12_pairMore_71 : decode cX12_pairMore 71 = .ok (.getfield 7, 3) := by decide +kernel
theorem dX12_pairMore_74 : decode cX12_pairMore 74 = .ok (.aload_n 0, 1) := by decide +kernel
theorem dX12_pairMore_75 : decode cX12_pairMore 75 = .ok (.getfield 124, 3) := by decide +kernel
theorem dX12_pairMore_78 : decode cX12_pairMore 78 = .ok (.iload_n 1, 1) := by decide +kernel
theorem dX12_pairMore_79 : decode cX12_pairMore 79 = .ok (.iastore, 1) := by decide +kernel
theorem dX12_pairMore_80 : decode cX12_pairMore 80 = .ok (.aload_n 0, 1) := by decide +kernel
theorem dX12_pairMore_81 : decode cX12_pairMore 81 = .ok (.getfield 13, 3) := by decide +kernel
theorem dX12_pairMore_84 : decode cX12_pairMore 84 = .ok (.aload_n 0, 1) := by decide +kernel
theorem dX12_pairMore_85 : decode cX12_pairMore 85 = .ok (.getfield 124, 3) := by decide +kernel
theorem dX12_pairMore_88 : decode cX12_pairMore 88 = .ok (.iload_n 2, 1) := by decide +kernel
theorem dX12_pairMore_89 : decode cX12_pairMore 89 = .ok (.iastore, 1) := by decide +kernel
theorem dX12_pairMore_90 : decode cX12_pairMore 90 = .ok (.aload_n 0, 1) := by decide +kernel
theorem dX12_pairMore_91 : decode cX12_pairMore 91 = .ok (.getfield 16, 3) := by decide +kernel
theorem dX12_pairMore_94 : decode cX12_pairMore 94 = .ok (.aload_n 0, 1) := by decide +kernel
theorem dX12_pairMore_95 : decode cX12_pairMore 95 = .ok (.getfield 124, 3) := by decide +kernel
theorem dX12_pairMore_98 : decode cX12_pairMore 98 = .ok (.iload_n 3, 1) := by decide +kernel
theorem dX12_pairMore_99 : decode cX12_pairMore 99 = .ok (.iastore, 1) := by decide +kernel
theorem dX12_pairMore_100 : decode cX12_pairMore 100 = .ok (.aload_n 0, 1) := by decide +kernel
theorem dX12_pairMore_101 : decode cX12_pairMore 101 = .ok (.getfield 19, 3) := by decide +kernel
theorem dX12_pairMore_104 : decode cX12_pairMore 104 = .ok (.aload_n 0, 1) := by decide +kernel
theorem dX12_pairMore_105 : decode cX12_pairMore 105 = .ok (.getfield 124, 3) := by decide +kernel
theorem dX12_pairMore_108 : decode cX12_pairMore 108 = .ok (.iload 4, 2) := by decide +kernel
theorem dX12_pairMore_110 : decode cX12_pairMore 110 = .ok (.iastore, 1) := by decide +kernel
theorem dX12_pairMore_111 : decode cX12_pairMore 111 = .ok (.aload_n 0, 1) := by decide +kernel
theorem dX12_pairMore_112 : decode cX12_pairMore 112 = .ok (.getfield 22, 3) := by decide +kernel
theorem dX12_pairMore_115 : decode cX12_pairMore 115 = .ok (.aload_n 0, 1) := by decide +kernel
theorem dX12_pairMore_116 : decode cX12_pairMore 116 = .ok (.getfield 124, 3) := by decide +kernel
theorem dX12_pairMore_119 : decode cX12_pairMore 119 = .ok (.iload 5, 2) := by decide +kernel
theorem dX12_pairMore_121 : decode cX12_pairMore 121 = .ok (.iastore, 1) := by decide +kernel
theorem dX12_pairMore_122 : decode cX12_pairMore 122 = .ok (.aload_n 0, 1) := by decide +kernel
theorem dX12_pairMore_123 : decode cX12_pairMore 123 = .ok (.getfield 25, 3) := by decide +kernel
theorem dX12_pairMore_126 : decode cX12_pairMore 126 = .ok (.aload_n 0, 1) := by decide +kernel
theorem dX12_pairMore_127 : decode cX12_pairMore 127 = .ok (.getfield 124, 3) := by decide +kernel
theorem dX12_pairMore_130 : decode cX12_pairMore 130 = .ok (.iconst (-1), 1) := by decide +kernel
theorem dX12_pairMore_131 : decode cX12_pairMore 131 = .ok (.iastore, 1) := by decide +kernel
theorem dX12_pairMore_132 : decode cX12_pairMore 132 = .ok (.aload_n 0, 1) := by decide +kernel
theorem dX12_pairMore_133 : decode cX12_pairMore 133 = .ok (.iload 5, 2) := by decide +kernel
theorem dX12_pairMore_135 : decode cX12_pairMore 135 = .ok (.putfield 121, 3) := by decide +kernel
theorem dX12_pairMore_138 : decode cX12_pairMore 138 = .ok (.aload_n 0, 1) := by decide +kernel
theorem dX12_pairMore_139 : decode cX12_pairMore 139 = .ok (.dup, 1) := by decide +kernel
theorem dX12_pairMore_140 : decode cX12_pairMore 140 = .ok (.getfield 124, 3) := by decide +kernel
theorem dX12_pairMore_143 : decode cX12_pairMore 143 = .ok (.iconst 1, 1) := by decide +kernel
theorem dX12_pairMore_144 : decode cX12_pairMore 144 = .ok (.iadd, 1) := by decide +kernel
theorem dX12_pairMore_145 : decode cX12_pairMore 145 = .ok (.putfield 124, 3) := by decide +kernel
theorem dX12_pairMore_148 : decode cX12_pairMore 148 = .ok (.aload_n 0, 1) := by decide +kernel
theorem dX12_pairMore_149 : decode cX12_pairMore 149 = .ok (.getfield 124, 3) := by decide +kernel
theorem dX12_pairMore_152 : decode cX12_pairMore 152 = .ok (.iconst 1, 1) := by decide +kernel
theorem dX12_pairMore_153 : decode cX12_pairMore 153 = .ok (.isub, 1) := by decide +kernel
theorem dX12_pairMore_154 : decode cX12_pairMore 154 = .ok (.ireturn, 1) := by decide +kernel
theorem dX12_pair_0 : decode cX12_pair 0 = .ok (.aload_n 0, 1) := by decide +kernel
theorem dX12_pair_1 : decode cX12_pair 1 = .ok (.iload_n 1, 1) := by decide +kernel
theorem dX12_pair_2 : decode cX12_pair 2 = .ok (.iload_n 2, 1) := by decide +kernel
theorem dX12_pair_3 : decode cX12_pair 3 = .ok (.iload_n 3, 1) := by decide +kernel
theorem dX12_pair_4 : decode cX12_pair 4 = .ok (.iload 4, 2) := by decide +kernel
theorem dX12_pair_6 : decode cX12_pair 6 = .ok (.iload 5, 2) := by decide +kernel
theorem dX12_pair_8 : decode cX12_pair 8 = .ok (.invokevirtual 127, 3) := by decide +kernel
theorem dX12_pair_11 : decode cX12_pair 11 = .ok (.ireturn, 1) := by decide +kernel
theorem dX12_read_0 : decode cX12_read 0 = .ok (.iload_n 1, 1) := by decide +kernel
theorem dX12_read_1 : decode cX12_read 1 = .ok (.invokestatic 131, 3) := by decide +kernel
theorem dX12_read_4 : decode cX12_read 4 = .ok (.ifCond .eq 32, 3) := by decide +kernel
theorem dX12_read_7 : decode cX12_read 7 = .ok (.iload_n 2, 1) := by decide +kernel
theorem dX12_read_8 : decode cX12_read 8 = .ok (.invokestatic 111, 3) := by decide +kernel
theorem dX12_read_11 : decode cX12_read 11 = .ok (.ifCond .eq 25, 3) := by decide +kernel
theorem dX12_read_14 : decode cX12_read 14 = .ok (.iload_n 3, 1) := by decide +kernel
theorem dX12_read_15 : decode cX12_read 15 = .ok (.invokestatic 115, 3) := by decide +kernel
theorem dX12_read_18 : decode cX12_read 18 = .ok (.ifCond .eq 18, 3) := by decide +kernel
theorem dX12_read_21 : decode cX12_read 21 = .ok (.iload 4, 2) := by decide +kernel
theorem dX12_read_23 : decode cX12_read 23 = .ok (.aload_n 0, 1) := by decide +kernel
theorem dX12_read_24 : decode cX12_read 24 = .ok (.getfield 121, 3) := by decide +kernel
theorem dX12_read_27 : decode cX12_read 27 = .ok (.sipush 999, 3) := by decide +kernel
theorem dX12_read_30 : decode cX12_read 30 = .ok (.invokestatic 107, 3) := by decide +kernel
theorem dX12_read_33 : decode cX12_read 33 = .ok (.ifCond .ne 6, 3) := by decide +kernel
theorem dX12_read_36 : decode cX12_read 36 = .ok (.bipush (-2), 2) := by decide +kernel
theorem dX12_read_38 : decode cX12_read 38 = .ok (.ireturn, 1) := by decide +kernel
theorem dX12_read_39 : decode cX12_read 39 = .ok (.aload_n 0, 1) := by decide +kernel
theorem dX12_read_40 : decode cX12_read 40 = .ok (.getfield 89, 3) := by decide +kernel
theorem dX12_read_43 : decode cX12_read 43 = .ok (.iload_n 1, 1) := by decide +kernel
theorem dX12_read_44 : decode cX12_read 44 = .ok (.baload, 1) := by decide +kernel
theorem dX12_read_45 : decode cX12_read 45 = .ok (.ifCond .ne 9, 3) := by decide +kernel
theorem dX12_read_48 : decode cX12_read 48 = .ok (.aload_n 0, 1) := by decide +kernel
theorem dX12_read_49 : decode cX12_read 49 = .ok (.iconst 1, 1) := by decide +kernel
theorem dX12_read_50 : decode cX12_read 50 = .ok (.invokevirtual 134, 3) := by decide +kernel
theorem dX12_read_53 : decode cX12_read 53 = .ok (.ireturn, 1) := by decide +kernel
theorem dX12_read_54 : decode cX12_read 54 = .ok (.iconst 0, 1) := by decide +kernel
theorem dX12_read_55 : decode cX12_read 55 = .ok (.istore 5, 2) := by decide +kernel
theorem dX12_read_57 : decode cX12_read 57 = .ok (.iconst 2, 1) := by decide +kernel
theorem dX12_read_58 : decode cX12_read 58 = .ok (.iload 5, 2) := by decide +kernel
theorem dX12_read_60 : decode cX12_read 60 = .ok (.imul, 1) := by decide +kernel
theorem dX12_read_61 : decode cX12_read 61 = .ok (.iconst 1, 1) := by decide +kernel
theorem dX12_read_62 : decode cX12_read 62 = .ok (.iadd, 1) := by decide +kernel
theorem dX12_read_63 : decode cX12_read 63 = .ok (.aload_n 0, 1) := by decide +kernel
theorem dX12_read_64 : decode cX12_read 64 = .ok (.getfield 96, 3) := by decide +kernel
theorem dX12_read_67 : decode cX12_read 67 = .ok (.iload_n 1, 1) := by decide +kernel
theorem dX12_read_68 : decode cX12_read 68 = .ok (.iaload, 1) := by decide +kernel
theorem dX12_read_69 : decode cX12_read 69 = .ok (.if_icmp .ge 53, 3) := by decide +kernel
theorem dX12_read_72 : decode cX12_read 72 = .ok (.aload_n 0, 1) := by decide +kernel
theorem dX12_read_73 : decode cX12_read 73 = .ok (.iload_n 2, 1) := by decide +kernel
theorem dX12_read_74 : decode cX12_read 74 = .ok (.iload_n 3, 1) := by decide +kernel
theorem dX12_read_75 : decode cX12_read 75 = .ok (.aload_n 0, 1) := by decide +kernel
theorem dX12_read_76 : decode cX12_read 76 = .ok (.getfield 99, 3) := by decide +kernel
theorem dX12_read_79 : decode cX12_read 79 = .ok (.bipush 48, 2) := by decide +kernel
theorem dX12_read_81 : decode cX12_read 81 = .ok (.iload_n 1, 1) := by decide +kernel
theorem dX12_read_82 : decode cX12_read 82 = .ok (.imul, 1) := by decide +kernel
theorem dX12_read_83 : decode cX12_read 83 = .ok (.iconst 2, 1) := by decide +kernel
theorem dX12_read_84 : decode cX12_read 84 = .ok (.iload 5, 2) := by decide +kernel
theorem dX12_read_86 : decode cX12_read 86 = .ok (.imul, 1) := by decide +kernel
theorem dX12_read_87 : decode cX12_read 87 = .ok (.iadd, 1) := by decide +kernel
theorem dX12_read_88 : decode cX12_read 88 = .ok (.iaload, 1) := by decide +kernel
theorem dX12_read_89 : decode cX12_read 89 = .ok (.aload_n 0, 1) := by decide +kernel
theorem dX12_read_90 : decode cX12_read 90 = .ok (.getfield 99, 3) := by decide +kernel
theorem dX12_read_93 : decode cX12_read 93 = .ok (.bipush 48, 2) := by decide +kernel
theorem dX12_read_95 : decode cX12_read 95 = .ok (.iload_n 1, 1) := by decide +kernel
theorem dX12_read_96 : decode cX12_read 96 = .ok (.imul, 1) := by decide +kernel
theorem dX12_read_97 : decode cX12_read 97 = .ok (.iconst 2, 1) := by decide +kernel
theorem dX12_read_98 : decode cX12_read 98 = .ok (.iload 5, 2) := by decide +kernel
theorem dX12_read_100 : decode cX12_read 100 = .ok (.imul, 1) := by decide +kernel
theorem dX12_read_101 : decode cX12_read 101 = .ok (.iadd, 1) := by decide +kernel
theorem dX12_read_102 : decode cX12_read 102 = .ok (.iconst 1, 1) := by decide +kernel
theorem dX12_read_103 : decode cX12_read 103 = .ok (.iadd, 1) := by decide +kernel
theorem dX12_read_104 : decode cX12_read 104 = .ok (.iaload, 1) := by decide +kernel
theorem dX12_read_105 : decode cX12_read 105 = .ok (.iload 4, 2) := by decide +kernel
theorem dX12_read_107 : decode cX12_read 107 = .ok (.invokevirtual 127, 3) := by decide +kernel
theorem dX12_read_110 : decode cX12_read 110 = .ok (.ifCond .ge 6, 3) := by decide +kernel
theorem dX12_read_113 : decode cX12_read 113 = .ok (.iload 5, 2) := by decide +kernel
theorem dX12_read_115 : decode cX12_read 115 = .ok (.ireturn, 1) := by decide +kernel
theorem dX12_read_116 : decode cX12_read 116 = .ok (.iinc 5 1, 3) := by decide +kernel
theorem dX12_read_119 : decode cX12_read 119 = .ok (.goto (-62), 3) := by decide +kernel
theorem dX12_read_122 : decode cX12_read 122 = .ok (.iload 5, 2) := by decide +kernel
theorem dX12_read_124 : decode cX12_read 124 = .ok (.ireturn, 1) := by decide +kernel
theorem dX12_takeBack_0 : decode cX12_takeBack 0 = .ok (.iload_n 1, 1) := by decide +kernel
theorem dX12_takeBack_1 : decode cX12_takeBack 1 = .ok (.iconst 0, 1) := by decide +kernel
theorem dX12_takeBack_2 : decode cX12_takeBack 2 = .ok (.aload_n 0, 1) := by decide +kernel
theorem dX12_takeBack_3 : decode cX12_takeBack 3 = .ok (.getfield 124, 3) := by decide +kernel
theorem dX12_takeBack_6 : decode cX12_takeBack 6 = .ok (.iconst 1, 1) := by decide +kernel
theorem dX12_takeBack_7 : decode cX12_takeBack 7 = .ok (.isub, 1) := by decide +kernel
theorem dX12_takeBack_8 : decode cX12_takeBack 8 = .ok (.invokestatic 107, 3) := by decide +kernel
theorem dX12_takeBack_11 : decode cX12_takeBack 11 = .ok (.ifCond .eq 17, 3) := by decide +kernel
theorem dX12_takeBack_14 : decode cX12_takeBack 14 = .ok (.iload_n 2, 1) := by decide +kernel
theorem dX12_takeBack_15 : decode cX12_takeBack 15 = .ok (.aload_n 0, 1) := by decide +kernel
theorem dX12_takeBack_16 : decode cX12_takeBack 16 = .ok (.getfield 121, 3) := by decide +kernel
theorem dX12_takeBack_19 : decode cX12_takeBack 19 = .ok (.sipush 999, 3) := by decide +kernel
theorem dX12_takeBack_22 : decode cX12_takeBack 22 = .ok (.invokestatic 107, 3) := by decide +kernel
theorem dX12_takeBack_25 : decode cX12_takeBack 25 = .ok (.ifCond .ne 6, 3) := by decide +kernel
theorem dX12_takeBack_28 : decode cX12_takeBack 28 = .ok (.bipush (-2), 2) := by decide +kernel
theorem dX12_takeBack_30 : decode cX12_takeBack 30 = .ok (.ireturn, 1) := by decide +kernel
theorem dX12_takeBack_31 : decode cX12_takeBack 31 = .ok (.aload_n 0, 1) := by decide +kernel
theorem dX12_takeBack_32 : decode cX12_takeBack 32 = .ok (.getfield 25, 3) := by decide +kernel
theorem dX12_takeBack_35 : decode cX12_takeBack 35 = .ok (.iload_n 1, 1) := by decide +kernel
theorem dX12_takeBack_36 : decode cX12_takeBack 36 = .ok (.iaload, 1) := by decide +kernel
theorem dX12_takeBack_37 : decode cX12_takeBack 37 = .ok (.iconst (-1), 1) := by decide +kernel
theorem dX12_takeBack_38 : decode cX12_takeBack 38 = .ok (.if_icmp .eq 6, 3) := by decide +kernel
theorem dX12_takeBack_41 : decode cX12_takeBack 41 = .ok (.bipush (-3), 2) := by decide +kernel
theorem dX12_takeBack_43 : decode cX12_takeBack 43 = .ok (.ireturn, 1) := by decide +kernel
theorem dX12_takeBack_44 : decode cX12_takeBack 44 = .ok (.aload_n 0, 1) := by decide +kernel
theorem dX12_takeBack_45 : decode cX12_takeBack 45 = .ok (.getfield 25, 3) := by decide +kernel
theorem dX12_takeBack_48 : decode cX12_takeBack 48 = .ok (.iload_n 1, 1) := by decide +kernel
theorem dX12_takeBack_49 : decode cX12_takeBack 49 = .ok (.iload_n 2, 1) := by decide +kernel
theorem dX12_takeBack_50 : decode cX12_takeBack 50 = .ok (.iastore, 1) := by decide +kernel
theorem dX12_takeBack_51 : decode cX12_takeBack 51 = .ok (.aload_n 0, 1) := by decide +kernel
theorem dX12_takeBack_52 : decode cX12_takeBack 52 = .ok (.iload_n 2, 1) := by decide +kernel
theorem dX12_takeBack_53 : decode cX12_takeBack 53 = .ok (.putfield 121, 3) := by decide +kernel
theorem dX12_takeBack_56 : decode cX12_takeBack 56 = .ok (.iconst 1, 1) := by decide +kernel
theorem dX12_takeBack_57 : decode cX12_takeBack 57 = .ok (.ireturn, 1) := by decide +kernel
theorem dX12_asOf_0 : decode cX12_asOf 0 = .ok (.iload_n 1, 1) := by decide +kernel
theorem dX12_asOf_1 : decode cX12_asOf 1 = .ok (.iconst 0, 1) := by decide +kernel
theorem dX12_asOf_2 : decode cX12_asOf 2 = .ok (.sipush 999, 3) := by decide +kernel
theorem dX12_asOf_5 : decode cX12_asOf 5 = .ok (.invokestatic 107, 3) := by decide +kernel
theorem dX12_asOf_8 : decode cX12_asOf 8 = .ok (.ifCond .ne 6, 3) := by decide +kernel
theorem dX12_asOf_11 : decode cX12_asOf 11 = .ok (.bipush (-2), 2) := by decide +kernel
theorem dX12_asOf_13 : decode cX12_asOf 13 = .ok (.ireturn, 1) := by decide +kernel
theorem dX12_asOf_14 : decode cX12_asOf 14 = .ok (.aload_n 0, 1) := by decide +kernel
theorem dX12_asOf_15 : decode cX12_asOf 15 = .ok (.getfield 28, 3) := by decide +kernel
theorem dX12_asOf_18 : decode cX12_asOf 18 = .ok (.istore_n 2, 1) := by decide +kernel
theorem dX12_asOf_19 : decode cX12_asOf 19 = .ok (.aload_n 0, 1) := by decide +kernel
theorem dX12_asOf_20 : decode cX12_asOf 20 = .ok (.iload_n 1, 1) := by decide +kernel
theorem dX12_asOf_21 : decode cX12_asOf 21 = .ok (.putfield 28, 3) := by decide +kernel
theorem dX12_asOf_24 : decode cX12_asOf 24 = .ok (.iload_n 2, 1) := by decide +kernel
theorem dX12_asOf_25 : decode cX12_asOf 25 = .ok (.ireturn, 1) := by decide +kernel
theorem dX12_counts_0 : decode cX12_counts 0 = .ok (.aload_n 0, 1) := by decide +kernel
theorem dX12_counts_1 : decode cX12_counts 1 = .ok (.getfield 22, 3) := by decide +kernel
theorem dX12_counts_4 : decode cX12_counts 4 = .ok (.iload_n 1, 1) := by decide +kernel
theorem dX12_counts_5 : decode cX12_counts 5 = .ok (.iaload, 1) := by decide +kernel
theorem dX12_counts_6 : decode cX12_counts 6 = .ok (.aload_n 0, 1) := by decide +kernel
theorem dX12_counts_7 : decode cX12_counts 7 = .ok (.getfield 28, 3) := by decide +kernel
theorem dX12_counts_10 : decode cX12_counts 10 = .ok (.if_icmp .gt 30, 3) := by decide +kernel
theorem dX12_counts_13 : decode cX12_counts 13 = .ok (.aload_n 0, 1) := by decide +kernel
theorem dX12_counts_14 : decode cX12_counts 14 = .ok (.getfield 25, 3) := by decide +kernel
theorem dX12_counts_17 : decode cX12_counts 17 = .ok (.iload_n 1, 1) := by decide +kernel
theorem dX12_counts_18 : decode cX12_counts 18 = .ok (.iaload, 1) := by decide +kernel
theorem dX12_counts_19 : decode cX12_counts 19 = .ok (.iconst (-1), 1) := by decide +kernel
theorem dX12_counts_20 : decode cX12_counts 20 = .ok (.if_icmp .eq 16, 3) := by decide +kernel
theorem dX12_counts_23 : decode cX12_counts 23 = .ok (.aload_n 0, 1) := by decide +kernel
theorem dX12_counts_24 : decode cX12_counts 24 = .ok (.getfield 25, 3) := by decide +kernel
theorem dX12_counts_27 : decode cX12_counts 27 = .ok (.iload_n 1, 1) := by decide +kernel
theorem dX12_counts_28 : decode cX12_counts 28 = .ok (.iaload, 1) := by decide +kernel
theorem dX12_counts_29 : decode cX12_counts 29 = .ok (.aload_n 0, 1) := by decide +kernel
theorem dX12_counts_30 : decode cX12_counts 30 = .ok (.getfield 28, 3) := by decide +kernel
theorem dX12_counts_33 : decode cX12_counts 33 = .ok (.if_icmp .le 7, 3) := by decide +kernel
theorem dX12_counts_36 : decode cX12_counts 36 = .ok (.iconst 1, 1) := by decide +kernel
theorem dX12_counts_37 : decode cX12_counts 37 = .ok (.goto 4, 3) := by decide +kernel
theorem dX12_counts_40 : decode cX12_counts 40 = .ok (.iconst 0, 1) := by decide +kernel
theorem dX12_counts_41 : decode cX12_counts 41 = .ok (.ireturn, 1) := by decide +kernel
theorem dX12_isOf_0 : decode cX12_isOf 0 = .ok (.aload_n 0, 1) := by decide +kernel
theorem dX12_isOf_1 : decode cX12_isOf 1 = .ok (.iload_n 1, 1) := by decide +kernel
theorem dX12_isOf_2 : decode cX12_isOf 2 = .ok (.invokevirtual 138, 3) := by decide +kernel
theorem dX12_isOf_5 : decode cX12_isOf 5 = .ok (.ifCond .eq 32, 3) := by decide +kernel
theorem dX12_isOf_8 : decode cX12_isOf 8 = .ok (.iload_n 2, 1) := by decide +kernel
theorem dX12_isOf_9 : decode cX12_isOf 9 = .ok (.iconst (-1), 1) := by decide +kernel
theorem dX12_isOf_10 : decode cX12_isOf 10 = .ok (.if_icmp .eq 13, 3) := by decide +kernel
theorem dX12_isOf_13 : decode cX12_isOf 13 = .ok (.aload_n 0, 1) := by decide +kernel
theorem dX12_isOf_14 : decode cX12_isOf 14 = .ok (.getfield 7, 3) := by decide +kernel
theorem dX12_isOf_17 : decode cX12_isOf 17 = .ok (.iload_n 1, 1) := by decide +kernel
theorem dX12_isOf_18 : decode cX12_isOf 18 = .ok (.iaload, 1) := by decide +kernel
theorem dX12_isOf_19 : decode cX12_isOf 19 = .ok (.iload_n 2, 1) := by decide +kernel
theorem dX12_isOf_20 : decode cX12_isOf 20 = .ok (.if_icmp .ne 17, 3) := by decide +kernel
theorem dX12_isOf_23 : decode cX12_isOf 23 = .ok (.aload_n 0, 1) := by decide +kernel
theorem dX12_isOf_24 : decode cX12_isOf 24 = .ok (.getfield 13, 3) := by decide +kernel
theorem dX12_isOf_27 : decode cX12_isOf 27 = .ok (.iload_n 1, 1) := by decide +kernel
theorem dX12_isOf_28 : decode cX12_isOf 28 = .ok (.iaload, 1) := by decide +kernel
theorem dX12_isOf_29 : decode cX12_isOf 29 = .ok (.iload_n 3, 1) := by decide +kernel
theorem dX12_isOf_30 : decode cX12_isOf 30 = .ok (.if_icmp .ne 7, 3) := by decide +kernel
theorem dX12_isOf_33 : decode cX12_isOf 33 = .ok (.iconst 1, 1) := by decide +kernel
theorem dX12_isOf_34 : decode cX12_isOf 34 = .ok (.goto 4, 3) := by decide +kernel
theorem dX12_isOf_37 : decode cX12_isOf 37 = .ok (.iconst 0, 1) := by decide +kernel
theorem dX12_isOf_38 : decode cX12_isOf 38 = .ok (.ireturn, 1) := by decide +kernel
theorem dX12_countOf_0 : decode cX12_countOf 0 = .ok (.iconst 0, 1) := by decide +kernel
theorem dX12_countOf_1 : decode cX12_countOf 1 = .ok (.istore_n 3, 1) := by decide +kernel
theorem dX12_countOf_2 : decode cX12_countOf 2 = .ok (.iconst 0, 1) := by decide +kernel
theorem dX12_countOf_3 : decode cX12_countOf 3 = .ok (.istore 4, 2) := by decide +kernel
theorem dX12_countOf_5 : decode cX12_countOf 5 = .ok (.iload 4, 2) := by decide +kernel
theorem dX12_countOf_7 : decode cX12_countOf 7 = .ok (.aload_n 0, 1) := by decide +kernel
theorem dX12_countOf_8 : decode cX12_countOf 8 = .ok (.getfield 124, 3) := by decide +kernel
theorem dX12_countOf_11 : decode cX12_countOf 11 = .ok (.if_icmp .ge 28, 3) := by decide +kernel
theorem dX12_countOf_14 : decode cX12_countOf 14 = .ok (.iload_n 3, 1) := by decide +kernel
theorem dX12_countOf_15 : decode cX12_countOf 15 = .ok (.aload_n 0, 1) := by decide +kernel
theorem dX12_countOf_16 : decode cX12_countOf 16 = .ok (.iload 4, 2) := by decide +kernel
theorem dX12_countOf_18 : decode cX12_countOf 18 = .ok (.iload_n 1, 1) := by decide +kernel
theorem dX12_countOf_19 : decode cX12_countOf 19 = .ok (.iload_n 2, 1) := by decide +kernel
theorem dX12_countOf_20 : decode cX12_countOf 20 = .ok (.invokevirtual 141, 3) := by decide +kernel
theorem dX12_countOf_23 : decode cX12_countOf 23 = .ok (.ifCond .eq 7, 3) := by decide +kernel
theorem dX12_countOf_26 : decode cX12_countOf 26 = .ok (.iconst 1, 1) := by decide +kernel
theorem dX12_countOf_27 : decode cX12_countOf 27 = .ok (.goto 4, 3) := by decide +kernel
theorem dX12_countOf_30 : decode cX12_countOf 30 = .ok (.iconst 0, 1) := by decide +kernel
theorem dX12_countOf_31 : decode cX12_countOf 31 = .ok (.iadd, 1) := by decide +kernel
theorem dX12_countOf_32 : decode cX12_countOf 32 = .ok (.istore_n 3, 1) := by decide +kernel
theorem dX12_countOf_33 : decode cX12_countOf 33 = .ok (.iinc 4 1, 3) := by decide +kernel
theorem dX12_countOf_36 : decode cX12_countOf 36 = .ok (.goto (-31), 3) := by decide +kernel
theorem dX12_countOf_39 : decode cX12_countOf 39 = .ok (.iload_n 3, 1) := by decide +kernel
theorem dX12_countOf_40 : decode cX12_countOf 40 = .ok (.ireturn, 1) := by decide +kernel
theorem dX12_sumOf_0 : decode cX12_sumOf 0 = .ok (.iconst 0, 1) := by decide +kernel
theorem dX12_sumOf_1 : decode cX12_sumOf 1 = .ok (.istore_n 3, 1) := by decide +kernel
theorem dX12_sumOf_2 : decode cX12_sumOf 2 = .ok (.iconst 0, 1) := by decide +kernel
theorem dX12_sumOf_3 : decode cX12_sumOf 3 = .ok (.istore 4, 2) := by decide +kernel
theorem dX12_sumOf_5 : decode cX12_sumOf 5 = .ok (.iload 4, 2) := by decide +kernel
theorem dX12_sumOf_7 : decode cX12_sumOf 7 = .ok (.aload_n 0, 1) := by decide +kernel
theorem dX12_sumOf_8 : decode cX12_sumOf 8 = .ok (.getfield 124, 3) := by decide +kernel
theorem dX12_sumOf_11 : decode cX12_sumOf 11 = .ok (.if_icmp .ge 34, 3) := by decide +kernel
theorem dX12_sumOf_14 : decode cX12_sumOf 14 = .ok (.iload_n 3, 1) := by decide +kernel
theorem dX12_sumOf_15 : decode cX12_sumOf 15 = .ok (.aload_n 0, 1) := by decide +kernel
theorem dX12_sumOf_16 : decode cX12_sumOf 16 = .ok (.iload 4, 2) := by decide +kernel
theorem dX12_sumOf_18 : decode cX12_sumOf 18 = .ok (.iload_n 1, 1) := by decide +kernel
theorem dX12_sumOf_19 : decode cX12_sumOf 19 = .ok (.iload_n 2, 1) := by decide +kernel
theorem dX12_sumOf_20 : decode cX12_sumOf 20 = .ok (.invokevirtual 141, 3) := by decide +kernel
theorem dX12_sumOf_23 : decode cX12_sumOf 23 = .ok (.ifCond .eq 13, 3) := by decide +kernel
theorem dX12_sumOf_26 : decode cX12_sumOf 26 = .ok (.aload_n 0, 1) := by decide +kernel
theorem dX12_sumOf_27 : decode cX12_sumOf 27 = .ok (.getfield 16, 3) := by decide +kernel
theorem dX12_sumOf_30 : decode cX12_sumOf 30 = .ok (.iload 4, 2) := by decide +kernel
theorem dX12_sumOf_32 : decode cX12_sumOf 32 = .ok (.iaload, 1) := by decide +kernel
theorem dX12_sumOf_33 : decode cX12_sumOf 33 = .ok (.goto 4, 3) := by decide +kernel
theorem dX12_sumOf_36 : decode cX12_sumOf 36 = .ok (.iconst 0, 1) := by decide +kernel
theorem dX12_sumOf_37 : decode cX12_sumOf 37 = .ok (.iadd, 1) := by decide +kernel
theorem dX12_sumOf_38 : decode cX12_sumOf 38 = .ok (.istore_n 3, 1) := by decide +kernel
theorem dX12_sumOf_39 : decode cX12_sumOf 39 = .ok (.iinc 4 1, 3) := by decide +kernel
theorem dX12_sumOf_42 : decode cX12_sumOf 42 = .ok (.goto (-37), 3) := by decide +kernel
theorem dX12_sumOf_45 : decode cX12_sumOf 45 = .ok (.iload_n 3, 1) := by decide +kernel
theorem dX12_sumOf_46 : decode cX12_sumOf 46 = .ok (.ireturn, 1) := by decide +kernel
theorem dX12_noesOf_0 : decode cX12_noesOf 0 = .ok (.iconst 0, 1) := by decide +kernel
theorem dX12_noesOf_1 : decode cX12_noesOf 1 = .ok (.istore_n 3, 1) := by decide +kernel
theorem dX12_noesOf_2 : decode cX12_noesOf 2 = .ok (.iconst 0, 1) := by decide +kernel
theorem dX12_noesOf_3 : decode cX12_noesOf 3 = .ok (.istore 4, 2) := by decide +kernel
theorem dX12_noesOf_5 : decode cX12_noesOf 5 = .ok (.iload 4, 2) := by decide +kernel
theorem dX12_noesOf_7 : decode cX12_noesOf 7 = .ok (.aload_n 0, 1) := by decide +kernel
theorem dX12_noesOf_8 : decode cX12_noesOf 8 = .ok (.getfield 124, 3) := by decide +kernel
theorem dX12_noesOf_11 : decode cX12_noesOf 11 = .ok (.if_icmp .ge 36, 3) := by decide +kernel
theorem dX12_noesOf_14 : decode cX12_noesOf 14 = .ok (.iload_n 3, 1) := by decide +kernel
theorem dX12_noesOf_15 : decode cX12_noesOf 15 = .ok (.aload_n 0, 1) := by decide +kernel
theorem dX12_noesOf_16 : decode cX12_noesOf 16 = .ok (.iload 4, 2) := by decide +kernel
theorem dX12_noesOf_18 : decode cX12_noesOf 18 = .ok (.iload_n 1, 1) := by decide +kernel
theorem dX12_noesOf_19 : decode cX12_noesOf 19 = .ok (.iload_n 2, 1) := by decide +kernel
theorem dX12_noesOf_20 : decode cX12_noesOf 20 = .ok (.invokevirtual 141, 3) := by decide +kernel
theorem dX12_noesOf_23 : decode cX12_noesOf 23 = .ok (.ifCond .eq 15, 3) := by decide +kernel
theorem dX12_noesOf_26 : decode cX12_noesOf 26 = .ok (.iconst 1, 1) := by decide +kernel
theorem dX12_noesOf_27 : decode cX12_noesOf 27 = .ok (.aload_n 0, 1) := by decide +kernel
theorem dX12_noesOf_28 : decode cX12_noesOf 28 = .ok (.getfield 19, 3) := by decide +kernel
theorem dX12_noesOf_31 : decode cX12_noesOf 31 = .ok (.iload 4, 2) := by decide +kernel
theorem dX12_noesOf_33 : decode cX12_noesOf 33 = .ok (.iaload, 1) := by decide +kernel
theorem dX12_noesOf_34 : decode cX12_noesOf 34 = .ok (.isub, 1) := by decide +kernel
theorem dX12_noesOf_35 : decode cX12_noesOf 35 = .ok (.goto 4, 3) := by decide +kernel
theorem dX12_noesOf_38 : decode cX12_noesOf 38 = .ok (.iconst 0, 1) := by decide +kernel
theorem dX12_noesOf_39 : decode cX12_noesOf 39 = .ok (.iadd, 1) := by decide +kernel
theorem dX12_noesOf_40 : decode cX12_noesOf 40 = .ok (.istore_n 3, 1) := by decide +kernel
theorem dX12_noesOf_41 : decode cX12_noesOf 41 = .ok (.iinc 4 1, 3) := by decide +kernel
theorem dX12_noesOf_44 : decode cX12_noesOf 44 = .ok (.goto (-39), 3) := by decide +kernel
theorem dX12_noesOf_47 : decode cX12_noesOf 47 = .ok (.iload_n 3, 1) := by decide +kernel
theorem dX12_noesOf_48 : decode cX12_noesOf 48 = .ok (.ireturn, 1) := by decide +kernel
theorem dX12_middleOf_0 : decode cX12_middleOf 0 = .ok (.aload_n 0, 1) := by decide +kernel
theorem dX12_middleOf_1 : decode cX12_middleOf 1 = .ok (.iload_n 1, 1) := by decide +kernel
theorem dX12_middleOf_2 : decode cX12_middleOf 2 = .ok (.iload_n 2, 1) := by decide +kernel
theorem dX12_middleOf_3 : decode cX12_middleOf 3 = .ok (.invokevirtual 144, 3) := by decide +kernel
theorem dX12_middleOf_6 : decode cX12_middleOf 6 = .ok (.iconst 1, 1) := by decide +kernel
theorem dX12_middleOf_7 : decode cX12_middleOf 7 = .ok (.iadd, 1) := by decide +kernel
theorem dX12_middleOf_8 : decode cX12_middleOf 8 = .ok (.iconst 2, 1) := by decide +kernel
theorem dX12_middleOf_9 : decode cX12_middleOf 9 = .ok (.idiv, 1) := by decide +kernel
theorem dX12_middleOf_10 : decode cX12_middleOf 10 = .ok (.istore_n 3, 1) := by decide +kernel
theorem dX12_middleOf_11 : decode cX12_middleOf 11 = .ok (.iconst 0, 1) := by decide +kernel
theorem dX12_middleOf_12 : decode cX12_middleOf 12 = .ok (.istore 4, 2) := by decide +kernel
theorem dX12_middleOf_14 : decode cX12_middleOf 14 = .ok (.iload 4, 2) := by decide +kernel
theorem dX12_middleOf_16 : decode cX12_middleOf 16 = .ok (.bipush 11, 2) := by decide +kernel
theorem dX12_middleOf_18 : decode cX12_middleOf 18 = .ok (.if_icmp .ge 69, 3) := by decide +kernel
theorem dX12_middleOf_21 : decode cX12_middleOf 21 = .ok (.iload_n 3, 1) := by decide +kernel
theorem dX12_middleOf_22 : decode cX12_middleOf 22 = .ok (.ifCond .le 65, 3) := by decide +kernel
theorem dX12_middleOf_25 : decode cX12_middleOf 25 = .ok (.iconst 0, 1) := by decide +kernel
theorem dX12_middleOf_26 : decode cX12_middleOf 26 = .ok (.istore 5, 2) := by decide +kernel
theorem dX12_middleOf_28 : decode cX12_middleOf 28 = .ok (.iload 5, 2) := by decide +kernel
theorem dX12_middleOf_30 : decode cX12_middleOf 30 = .ok (.aload_n 0, 1) := by decide +kernel
theorem dX12_middleOf_31 : decode cX12_middleOf 31 = .ok (.getfield 124, 3) := by decide +kernel
theorem dX12_middleOf_34 : decode cX12_middleOf 34 = .ok (.if_icmp .ge 40, 3) := by decide +kernel
theorem dX12_middleOf_37 : decode cX12_middleOf 37 = .ok (.iload_n 3, 1) := by decide +kernel
theorem dX12_middleOf_38 : decode cX12_middleOf 38 = .ok (.aload_n 0, 1) := by decide +kernel
theorem dX12_middleOf_39 : decode cX12_middleOf 39 = .ok (.iload 5, 2) := by decide +kernel
theorem dX12_middleOf_41 : decode cX12_middleOf 41 = .ok (.iload_n 1, 1) := by decide +kernel
theorem dX12_middleOf_42 : decode cX12_middleOf 42 = .ok (.iload_n 2, 1) := by decide +kernel
theorem dX12_middleOf_43 : decode cX12_middleOf 43 = .ok (.invokevirtual 141, 3) := by decide +kernel
theorem dX12_middleOf_46 : decode cX12_middleOf 46 = .ok (.ifCond .eq 19, 3) := by decide +kernel
theorem dX12_middleOf_49 : decode cX12_middleOf 49 = .ok (.aload_n 0, 1) := by decide +kernel
theorem dX12_middleOf_50 : decode cX12_middleOf 50 = .ok (.getfield 16, 3) := by decide +kernel
theorem dX12_middleOf_53 : decode cX12_middleOf 53 = .ok (.iload 5, 2) := by decide +kernel
theorem dX12_middleOf_55 : decode cX12_middleOf 55 = .ok (.iaload, 1) := by decide +kernel
theorem dX12_middleOf_56 : decode cX12_middleOf 56 = .ok (.iload 4, 2) := by decide +kernel
theorem dX12_middleOf_58 : decode cX12_middleOf 58 = .ok (.if_icmp .ne 7, 3) := by decide +kernel
theorem dX12_middleOf_61 : decode cX12_middleOf 61 = .ok (.iconst 1, 1) := by decide +kernel
theorem dX12_middleOf_62 : decode cX12_middleOf 62 = .ok (.goto 4, 3) := by decide +kernel
theorem dX12_middleOf_65 : decode cX12_middleOf 65 = .ok (.iconst 0, 1) := by decide +kernel
theorem dX12_middleOf_66 : decode cX12_middleOf 66 = .ok (.isub, 1) := by decide +kernel
theorem dX12_middleOf_67 : decode cX12_middleOf 67 = .ok (.istore_n 3, 1) := by decide +kernel
theorem dX12_middleOf_68 : decode cX12_middleOf 68 = .ok (.iinc 5 1, 3) := by decide +kernel
theorem dX12_middleOf_71 : decode cX12_middleOf 71 = .ok (.goto (-43), 3) := by decide +kernel
theorem dX12_middleOf_74 : decode cX12_middleOf 74 = .ok (.iload_n 3, 1) := by decide +kernel
theorem dX12_middleOf_75 : decode cX12_middleOf 75 = .ok (.ifCond .gt 6, 3) := by decide +kernel
theorem dX12_middleOf_78 : decode cX12_middleOf 78 = .ok (.iload 4, 2) := by decide +kernel
theorem dX12_middleOf_80 : decode cX12_middleOf 80 = .ok (.ireturn, 1) := by decide +kernel
theorem dX12_middleOf_81 : decode cX12_middleOf 81 = .ok (.iinc 4 1, 3) := by decide +kernel
theorem dX12_middleOf_84 : decode cX12_middleOf 84 = .ok (.goto (-70), 3) := by decide +kernel
theorem dX12_middleOf_87 : decode cX12_middleOf 87 = .ok (.bipush (-3), 2) := by decide +kernel
theorem dX12_middleOf_89 : decode cX12_middleOf 89 = .ok (.ireturn, 1) := by decide +kernel
theorem dX12_manyNow_0 : decode cX12_manyNow 0 = .ok (.iload_n 3, 1) := by decide +kernel
theorem dX12_manyNow_1 : decode cX12_manyNow 1 = .ok (.ifCond .ne 12, 3) := by decide +kernel
theorem dX12_manyNow_4 : decode cX12_manyNow 4 = .ok (.aload_n 0, 1) := by decide +kernel
theorem dX12_manyNow_5 : decode cX12_manyNow 5 = .ok (.iload_n 1, 1) := by decide +kernel
theorem dX12_manyNow_6 : decode cX12_manyNow 6 = .ok (.iload_n 2, 1) := by decide +kernel
theorem dX12_manyNow_7 : decode cX12_manyNow 7 = .ok (.invokevirtual 144, 3) := by decide +kernel
theorem dX12_manyNow_10 : decode cX12_manyNow 10 = .ok (.goto 23, 3) := by decide +kernel
theorem dX12_manyNow_13 : decode cX12_manyNow 13 = .ok (.iload_n 3, 1) := by decide +kernel
theorem dX12_manyNow_14 : decode cX12_manyNow 14 = .ok (.iconst 1, 1) := by decide +kernel
theorem dX12_manyNow_15 : decode cX12_manyNow 15 = .ok (.if_icmp .ne 12, 3) := by decide +kernel
theorem dX12_manyNow_18 : decode cX12_manyNow 18 = .ok (.aload_n 0, 1) := by decide +kernel
theorem dX12_manyNow_19 : decode cX12_manyNow 19 = .ok (.iload_n 1, 1) := by decide +kernel
theorem dX12_manyNow_20 : decode cX12_manyNow 20 = .ok (.iload_n 2, 1) := by decide +kernel
theorem dX12_manyNow_21 : decode cX12_manyNow 21 = .ok (.invokevirtual 148, 3) := by decide +kernel
theorem dX12_manyNow_24 : decode cX12_manyNow 24 = .ok (.goto 9, 3) := by decide +kernel
theorem dX12_manyNow_27 : decode cX12_manyNow 27 = .ok (.aload_n 0, 1) := by decide +kernel
theorem dX12_manyNow_28 : decode cX12_manyNow 28 = .ok (.iload_n 1, 1) := by decide +kernel
theorem dX12_manyNow_29 : decode cX12_manyNow 29 = .ok (.iload_n 2, 1) := by decide +kernel
theorem dX12_manyNow_30 : decode cX12_manyNow 30 = .ok (.invokevirtual 151, 3) := by decide +kernel
theorem dX12_manyNow_33 : decode cX12_manyNow 33 = .ok (.ireturn, 1) := by decide +kernel
theorem dX12_many_0 : decode cX12_many 0 = .ok (.iload_n 1, 1) := by decide +kernel
theorem dX12_many_1 : decode cX12_many 1 = .ok (.invokestatic 154, 3) := by decide +kernel
theorem dX12_many_4 : decode cX12_many 4 = .ok (.ifCond .eq 29, 3) := by decide +kernel
theorem dX12_many_7 : decode cX12_many 7 = .ok (.iload_n 2, 1) := by decide +kernel
theorem dX12_many_8 : decode cX12_many 8 = .ok (.invokestatic 115, 3) := by decide +kernel
theorem dX12_many_11 : decode cX12_many 11 = .ok (.ifCond .eq 22, 3) := by decide +kernel
theorem dX12_many_14 : decode cX12_many 14 = .ok (.iload_n 3, 1) := by decide +kernel
theorem dX12_many_15 : decode cX12_many 15 = .ok (.iconst 0, 1) := by decide +kernel
theorem dX12_many_16 : decode cX12_many 16 = .ok (.iconst 2, 1) := by decide +kernel
theorem dX12_many_17 : decode cX12_many 17 = .ok (.invokestatic 107, 3) := by decide +kernel
theorem dX12_many_20 : decode cX12_many 20 = .ok (.ifCond .eq 13, 3) := by decide +kernel
theorem dX12_many_23 : decode cX12_many 23 = .ok (.aload_n 0, 1) := by decide +kernel
theorem dX12_many_24 : decode cX12_many 24 = .ok (.iload_n 1, 1) := by decide +kernel
theorem dX12_many_25 : decode cX12_many 25 = .ok (.iload_n 2, 1) := by decide +kernel
theorem dX12_many_26 : decode cX12_many 26 = .ok (.iload_n 3, 1) := by decide +kernel
theorem dX12_many_27 : decode cX12_many 27 = .ok (.invokevirtual 157, 3) := by decide +kernel
theorem dX12_many_30 : decode cX12_many 30 = .ok (.goto 5, 3) := by decide +kernel
theorem dX12_many_33 : decode cX12_many 33 = .ok (.bipush (-2), 2) := by decide +kernel
theorem dX12_many_35 : decode cX12_many 35 = .ok (.ireturn, 1) := by decide +kernel
theorem dX12_meanNow_0 : decode cX12_meanNow 0 = .ok (.aload_n 0, 1) := by decide +kernel
theorem dX12_meanNow_1 : decode cX12_meanNow 1 = .ok (.iload_n 1, 1) := by decide +kernel
theorem dX12_meanNow_2 : decode cX12_meanNow 2 = .ok (.iload_n 2, 1) := by decide +kernel
theorem dX12_meanNow_3 : decode cX12_meanNow 3 = .ok (.invokevirtual 144, 3) := by decide +kernel
theorem dX12_meanNow_6 : decode cX12_meanNow 6 = .ok (.istore 4, 2) := by decide +kernel
theorem dX12_meanNow_8 : decode cX12_meanNow 8 = .ok (.iload 4, 2) := by decide +kernel
theorem dX12_meanNow_10 : decode cX12_meanNow 10 = .ok (.ifCond .ne 11, 3) := by decide +kernel
theorem dX12_meanNow_13 : decode cX12_meanNow 13 = .ok (.bipush (-3), 2) := by decide +kernel
theorem dX12_meanNow_15 : decode cX12_meanNow 15 = .ok (.invokestatic 161, 3) := by decide +kernel
theorem dX12_meanNow_18 : decode cX12_meanNow 18 = .ok (.goto 17, 3) := by decide +kernel
theorem dX12_meanNow_21 : decode cX12_meanNow 21 = .ok (.aload_n 0, 1) := by decide +kernel
theorem dX12_meanNow_22 : decode cX12_meanNow 22 = .ok (.iload_n 1, 1) := by decide +kernel
theorem dX12_meanNow_23 : decode cX12_meanNow 23 = .ok (.iload_n 2, 1) := by decide +kernel
theorem dX12_meanNow_24 : decode cX12_meanNow 24 = .ok (.invokevirtual 165, 3) := by decide +kernel
theorem dX12_meanNow_27 : decode cX12_meanNow 27 = .ok (.i2l, 1) := by decide +kernel
theorem dX12_meanNow_28 : decode cX12_meanNow 28 = .ok (.iload 4, 2) := by decide +kernel
theorem dX12_meanNow_30 : decode cX12_meanNow 30 = .ok (.i2l, 1) := by decide +kernel
theorem dX12_meanNow_31 : decode cX12_meanNow 31 = .ok (.iload_n 3, 1) := by decide +kernel
theorem dX12_meanNow_32 : decode cX12_meanNow 32 = .ok (.invokestatic 168, 3) := by decide +kernel
theorem dX12_meanNow_35 : decode cX12_meanNow 35 = .ok (.lreturn, 1) := by decide +kernel
theorem dX12_mean_0 : decode cX12_mean 0 = .ok (.iload_n 1, 1) := by decide +kernel
theorem dX12_mean_1 : decode cX12_mean 1 = .ok (.invokestatic 154, 3) := by decide +kernel
theorem dX12_mean_4 : decode cX12_mean 4 = .ok (.ifCond .eq 29, 3) := by decide +kernel
theorem dX12_mean_7 : decode cX12_mean 7 = .ok (.iload_n 2, 1) := by decide +kernel
theorem dX12_mean_8 : decode cX12_mean 8 = .ok (.invokestatic 115, 3) := by decide +kernel
theorem dX12_mean_11 : decode cX12_mean 11 = .ok (.ifCond .eq 22, 3) := by decide +kernel
theorem dX12_mean_14 : decode cX12_mean 14 = .ok (.iload_n 3, 1) := by decide +kernel
theorem dX12_mean_15 : decode cX12_mean 15 = .ok (.iconst 0, 1) := by decide +kernel
theorem dX12_mean_16 : decode cX12_mean 16 = .ok (.iconst 1, 1) := by decide +kernel
theorem dX12_mean_17 : decode cX12_mean 17 = .ok (.invokestatic 107, 3) := by decide +kernel
theorem dX12_mean_20 : decode cX12_mean 20 = .ok (.ifCond .eq 13, 3) := by decide +kernel
theorem dX12_mean_23 : decode cX12_mean 23 = .ok (.aload_n 0, 1) := by decide +kernel
theorem dX12_mean_24 : decode cX12_mean 24 = .ok (.iload_n 1, 1) := by decide +kernel
theorem dX12_mean_25 : decode cX12_mean 25 = .ok (.iload_n 2, 1) := by decide +kernel
theorem dX12_mean_26 : decode cX12_mean 26 = .ok (.iload_n 3, 1) := by decide +kernel
theorem dX12_mean_27 : decode cX12_mean 27 = .ok (.invokevirtual 172, 3) := by decide +kernel
theorem dX12_mean_30 : decode cX12_mean 30 = .ok (.goto 8, 3) := by decide +kernel
theorem dX12_mean_33 : decode cX12_mean 33 = .ok (.bipush (-2), 2) := by decide +kernel
theorem dX12_mean_35 : decode cX12_mean 35 = .ok (.invokestatic 161, 3) := by decide +kernel
theorem dX12_mean_38 : decode cX12_mean 38 = .ok (.lreturn, 1) := by decide +kernel
theorem dX12_refused_0 : decode cX12_refused 0 = .ok (.iload_n 1, 1) := by decide +kernel
theorem dX12_refused_1 : decode cX12_refused 1 = .ok (.invokestatic 154, 3) := by decide +kernel
theorem dX12_refused_4 : decode cX12_refused 4 = .ok (.ifCond .eq 27, 3) := by decide +kernel
theorem dX12_refused_7 : decode cX12_refused 7 = .ok (.iload_n 2, 1) := by decide +kernel
theorem dX12_refused_8 : decode cX12_refused 8 = .ok (.invokestatic 115, 3) := by decide +kernel
theorem dX12_refused_11 : decode cX12_refused 11 = .ok (.ifCond .eq 20, 3) := by decide +kernel
theorem dX12_refused_14 : decode cX12_refused 14 = .ok (.iload_n 3, 1) := by decide +kernel
theorem dX12_refused_15 : decode cX12_refused 15 = .ok (.invokestatic 118, 3) := by decide +kernel
theorem dX12_refused_18 : decode cX12_refused 18 = .ok (.ifCond .eq 13, 3) := by decide +kernel
theorem dX12_refused_21 : decode cX12_refused 21 = .ok (.iload 4, 2) := by decide +kernel
theorem dX12_refused_23 : decode cX12_refused 23 = .ok (.iconst 0, 1) := by decide +kernel
theorem dX12_refused_24 : decode cX12_refused 24 = .ok (.iconst 1, 1) := by decide +kernel
theorem dX12_refused_25 : decode cX12_refused 25 = .ok (.invokestatic 107, 3) := by decide +kernel
theorem dX12_refused_28 : decode cX12_refused 28 = .ok (.ifCond .ne 9, 3) := by decide +kernel
theorem dX12_refused_31 : decode cX12_refused 31 = .ok (.bipush (-2), 2) := by decide +kernel
theorem dX12_refused_33 : decode cX12_refused 33 = .ok (.invokestatic 161, 3) := by decide +kernel
theorem dX12_refused_36 : decode cX12_refused 36 = .ok (.lreturn, 1) := by decide +kernel
theorem dX12_refused_37 : decode cX12_refused 37 = .ok (.iconst 0, 1) := by decide +kernel
theorem dX12_refused_38 : decode cX12_refused 38 = .ok (.istore 5, 2) := by decide +kernel
theorem dX12_refused_40 : decode cX12_refused 40 = .ok (.iconst 0, 1) := by decide +kernel
theorem dX12_refused_41 : decode cX12_refused 41 = .ok (.istore 6, 2) := by decide +kernel
theorem dX12_refused_43 : decode cX12_refused 43 = .ok (.iconst 0, 1) := by decide +kernel
theorem dX12_refused_44 : decode cX12_refused 44 = .ok (.istore 7, 2) := by decide +kernel
theorem dX12_refused_46 : decode cX12_refused 46 = .ok (.iload 7, 2) := by decide +kernel
theorem dX12_refused_48 : decode cX12_refused 48 = .ok (.aload_n 0, 1) := by decide +kernel
theorem dX12_refused_49 : decode cX12_refused 49 = .ok (.getfield 124, 3) := by decide +kernel
theorem dX12_refused_52 : decode cX12_refused 52 = .ok (.if_icmp .ge 76, 3) := by decide +kernel
theorem dX12_refused_55 : decode cX12_refused 55 = .ok (.aload_n 0, 1) := by decide +kernel
theorem dX12_refused_56 : decode cX12_refused 56 = .ok (.iload 7, 2) := by decide +kernel
theorem dX12_refused_58 : decode cX12_refused 58 = .ok (.iload_n 1, 1) := by decide +kernel
theorem dX12_refused_59 : decode cX12_refused 59 = .ok (.iload_n 2, 1) := by decide +kernel
theorem dX12_refused_60 : decode cX12_refused 60 = .ok (.invokevirtual 141, 3) := by decide +kernel
theorem dX12_refused_63 : decode cX12_refused 63 = .ok (.ifCond .eq 18, 3) := by decide +kernel
theorem dX12_refused_66 : decode cX12_refused 66 = .ok (.aload_n 0, 1) := by decide +kernel
theorem dX12_refused_67 : decode cX12_refused 67 = .ok (.getfield 16, 3) := by decide +kernel
theorem dX12_refused_70 : decode cX12_refused 70 = .ok (.iload 7, 2) := by decide +kernel
theorem dX12_refused_72 : decode cX12_refused 72 = .ok (.iaload, 1) := by decide +kernel
theorem dX12_refused_73 : decode cX12_refused 73 = .ok (.iload_n 3, 1) := by decide +kernel
theorem dX12_refused_74 : decode cX12_refused 74 = .ok (.if_icmp .ne 7, 3) := by decide +kernel
theorem dX12_refused_77 : decode cX12_refused 77 = .ok (.iconst 1, 1) := by decide +kernel
theorem dX12_refused_78 : decode cX12_refused 78 = .ok (.goto 4, 3) := by decide +kernel
theorem dX12_refused_81 : decode cX12_refused 81 = .ok (.iconst 0, 1) := by decide +kernel
theorem dX12_refused_82 : decode cX12_refused 82 = .ok (.istore 8, 2) := by decide +kernel
theorem dX12_refused_84 : decode cX12_refused 84 = .ok (.iload 5, 2) := by decide +kernel
theorem dX12_refused_86 : decode cX12_refused 86 = .ok (.iload 8, 2) := by decide +kernel
theorem dX12_refused_88 : decode cX12_refused 88 = .ok (.ifCond .eq 7, 3) := by decide +kernel
theorem dX12_refused_91 : decode cX12_refused 91 = .ok (.iconst 1, 1) := by decide +kernel
theorem dX12_refused_92 : decode cX12_refused 92 = .ok (.goto 4, 3) := by decide +kernel
theorem dX12_refused_95 : decode cX12_refused 95 = .ok (.iconst 0, 1) := by decide +kernel
theorem dX12_refused_96 : decode cX12_refused 96 = .ok (.iadd, 1) := by decide +kernel
theorem dX12_refused_97 : decode cX12_refused 97 = .ok (.istore 5, 2) := by decide +kernel
theorem dX12_refused_99 : decode cX12_refused 99 = .ok (.iload 6, 2) := by decide +kernel
theorem dX12_refused_101 : decode cX12_refused 101 = .ok (.iload 8, 2) := by decide +kernel
theorem dX12_refused_103 : decode cX12_refused 103 = .ok (.ifCond .eq 15, 3) := by decide +kernel
theorem dX12_refused_106 : decode cX12_refused 106 = .ok (.iconst 1, 1) := by decide +kernel
theorem dX12_refused_107 : decode cX12_refused 107 = .ok (.aload_n 0, 1) := by decide +kernel
theorem dX12_refused_108 : decode cX12_refused 108 = .ok (.getfield 19, 3) := by decide +kernel
theorem dX12_refused_111 : decode cX12_refused 111 = .ok (.iload 7, 2) := by decide +kernel
theorem dX12_refused_113 : decode cX12_refused 113 = .ok (.iaload, 1) := by decide +kernel
theorem dX12_refused_114 : decode cX12_refused 114 = .ok (.isub, 1) := by decide +kernel
theorem dX12_refused_115 : decode cX12_refused 115 = .ok (.goto 4, 3) := by decide +kernel
theorem dX12_refused_118 : decode cX12_refused 118 = .ok (.iconst 0, 1) := by decide +kernel
theorem dX12_refused_119 : decode cX12_refused 119 = .ok (.iadd, 1) := by decide +kernel
theorem dX12_refused_120 : decode cX12_refused 120 = .ok (.istore 6, 2) := by decide +kernel
theorem dX12_refused_122 : decode cX12_refused 122 = .ok (.iinc 7 1, 3) := by decide +kernel
theorem dX12_refused_125 : decode cX12_refused 125 = .ok (.goto (-79), 3) := by decide +kernel
theorem dX12_refused_128 : decode cX12_refused 128 = .ok (.iload 5, 2) := by decide +kernel
theorem dX12_refused_130 : decode cX12_refused 130 = .ok (.ifCond .ne 11, 3) := by decide +kernel
theorem dX12_refused_133 : decode cX12_refused 133 = .ok (.bipush (-3), 2) := by decide +kernel
theorem dX12_refused_135 : decode cX12_refused 135 = .ok (.invokestatic 161, 3) := by decide +kernel
theorem dX12_refused_138 : decode cX12_refused 138 = .ok (.goto 14, 3) := by decide +kernel
theorem dX12_refused_141 : decode cX12_refused 141 = .ok (.iload 6, 2) := by decide +kernel
theorem dX12_refused_143 : decode cX12_refused 143 = .ok (.i2l, 1) := by decide +kernel
theorem dX12_refused_144 : decode cX12_refused 144 = .ok (.iload 5, 2) := by decide +kernel
theorem dX12_refused_146 : decode cX12_refused 146 = .ok (.i2l, 1) := by decide +kernel
theorem dX12_refused_147 : decode cX12_refused 147 = .ok (.iload 4, 2) := by decide +kernel
theorem dX12_refused_149 : decode cX12_refused 149 = .ok (.invokestatic 168, 3) := by decide +kernel
theorem dX12_refused_152 : decode cX12_refused 152 = .ok (.lreturn, 1) := by decide +kernel
theorem dX12_moves_0 : decode cX12_moves 0 = .ok (.iload_n 1, 1) := by decide +kernel
theorem dX12_moves_1 : decode cX12_moves 1 = .ok (.invokestatic 154, 3) := by decide +kernel
theorem dX12_moves_4 : decode cX12_moves 4 = .ok (.ifCond .eq 21, 3) := by decide +kernel
theorem dX12_moves_7 : decode cX12_moves 7 = .ok (.iload_n 2, 1) := by decide +kernel
theorem dX12_moves_8 : decode cX12_moves 8 = .ok (.iconst 0, 1) := by decide +kernel
theorem dX12_moves_9 : decode cX12_moves 9 = .ok (.iconst 2, 1) := by decide +kernel
theorem dX12_moves_10 : decode cX12_moves 10 = .ok (.invokestatic 107, 3) := by decide +kernel
theorem dX12_moves_13 : decode cX12_moves 13 = .ok (.ifCond .eq 12, 3) := by decide +kernel
theorem dX12_moves_16 : decode cX12_moves 16 = .ok (.iload_n 3, 1) := by decide +kernel
theorem dX12_moves_17 : decode cX12_moves 17 = .ok (.iconst 0, 1) := by decide +kernel
theorem dX12_moves_18 : decode cX12_moves 18 = .ok (.iconst 1, 1) := by decide +kernel
theorem dX12_moves_19 : decode cX12_moves 19 = .ok (.invokestatic 107, 3) := by decide +kernel
theorem dX12_moves_22 : decode cX12_moves 22 = .ok (.ifCond .ne 9, 3) := by decide +kernel
theorem dX12_moves_25 : decode cX12_moves 25 = .ok (.bipush (-2), 2) := by decide +kernel
theorem dX12_moves_27 : decode cX12_moves 27 = .ok (.invokestatic 161, 3) := by decide +kernel
theorem dX12_moves_30 : decode cX12_moves 30 = .ok (.lreturn, 1) := by decide +kernel
theorem dX12_moves_31 : decode cX12_moves 31 = .ok (.iload_n 2, 1) := by decide +kernel
theorem dX12_moves_32 : decode cX12_moves 32 = .ok (.iconst 1, 1) := by decide +kernel
theorem dX12_moves_33 : decode cX12_moves 33 = .ok (.if_icmp .ne 7, 3) := by decide +kernel
theorem dX12_moves_36 : decode cX12_moves 36 = .ok (.iconst 3, 1) := by decide +kernel
theorem dX12_moves_37 : decode cX12_moves 37 = .ok (.goto 4, 3) := by decide +kernel
theorem dX12_moves_40 : decode cX12_moves 40 = .ok (.iconst 0, 1) := by decide +kernel
theorem dX12_moves_41 : decode cX12_moves 41 = .ok (.istore 4, 2) := by decide +kernel
theorem dX12_moves_43 : decode cX12_moves 43 = .ok (.iload_n 2, 1) := by decide +kernel
theorem dX12_moves_44 : decode cX12_moves 44 = .ok (.ifCond .ne 7, 3) := by decide +kernel
theorem dX12_moves_47 : decode cX12_moves 47 = .ok (.iconst 1, 1) := by decide +kernel
theorem dX12_moves_48 : decode cX12_moves 48 = .ok (.goto 13, 3) := by decide +kernel
theorem dX12_moves_51 : decode cX12_moves 51 = .ok (.iload_n 2, 1) := by decide +kernel
theorem dX12_moves_52 : decode cX12_moves 52 = .ok (.iconst 1, 1) := by decide +kernel
theorem dX12_moves_53 : decode cX12_moves 53 = .ok (.if_icmp .ne 7, 3) := by decide +kernel
theorem dX12_moves_56 : decode cX12_moves 56 = .ok (.iconst 0, 1) := by decide +kernel
theorem dX12_moves_57 : decode cX12_moves 57 = .ok (.goto 4, 3) := by decide +kernel
theorem dX12_moves_60 : decode cX12_moves 60 = .ok (.iconst 2, 1) := by decide +kernel
theorem dX12_moves_61 : decode cX12_moves 61 = .ok (.istore 5, 2) := by decide +kernel
theorem dX12_moves_63 : decode cX12_moves 63 = .ok (.aload_n 0, 1) := by decide +kernel
theorem dX12_moves_64 : decode cX12_moves 64 = .ok (.iload_n 1, 1) := by decide +kernel
theorem dX12_moves_65 : decode cX12_moves 65 = .ok (.iload 4, 2) := by decide +kernel
theorem dX12_moves_67 : decode cX12_moves 67 = .ok (.invokevirtual 144, 3) := by decide +kernel
theorem dX12_moves_70 : decode cX12_moves 70 = .ok (.i2l, 1) := by decide +kernel
theorem dX12_moves_71 : decode cX12_moves 71 = .ok (.lstore 6, 2) := by decide +kernel
theorem dX12_moves_73 : decode cX12_moves 73 = .ok (.aload_n 0, 1) := by decide +kernel
theorem dX12_moves_74 : decode cX12_moves 74 = .ok (.iload_n 1, 1) := by decide +kernel
theorem dX12_moves_75 : decode cX12_moves 75 = .ok (.iload 5, 2) := by decide +kernel
theorem dX12_moves_77 : decode cX12_moves 77 = .ok (.invokevirtual 144, 3) := by decide +kernel
theorem dX12_moves_80 : decode cX12_moves 80 = .ok (.i2l, 1) := by decide +kernel
theorem dX12_moves_81 : decode cX12_moves 81 = .ok (.lstore 8, 2) := by decide +kernel
theorem dX12_moves_83 : decode cX12_moves 83 = .ok (.lload 6, 2) := by decide +kernel
theorem dX12_moves_85 : decode cX12_moves 85 = .ok (.lconst 0, 1) := by decide +kernel
theorem dX12_moves_86 : decode cX12_moves 86 = .ok (.lcmp, 1) := by decide +kernel
theorem dX12_moves_87 : decode cX12_moves 87 = .ok (.ifCond .eq 10, 3) := by decide +kernel
theorem dX12_moves_90 : decode cX12_moves 90 = .ok (.lload 8, 2) := by decide +kernel
theorem dX12_moves_92 : decode cX12_moves 92 = .ok (.lconst 0, 1) := by decide +kernel
theorem dX12_moves_93 : decode cX12_moves 93 = .ok (.lcmp, 1) := by decide +kernel
theorem dX12_moves_94 : decode cX12_moves 94 = .ok (.ifCond .ne 9, 3) := by decide +kernel
theorem dX12_moves_97 : decode cX12_moves 97 = .ok (.bipush (-3), 2) := by decide +kernel
theorem dX12_moves_99 : decode cX12_moves 99 = .ok (.invokestatic 161, 3) := by decide +kernel
theorem dX12_moves_102 : decode cX12_moves 102 = .ok (.lreturn, 1) := by decide +kernel
theorem dX12_moves_103 : decode cX12_moves 103 = .ok (.iload_n 2, 1) := by decide +kernel
theorem dX12_moves_104 : decode cX12_moves 104 = .ok (.iconst 2, 1) := by decide +kernel
theorem dX12_moves_105 : decode cX12_moves 105 = .ok (.if_icmp .ne 14, 3) := by decide +kernel
theorem dX12_moves_108 : decode cX12_moves 108 = .ok (.aload_n 0, 1) := by decide +kernel
theorem dX12_moves_109 : decode cX12_moves 109 = .ok (.iload_n 1, 1) := by decide +kernel
theorem dX12_moves_110 : decode cX12_moves 110 = .ok (.iload 4, 2) := by decide +kernel
theorem dX12_moves_112 : decode cX12_moves 112 = .ok (.invokevirtual 148, 3) := by decide +kernel
theorem dX12_moves_115 : decode cX12_moves 115 = .ok (.i2l, 1) := by decide +kernel
theorem dX12_moves_116 : decode cX12_moves 116 = .ok (.goto 11, 3) := by decide +kernel
theorem dX12_moves_119 : decode cX12_moves 119 = .ok (.aload_n 0, 1) := by decide +kernel
theorem dX12_moves_120 : decode cX12_moves 120 = .ok (.iload_n 1, 1) := by decide +kernel
theorem dX12_moves_121 : decode cX12_moves 121 = .ok (.iload 4, 2) := by decide +kernel
theorem dX12_moves_123 : decode cX12_moves 123 = .ok (.invokevirtual 165, 3) := by decide +kernel
theorem dX12_moves_126 : decode cX12_moves 126 = .ok (.i2l, 1) := by decide +kernel
theorem dX12_moves_127 : decode cX12_moves 127 = .ok (.lstore 10, 2) := by decide +kernel
theorem dX12_moves_129 : decode cX12_moves 129 = .ok (.iload_n 2, 1) := by decide +kernel
theorem dX12_moves_130 : decode cX12_moves 130 = .ok (.iconst 2, 1) := by decide +kernel
theorem dX12_moves_131 : decode cX12_moves 131 = .ok (.if_icmp .ne 14, 3) := by decide +kernel
theorem dX12_moves_134 : decode cX12_moves 134 = .ok (.aload_n 0, 1) := by decide +kernel
theorem dX12_moves_135 : decode cX12_moves 135 = .ok (.iload_n 1, 1) := by decide +kernel
theorem dX12_moves_136 : decode cX12_moves 136 = .ok (.iload 5, 2) := by decide +kernel
theorem dX12_moves_138 : decode cX12_moves 138 = .ok (.invokevirtual 148, 3) := by decide +kernel
theorem dX12_moves_141 : decode cX12_moves 141 = .ok (.i2l, 1) := by decide +kernel
theorem dX12_moves_142 : decode cX12_moves 142 = .ok (.goto 11, 3) := by decide +kernel
theorem dX12_moves_145 : decode cX12_moves 145 = .ok (.aload_n 0, 1) := by decide +kernel
theorem dX12_moves_146 : decode cX12_moves 146 = .ok (.iload_n 1, 1) := by decide +kernel
theorem dX12_moves_147 : decode cX12_moves 147 = .ok (.iload 5, 2) := by decide +kernel
theorem dX12_moves_149 : decode cX12_moves 149 = .ok (.invokevirtual 165, 3) := by decide +kernel
theorem dX12_moves_152 : decode cX12_moves 152 = .ok (.i2l, 1) := by decide +kernel
theorem dX12_moves_153 : decode cX12_moves 153 = .ok (.lstore 12, 2) := by decide +kernel
theorem dX12_moves_155 : decode cX12_moves 155 = .ok (.lload 10, 2) := by decide +kernel
theorem dX12_moves_157 : decode cX12_moves 157 = .ok (.lload 8, 2) := by decide +kernel
theorem dX12_moves_159 : decode cX12_moves 159 = .ok (.lmul, 1) := by decide +kernel
theorem dX12_moves_160 : decode cX12_moves 160 = .ok (.lload 12, 2) := by decide +kernel
theorem dX12_moves_162 : decode cX12_moves 162 = .ok (.lload 6, 2) := by decide +kernel
theorem dX12_moves_164 : decode cX12_moves 164 = .ok (.lmul, 1) := by decide +kernel
theorem dX12_moves_165 : decode cX12_moves 165 = .ok (.lsub, 1) := by decide +kernel
theorem dX12_moves_166 : decode cX12_moves 166 = .ok (.lload 6, 2) := by decide +kernel
theorem dX12_moves_168 : decode cX12_moves 168 = .ok (.lload 8, 2) := by decide +kernel
theorem dX12_moves_170 : decode cX12_moves 170 = .ok (.lmul, 1) := by decide +kernel
theorem dX12_moves_171 : decode cX12_moves 171 = .ok (.iload_n 3, 1) := by decide +kernel
theorem dX12_moves_172 : decode cX12_moves 172 = .ok (.invokestatic 168, 3) := by decide +kernel
theorem dX12_moves_175 : decode cX12_moves 175 = .ok (.lreturn, 1) := by decide +kernel
theorem dX12_row_0 : decode cX12_row 0 = .ok (.iload_n 1, 1) := by decide +kernel
theorem dX12_row_1 : decode cX12_row 1 = .ok (.invokestatic 111, 3) := by decide +kernel
theorem dX12_row_4 : decode cX12_row 4 = .ok (.ifCond .eq 14, 3) := by decide +kernel
theorem dX12_row_7 : decode cX12_row 7 = .ok (.iload_n 2, 1) := by decide +kernel
theorem dX12_row_8 : decode cX12_row 8 = .ok (.iconst 0, 1) := by decide +kernel
theorem dX12_row_9 : decode cX12_row 9 = .ok (.sipush 2047, 3) := by decide +kernel
theorem dX12_row_12 : decode cX12_row 12 = .ok (.invokestatic 107, 3) := by decide +kernel
theorem dX12_row_15 : decode cX12_row 15 = .ok (.ifCond .ne 6, 3) := by decide +kernel
theorem dX12_row_18 : decode cX12_row 18 = .ok (.bipush (-2), 2) := by decide +kernel
theorem dX12_row_20 : decode cX12_row 20 = .ok (.ireturn, 1) := by decide +kernel
theorem dX12_row_21 : decode cX12_row 21 = .ok (.aload_n 0, 1) := by decide +kernel
theorem dX12_row_22 : decode cX12_row 22 = .ok (.getfield 176, 3) := by decide +kernel
theorem dX12_row_25 : decode cX12_row 25 = .ok (.bipush 12, 2) := by decide +kernel
theorem dX12_row_27 : decode cX12_row 27 = .ok (.if_icmp .ne 6, 3) := by decide +kernel
theorem dX12_row_30 : decode cX12_row 30 = .ok (.bipush (-4), 2) := by decide +kernel
theorem dX12_row_32 : decode cX12_row 32 = .ok (.ireturn, 1) := by decide +kernel
theorem dX12_row_33 : decode cX12_row 33 = .ok (.aload_n 0, 1) := by decide +kernel
theorem dX12_row_34 : decode cX12_row 34 = .ok (.getfield 32, 3) := by decide +kernel
theorem dX12_row_37 : decode cX12_row 37 = .ok (.aload_n 0, 1) := by decide +kernel
theorem dX12_row_38 : decode cX12_row 38 = .ok (.getfield 176, 3) := by decide +kernel
theorem dX12_row_41 : decode cX12_row 41 = .ok (.iload_n 1, 1) := by decide +kernel
theorem dX12_row_42 : decode cX12_row 42 = .ok (.iastore, 1) := by decide +kernel
theorem dX12_row_43 : decode cX12_row 43 = .ok (.aload_n 0, 1) := by decide +kernel
theorem dX12_row_44 : decode cX12_row 44 = .ok (.getfield 35, 3) := by decide +kernel
theorem dX12_row_47 : decode cX12_row 47 = .ok (.aload_n 0, 1) := by decide +kernel
theorem dX12_row_48 : decode cX12_row 48 = .ok (.getfield 176, 3) := by decide +kernel
theorem dX12_row_51 : decode cX12_row 51 = .ok (.iload_n 2, 1) := by decide +kernel
theorem dX12_row_52 : decode cX12_row 52 = .ok (.iastore, 1) := by decide +kernel
theorem dX12_row_53 : decode cX12_row 53 = .ok (.aload_n 0, 1) := by decide +kernel
theorem dX12_row_54 : decode cX12_row 54 = .ok (.dup, 1) := by decide +kernel
theorem dX12_row_55 : decode cX12_row 55 = .ok (.getfield 176, 3) := by decide +kernel
theorem dX12_row_58 : decode cX12_row 58 = .ok (.iconst 1, 1) := by decide +kernel
theorem dX12_row_59 : decode cX12_row 59 = .ok (.iadd, 1) := by decide +kernel
theorem dX12_row_60 : decode cX12_row 60 = .ok (.putfield 176, 3) := by decide +kernel
theorem dX12_row_63 : decode cX12_row 63 = .ok (.aload_n 0, 1) := by decide +kernel
theorem dX12_row_64 : decode cX12_row 64 = .ok (.getfield 176, 3) := by decide +kernel
theorem dX12_row_67 : decode cX12_row 67 = .ok (.iconst 1, 1) := by decide +kernel
theorem dX12_row_68 : decode cX12_row 68 = .ok (.isub, 1) := by decide +kernel
theorem dX12_row_69 : decode cX12_row 69 = .ok (.ireturn, 1) := by decide +kernel
theorem dX12_lineNow_0 : decode cX12_lineNow 0 = .ok (.bipush 99, 2) := by decide +kernel
theorem dX12_lineNow_2 : decode cX12_lineNow 2 = .ok (.istore_n 3, 1) := by decide +kernel
theorem dX12_lineNow_3 : decode cX12_lineNow 3 = .ok (.iconst 0, 1) := by decide +kernel
theorem dX12_lineNow_4 : decode cX12_lineNow 4 = .ok (.istore 4, 2) := by decide +kernel
theorem dX12_lineNow_6 : decode cX12_lineNow 6 = .ok (.iconst 0, 1) := by decide +kernel
theorem dX12_lineNow_7 : decode cX12_lineNow 7 = .ok (.istore 5, 2) := by decide +kernel
theorem dX12_lineNow_9 : decode cX12_lineNow 9 = .ok (.iconst 0, 1) := by decide +kernel
theorem dX12_lineNow_10 : decode cX12_lineNow 10 = .ok (.istore 6, 2) := by decide +kernel
theorem dX12_lineNow_12 : decode cX12_lineNow 12 = .ok (.iload 6, 2) := by decide +kernel
theorem dX12_lineNow_14 : decode cX12_lineNow 14 = .ok (.bipush 11, 2) := by decide +kernel
theorem dX12_lineNow_16 : decode cX12_lineNow 16 = .ok (.if_icmp .ge 95, 3) := by decide +kernel
theorem dX12_lineNow_19 : decode cX12_lineNow 19 = .ok (.bipush 10, 2) := by decide +kernel
theorem dX12_lineNow_21 : decode cX12_lineNow 21 = .ok (.istore 7, 2) := by decide +kernel
theorem dX12_lineNow_23 : decode cX12_lineNow 23 = .ok (.iload 7, 2) := by decide +kernel
theorem dX12_lineNow_25 : decode cX12_lineNow 25 = .ok (.iload 6, 2) := by decide +kernel
theorem dX12_lineNow_27 : decode cX12_lineNow 27 = .ok (.if_icmp .lt 78, 3) := by decide +kernel
theorem dX12_lineNow_30 : decode cX12_lineNow 30 = .ok (.iconst 0, 1) := by decide +kernel
theorem dX12_lineNow_31 : decode cX12_lineNow 31 = .ok (.istore 8, 2) := by decide +kernel
theorem dX12_lineNow_33 : decode cX12_lineNow 33 = .ok (.iconst 0, 1) := by decide +kernel
theorem dX12_lineNow_34 : decode cX12_lineNow 34 = .ok (.istore 9, 2) := by decide +kernel
theorem dX12_lineNow_36 : decode cX12_lineNow 36 = .ok (.iload 9, 2) := by decide +kernel
theorem dX12_lineNow_38 : decode cX12_lineNow 38 = .ok (.bipush 11, 2) := by decide +kernel
theorem dX12_lineNow_40 : decode cX12_lineNow 40 = .ok (.if_icmp .ge 42, 3) := by decide +kernel
theorem dX12_lineNow_43 : decode cX12_lineNow 43 = .ok (.iload 8, 2) := by decide +kernel
theorem dX12_lineNow_45 : decode cX12_lineNow 45 = .ok (.aload_n 0, 1) := by decide +kernel
theorem dX12_lineNow_46 : decode cX12_lineNow 46 = .ok (.getfield 35, 3) := by decide +kernel
theorem dX12_lineNow_49 : decode cX12_lineNow 49 = .ok (.iload_n 1, 1) := by decide +kernel
theorem dX12_lineNow_50 : decode cX12_lineNow 50 = .ok (.iaload, 1) := by decide +kernel
theorem dX12_lineNow_51 : decode cX12_lineNow 51 = .ok (.iload 9, 2) := by decide +kernel
theorem dX12_lineNow_53 : decode cX12_lineNow 53 = .ok (.invokestatic 179, 3) := by decide +kernel
theorem dX12_lineNow_56 : decode cX12_lineNow 56 = .ok (.iload 9, 2) := by decide +kernel
theorem dX12_lineNow_58 : decode cX12_lineNow 58 = .ok (.iload 6, 2) := by decide +kernel
theorem dX12_lineNow_60 : decode cX12_lineNow 60 = .ok (.iload 7, 2) := by decide +kernel
theorem dX12_lineNow_62 : decode cX12_lineNow 62 = .ok (.invokestatic 107, 3) := by decide +kernel
theorem dX12_lineNow_65 : decode cX12_lineNow 65 = .ok (.if_icmp .ne 7, 3) := by decide +kernel
theorem dX12_lineNow_68 : decode cX12_lineNow 68 = .ok (.iconst 0, 1) := by decide +kernel
theorem dX12_lineNow_69 : decode cX12_lineNow 69 = .ok (.goto 4, 3) := by decide +kernel
theorem dX12_lineNow_72 : decode cX12_lineNow 72 = .ok (.iconst 1, 1) := by decide +kernel
theorem dX12_lineNow_73 : decode cX12_lineNow 73 = .ok (.iadd, 1) := by decide +kernel
theorem dX12_lineNow_74 : decode cX12_lineNow 74 = .ok (.istore 8, 2) := by decide +kernel
theorem dX12_lineNow_76 : decode cX12_lineNow 76 = .ok (.iinc 9 1, 3) := by decide +kernel
theorem dX12_lineNow_79 : decode cX12_lineNow 79 = .ok (.goto (-43), 3) := by decide +kernel
theorem dX12_lineNow_82 : decode cX12_lineNow 82 = .ok (.iload 8, 2) := by decide +kernel
theorem dX12_lineNow_84 : decode cX12_lineNow 84 = .ok (.iload_n 3, 1) := by decide +kernel
theorem dX12_lineNow_85 : decode cX12_lineNow 85 = .ok (.if_icmp .ge 14, 3) := by decide +kernel
theorem dX12_lineNow_88 : decode cX12_lineNow 88 = .ok (.iload 8, 2) := by decide +kernel
theorem dX12_lineNow_90 : decode cX12_lineNow 90 = .ok (.istore_n 3, 1) := by decide +kernel
theorem dX12_lineNow_91 : decode cX12_lineNow 91 = .ok (.iload 6, 2) := by decide +kernel
theorem dX12_lineNow_93 : decode cX12_lineNow 93 = .ok (.istore 4, 2) := by decide +kernel
theorem dX12_lineNow_95 : decode cX12_lineNow 95 = .ok (.iload 7, 2) := by decide +kernel
theorem dX12_lineNow_97 : decode cX12_lineNow 97 = .ok (.istore 5, 2) := by decide +kernel
theorem dX12_lineNow_99 : decode cX12_lineNow 99 = .ok (.iinc 7 (-1), 3) := by decide +kernel
theorem dX12_lineNow_102 : decode cX12_lineNow 102 = .ok (.goto (-79), 3) := by decide +kernel
theorem dX12_lineNow_105 : decode cX12_lineNow 105 = .ok (.iinc 6 1, 3) := by decide +kernel
theorem dX12_lineNow_108 : decode cX12_lineNow 108 = .ok (.goto (-96), 3) := by decide +kernel
theorem dX12_lineNow_111 : decode cX12_lineNow 111 = .ok (.iload_n 2, 1) := by decide +kernel
theorem dX12_lineNow_112 : decode cX12_lineNow 112 = .ok (.ifCond .ne 7, 3) := by decide +kernel
theorem dX12_lineNow_115 : decode cX12_lineNow 115 = .ok (.iload_n 3, 1) := by decide +kernel
theorem dX12_lineNow_116 : decode cX12_lineNow 116 = .ok (.goto 15, 3) := by decide +kernel
theorem dX12_lineNow_119 : decode cX12_lineNow 119 = .ok (.iload_n 2, 1) := by decide +kernel
theorem dX12_lineNow_120 : decode cX12_lineNow 120 = .ok (.iconst 1, 1) := by decide +kernel
theorem dX12_lineNow_121 : decode cX12_lineNow 121 = .ok (.if_icmp .ne 8, 3) := by decide +kernel
theorem dX12_lineNow_124 : decode cX12_lineNow 124 = .ok (.iload 4, 2) := by decide +kernel
theorem dX12_lineNow_126 : decode cX12_lineNow 126 = .ok (.goto 5, 3) := by decide +kernel
theorem dX12_lineNow_129 : decode cX12_lineNow 129 = .ok (.iload 5, 2) := by decide +kernel
theorem dX12_lineNow_131 : decode cX12_lineNow 131 = .ok (.ireturn, 1) := by decide +kernel
theorem dX12_line_0 : decode cX12_line 0 = .ok (.iload_n 1, 1) := by decide +kernel
theorem dX12_line_1 : decode cX12_line 1 = .ok (.iconst 0, 1) := by decide +kernel
theorem dX12_line_2 : decode cX12_line 2 = .ok (.aload_n 0, 1) := by decide +kernel
theorem dX12_line_3 : decode cX12_line 3 = .ok (.getfield 176, 3) := by decide +kernel
theorem dX12_line_6 : decode cX12_line 6 = .ok (.iconst 1, 1) := by decide +kernel
theorem dX12_line_7 : decode cX12_line 7 = .ok (.isub, 1) := by decide +kernel
theorem dX12_line_8 : decode cX12_line 8 = .ok (.invokestatic 107, 3) := by decide +kernel
theorem dX12_line_11 : decode cX12_line 11 = .ok (.ifCond .eq 21, 3) := by decide +kernel
theorem dX12_line_14 : decode cX12_line 14 = .ok (.iload_n 2, 1) := by decide +kernel
theorem dX12_line_15 : decode cX12_line 15 = .ok (.iconst 0, 1) := by decide +kernel
theorem dX12_line_16 : decode cX12_line 16 = .ok (.iconst 2, 1) := by decide +kernel
theorem dX12_line_17 : decode cX12_line 17 = .ok (.invokestatic 107, 3) := by decide +kernel
theorem dX12_line_20 : decode cX12_line 20 = .ok (.ifCond .eq 12, 3) := by decide +kernel
theorem dX12_line_23 : decode cX12_line 23 = .ok (.aload_n 0, 1) := by decide +kernel
theorem dX12_line_24 : decode cX12_line 24 = .ok (.iload_n 1, 1) := by decide +kernel
theorem dX12_line_25 : decode cX12_line 25 = .ok (.iload_n 2, 1) := by decide +kernel
theorem dX12_line_26 : decode cX12_line 26 = .ok (.invokevirtual 183, 3) := by decide +kernel
theorem dX12_line_29 : decode cX12_line 29 = .ok (.goto 5, 3) := by decide +kernel
theorem dX12_line_32 : decode cX12_line 32 = .ok (.bipush (-2), 2) := by decide +kernel
theorem dX12_line_34 : decode cX12_line 34 = .ok (.ireturn, 1) := by decide +kernel
theorem dX12_rowsOf_0 : decode cX12_rowsOf 0 = .ok (.iconst 0, 1) := by decide +kernel
theorem dX12_rowsOf_1 : decode cX12_rowsOf 1 = .ok (.istore_n 2, 1) := by decide +kernel
theorem dX12_rowsOf_2 : decode cX12_rowsOf 2 = .ok (.iconst 0, 1) := by decide +kernel
theorem dX12_rowsOf_3 : decode cX12_rowsOf 3 = .ok (.istore_n 3, 1) := by decide +kernel
theorem dX12_rowsOf_4 : decode cX12_rowsOf 4 = .ok (.iload_n 3, 1) := by decide +kernel
theorem dX12_rowsOf_5 : decode cX12_rowsOf 5 = .ok (.aload_n 0, 1) := by decide +kernel
theorem dX12_rowsOf_6 : decode cX12_rowsOf 6 = .ok (.getfield 176, 3) := by decide +kernel
theorem dX12_rowsOf_9 : decode cX12_rowsOf 9 = .ok (.if_icmp .ge 32, 3) := by decide +kernel
theorem dX12_rowsOf_12 : decode cX12_rowsOf 12 = .ok (.iload_n 2, 1) := by decide +kernel
theorem dX12_rowsOf_13 : decode cX12_rowsOf 13 = .ok (.iload_n 1, 1) := by decide +kernel
theorem dX12_rowsOf_14 : decode cX12_rowsOf 14 = .ok (.iconst (-1), 1) := by decide +kernel
theorem dX12_rowsOf_15 : decode cX12_rowsOf 15 = .ok (.if_icmp .eq 13, 3) := by decide +kernel
theorem dX12_rowsOf_18 : decode cX12_rowsOf 18 = .ok (.aload_n 0, 1) := by decide +kernel
theorem dX12_rowsOf_19 : decode cX12_rowsOf 19 = .ok (.getfield 32, 3) := by decide +kernel
theorem dX12_rowsOf_22 : decode cX12_rowsOf 22 = .ok (.iload_n 3, 1) := by decide +kernel
theorem dX12_rowsOf_23 : decode cX12_rowsOf 23 = .ok (.iaload, 1) := by decide +kernel
theorem dX12_rowsOf_24 : decode cX12_rowsOf 24 = .ok (.iload_n 1, 1) := by decide +kernel
theorem dX12_rowsOf_25 : decode cX12_rowsOf 25 = .ok (.if_icmp .ne 7, 3) := by decide +kernel
theorem dX12_rowsOf_28 : decode cX12_rowsOf 28 = .ok (.iconst 1, 1) := by decide +kernel
theorem dX12_rowsOf_29 : decode cX12_rowsOf 29 = .ok (.goto 4, 3) := by decide +kernel
theorem dX12_rowsOf_32 : decode cX12_rowsOf 32 = .ok (.iconst 0, 1) := by decide +kernel
theorem dX12_rowsOf_33 : decode cX12_rowsOf 33 = .ok (.iadd, 1) := by decide +kernel
theorem dX12_rowsOf_34 : decode cX12_rowsOf 34 = .ok (.istore_n 2, 1) := by decide +kernel
theorem dX12_rowsOf_35 : decode cX12_rowsOf 35 = .ok (.iinc 3 1, 3) := by decide +kernel
theorem dX12_rowsOf_38 : decode cX12_rowsOf 38 = .ok (.goto (-34), 3) := by decide +kernel
theorem dX12_rowsOf_41 : decode cX12_rowsOf 41 = .ok (.iload_n 2, 1) := by decide +kernel
theorem dX12_rowsOf_42 : decode cX12_rowsOf 42 = .ok (.ireturn, 1) := by decide +kernel
theorem dX12_yesesOf_0 : decode cX12_yesesOf 0 = .ok (.iconst 0, 1) := by decide +kernel
theorem dX12_yesesOf_1 : decode cX12_yesesOf 1 = .ok (.istore_n 3, 1) := by decide +kernel
theorem dX12_yesesOf_2 : decode cX12_yesesOf 2 = .ok (.iconst 0, 1) := by decide +kernel
theorem dX12_yesesOf_3 : decode cX12_yesesOf 3 = .ok (.istore 4, 2) := by decide +kernel
theorem dX12_yesesOf_5 : decode cX12_yesesOf 5 = .ok (.iload 4, 2) := by decide +kernel
theorem dX12_yesesOf_7 : decode cX12_yesesOf 7 = .ok (.aload_n 0, 1) := by decide +kernel
theorem dX12_yesesOf_8 : decode cX12_yesesOf 8 = .ok (.getfield 176, 3) := by decide +kernel
theorem dX12_yesesOf_11 : decode cX12_yesesOf 11 = .ok (.if_icmp .ge 47, 3) := by decide +kernel
theorem dX12_yesesOf_14 : decode cX12_yesesOf 14 = .ok (.iload_n 3, 1) := by decide +kernel
theorem dX12_yesesOf_15 : decode cX12_yesesOf 15 = .ok (.iload_n 1, 1) := by decide +kernel
theorem dX12_yesesOf_16 : decode cX12_yesesOf 16 = .ok (.iconst (-1), 1) := by decide +kernel
theorem dX12_yesesOf_17 : decode cX12_yesesOf 17 = .ok (.if_icmp .eq 14, 3) := by decide +kernel
theorem dX12_yesesOf_20 : decode cX12_yesesOf 20 = .ok (.aload_n 0, 1) := by decide +kernel
theorem dX12_yesesOf_21 : decode cX12_yesesOf 21 = .ok (.getfield 32, 3) := by decide +kernel
theorem dX12_yesesOf_24 : decode cX12_yesesOf 24 = .ok (.iload 4, 2) := by decide +kernel
theorem dX12_yesesOf_26 : decode cX12_yesesOf 26 = .ok (.iaload, 1) := by decide +kernel
theorem dX12_yesesOf_27 : decode cX12_yesesOf 27 = .ok (.iload_n 1, 1) := by decide +kernel
theorem dX12_yesesOf_28 : decode cX12_yesesOf 28 = .ok (.if_icmp .ne 21, 3) := by decide +kernel
theorem dX12_yesesOf_31 : decode cX12_yesesOf 31 = .ok (.aload_n 0, 1) := by decide +kernel
theorem dX12_yesesOf_32 : decode cX12_yesesOf 32 = .ok (.getfield 35, 3) := by decide +kernel
theorem dX12_yesesOf_35 : decode cX12_yesesOf 35 = .ok (.iload 4, 2) := by decide +kernel
theorem dX12_yesesOf_37 : decode cX12_yesesOf 37 = .ok (.iaload, 1) := by decide +kernel
theorem dX12_yesesOf_38 : decode cX12_yesesOf 38 = .ok (.iload_n 2, 1) := by decide +kernel
theorem dX12_yesesOf_39 : decode cX12_yesesOf 39 = .ok (.invokestatic 179, 3) := by decide +kernel
theorem dX12_yesesOf_42 : decode cX12_yesesOf 42 = .ok (.ifCond .eq 7, 3) := by decide +kernel
theorem dX12_yesesOf_45 : decode cX12_yesesOf 45 = .ok (.iconst 1, 1) := by decide +kernel
theorem dX12_yesesOf_46 : decode cX12_yesesOf 46 = .ok (.goto 4, 3) := by decide +kernel
theorem dX12_yesesOf_49 : decode cX12_yesesOf 49 = .ok (.iconst 0, 1) := by decide +kernel
theorem dX12_yesesOf_50 : decode cX12_yesesOf 50 = .ok (.iadd, 1) := by decide +kernel
theorem dX12_yesesOf_51 : decode cX12_yesesOf 51 = .ok (.istore_n 3, 1) := by decide +kernel
theorem dX12_yesesOf_52 : decode cX12_yesesOf 52 = .ok (.iinc 4 1, 3) := by decide +kernel
theorem dX12_yesesOf_55 : decode cX12_yesesOf 55 = .ok (.goto (-50), 3) := by decide +kernel
theorem dX12_yesesOf_58 : decode cX12_yesesOf 58 = .ok (.iload_n 3, 1) := by decide +kernel
theorem dX12_yesesOf_59 : decode cX12_yesesOf 59 = .ok (.ireturn, 1) := by decide +kernel
theorem dX12_taken_0 : decode cX12_taken 0 = .ok (.iload_n 1, 1) := by decide +kernel
theorem dX12_taken_1 : decode cX12_taken 1 = .ok (.invokestatic 154, 3) := by decide +kernel
theorem dX12_taken_4 : decode cX12_taken 4 = .ok (.ifCond .eq 19, 3) := by decide +kernel
theorem dX12_taken_7 : decode cX12_taken 7 = .ok (.iload_n 2, 1) := by decide +kernel
theorem dX12_taken_8 : decode cX12_taken 8 = .ok (.invokestatic 118, 3) := by decide +kernel
theorem dX12_taken_11 : decode cX12_taken 11 = .ok (.ifCond .eq 12, 3) := by decide +kernel
theorem dX12_taken_14 : decode cX12_taken 14 = .ok (.iload_n 3, 1) := by decide +kernel
theorem dX12_taken_15 : decode cX12_taken 15 = .ok (.iconst 0, 1) := by decide +kernel
theorem dX12_taken_16 : decode cX12_taken 16 = .ok (.iconst 1, 1) := by decide +kernel
theorem dX12_taken_17 : decode cX12_taken 17 = .ok (.invokestatic 107, 3) := by decide +kernel
theorem dX12_taken_20 : decode cX12_taken 20 = .ok (.ifCond .ne 9, 3) := by decide +kernel
theorem dX12_taken_23 : decode cX12_taken 23 = .ok (.bipush (-2), 2) := by decide +kernel
theorem dX12_taken_25 : decode cX12_taken 25 = .ok (.invokestatic 161, 3) := by decide +kernel
theorem dX12_taken_28 : decode cX12_taken 28 = .ok (.lreturn, 1) := by decide +kernel
theorem dX12_taken_29 : decode cX12_taken 29 = .ok (.aload_n 0, 1) := by decide +kernel
theorem dX12_taken_30 : decode cX12_taken 30 = .ok (.iload_n 1, 1) := by decide +kernel
theorem dX12_taken_31 : decode cX12_taken 31 = .ok (.invokevirtual 186, 3) := by decide +kernel
theorem dX12_taken_34 : decode cX12_taken 34 = .ok (.istore 4, 2) := by decide +kernel
theorem dX12_taken_36 : decode cX12_taken 36 = .ok (.iload 4, 2) := by decide +kernel
theorem dX12_taken_38 : decode cX12_taken 38 = .ok (.ifCond .ne 11, 3) := by decide +kernel
theorem dX12_taken_41 : decode cX12_taken 41 = .ok (.bipush (-3), 2) := by decide +kernel
theorem dX12_taken_43 : decode cX12_taken 43 = .ok (.invokestatic 161, 3) := by decide +kernel
theorem dX12_taken_46 : decode cX12_taken 46 = .ok (.goto 17, 3) := by decide +kernel
theorem dX12_taken_49 : decode cX12_taken 49 = .ok (.aload_n 0, 1) := by decide +kernel
theorem dX12_taken_50 : decode cX12_taken 50 = .ok (.iload_n 1, 1) := by decide +kernel
theorem dX12_taken_51 : decode cX12_taken 51 = .ok (.iload_n 2, 1) := by decide +kernel
theorem dX12_taken_52 : decode cX12_taken 52 = .ok (.invokevirtual 189, 3) := by decide +kernel
theorem dX12_taken_55 : decode cX12_taken 55 = .ok (.i2l, 1) := by decide +kernel
theorem dX12_taken_56 : decode cX12_taken 56 = .ok (.iload 4, 2) := by decide +kernel
theorem dX12_taken_58 : decode cX12_taken 58 = .ok (.i2l, 1) := by decide +kernel
theorem dX12_taken_59 : decode cX12_taken 59 = .ok (.iload_n 3, 1) := by decide +kernel
theorem dX12_taken_60 : decode cX12_taken 60 = .ok (.invokestatic 168, 3) := by decide +kernel
theorem dX12_taken_63 : decode cX12_taken 63 = .ok (.lreturn, 1) := by decide +kernel
theorem dX12_bestNow_0 : decode cX12_bestNow 0 = .ok (.aload_n 0, 1) := by decide +kernel
theorem dX12_bestNow_1 : decode cX12_bestNow 1 = .ok (.iload_n 1, 1) := by decide +kernel
theorem dX12_bestNow_2 : decode cX12_bestNow 2 = .ok (.invokevirtual 186, 3) := by decide +kernel
theorem dX12_bestNow_5 : decode cX12_bestNow 5 = .ok (.ifCond .ne 6, 3) := by decide +kernel
theorem dX12_bestNow_8 : decode cX12_bestNow 8 = .ok (.bipush (-3), 2) := by decide +kernel
theorem dX12_bestNow_10 : decode cX12_bestNow 10 = .ok (.ireturn, 1) := by decide +kernel
theorem dX12_bestNow_11 : decode cX12_bestNow 11 = .ok (.iconst 0, 1) := by decide +kernel
theorem dX12_bestNow_12 : decode cX12_bestNow 12 = .ok (.istore_n 2, 1) := by decide +kernel
theorem dX12_bestNow_13 : decode cX12_bestNow 13 = .ok (.iconst 1, 1) := by decide +kernel
theorem dX12_bestNow_14 : decode cX12_bestNow 14 = .ok (.istore_n 3, 1) := by decide +kernel
theorem dX12_bestNow_15 : decode cX12_bestNow 15 = .ok (.iload_n 3, 1) := by decide +kernel
theorem dX12_bestNow_16 : decode cX12_bestNow 16 = .ok (.bipush 11, 2) := by decide +kernel
theorem dX12_bestNow_18 : decode cX12_bestNow 18 = .ok (.if_icmp .ge 40, 3) := by decide +kernel
theorem dX12_bestNow_21 : decode cX12_bestNow 21 = .ok (.bipush 10, 2) := by decide +kernel
theorem dX12_bestNow_23 : decode cX12_bestNow 23 = .ok (.iload_n 3, 1) := by decide +kernel
theorem dX12_bestNow_24 : decode cX12_bestNow 24 = .ok (.isub, 1) := by decide +kernel
theorem dX12_bestNow_25 : decode cX12_bestNow 25 = .ok (.aload_n 0, 1) := by decide +kernel
theorem dX12_bestNow_26 : decode cX12_bestNow 26 = .ok (.iload_n 1, 1) := by decide +kernel
theorem dX12_bestNow_27 : decode cX12_bestNow 27 = .ok (.iload_n 3, 1) := by decide +kernel
theorem dX12_bestNow_28 : decode cX12_bestNow 28 = .ok (.invokevirtual 189, 3) := by decide +kernel
theorem dX12_bestNow_31 : decode cX12_bestNow 31 = .ok (.imul, 1) := by decide +kernel
theorem dX12_bestNow_32 : decode cX12_bestNow 32 = .ok (.bipush 10, 2) := by decide +kernel
theorem dX12_bestNow_34 : decode cX12_bestNow 34 = .ok (.iload_n 2, 1) := by decide +kernel
theorem dX12_bestNow_35 : decode cX12_bestNow 35 = .ok (.isub, 1) := by decide +kernel
theorem dX12_bestNow_36 : decode cX12_bestNow 36 = .ok (.aload_n 0, 1) := by decide +kernel
theorem dX12_bestNow_37 : decode cX12_bestNow 37 = .ok (.iload_n 1, 1) := by decide +kernel
theorem dX12_bestNow_38 : decode cX12_bestNow 38 = .ok (.iload_n 2, 1) := by decide +kernel
theorem dX12_bestNow_39 : decode cX12_bestNow 39 = .ok (.invokevirtual 189, 3) := by decide +kernel
theorem dX12_bestNow_42 : decode cX12_bestNow 42 = .ok (.imul, 1) := by decide +kernel
theorem dX12_bestNow_43 : decode cX12_bestNow 43 = .ok (.if_icmp .le 7, 3) := by decide +kernel
theorem dX12_bestNow_46 : decode cX12_bestNow 46 = .ok (.iload_n 3, 1) := by decide +kernel
theorem dX12_bestNow_47 : decode cX12_bestNow 47 = .ok (.goto 4, 3) := by decide +kernel
theorem dX12_bestNow_50 : decode cX12_bestNow 50 = .ok (.iload_n 2, 1) := by decide +kernel
theorem dX12_bestNow_51 : decode cX12_bestNow 51 = .ok (.istore_n 2, 1) := by decide +kernel
theorem dX12_bestNow_52 : decode cX12_bestNow 52 = .ok (.iinc 3 1, 3) := by decide +kernel
theorem dX12_bestNow_55 : decode cX12_bestNow 55 = .ok (.goto (-40), 3) := by decide +kernel
theorem dX12_bestNow_58 : decode cX12_bestNow 58 = .ok (.iload_n 2, 1) := by decide +kernel
theorem dX12_bestNow_59 : decode cX12_bestNow 59 = .ok (.ireturn, 1) := by decide +kernel
theorem dX12_best_0 : decode cX12_best 0 = .ok (.iload_n 1, 1) := by decide +kernel
theorem dX12_best_1 : decode cX12_best 1 = .ok (.invokestatic 154, 3) := by decide +kernel
theorem dX12_best_4 : decode cX12_best 4 = .ok (.ifCond .eq 11, 3) := by decide +kernel
theorem dX12_best_7 : decode cX12_best 7 = .ok (.aload_n 0, 1) := by decide +kernel
theorem dX12_best_8 : decode cX12_best 8 = .ok (.iload_n 1, 1) := by decide +kernel
theorem dX12_best_9 : decode cX12_best 9 = .ok (.invokevirtual 192, 3) := by decide +kernel
theorem dX12_best_12 : decode cX12_best 12 = .ok (.goto 5, 3) := by decide +kernel
theorem dX12_best_15 : decode cX12_best 15 = .ok (.bipush (-2), 2) := by decide +kernel
theorem dX12_best_17 : decode cX12_best 17 = .ok (.ireturn, 1) := by decide +kernel
theorem dX12_isBelief_0 : decode cX12_isBelief 0 = .ok (.iload_n 1, 1) := by decide +kernel
theorem dX12_isBelief_1 : decode cX12_isBelief 1 = .ok (.iconst 0, 1) := by decide +kernel
theorem dX12_isBelief_2 : decode cX12_isBelief 2 = .ok (.aload_n 0, 1) := by decide +kernel
theorem dX12_isBelief_3 : decode cX12_isBelief 3 = .ok (.getfield 195, 3) := by decide +kernel
theorem dX12_isBelief_6 : decode cX12_isBelief 6 = .ok (.iconst 1, 1) := by decide +kernel
theorem dX12_isBelief_7 : decode cX12_isBelief 7 = .ok (.isub, 1) := by decide +kernel
theorem dX12_isBelief_8 : decode cX12_isBelief 8 = .ok (.invokestatic 107, 3) := by decide +kernel
theorem dX12_isBelief_11 : decode cX12_isBelief 11 = .ok (.ireturn, 1) := by decide +kernel
theorem dX12_belief_0 : decode cX12_belief 0 = .ok (.iload_n 1, 1) := by decide +kernel
theorem dX12_belief_1 : decode cX12_belief 1 = .ok (.invokestatic 111, 3) := by decide +kernel
theorem dX12_belief_4 : decode cX12_belief 4 = .ok (.ifCond .ne 6, 3) := by decide +kernel
theorem dX12_belief_7 : decode cX12_belief 7 = .ok (.bipush (-2), 2) := by decide +kernel
theorem dX12_belief_9 : decode cX12_belief 9 = .ok (.ireturn, 1) := by decide +kernel
theorem dX12_belief_10 : decode cX12_belief 10 = .ok (.aload_n 0, 1) := by decide +kernel
theorem dX12_belief_11 : decode cX12_belief 11 = .ok (.getfield 195, 3) := by decide +kernel
theorem dX12_belief_14 : decode cX12_belief 14 = .ok (.bipush 8, 2) := by decide +kernel
theorem dX12_belief_16 : decode cX12_belief 16 = .ok (.if_icmp .ne 6, 3) := by decide +kernel
theorem dX12_belief_19 : decode cX12_belief 19 = .ok (.bipush (-4), 2) := by decide +kernel
theorem dX12_belief_21 : decode cX12_belief 21 = .ok (.ireturn, 1) := by decide +kernel
theorem dX12_belief_22 : decode cX12_belief 22 = .ok (.aload_n 0, 1) := by decide +kernel
theorem dX12_belief_23 : decode cX12_belief 23 = .ok (.getfield 38, 3) := by decide +kernel
theorem dX12_belief_26 : decode cX12_belief 26 = .ok (.aload_n 0, 1) := by decide +kernel
theorem dX12_belief_27 : decode cX12_belief 27 = .ok (.getfield 195, 3) := by decide +kernel
theorem dX12_belief_30 : decode cX12_belief 30 = .ok (.iload_n 1, 1) := by decide +kernel
theorem dX12_belief_31 : decode cX12_belief 31 = .ok (.iastore, 1) := by decide +kernel
theorem dX12_belief_32 : decode cX12_belief 32 = .ok (.aload_n 0, 1) := by decide +kernel
theorem dX12_belief_33 : decode cX12_belief 33 = .ok (.dup, 1) := by decide +kernel
theorem dX12_belief_34 : decode cX12_belief 34 = .ok (.getfield 195, 3) := by decide +kernel
theorem dX12_belief_37 : decode cX12_belief 37 = .ok (.iconst 1, 1) := by decide +kernel
theorem dX12_belief_38 : decode cX12_belief 38 = .ok (.iadd, 1) := by decide +kernel
theorem dX12_belief_39 : decode cX12_belief 39 = .ok (.putfield 195, 3) := by decide +kernel
theorem dX12_belief_42 : decode cX12_belief 42 = .ok (.aload_n 0, 1) := by decide +kernel
theorem dX12_belief_43 : decode cX12_belief 43 = .ok (.getfield 195, 3) := by decide +kernel
theorem dX12_belief_46 : decode cX12_belief 46 = .ok (.iconst 1, 1) := by decide +kernel
theorem dX12_belief_47 : decode cX12_belief 47 = .ok (.isub, 1) := by decide +kernel
theorem dX12_belief_48 : decode cX12_belief 48 = .ok (.ireturn, 1) := by decide +kernel
theorem dX12_believe_0 : decode cX12_believe 0 = .ok (.aload_n 0, 1) := by decide +kernel
theorem dX12_believe_1 : decode cX12_believe 1 = .ok (.iload_n 1, 1) := by decide +kernel
theorem dX12_believe_2 : decode cX12_believe 2 = .ok (.invokevirtual 198, 3) := by decide +kernel
theorem dX12_believe_5 : decode cX12_believe 5 = .ok (.ifCond .eq 20, 3) := by decide +kernel
theorem dX12_believe_8 : decode cX12_believe 8 = .ok (.iload_n 2, 1) := by decide +kernel
theorem dX12_believe_9 : decode cX12_believe 9 = .ok (.invokestatic 118, 3) := by decide +kernel
theorem dX12_believe_12 : decode cX12_believe 12 = .ok (.ifCond .eq 13, 3) := by decide +kernel
theorem dX12_believe_15 : decode cX12_believe 15 = .ok (.iload_n 3, 1) := by decide +kernel
theorem dX12_believe_16 : decode cX12_believe 16 = .ok (.iconst 0, 1) := by decide +kernel
theorem dX12_believe_17 : decode cX12_believe 17 = .ok (.bipush 10, 2) := by decide +kernel
theorem dX12_believe_19 : decode cX12_believe 19 = .ok (.invokestatic 107, 3) := by decide +kernel
theorem dX12_believe_22 : decode cX12_believe 22 = .ok (.ifCond .ne 6, 3) := by decide +kernel
theorem dX12_believe_25 : decode cX12_believe 25 = .ok (.bipush (-2), 2) := by decide +kernel
theorem dX12_believe_27 : decode cX12_believe 27 = .ok (.ireturn, 1) := by decide +kernel
theorem dX12_believe_28 : decode cX12_believe 28 = .ok (.aload_n 0, 1) := by decide +kernel
theorem dX12_believe_29 : decode cX12_believe 29 = .ok (.getfield 41, 3) := by decide +kernel
theorem dX12_believe_32 : decode cX12_believe 32 = .ok (.bipush 11, 2) := by decide +kernel
theorem dX12_believe_34 : decode cX12_believe 34 = .ok (.iload_n 1, 1) := by decide +kernel
theorem dX12_believe_35 : decode cX12_believe 35 = .ok (.imul, 1) := by decide +kernel
theorem dX12_believe_36 : decode cX12_believe 36 = .ok (.iload_n 2, 1) := by decide +kernel
theorem dX12_believe_37 : decode cX12_believe 37 = .ok (.iadd, 1) := by decide +kernel
theorem dX12_believe_38 : decode cX12_believe 38 = .ok (.iaload, 1) := by decide +kernel
theorem dX12_believe_39 : decode cX12_believe 39 = .ok (.istore 4, 2) := by decide +kernel
theorem dX12_believe_41 : decode cX12_believe 41 = .ok (.aload_n 0, 1) := by decide +kernel
theorem dX12_believe_42 : decode cX12_believe 42 = .ok (.getfield 41, 3) := by decide +kernel
theorem dX12_believe_45 : decode cX12_believe 45 = .ok (.bipush 11, 2) := by decide +kernel
theorem dX12_believe_47 : decode cX12_believe 47 = .ok (.iload_n 1, 1) := by decide +kernel
theorem dX12_believe_48 : decode cX12_believe 48 = .ok (.imul, 1) := by decide +kernel
theorem dX12_believe_49 : decode cX12_believe 49 = .ok (.iload_n 2, 1) := by decide +kernel
theorem dX12_believe_50 : decode cX12_believe 50 = .ok (.iadd, 1) := by decide +kernel
theorem dX12_believe_51 : decode cX12_believe 51 = .ok (.iload_n 3, 1) := by decide +kernel
theorem dX12_believe_52 : decode cX12_believe 52 = .ok (.iastore, 1) := by decide +kernel
theorem dX12_believe_53 : decode cX12_believe 53 = .ok (.iload 4, 2) := by decide +kernel
theorem dX12_believe_55 : decode cX12_believe 55 = .ok (.ireturn, 1) := by decide +kernel
theorem dX12_hisNow_0 : decode cX12_hisNow 0 = .ok (.iconst 0, 1) := by decide +kernel
theorem dX12_hisNow_1 : decode cX12_hisNow 1 = .ok (.istore_n 2, 1) := by decide +kernel
theorem dX12_hisNow_2 : decode cX12_hisNow 2 = .ok (.iconst 1, 1) := by decide +kernel
theorem dX12_hisNow_3 : decode cX12_hisNow 3 = .ok (.istore_n 3, 1) := by decide +kernel
theorem dX12_hisNow_4 : decode cX12_hisNow 4 = .ok (.iload_n 3, 1) := by decide +kernel
theorem dX12_hisNow_5 : decode cX12_hisNow 5 = .ok (.bipush 11, 2) := by decide +kernel
theorem dX12_hisNow_7 : decode cX12_hisNow 7 = .ok (.if_icmp .ge 50, 3) := by decide +kernel
theorem dX12_hisNow_10 : decode cX12_hisNow 10 = .ok (.bipush 10, 2) := by decide +kernel
theorem dX12_hisNow_12 : decode cX12_hisNow 12 = .ok (.iload_n 3, 1) := by decide +kernel
theorem dX12_hisNow_13 : decode cX12_hisNow 13 = .ok (.isub, 1) := by decide +kernel
theorem dX12_hisNow_14 : decode cX12_hisNow 14 = .ok (.aload_n 0, 1) := by decide +kernel
theorem dX12_hisNow_15 : decode cX12_hisNow 15 = .ok (.getfield 41, 3) := by decide +kernel
theorem dX12_hisNow_18 : decode cX12_hisNow 18 = .ok (.bipush 11, 2) := by decide +kernel
theorem dX12_hisNow_20 : decode cX12_hisNow 20 = .ok (.iload_n 1, 1) := by decide +kernel
theorem dX12_hisNow_21 : decode cX12_hisNow 21 = .ok (.imul, 1) := by decide +kernel
theorem dX12_hisNow_22 : decode cX12_hisNow 22 = .ok (.iload_n 3, 1) := by decide +kernel
theorem dX12_hisNow_23 : decode cX12_hisNow 23 = .ok (.iadd, 1) := by decide +kernel
theorem dX12_hisNow_24 : decode cX12_hisNow 24 = .ok (.iaload, 1) := by decide +kernel
theorem dX12_hisNow_25 : decode cX12_hisNow 25 = .ok (.imul, 1) := by decide +kernel
theorem dX12_hisNow_26 : decode cX12_hisNow 26 = .ok (.bipush 10, 2) := by decide +kernel
theorem dX12_hisNow_28 : decode cX12_hisNow 28 = .ok (.iload_n 2, 1) := by decide +kernel
theorem dX12_hisNow_29 : decode cX12_hisNow 29 = .ok (.isub, 1) := by decide +kernel
theorem dX12_hisNow_30 : decode cX12_hisNow 30 = .ok (.aload_n 0, 1) := by decide +kernel
theorem dX12_hisNow_31 : decode cX12_hisNow 31 = .ok (.getfield 41, 3) := by decide +kernel
theorem dX12_hisNow_34 : decode cX12_hisNow 34 = .ok (.bipush 11, 2) := by decide +kernel
theorem dX12_hisNow_36 : decode cX12_hisNow 36 = .ok (.iload_n 1, 1) := by decide +kernel
theorem dX12_hisNow_37 : decode cX12_hisNow 37 = .ok (.imul, 1) := by decide +kernel
theorem dX12_hisNow_38 : decode cX12_hisNow 38 = .ok (.iload_n 2, 1) := by decide +kernel
theorem dX12_hisNow_39 : decode cX12_hisNow 39 = .ok (.iadd, 1) := by decide +kernel
theorem dX12_hisNow_40 : decode cX12_hisNow 40 = .ok (.iaload, 1) := by decide +kernel
theorem dX12_hisNow_41 : decode cX12_hisNow 41 = .ok (.imul, 1) := by decide +kernel
theorem dX12_hisNow_42 : decode cX12_hisNow 42 = .ok (.if_icmp .le 7, 3) := by decide +kernel
theorem dX12_hisNow_45 : decode cX12_hisNow 45 = .ok (.iload_n 3, 1) := by decide +kernel
theorem dX12_hisNow_46 : decode cX12_hisNow 46 = .ok (.goto 4, 3) := by decide +kernel
theorem dX12_hisNow_49 : decode cX12_hisNow 49 = .ok (.iload_n 2, 1) := by decide +kernel
theorem dX12_hisNow_50 : decode cX12_hisNow 50 = .ok (.istore_n 2, 1) := by decide +kernel
theorem dX12_hisNow_51 : decode cX12_hisNow 51 = .ok (.iinc 3 1, 3) := by decide +kernel
theorem dX12_hisNow_54 : decode cX12_hisNow 54 = .ok (.goto (-50), 3) := by decide +kernel
theorem dX12_hisNow_57 : decode cX12_hisNow 57 = .ok (.iload_n 2, 1) := by decide +kernel
theorem dX12_hisNow_58 : decode cX12_hisNow 58 = .ok (.ireturn, 1) := by decide +kernel
theorem dX12_hisBest_0 : decode cX12_hisBest 0 = .ok (.aload_n 0, 1) := by decide +kernel
theorem dX12_hisBest_1 : decode cX12_hisBest 1 = .ok (.iload_n 1, 1) := by decide +kernel
theorem dX12_hisBest_2 : decode cX12_hisBest 2 = .ok (.invokevirtual 198, 3) := by decide +kernel
theorem dX12_hisBest_5 : decode cX12_hisBest 5 = .ok (.ifCond .eq 11, 3) := by decide +kernel
theorem dX12_hisBest_8 : decode cX12_hisBest 8 = .ok (.aload_n 0, 1) := by decide +kernel
theorem dX12_hisBest_9 : decode cX12_hisBest 9 = .ok (.iload_n 1, 1) := by decide +kernel
theorem dX12_hisBest_10 : decode cX12_hisBest 10 = .ok (.invokevirtual 201, 3) := by decide +kernel
theorem dX12_hisBest_13 : decode cX12_hisBest 13 = .ok (.goto 5, 3) := by decide +kernel
theorem dX12_hisBest_16 : decode cX12_hisBest 16 = .ok (.bipush (-2), 2) := by decide +kernel
theorem dX12_hisBest_18 : decode cX12_hisBest 18 = .ok (.ireturn, 1) := by decide +kernel
theorem dX12_off_0 : decode cX12_off 0 = .ok (.aload_n 0, 1) := by decide +kernel
theorem dX12_off_1 : decode cX12_off 1 = .ok (.iload_n 1, 1) := by decide +kernel
theorem dX12_off_2 : decode cX12_off 2 = .ok (.invokevirtual 198, 3) := by decide +kernel
theorem dX12_off_5 : decode cX12_off 5 = .ok (.ifCond .eq 21, 3) := by decide +kernel
theorem dX12_off_8 : decode cX12_off 8 = .ok (.iload_n 2, 1) := by decide +kernel
theorem dX12_off_9 : decode cX12_off 9 = .ok (.iconst 0, 1) := by decide +kernel
theorem dX12_off_10 : decode cX12_off 10 = .ok (.iconst 1, 1) := by decide +kernel
theorem dX12_off_11 : decode cX12_off 11 = .ok (.invokestatic 107, 3) := by decide +kernel
theorem dX12_off_14 : decode cX12_off 14 = .ok (.ifCond .eq 12, 3) := by decide +kernel
theorem dX12_off_17 : decode cX12_off 17 = .ok (.iload_n 3, 1) := by decide +kernel
theorem dX12_off_18 : decode cX12_off 18 = .ok (.iconst 0, 1) := by decide +kernel
theorem dX12_off_19 : decode cX12_off 19 = .ok (.iconst 1, 1) := by decide +kernel
theorem dX12_off_20 : decode cX12_off 20 = .ok (.invokestatic 107, 3) := by decide +kernel
theorem dX12_off_23 : decode cX12_off 23 = .ok (.ifCond .ne 9, 3) := by decide +kernel
theorem dX12_off_26 : decode cX12_off 26 = .ok (.bipush (-2), 2) := by decide +kernel
theorem dX12_off_28 : decode cX12_off 28 = .ok (.invokestatic 161, 3) := by decide +kernel
theorem dX12_off_31 : decode cX12_off 31 = .ok (.lreturn, 1) := by decide +kernel
theorem dX12_off_32 : decode cX12_off 32 = .ok (.aload_n 0, 1) := by decide +kernel
theorem dX12_off_33 : decode cX12_off 33 = .ok (.getfield 38, 3) := by decide +kernel
theorem dX12_off_36 : decode cX12_off 36 = .ok (.iload_n 1, 1) := by decide +kernel
theorem dX12_off_37 : decode cX12_off 37 = .ok (.iaload, 1) := by decide +kernel
theorem dX12_off_38 : decode cX12_off 38 = .ok (.istore 4, 2) := by decide +kernel
theorem dX12_off_40 : decode cX12_off 40 = .ok (.aload_n 0, 1) := by decide +kernel
theorem dX12_off_41 : decode cX12_off 41 = .ok (.iload 4, 2) := by decide +kernel
theorem dX12_off_43 : decode cX12_off 43 = .ok (.invokevirtual 186, 3) := by decide +kernel
theorem dX12_off_46 : decode cX12_off 46 = .ok (.istore 5, 2) := by decide +kernel
theorem dX12_off_48 : decode cX12_off 48 = .ok (.iload 5, 2) := by decide +kernel
theorem dX12_off_50 : decode cX12_off 50 = .ok (.ifCond .ne 9, 3) := by decide +kernel
theorem dX12_off_53 : decode cX12_off 53 = .ok (.bipush (-3), 2) := by decide +kernel
theorem dX12_off_55 : decode cX12_off 55 = .ok (.invokestatic 161, 3) := by decide +kernel
theorem dX12_off_58 : decode cX12_off 58 = .ok (.lreturn, 1) := by decide +kernel
theorem dX12_off_59 : decode cX12_off 59 = .ok (.iload_n 2, 1) := by decide +kernel
theorem dX12_off_60 : decode cX12_off 60 = .ok (.iconst 1, 1) := by decide +kernel
theorem dX12_off_61 : decode cX12_off 61 = .ok (.if_icmp .ne 56, 3) := by decide +kernel
theorem dX12_off_64 : decode cX12_off 64 = .ok (.aload_n 0, 1) := by decide +kernel
theorem dX12_off_65 : decode cX12_off 65 = .ok (.iload 4, 2) := by decide +kernel
theorem dX12_off_67 : decode cX12_off 67 = .ok (.invokevirtual 192, 3) := by decide +kernel
theorem dX12_off_70 : decode cX12_off 70 = .ok (.istore 6, 2) := by decide +kernel
theorem dX12_off_72 : decode cX12_off 72 = .ok (.aload_n 0, 1) := by decide +kernel
theorem dX12_off_73 : decode cX12_off 73 = .ok (.iload_n 1, 1) := by decide +kernel
theorem dX12_off_74 : decode cX12_off 74 = .ok (.invokevirtual 201, 3) := by decide +kernel
theorem dX12_off_77 : decode cX12_off 77 = .ok (.istore 7, 2) := by decide +kernel
theorem dX12_off_79 : decode cX12_off 79 = .ok (.bipush 10, 2) := by decide +kernel
theorem dX12_off_81 : decode cX12_off 81 = .ok (.iload 6, 2) := by decide +kernel
theorem dX12_off_83 : decode cX12_off 83 = .ok (.isub, 1) := by decide +kernel
theorem dX12_off_84 : decode cX12_off 84 = .ok (.aload_n 0, 1) := by decide +kernel
theorem dX12_off_85 : decode cX12_off 85 = .ok (.iload 4, 2) := by decide +kernel
theorem dX12_off_87 : decode cX12_off 87 = .ok (.iload 6, 2) := by decide +kernel
theorem dX12_off_89 : decode cX12_off 89 = .ok (.invokevirtual 189, 3) := by decide +kernel
theorem dX12_off_92 : decode cX12_off 92 = .ok (.imul, 1) := by decide +kernel
theorem dX12_off_93 : decode cX12_off 93 = .ok (.bipush 10, 2) := by decide +kernel
theorem dX12_off_95 : decode cX12_off 95 = .ok (.iload 7, 2) := by decide +kernel
theorem dX12_off_97 : decode cX12_off 97 = .ok (.isub, 1) := by decide +kernel
theorem dX12_off_98 : decode cX12_off 98 = .ok (.aload_n 0, 1) := by decide +kernel
theorem dX12_off_99 : decode cX12_off 99 = .ok (.iload 4, 2) := by decide +kernel
theorem dX12_off_101 : decode cX12_off 101 = .ok (.iload 7, 2) := by decide +kernel
theorem dX12_off_103 : decode cX12_off 103 = .ok (.invokevirtual 189, 3) := by decide +kernel
theorem dX12_off_106 : decode cX12_off 106 = .ok (.imul, 1) := by decide +kernel
theorem dX12_off_107 : decode cX12_off 107 = .ok (.isub, 1) := by decide +kernel
theorem dX12_off_108 : decode cX12_off 108 = .ok (.i2l, 1) := by decide +kernel
theorem dX12_off_109 : decode cX12_off 109 = .ok (.iload 5, 2) := by decide +kernel
theorem dX12_off_111 : decode cX12_off 111 = .ok (.i2l, 1) := by decide +kernel
theorem dX12_off_112 : decode cX12_off 112 = .ok (.iload_n 3, 1) := by decide +kernel
theorem dX12_off_113 : decode cX12_off 113 = .ok (.invokestatic 168, 3) := by decide +kernel
theorem dX12_off_116 : decode cX12_off 116 = .ok (.lreturn, 1) := by decide +kernel
theorem dX12_off_117 : decode cX12_off 117 = .ok (.iconst 0, 1) := by decide +kernel
theorem dX12_off_118 : decode cX12_off 118 = .ok (.istore 6, 2) := by decide +kernel
theorem dX12_off_120 : decode cX12_off 120 = .ok (.iconst 0, 1) := by decide +kernel
theorem dX12_off_121 : decode cX12_off 121 = .ok (.istore 7, 2) := by decide +kernel
theorem dX12_off_123 : decode cX12_off 123 = .ok (.iload 7, 2) := by decide +kernel
theorem dX12_off_125 : decode cX12_off 125 = .ok (.bipush 11, 2) := by decide +kernel
theorem dX12_off_127 : decode cX12_off 127 = .ok (.if_icmp .ge 44, 3) := by decide +kernel
theorem dX12_off_130 : decode cX12_off 130 = .ok (.iload 6, 2) := by decide +kernel
theorem dX12_off_132 : decode cX12_off 132 = .ok (.aload_n 0, 1) := by decide +kernel
theorem dX12_off_133 : decode cX12_off 133 = .ok (.getfield 41, 3) := by decide +kernel
theorem dX12_off_136 : decode cX12_off 136 = .ok (.bipush 11, 2) := by decide +kernel
theorem dX12_off_138 : decode cX12_off 138 = .ok (.iload_n 1, 1) := by decide +kernel
theorem dX12_off_139 : decode cX12_off 139 = .ok (.imul, 1) := by decide +kernel
theorem dX12_off_140 : decode cX12_off 140 = .ok (.iload 7, 2) := by decide +kernel
theorem dX12_off_142 : decode cX12_off 142 = .ok (.iadd, 1) := by decide +kernel
theorem dX12_off_143 : decode cX12_off 143 = .ok (.iaload, 1) := by decide +kernel
theorem dX12_off_144 : decode cX12_off 144 = .ok (.iload 5, 2) := by decide +kernel
theorem dX12_off_146 : decode cX12_off 146 = .ok (.imul, 1) := by decide +kernel
theorem dX12_off_147 : decode cX12_off 147 = .ok (.bipush 10, 2) := by decide +kernel
theorem dX12_off_149 : decode cX12_off 149 = .ok (.aload_n 0, 1) := by decide +kernel
theorem dX12_off_150 : decode cX12_off 150 = .ok (.iload 4, 2) := by decide +kernel
theorem dX12_off_152 : decode cX12_off 152 = .ok (.iload 7, 2) := by decide +kernel
theorem dX12_off_154 : decode cX12_off 154 = .ok (.invokevirtual 189, 3) := by decide +kernel
theorem dX12_off_157 : decode cX12_off 157 = .ok (.imul, 1) := by decide +kernel
theorem dX12_off_158 : decode cX12_off 158 = .ok (.isub, 1) := by decide +kernel
theorem dX12_off_159 : decode cX12_off 159 = .ok (.invokestatic 204, 3) := by decide +kernel
theorem dX12_off_162 : decode cX12_off 162 = .ok (.iadd, 1) := by decide +kernel
theorem dX12_off_163 : decode cX12_off 163 = .ok (.istore 6, 2) := by decide +kernel
theorem dX12_off_165 : decode cX12_off 165 = .ok (.iinc 7 1, 3) := by decide +kernel
theorem dX12_off_168 : decode cX12_off 168 = .ok (.goto (-45), 3) := by decide +kernel
theorem dX12_off_171 : decode cX12_off 171 = .ok (.iload 6, 2) := by decide +kernel
theorem dX12_off_173 : decode cX12_off 173 = .ok (.i2l, 1) := by decide +kernel
theorem dX12_off_174 : decode cX12_off 174 = .ok (.ldc2_w 207, 3) := by decide +kernel
theorem dX12_off_177 : decode cX12_off 177 = .ok (.iload 5, 2) := by decide +kernel
theorem dX12_off_179 : decode cX12_off 179 = .ok (.i2l, 1) := by decide +kernel
theorem dX12_off_180 : decode cX12_off 180 = .ok (.lmul, 1) := by decide +kernel
theorem dX12_off_181 : decode cX12_off 181 = .ok (.iload_n 3, 1) := by decide +kernel
theorem dX12_off_182 : decode cX12_off 182 = .ok (.invokestatic 168, 3) := by decide +kernel
theorem dX12_off_185 : decode cX12_off 185 = .ok (.lreturn, 1) := by decide +kernel
theorem dX12_type_0 : decode cX12_type 0 = .ok (.iload_n 1, 1) := by decide +kernel
theorem dX12_type_1 : decode cX12_type 1 = .ok (.iconst 0, 1) := by decide +kernel
theorem dX12_type_2 : decode cX12_type 2 = .ok (.sipush 255, 3) := by decide +kernel
theorem dX12_type_5 : decode cX12_type 5 = .ok (.invokestatic 107, 3) := by decide +kernel
theorem dX12_type_8 : decode cX12_type 8 = .ok (.ifCond .ne 6, 3) := by decide +kernel
theorem dX12_type_11 : decode cX12_type 11 = .ok (.bipush (-2), 2) := by decide +kernel
theorem dX12_type_13 : decode cX12_type 13 = .ok (.ireturn, 1) := by decide +kernel
theorem dX12_type_14 : decode cX12_type 14 = .ok (.aload_n 0, 1) := by decide +kernel
theorem dX12_type_15 : decode cX12_type 15 = .ok (.getfield 209, 3) := by decide +kernel
theorem dX12_type_18 : decode cX12_type 18 = .ok (.bipush 60, 2) := by decide +kernel
theorem dX12_type_20 : decode cX12_type 20 = .ok (.if_icmp .ne 6, 3) := by decide +kernel
theorem dX12_type_23 : decode cX12_type 23 = .ok (.bipush (-4), 2) := by decide +kernel
theorem dX12_type_25 : decode cX12_type 25 = .ok (.ireturn, 1) := by decide +kernel
theorem dX12_type_26 : decode cX12_type 26 = .ok (.aload_n 0, 1) := by decide +kernel
theorem dX12_type_27 : decode cX12_type 27 = .ok (.getfield 44, 3) := by decide +kernel
theorem dX12_type_30 : decode cX12_type 30 = .ok (.aload_n 0, 1) := by decide +kernel
theorem dX12_type_31 : decode cX12_type 31 = .ok (.getfield 209, 3) := by decide +kernel
theorem dX12_type_34 : decode cX12_type 34 = .ok (.iload_n 1, 1) := by decide +kernel
theorem dX12_type_35 : decode cX12_type 35 = .ok (.iastore, 1) := by decide +kernel
theorem dX12_type_36 : decode cX12_type 36 = .ok (.aload_n 0, 1) := by decide +kernel
theorem dX12_type_37 : decode cX12_type 37 = .ok (.dup, 1) := by decide +kernel
theorem dX12_type_38 : decode cX12_type 38 = .ok (.getfield 209, 3) := by decide +kernel
theorem dX12_type_41 : decode cX12_type 41 = .ok (.iconst 1, 1) := by decide +kernel
theorem dX12_type_42 : decode cX12_type 42 = .ok (.iadd, 1) := by decide +kernel
theorem dX12_type_43 : decode cX12_type 43 = .ok (.putfield 209, 3) := by decide +kernel
theorem dX12_type_46 : decode cX12_type 46 = .ok (.aload_n 0, 1) := by decide +kernel
theorem dX12_type_47 : decode cX12_type 47 = .ok (.getfield 209, 3) := by decide +kernel
theorem dX12_type_50 : decode cX12_type 50 = .ok (.ireturn, 1) := by decide +kernel
theorem dX12_wipe_0 : decode cX12_wipe 0 = .ok (.aload_n 0, 1) := by decide +kernel
theorem dX12_wipe_1 : decode cX12_wipe 1 = .ok (.getfield 209, 3) := by decide +kernel
theorem dX12_wipe_4 : decode cX12_wipe 4 = .ok (.istore_n 1, 1) := by decide +kernel
theorem dX12_wipe_5 : decode cX12_wipe 5 = .ok (.aload_n 0, 1) := by decide +kernel
theorem dX12_wipe_6 : decode cX12_wipe 6 = .ok (.iconst 0, 1) := by decide +kernel
theorem dX12_wipe_7 : decode cX12_wipe 7 = .ok (.putfield 209, 3) := by decide +kernel
theorem dX12_wipe_10 : decode cX12_wipe 10 = .ok (.iload_n 1, 1) := by decide +kernel
theorem dX12_wipe_11 : decode cX12_wipe 11 = .ok (.ireturn, 1) := by decide +kernel
theorem dX12_byteAt_0 : decode cX12_byteAt 0 = .ok (.iload_n 1, 1) := by decide +kernel
theorem dX12_byteAt_1 : decode cX12_byteAt 1 = .ok (.aload_n 0, 1) := by decide +kernel
theorem dX12_byteAt_2 : decode cX12_byteAt 2 = .ok (.getfield 209, 3) := by decide +kernel
theorem dX12_byteAt_5 : decode cX12_byteAt 5 = .ok (.if_icmp .ge 12, 3) := by decide +kernel
theorem dX12_byteAt_8 : decode cX12_byteAt 8 = .ok (.aload_n 0, 1) := by decide +kernel
theorem dX12_byteAt_9 : decode cX12_byteAt 9 = .ok (.getfield 44, 3) := by decide +kernel
theorem dX12_byteAt_12 : decode cX12_byteAt 12 = .ok (.iload_n 1, 1) := by decide +kernel
theorem dX12_byteAt_13 : decode cX12_byteAt 13 = .ok (.iaload, 1) := by decide +kernel
theorem dX12_byteAt_14 : decode cX12_byteAt 14 = .ok (.goto 4, 3) := by decide +kernel
theorem dX12_byteAt_17 : decode cX12_byteAt 17 = .ok (.iconst (-1), 1) := by decide +kernel
theorem dX12_byteAt_18 : decode cX12_byteAt 18 = .ok (.ireturn, 1) := by decide +kernel
theorem dX12_nodeMore_0 : decode cX12_nodeMore 0 = .ok (.aload_n 0, 1) := by decide +kernel
theorem dX12_nodeMore_1 : decode cX12_nodeMore 1 = .ok (.getfield 47, 3) := by decide +kernel
theorem dX12_nodeMore_4 : decode cX12_nodeMore 4 = .ok (.aload_n 0, 1) := by decide +kernel
theorem dX12_nodeMore_5 : decode cX12_nodeMore 5 = .ok (.getfield 212, 3) := by decide +kernel
theorem dX12_nodeMore_8 : decode cX12_nodeMore 8 = .ok (.iload_n 1, 1) := by decide +kernel
theorem dX12_nodeMore_9 : decode cX12_nodeMore 9 = .ok (.iastore, 1) := by decide +kernel
theorem dX12_nodeMore_10 : decode cX12_nodeMore 10 = .ok (.aload_n 0, 1) := by decide +kernel
theorem dX12_nodeMore_11 : decode cX12_nodeMore 11 = .ok (.getfield 50, 3) := by decide +kernel
theorem dX12_nodeMore_14 : decode cX12_nodeMore 14 = .ok (.aload_n 0, 1) := by decide +kernel
theorem dX12_nodeMore_15 : decode cX12_nodeMore 15 = .ok (.getfield 212, 3) := by decide +kernel
theorem dX12_nodeMore_18 : decode cX12_nodeMore 18 = .ok (.iload_n 2, 1) := by decide +kernel
theorem dX12_nodeMore_19 : decode cX12_nodeMore 19 = .ok (.iastore, 1) := by decide +kernel
theorem dX12_nodeMore_20 : decode cX12_nodeMore 20 = .ok (.aload_n 0, 1) := by decide +kernel
theorem dX12_nodeMore_21 : decode cX12_nodeMore 21 = .ok (.getfield 56, 3) := by decide +kernel
theorem dX12_nodeMore_24 : decode cX12_nodeMore 24 = .ok (.aload_n 0, 1) := by decide +kernel
theorem dX12_nodeMore_25 : decode cX12_nodeMore 25 = .ok (.getfield 212, 3) := by decide +kernel
theorem dX12_nodeMore_28 : decode cX12_nodeMore 28 = .ok (.iconst 0, 1) := by decide +kernel
theorem dX12_nodeMore_29 : decode cX12_nodeMore 29 = .ok (.iastore, 1) := by decide +kernel
theorem dX12_nodeMore_30 : decode cX12_nodeMore 30 = .ok (.aload_n 0, 1) := by decide +kernel
theorem dX12_nodeMore_31 : decode cX12_nodeMore 31 = .ok (.getfield 53, 3) := by decide +kernel
theorem dX12_nodeMore_34 : decode cX12_nodeMore 34 = .ok (.aload_n 0, 1) := by decide +kernel
theorem dX12_nodeMore_35 : decode cX12_nodeMore 35 = .ok (.getfield 212, 3) := by decide +kernel
theorem dX12_nodeMore_38 : decode cX12_nodeMore 38 = .ok (.iload_n 2, 1) := by decide +kernel
theorem dX12_nodeMore_39 : decode cX12_nodeMore 39 = .ok (.iconst (-1), 1) := by decide +kernel
theorem dX12_nodeMore_40 : decode cX12_nodeMore 40 = .ok (.if_icmp .ne 7, 3) := by decide +kernel
theorem dX12_nodeMore_43 : decode cX12_nodeMore 43 = .ok (.iconst 0, 1) := by decide +kernel
theorem dX12_nodeMore_44 : decode cX12_nodeMore 44 = .ok (.goto 9, 3) := by decide +kernel
theorem dX12_nodeMore_47 : decode cX12_nodeMore 47 = .ok (.aload_n 0, 1) := by decide +kernel
theorem dX12_nodeMore_48 : decode cX12_nodeMore 48 = .ok (.getfield 56, 3) := by decide +kernel
theorem dX12_nodeMore_51 : decode cX12_nodeMore 51 = .ok (.iload_n 2, 1) := by decide +kernel
theorem dX12_nodeMore_52 : decode cX12_nodeMore 52 = .ok (.iaload, 1) := by decide +kernel
theorem dX12_nodeMore_53 : decode cX12_nodeMore 53 = .ok (.iastore, 1) := by decide +kernel
theorem dX12_nodeMore_54 : decode cX12_nodeMore 54 = .ok (.iload_n 2, 1) := by decide +kernel
theorem dX12_nodeMore_55 : decode cX12_nodeMore 55 = .ok (.iconst (-1), 1) := by decide +kernel
theorem dX12_nodeMore_56 : decode cX12_nodeMore 56 = .ok (.if_icmp .eq 13, 3) := by decide +kernel
theorem dX12_nodeMore_59 : decode cX12_nodeMore 59 = .ok (.aload_n 0, 1) := by decide +kernel
theorem dX12_nodeMore_60 : decode cX12_nodeMore 60 = .ok (.getfield 56, 3) := by decide +kernel
theorem dX12_nodeMore_63 : decode cX12_nodeMore 63 = .ok (.iload_n 2, 1) := by decide +kernel
theorem dX12_nodeMore_64 : decode cX12_nodeMore 64 = .ok (.dup2, 1) := by decide +kernel
theorem dX12_nodeMore_65 : decode cX12_nodeMore 65 = .ok (.iaload, 1) := by decide +kernel
theorem dX12_nodeMore_66 : decode cX12_nodeMore 66 = .ok (.iconst 1, 1) := by decide +kernel
theorem dX12_nodeMore_67 : decode cX12_nodeMore 67 = .ok (.iadd, 1) := by decide +kernel
theorem dX12_nodeMore_68 : decode cX12_nodeMore 68 = .ok (.iastore, 1) := by decide +kernel
theorem dX12_nodeMore_69 : decode cX12_nodeMore 69 = .ok (.aload_n 0, 1) := by decide +kernel
theorem dX12_nodeMore_70 : decode cX12_nodeMore 70 = .ok (.dup, 1) := by decide +kernel
theorem dX12_nodeMore_71 : decode cX12_nodeMore 71 = .ok (.getfield 212, 3) := by decide +kernel
theorem dX12_nodeMore_74 : decode cX12_nodeMore 74 = .ok (.iconst 1, 1) := by decide +kernel
theorem dX12_nodeMore_75 : decode cX12_nodeMore 75 = .ok (.iadd, 1) := by decide +kernel
theorem dX12_nodeMore_76 : decode cX12_nodeMore 76 = .ok (.putfield 212, 3) := by decide +kernel
theorem dX12_nodeMore_79 : decode cX12_nodeMore 79 = .ok (.return_, 1) := by decide +kernel
theorem dX12_faultNow_0 : decode cX12_faultNow 0 = .ok (.aload_n 0, 1) := by decide +kernel
theorem dX12_faultNow_1 : decode cX12_faultNow 1 = .ok (.iconst 0, 1) := by decide +kernel
theorem dX12_faultNow_2 : decode cX12_faultNow 2 = .ok (.putfield 212, 3) := by decide +kernel
theorem dX12_faultNow_5 : decode cX12_faultNow 5 = .ok (.iconst 0, 1) := by decide +kernel
theorem dX12_faultNow_6 : decode cX12_faultNow 6 = .ok (.istore_n 1, 1) := by decide +kernel
theorem dX12_faultNow_7 : decode cX12_faultNow 7 = .ok (.iconst (-1), 1) := by decide +kernel
theorem dX12_faultNow_8 : decode cX12_faultNow 8 = .ok (.istore_n 2, 1) := by decide +kernel
theorem dX12_faultNow_9 : decode cX12_faultNow 9 = .ok (.aload_n 0, 1) := by decide +kernel
theorem dX12_faultNow_10 : decode cX12_faultNow 10 = .ok (.iload_n 1, 1) := by decide +kernel
theorem dX12_faultNow_11 : decode cX12_faultNow 11 = .ok (.invokevirtual 215, 3) := by decide +kernel
theorem dX12_faultNow_14 : decode cX12_faultNow 14 = .ok (.istore_n 3, 1) := by decide +kernel
theorem dX12_faultNow_15 : decode cX12_faultNow 15 = .ok (.iload_n 3, 1) := by decide +kernel
theorem dX12_faultNow_16 : decode cX12_faultNow 16 = .ok (.bipush 103, 2) := by decide +kernel
theorem dX12_faultNow_18 : decode cX12_faultNow 18 = .ok (.if_icmp .ne 7, 3) := by decide +kernel
theorem dX12_faultNow_21 : decode cX12_faultNow 21 = .ok (.iconst 0, 1) := by decide +kernel
theorem dX12_faultNow_22 : decode cX12_faultNow 22 = .ok (.goto 24, 3) := by decide +kernel
theorem dX12_faultNow_25 : decode cX12_faultNow 25 = .ok (.iload_n 3, 1) := by decide +kernel
theorem dX12_faultNow_26 : decode cX12_faultNow 26 = .ok (.bipush 97, 2) := by decide +kernel
theorem dX12_faultNow_28 : decode cX12_faultNow 28 = .ok (.if_icmp .ne 7, 3) := by decide +kernel
theorem dX12_faultNow_31 : decode cX12_faultNow 31 = .ok (.iconst 1, 1) := by decide +kernel
theorem dX12_faultNow_32 : decode cX12_faultNow 32 = .ok (.goto 14, 3) := by decide +kernel
theorem dX12_faultNow_35 : decode cX12_faultNow 35 = .ok (.iload_n 3, 1) := by decide +kernel
theorem dX12_faultNow_36 : decode cX12_faultNow 36 = .ok (.bipush 116, 2) := by decide +kernel
theorem dX12_faultNow_38 : decode cX12_faultNow 38 = .ok (.if_icmp .ne 7, 3) := by decide +kernel
theorem dX12_faultNow_41 : decode cX12_faultNow 41 = .ok (.iconst 2, 1) := by decide +kernel
theorem dX12_faultNow_42 : decode cX12_faultNow 42 = .ok (.goto 4, 3) := by decide +kernel
theorem dX12_faultNow_45 : decode cX12_faultNow 45 = .ok (.iconst 3, 1) := by decide +kernel
theorem dX12_faultNow_46 : decode cX12_faultNow 46 = .ok (.istore 4, 2) := by decide +kernel
theorem dX12_faultNow_48 : decode cX12_faultNow 48 = .ok (.iload 4, 2) := by decide +kernel
theorem dX12_faultNow_50 : decode cX12_faultNow 50 = .ok (.iconst 3, 1) := by decide +kernel
theorem dX12_faultNow_51 : decode cX12_faultNow 51 = .ok (.if_icmp .ge 38, 3) := by decide +kernel
theorem dX12_faultNow_54 : decode cX12_faultNow 54 = .ok (.aload_n 0, 1) := by decide +kernel
theorem dX12_faultNow_55 : decode cX12_faultNow 55 = .ok (.iload 4, 2) := by decide +kernel
theorem dX12_faultNow_57 : decode cX12_faultNow 57 = .ok (.iload_n 2, 1) := by decide +kernel
theorem dX12_faultNow_58 : decode cX12_faultNow 58 = .ok (.invokevirtual 218, 3) := by decide +kernel
theorem dX12_faultNow_61 : decode cX12_faultNow 61 = .ok (.iinc 1 1, 3) := by decide +kernel
theorem dX12_faultNow_64 : decode cX12_faultNow 64 = .ok (.aload_n 0, 1) := by decide +kernel
theorem dX12_faultNow_65 : decode cX12_faultNow 65 = .ok (.iload_n 1, 1) := by decide +kernel
theorem dX12_faultNow_66 : decode cX12_faultNow 66 = .ok (.invokevirtual 215, 3) := by decide +kernel
theorem dX12_faultNow_69 : decode cX12_faultNow 69 = .ok (.bipush 40, 2) := by decide +kernel
theorem dX12_faultNow_71 : decode cX12_faultNow 71 = .ok (.if_icmp .eq 5, 3) := by decide +kernel
theorem dX12_faultNow_74 : decode cX12_faultNow 74 = .ok (.iload_n 1, 1) := by decide +kernel
theorem dX12_faultNow_75 : decode cX12_faultNow 75 = .ok (.ireturn, 1) := by decide +kernel
theorem dX12_faultNow_76 : decode cX12_faultNow 76 = .ok (.iinc 1 1, 3) := by decide +kernel
theorem dX12_faultNow_79 : decode cX12_faultNow 79 = .ok (.aload_n 0, 1) := by decide +kernel
theorem dX12_faultNow_80 : decode cX12_faultNow 80 = .ok (.getfield 212, 3) := by decide +kernel
theorem dX12_faultNow_83 : decode cX12_faultNow 83 = .ok (.iconst 1, 1) := by decide +kernel
theorem dX12_faultNow_84 : decode cX12_faultNow 84 = .ok (.isub, 1) := by decide +kernel
theorem dX12_faultNow_85 : decode cX12_faultNow 85 = .ok (.istore_n 2, 1) := by decide +kernel
theorem dX12_faultNow_86 : decode cX12_faultNow 86 = .ok (.goto 140, 3) := by decide +kernel
theorem dX12_faultNow_89 : decode cX12_faultNow 89 = .ok (.aload_n 0, 1) := by decide +kernel
theorem dX12_faultNow_90 : decode cX12_faultNow 90 = .ok (.iconst 3, 1) := by decide +kernel
theorem dX12_faultNow_91 : decode cX12_faultNow 91 = .ok (.iload_n 2, 1) := by decide +kernel
theorem dX12_faultNow_92 : decode cX12_faultNow 92 = .ok (.invokevirtual 218, 3) := by decide +kernel
theorem dX12_faultNow_95 : decode cX12_faultNow 95 = .ok (.iconst 0, 1) := by decide +kernel
theorem dX12_faultNow_96 : decode cX12_faultNow 96 = .ok (.istore 5, 2) := by decide +kernel
theorem dX12_faultNow_98 : decode cX12_faultNow 98 = .ok (.iload 5, 2) := by decide +kernel
theorem dX12_faultNow_100 : decode cX12_faultNow 100 = .ok (.iconst 3, 1) := by decide +kernel
theorem dX12_faultNow_101 : decode cX12_faultNow 101 = .ok (.if_icmp .ge 53, 3) := by decide +kernel
theorem dX12_faultNow_104 : decode cX12_faultNow 104 = .ok (.aload_n 0, 1) := by decide +kernel
theorem dX12_faultNow_105 : decode cX12_faultNow 105 = .ok (.iload_n 1, 1) := by decide +kernel
theorem dX12_faultNow_106 : decode cX12_faultNow 106 = .ok (.invokevirtual 215, 3) := by decide +kernel
theorem dX12_faultNow_109 : decode cX12_faultNow 109 = .ok (.bipush 48, 2) := by decide +kernel
theorem dX12_faultNow_111 : decode cX12_faultNow 111 = .ok (.bipush 57, 2) := by decide +kernel
theorem dX12_faultNow_113 : decode cX12_faultNow 113 = .ok (.invokestatic 107, 3) := by decide +kernel
theorem dX12_faultNow_116 : decode cX12_faultNow 116 = .ok (.ifCond .ne 5, 3) := by decide +kernel
theorem dX12_faultNow_119 : decode cX12_faultNow 119 = .ok (.iload_n 1, 1) := by decide +kernel
theorem dX12_faultNow_120 : decode cX12_faultNow 120 = .ok (.ireturn, 1) := by decide +kernel
theorem dX12_faultNow_121 : decode cX12_faultNow 121 = .ok (.aload_n 0, 1) := by decide +kernel
theorem dX12_faultNow_122 : decode cX12_faultNow 122 = .ok (.getfield 65, 3) := by decide +kernel
theorem dX12_faultNow_125 : decode cX12_faultNow 125 = .ok (.iconst 3, 1) := by decide +kernel
theorem dX12_faultNow_126 : decode cX12_faultNow 126 = .ok (.aload_n 0, 1) := by decide +kernel
theorem dX12_faultNow_127 : decode cX12_faultNow 127 = .ok (.getfield 212, 3) := by decide +kernel
theorem dX12_faultNow_130 : decode cX12_faultNow 130 = .ok (.iconst 1, 1) := by decide +kernel
theorem dX12_faultNow_131 : decode cX12_faultNow 131 = .ok (.isub, 1) := by decide +kernel
theorem dX12_faultNow_132 : decode cX12_faultNow 132 = .ok (.imul, 1) := by decide +kernel
theorem dX12_faultNow_133 : decode cX12_faultNow 133 = .ok (.iload 5, 2) := by decide +kernel
theorem dX12_faultNow_135 : decode cX12_faultNow 135 = .ok (.iadd, 1) := by decide +kernel
theorem dX12_faultNow_136 : decode cX12_faultNow 136 = .ok (.aload_n 0, 1) := by decide +kernel
theorem dX12_faultNow_137 : decode cX12_faultNow 137 = .ok (.iload_n 1, 1) := by decide +kernel
theorem dX12_faultNow_138 : decode cX12_faultNow 138 = .ok (.invokevirtual 215, 3) := by decide +kernel
theorem dX12_faultNow_141 : decode cX12_faultNow 141 = .ok (.bipush 48, 2) := by decide +kernel
theorem dX12_faultNow_143 : decode cX12_faultNow 143 = .ok (.isub, 1) := by decide +kernel
theorem dX12_faultNow_144 : decode cX12_faultNow 144 = .ok (.iastore, 1) := by decide +kernel
theorem dX12_faultNow_145 : decode cX12_faultNow 145 = .ok (.iinc 1 1, 3) := by decide +kernel
theorem dX12_faultNow_148 : decode cX12_faultNow 148 = .ok (.iinc 5 1, 3) := by decide +kernel
theorem dX12_faultNow_151 : decode cX12_faultNow 151 = .ok (.goto (-53), 3) := by decide +kernel
theorem dX12_faultNow_154 : decode cX12_faultNow 154 = .ok (.iload_n 2, 1) := by decide +kernel
theorem dX12_faultNow_155 : decode cX12_faultNow 155 = .ok (.iconst (-1), 1) := by decide +kernel
theorem dX12_faultNow_156 : decode cX12_faultNow 156 = .ok (.if_icmp .eq 26, 3) := by decide +kernel
theorem dX12_faultNow_159 : decode cX12_faultNow 159 = .ok (.aload_n 0, 1) := by decide +kernel
theorem dX12_faultNow_160 : decode cX12_faultNow 160 = .ok (.iload_n 1, 1) := by decide +kernel
theorem dX12_faultNow_161 : decode cX12_faultNow 161 = .ok (.invokevirtual 215, 3) := by decide +kernel
theorem dX12_faultNow_164 : decode cX12_faultNow 164 = .ok (.bipush 41, 2) := by decide +kernel
theorem dX12_faultNow_166 : decode cX12_faultNow 166 = .ok (.if_icmp .ne 16, 3) := by decide +kernel
theorem dX12_faultNow_169 : decode cX12_faultNow 169 = .ok (.aload_n 0, 1) := by decide +kernel
theorem dX12_faultNow_170 : decode cX12_faultNow 170 = .ok (.getfield 50, 3) := by decide +kernel
theorem dX12_faultNow_173 : decode cX12_faultNow 173 = .ok (.iload_n 2, 1) := by decide +kernel
theorem dX12_faultNow_174 : decode cX12_faultNow 174 = .ok (.iaload, 1) := by decide +kernel
theorem dX12_faultNow_175 : decode cX12_faultNow 175 = .ok (.istore_n 2, 1) := by decide +kernel
theorem dX12_faultNow_176 : decode cX12_faultNow 176 = .ok (.iinc 1 1, 3) := by decide +kernel
theorem dX12_faultNow_179 : decode cX12_faultNow 179 = .ok (.goto (-25), 3) := by decide +kernel
theorem dX12_faultNow_182 : decode cX12_faultNow 182 = .ok (.iload_n 2, 1) := by decide +kernel
theorem dX12_faultNow_183 : decode cX12_faultNow 183 = .ok (.iconst (-1), 1) := by decide +kernel
theorem dX12_faultNow_184 : decode cX12_faultNow 184 = .ok (.if_icmp .ne 17, 3) := by decide +kernel
theorem dX12_faultNow_187 : decode cX12_faultNow 187 = .ok (.iload_n 1, 1) := by decide +kernel
theorem dX12_faultNow_188 : decode cX12_faultNow 188 = .ok (.aload_n 0, 1) := by decide +kernel
theorem dX12_faultNow_189 : decode cX12_faultNow 189 = .ok (.getfield 209, 3) := by decide +kernel
theorem dX12_faultNow_192 : decode cX12_faultNow 192 = .ok (.if_icmp .ge 7, 3) := by decide +kernel
theorem dX12_faultNow_195 : decode cX12_faultNow 195 = .ok (.iload_n 1, 1) := by decide +kernel
theorem dX12_faultNow_196 : decode cX12_faultNow 196 = .ok (.goto 4, 3) := by decide +kernel
theorem dX12_faultNow_199 : decode cX12_faultNow 199 = .ok (.iconst (-1), 1) := by decide +kernel
theorem dX12_faultNow_200 : decode cX12_faultNow 200 = .ok (.ireturn, 1) := by decide +kernel
theorem dX12_faultNow_201 : decode cX12_faultNow 201 = .ok (.aload_n 0, 1) := by decide +kernel
theorem dX12_faultNow_202 : decode cX12_faultNow 202 = .ok (.iload_n 1, 1) := by decide +kernel
theorem dX12_faultNow_203 : decode cX12_faultNow 203 = .ok (.invokevirtual 215, 3) := by decide +kernel
theorem dX12_faultNow_206 : decode cX12_faultNow 206 = .ok (.bipush 44, 2) := by decide +kernel
theorem dX12_faultNow_208 : decode cX12_faultNow 208 = .ok (.if_icmp .ne 13, 3) := by decide +kernel
theorem dX12_faultNow_211 : decode cX12_faultNow 211 = .ok (.aload_n 0, 1) := by decide +kernel
theorem dX12_faultNow_212 : decode cX12_faultNow 212 = .ok (.getfield 56, 3) := by decide +kernel
theorem dX12_faultNow_215 : decode cX12_faultNow 215 = .ok (.iload_n 2, 1) := by decide +kernel
theorem dX12_faultNow_216 : decode cX12_faultNow 216 = .ok (.iaload, 1) := by decide +kernel
theorem dX12_faultNow_217 : decode cX12_faultNow 217 = .ok (.iconst 4, 1) := by decide +kernel
theorem dX12_faultNow_218 : decode cX12_faultNow 218 = .ok (.if_icmp .ne 5, 3) := by decide +kernel
theorem dX12_faultNow_221 : decode cX12_faultNow 221 = .ok (.iload_n 1, 1) := by decide +kernel
theorem dX12_faultNow_222 : decode cX12_faultNow 222 = .ok (.ireturn, 1) := by decide +kernel
theorem dX12_faultNow_223 : decode cX12_faultNow 223 = .ok (.iinc 1 1, 3) := by decide +kernel
theorem dX12_faultNow_226 : decode cX12_faultNow 226 = .ok (.goto (-217), 3) := by decide +kernel
theorem dX12_fault_0 : decode cX12_fault 0 = .ok (.aload_n 0, 1) := by decide +kernel
theorem dX12_fault_1 : decode cX12_fault 1 = .ok (.invokevirtual 222, 3) := by decide +kernel
theorem dX12_fault_4 : decode cX12_fault 4 = .ok (.ireturn, 1) := by decide +kernel
theorem dX12_worth_0 : decode cX12_worth 0 = .ok (.aload_n 0, 1) := by decide +kernel
theorem dX12_worth_1 : decode cX12_worth 1 = .ok (.getfield 65, 3) := by decide +kernel
theorem dX12_worth_4 : decode cX12_worth 4 = .ok (.iconst 3, 1) := by decide +kernel
theorem dX12_worth_5 : decode cX12_worth 5 = .ok (.iload_n 1, 1) := by decide +kernel
theorem dX12_worth_6 : decode cX12_worth 6 = .ok (.imul, 1) := by decide +kernel
theorem dX12_worth_7 : decode cX12_worth 7 = .ok (.iload_n 2, 1) := by decide +kernel
theorem dX12_worth_8 : decode cX12_worth 8 = .ok (.iadd, 1) := by decide +kernel
theorem dX12_worth_9 : decode cX12_worth 9 = .ok (.iaload, 1) := by decide +kernel
theorem dX12_worth_10 : decode cX12_worth 10 = .ok (.istore 4, 2) := by decide +kernel
theorem dX12_worth_12 : decode cX12_worth 12 = .ok (.iconst 0, 1) := by decide +kernel
theorem dX12_worth_13 : decode cX12_worth 13 = .ok (.istore 5, 2) := by decide +kernel
theorem dX12_worth_15 : decode cX12_worth 15 = .ok (.iconst 0, 1) := by decide +kernel
theorem dX12_worth_16 : decode cX12_worth 16 = .ok (.istore 6, 2) := by decide +kernel
theorem dX12_worth_18 : decode cX12_worth 18 = .ok (.iload 6, 2) := by decide +kernel
theorem dX12_worth_20 : decode cX12_worth 20 = .ok (.iconst 3, 1) := by decide +kernel
theorem dX12_worth_21 : decode cX12_worth 21 = .ok (.if_icmp .ge 49, 3) := by decide +kernel
theorem dX12_worth_24 : decode cX12_worth 24 = .ok (.iload 6, 2) := by decide +kernel
theorem dX12_worth_26 : decode cX12_worth 26 = .ok (.iload_n 2, 1) := by decide +kernel
theorem dX12_worth_27 : decode cX12_worth 27 = .ok (.if_icmp .eq 33, 3) := by decide +kernel
theorem dX12_worth_30 : decode cX12_worth 30 = .ok (.aload_n 0, 1) := by decide +kernel
theorem dX12_worth_31 : decode cX12_worth 31 = .ok (.getfield 65, 3) := by decide +kernel
theorem dX12_worth_34 : decode cX12_worth 34 = .ok (.iconst 3, 1) := by decide +kernel
theorem dX12_worth_35 : decode cX12_worth 35 = .ok (.iload_n 1, 1) := by decide +kernel
theorem dX12_worth_36 : decode cX12_worth 36 = .ok (.imul, 1) := by decide +kernel
theorem dX12_worth_37 : decode cX12_worth 37 = .ok (.iload 6, 2) := by decide +kernel
theorem dX12_worth_39 : decode cX12_worth 39 = .ok (.iadd, 1) := by decide +kernel
theorem dX12_worth_40 : decode cX12_worth 40 = .ok (.iaload, 1) := by decide +kernel
theorem dX12_worth_41 : decode cX12_worth 41 = .ok (.iload 5, 2) := by decide +kernel
theorem dX12_worth_43 : decode cX12_worth 43 = .ok (.if_icmp .le 17, 3) := by decide +kernel
theorem dX12_worth_46 : decode cX12_worth 46 = .ok (.aload_n 0, 1) := by decide +kernel
theorem dX12_worth_47 : decode cX12_worth 47 = .ok (.getfield 65, 3) := by decide +kernel
theorem dX12_worth_50 : decode cX12_worth 50 = .ok (.iconst 3, 1) := by decide +kernel
theorem dX12_worth_51 : decode cX12_worth 51 = .ok (.iload_n 1, 1) := by decide +kernel
theorem dX12_worth_52 : decode cX12_worth 52 = .ok (.imul, 1) := by decide +kernel
theorem dX12_worth_53 : decode cX12_worth 53 = .ok (.iload 6, 2) := by decide +kernel
theorem dX12_worth_55 : decode cX12_worth 55 = .ok (.iadd, 1) := by decide +kernel
theorem dX12_worth_56 : decode cX12_worth 56 = .ok (.iaload, 1) := by decide +kernel
theorem dX12_worth_57 : decode cX12_worth 57 = .ok (.goto 5, 3) := by decide +kernel
theorem dX12_worth_60 : decode cX12_worth 60 = .ok (.iload 5, 2) := by decide +kernel
theorem dX12_worth_62 : decode cX12_worth 62 = .ok (.istore 5, 2) := by decide +kernel
theorem dX12_worth_64 : decode cX12_worth 64 = .ok (.iinc 6 1, 3) := by decide +kernel
theorem dX12_worth_67 : decode cX12_worth 67 = .ok (.goto (-49), 3) := by decide +kernel
theorem dX12_worth_70 : decode cX12_worth 70 = .ok (.iconst 4, 1) := by decide +kernel
theorem dX12_worth_71 : decode cX12_worth 71 = .ok (.iload 4, 2) := by decide +kernel
theorem dX12_worth_73 : decode cX12_worth 73 = .ok (.imul, 1) := by decide +kernel
theorem dX12_worth_74 : decode cX12_worth 74 = .ok (.iload 5, 2) := by decide +kernel
theorem dX12_worth_76 : decode cX12_worth 76 = .ok (.iload 4, 2) := by decide +kernel
theorem dX12_worth_78 : decode cX12_worth 78 = .ok (.if_icmp .le 13, 3) := by decide +kernel
theorem dX12_worth_81 : decode cX12_worth 81 = .ok (.iload_n 3, 1) := by decide +kernel
theorem dX12_worth_82 : decode cX12_worth 82 = .ok (.iload 5, 2) := by decide +kernel
theorem dX12_worth_84 : decode cX12_worth 84 = .ok (.iload 4, 2) := by decide +kernel
theorem dX12_worth_86 : decode cX12_worth 86 = .ok (.isub, 1) := by decide +kernel
theorem dX12_worth_87 : decode cX12_worth 87 = .ok (.imul, 1) := by decide +kernel
theorem dX12_worth_88 : decode cX12_worth 88 = .ok (.goto 4, 3) := by decide +kernel
theorem dX12_worth_91 : decode cX12_worth 91 = .ok (.iconst 0, 1) := by decide +kernel
theorem dX12_worth_92 : decode cX12_worth 92 = .ok (.isub, 1) := by decide +kernel
theorem dX12_worth_93 : decode cX12_worth 93 = .ok (.ireturn, 1) := by decide +kernel
theorem dX12_reckons_0 : decode cX12_reckons 0 = .ok (.aload_n 0, 1) := by decide +kernel
theorem dX12_reckons_1 : decode cX12_reckons 1 = .ok (.getfield 212, 3) := by decide +kernel
theorem dX12_reckons_4 : decode cX12_reckons 4 = .ok (.iconst 1, 1) := by decide +kernel
theorem dX12_reckons_5 : decode cX12_reckons 5 = .ok (.isub, 1) := by decide +kernel
theorem dX12_reckons_6 : decode cX12_reckons 6 = .ok (.istore_n 2, 1) := by decide +kernel
theorem dX12_reckons_7 : decode cX12_reckons 7 = .ok (.iload_n 2, 1) := by decide +kernel
theorem dX12_reckons_8 : decode cX12_reckons 8 = .ok (.ifCond .lt 170, 3) := by decide +kernel
theorem dX12_reckons_11 : decode cX12_reckons 11 = .ok (.aload_n 0, 1) := by decide +kernel
theorem dX12_reckons_12 : decode cX12_reckons 12 = .ok (.getfield 62, 3) := by decide +kernel
theorem dX12_reckons_15 : decode cX12_reckons 15 = .ok (.iload_n 2, 1) := by decide +kernel
theorem dX12_reckons_16 : decode cX12_reckons 16 = .ok (.iconst (-1), 1) := by decide +kernel
theorem dX12_reckons_17 : decode cX12_reckons 17 = .ok (.iastore, 1) := by decide +kernel
theorem dX12_reckons_18 : decode cX12_reckons 18 = .ok (.aload_n 0, 1) := by decide +kernel
theorem dX12_reckons_19 : decode cX12_reckons 19 = .ok (.getfield 59, 3) := by decide +kernel
theorem dX12_reckons_22 : decode cX12_reckons 22 = .ok (.iload_n 2, 1) := by decide +kernel
theorem dX12_reckons_23 : decode cX12_reckons 23 = .ok (.aload_n 0, 1) := by decide +kernel
theorem dX12_reckons_24 : decode cX12_reckons 24 = .ok (.getfield 47, 3) := by decide +kernel
theorem dX12_reckons_27 : decode cX12_reckons 27 = .ok (.iload_n 2, 1) := by decide +kernel
theorem dX12_reckons_28 : decode cX12_reckons 28 = .ok (.iaload, 1) := by decide +kernel
theorem dX12_reckons_29 : decode cX12_reckons 29 = .ok (.iconst 3, 1) := by decide +kernel
theorem dX12_reckons_30 : decode cX12_reckons 30 = .ok (.if_icmp .ne 7, 3) := by decide +kernel
theorem dX12_reckons_33 : decode cX12_reckons 33 = .ok (.iload_n 2, 1) := by decide +kernel
theorem dX12_reckons_34 : decode cX12_reckons 34 = .ok (.goto 4, 3) := by decide +kernel
theorem dX12_reckons_37 : decode cX12_reckons 37 = .ok (.iconst (-1), 1) := by decide +kernel
theorem dX12_reckons_38 : decode cX12_reckons 38 = .ok (.iastore, 1) := by decide +kernel
theorem dX12_reckons_39 : decode cX12_reckons 39 = .ok (.iload_n 2, 1) := by decide +kernel
theorem dX12_reckons_40 : decode cX12_reckons 40 = .ok (.iconst 1, 1) := by decide +kernel
theorem dX12_reckons_41 : decode cX12_reckons 41 = .ok (.iadd, 1) := by decide +kernel
theorem dX12_reckons_42 : decode cX12_reckons 42 = .ok (.istore_n 3, 1) := by decide +kernel
theorem dX12_reckons_43 : decode cX12_reckons 43 = .ok (.iload_n 3, 1) := by decide +kernel
theorem dX12_reckons_44 : decode cX12_reckons 44 = .ok (.aload_n 0, 1) := by decide +kernel
theorem dX12_reckons_45 : decode cX12_reckons 45 = .ok (.getfield 212, 3) := by decide +kernel
theorem dX12_reckons_48 : decode cX12_reckons 48 = .ok (.if_icmp .ge 88, 3) := by decide +kernel
theorem dX12_reckons_51 : decode cX12_reckons 51 = .ok (.aload_n 0, 1) := by decide +kernel
theorem dX12_reckons_52 : decode cX12_reckons 52 = .ok (.getfield 47, 3) := by decide +kernel
theorem dX12_reckons_55 : decode cX12_reckons 55 = .ok (.iload_n 2, 1) := by decide +kernel
theorem dX12_reckons_56 : decode cX12_reckons 56 = .ok (.iaload, 1) := by decide +kernel
theorem dX12_reckons_57 : decode cX12_reckons 57 = .ok (.iconst 3, 1) := by decide +kernel
theorem dX12_reckons_58 : decode cX12_reckons 58 = .ok (.if_icmp .ge 78, 3) := by decide +kernel
theorem dX12_reckons_61 : decode cX12_reckons 61 = .ok (.aload_n 0, 1) := by decide +kernel
theorem dX12_reckons_62 : decode cX12_reckons 62 = .ok (.getfield 50, 3) := by decide +kernel
theorem dX12_reckons_65 : decode cX12_reckons 65 = .ok (.iload_n 3, 1) := by decide +kernel
theorem dX12_reckons_66 : decode cX12_reckons 66 = .ok (.iaload, 1) := by decide +kernel
theorem dX12_reckons_67 : decode cX12_reckons 67 = .ok (.iload_n 2, 1) := by decide +kernel
theorem dX12_reckons_68 : decode cX12_reckons 68 = .ok (.if_icmp .ne 62, 3) := by decide +kernel
theorem dX12_reckons_71 : decode cX12_reckons 71 = .ok (.aload_n 0, 1) := by decide +kernel
theorem dX12_reckons_72 : decode cX12_reckons 72 = .ok (.getfield 62, 3) := by decide +kernel
theorem dX12_reckons_75 : decode cX12_reckons 75 = .ok (.iload_n 2, 1) := by decide +kernel
theorem dX12_reckons_76 : decode cX12_reckons 76 = .ok (.iaload, 1) := by decide +kernel
theorem dX12_reckons_77 : decode cX12_reckons 77 = .ok (.iconst (-1), 1) := by decide +kernel
theorem dX12_reckons_78 : decode cX12_reckons 78 = .ok (.if_icmp .eq 45, 3) := by decide +kernel
theorem dX12_reckons_81 : decode cX12_reckons 81 = .ok (.aload_n 0, 1) := by decide +kernel
theorem dX12_reckons_82 : decode cX12_reckons 82 = .ok (.aload_n 0, 1) := by decide +kernel
theorem dX12_reckons_83 : decode cX12_reckons 83 = .ok (.getfield 59, 3) := by decide +kernel
theorem dX12_reckons_86 : decode cX12_reckons 86 = .ok (.iload_n 3, 1) := by decide +kernel
theorem dX12_reckons_87 : decode cX12_reckons 87 = .ok (.iaload, 1) := by decide +kernel
theorem dX12_reckons_88 : decode cX12_reckons 88 = .ok (.aload_n 0, 1) := by decide +kernel
theorem dX12_reckons_89 : decode cX12_reckons 89 = .ok (.getfield 47, 3) := by decide +kernel
theorem dX12_reckons_92 : decode cX12_reckons 92 = .ok (.iload_n 2, 1) := by decide +kernel
theorem dX12_reckons_93 : decode cX12_reckons 93 = .ok (.iaload, 1) := by decide +kernel
theorem dX12_reckons_94 : decode cX12_reckons 94 = .ok (.iload_n 1, 1) := by decide +kernel
theorem dX12_reckons_95 : decode cX12_reckons 95 = .ok (.invokevirtual 226, 3) := by decide +kernel
theorem dX12_reckons_98 : decode cX12_reckons 98 = .ok (.aload_n 0, 1) := by decide +kernel
theorem dX12_reckons_99 : decode cX12_reckons 99 = .ok (.aload_n 0, 1) := by decide +kernel
theorem dX12_reckons_100 : decode cX12_reckons 100 = .ok (.getfield 59, 3) := by decide +kernel
theorem dX12_reckons_103 : decode cX12_reckons 103 = .ok (.aload_n 0, 1) := by decide +kernel
theorem dX12_reckons_104 : decode cX12_reckons 104 = .ok (.getfield 62, 3) := by decide +kernel
theorem dX12_reckons_107 : decode cX12_reckons 107 = .ok (.iload_n 2, 1) := by decide +kernel
theorem dX12_reckons_108 : decode cX12_reckons 108 = .ok (.iaload, 1) := by decide +kernel
theorem dX12_reckons_109 : decode cX12_reckons 109 = .ok (.iaload, 1) := by decide +kernel
theorem dX12_reckons_110 : decode cX12_reckons 110 = .ok (.aload_n 0, 1) := by decide +kernel
theorem dX12_reckons_111 : decode cX12_reckons 111 = .ok (.getfield 47, 3) := by decide +kernel
theorem dX12_reckons_114 : decode cX12_reckons 114 = .ok (.iload_n 2, 1) := by decide +kernel
theorem dX12_reckons_115 : decode cX12_reckons 115 = .ok (.iaload, 1) := by decide +kernel
theorem dX12_reckons_116 : decode cX12_reckons 116 = .ok (.iload_n 1, 1) := by decide +kernel
theorem dX12_reckons_117 : decode cX12_reckons 117 = .ok (.invokevirtual 226, 3) := by decide +kernel
theorem dX12_reckons_120 : decode cX12_reckons 120 = .ok (.if_icmp .le 10, 3) := by decide +kernel
theorem dX12_reckons_123 : decode cX12_reckons 123 = .ok (.aload_n 0, 1) := by decide +kernel
theorem dX12_reckons_124 : decode cX12_reckons 124 = .ok (.getfield 62, 3) := by decide +kernel
theorem dX12_reckons_127 : decode cX12_reckons 127 = .ok (.iload_n 2, 1) := by decide +kernel
theorem dX12_reckons_128 : decode cX12_reckons 128 = .ok (.iload_n 3, 1) := by decide +kernel
theorem dX12_reckons_129 : decode cX12_reckons 129 = .ok (.iastore, 1) := by decide +kernel
theorem dX12_reckons_130 : decode cX12_reckons 130 = .ok (.iinc 3 1, 3) := by decide +kernel
theorem dX12_reckons_133 : decode cX12_reckons 133 = .ok (.goto (-90), 3) := by decide +kernel
theorem dX12_reckons_136 : decode cX12_reckons 136 = .ok (.aload_n 0, 1) := by decide +kernel
theorem dX12_reckons_137 : decode cX12_reckons 137 = .ok (.getfield 59, 3) := by decide +kernel
theorem dX12_reckons_140 : decode cX12_reckons 140 = .ok (.iload_n 2, 1) := by decide +kernel
theorem dX12_reckons_141 : decode cX12_reckons 141 = .ok (.aload_n 0, 1) := by decide +kernel
theorem dX12_reckons_142 : decode cX12_reckons 142 = .ok (.getfield 62, 3) := by decide +kernel
theorem dX12_reckons_145 : decode cX12_reckons 145 = .ok (.iload_n 2, 1) := by decide +kernel
theorem dX12_reckons_146 : decode cX12_reckons 146 = .ok (.iaload, 1) := by decide +kernel
theorem dX12_reckons_147 : decode cX12_reckons 147 = .ok (.iconst (-1), 1) := by decide +kernel
theorem dX12_reckons_148 : decode cX12_reckons 148 = .ok (.if_icmp .ne 12, 3) := by decide +kernel
theorem dX12_reckons_151 : decode cX12_reckons 151 = .ok (.aload_n 0, 1) := by decide +kernel
theorem dX12_reckons_152 : decode cX12_reckons 152 = .ok (.getfield 59, 3) := by decide +kernel
theorem dX12_reckons_155 : decode cX12_reckons 155 = .ok (.iload_n 2, 1) := by decide +kernel
theorem dX12_reckons_156 : decode cX12_reckons 156 = .ok (.iaload, 1) := by decide +kernel
theorem dX12_reckons_157 : decode cX12_reckons 157 = .ok (.goto 14, 3) := by decide +kernel
theorem dX12_reckons_160 : decode cX12_reckons 160 = .ok (.aload_n 0, 1) := by decide +kernel
theorem dX12_reckons_161 : decode cX12_reckons 161 = .ok (.getfield 59, 3) := by decide +kernel
theorem dX12_reckons_164 : decode cX12_reckons 164 = .ok (.aload_n 0, 1) := by decide +kernel
theorem dX12_reckons_165 : decode cX12_reckons 165 = .ok (.getfield 62, 3) := by decide +kernel
theorem dX12_reckons_168 : decode cX12_reckons 168 = .ok (.iload_n 2, 1) := by decide +kernel
theorem dX12_reckons_169 : decode cX12_reckons 169 = .ok (.iaload, 1) := by decide +kernel
theorem dX12_reckons_170 : decode cX12_reckons 170 = .ok (.iaload, 1) := by decide +kernel
theorem dX12_reckons_171 : decode cX12_reckons 171 = .ok (.iastore, 1) := by decide +kernel
theorem dX12_reckons_172 : decode cX12_reckons 172 = .ok (.iinc 2 (-1), 3) := by decide +kernel
theorem dX12_reckons_175 : decode cX12_reckons 175 = .ok (.goto (-168), 3) := by decide +kernel
theorem dX12_reckons_178 : decode cX12_reckons 178 = .ok (.return_, 1) := by decide +kernel
theorem dX12_lettersOf_0 : decode cX12_lettersOf 0 = .ok (.iconst 0, 1) := by decide +kernel
theorem dX12_lettersOf_1 : decode cX12_lettersOf 1 = .ok (.istore_n 2, 1) := by decide +kernel
theorem dX12_lettersOf_2 : decode cX12_lettersOf 2 = .ok (.iconst 0, 1) := by decide +kernel
theorem dX12_lettersOf_3 : decode cX12_lettersOf 3 = .ok (.istore_n 3, 1) := by decide +kernel
theorem dX12_lettersOf_4 : decode cX12_lettersOf 4 = .ok (.iload_n 3, 1) := by decide +kernel
theorem dX12_lettersOf_5 : decode cX12_lettersOf 5 = .ok (.aload_n 0, 1) := by decide +kernel
theorem dX12_lettersOf_6 : decode cX12_lettersOf 6 = .ok (.getfield 212, 3) := by decide +kernel
theorem dX12_lettersOf_9 : decode cX12_lettersOf 9 = .ok (.if_icmp .ge 36, 3) := by decide +kernel
theorem dX12_lettersOf_12 : decode cX12_lettersOf 12 = .ok (.iload_n 2, 1) := by decide +kernel
theorem dX12_lettersOf_13 : decode cX12_lettersOf 13 = .ok (.aload_n 0, 1) := by decide +kernel
theorem dX12_lettersOf_14 : decode cX12_lettersOf 14 = .ok (.getfield 47, 3) := by decide +kernel
theorem dX12_lettersOf_17 : decode cX12_lettersOf 17 = .ok (.iload_n 3, 1) := by decide +kernel
theorem dX12_lettersOf_18 : decode cX12_lettersOf 18 = .ok (.iaload, 1) := by decide +kernel
theorem dX12_lettersOf_19 : decode cX12_lettersOf 19 = .ok (.iconst 3, 1) := by decide +kernel
theorem dX12_lettersOf_20 : decode cX12_lettersOf 20 = .ok (.if_icmp .ne 7, 3) := by decide +kernel
theorem dX12_lettersOf_23 : decode cX12_lettersOf 23 = .ok (.iconst 1, 1) := by decide +kernel
theorem dX12_lettersOf_24 : decode cX12_lettersOf 24 = .ok (.goto 4, 3) := by decide +kernel
theorem dX12_lettersOf_27 : decode cX12_lettersOf 27 = .ok (.iconst 0, 1) := by decide +kernel
theorem dX12_lettersOf_28 : decode cX12_lettersOf 28 = .ok (.iload_n 1, 1) := by decide +kernel
theorem dX12_lettersOf_29 : decode cX12_lettersOf 29 = .ok (.if_icmp .ne 7, 3) := by decide +kernel
theorem dX12_lettersOf_32 : decode cX12_lettersOf 32 = .ok (.iconst 1, 1) := by decide +kernel
theorem dX12_lettersOf_33 : decode cX12_lettersOf 33 = .ok (.goto 4, 3) := by decide +kernel
theorem dX12_lettersOf_36 : decode cX12_lettersOf 36 = .ok (.iconst 0, 1) := by decide +kernel
theorem dX12_lettersOf_37 : decode cX12_lettersOf 37 = .ok (.iadd, 1) := by decide +kernel
theorem dX12_lettersOf_38 : decode cX12_lettersOf 38 = .ok (.istore_n 2, 1) := by decide +kernel
theorem dX12_lettersOf_39 : decode cX12_lettersOf 39 = .ok (.iinc 3 1, 3) := by decide +kernel
theorem dX12_lettersOf_42 : decode cX12_lettersOf 42 = .ok (.goto (-38), 3) := by decide +kernel
theorem dX12_lettersOf_45 : decode cX12_lettersOf 45 = .ok (.iload_n 2, 1) := by decide +kernel
theorem dX12_lettersOf_46 : decode cX12_lettersOf 46 = .ok (.ireturn, 1) := by decide +kernel
theorem dX12_wayOf_0 : decode cX12_wayOf 0 = .ok (.iconst 0, 1) := by decide +kernel
theorem dX12_wayOf_1 : decode cX12_wayOf 1 = .ok (.istore_n 1, 1) := by decide +kernel
theorem dX12_wayOf_2 : decode cX12_wayOf 2 = .ok (.iconst 0, 1) := by decide +kernel
theorem dX12_wayOf_3 : decode cX12_wayOf 3 = .ok (.istore_n 2, 1) := by decide +kernel
theorem dX12_wayOf_4 : decode cX12_wayOf 4 = .ok (.aload_n 0, 1) := by decide +kernel
theorem dX12_wayOf_5 : decode cX12_wayOf 5 = .ok (.getfield 62, 3) := by decide +kernel
theorem dX12_wayOf_8 : decode cX12_wayOf 8 = .ok (.iload_n 2, 1) := by decide +kernel
theorem dX12_wayOf_9 : decode cX12_wayOf 9 = .ok (.iaload, 1) := by decide +kernel
theorem dX12_wayOf_10 : decode cX12_wayOf 10 = .ok (.iconst (-1), 1) := by decide +kernel
theorem dX12_wayOf_11 : decode cX12_wayOf 11 = .ok (.if_icmp .eq 16, 3) := by decide +kernel
theorem dX12_wayOf_14 : decode cX12_wayOf 14 = .ok (.aload_n 0, 1) := by decide +kernel
theorem dX12_wayOf_15 : decode cX12_wayOf 15 = .ok (.getfield 62, 3) := by decide +kernel
theorem dX12_wayOf_18 : decode cX12_wayOf 18 = .ok (.iload_n 2, 1) := by decide +kernel
theorem dX12_wayOf_19 : decode cX12_wayOf 19 = .ok (.iaload, 1) := by decide +kernel
theorem dX12_wayOf_20 : decode cX12_wayOf 20 = .ok (.istore_n 2, 1) := by decide +kernel
theorem dX12_wayOf_21 : decode cX12_wayOf 21 = .ok (.iinc 1 1, 3) := by decide +kernel
theorem dX12_wayOf_24 : decode cX12_wayOf 24 = .ok (.goto (-20), 3) := by decide +kernel
theorem dX12_wayOf_27 : decode cX12_wayOf 27 = .ok (.iload_n 1, 1) := by decide +kernel
theorem dX12_wayOf_28 : decode cX12_wayOf 28 = .ok (.ireturn, 1) := by decide +kernel
theorem dX12_reckonNow_0 : decode cX12_reckonNow 0 = .ok (.aload_n 0, 1) := by decide +kernel
theorem dX12_reckonNow_1 : decode cX12_reckonNow 1 = .ok (.invokevirtual 222, 3) := by decide +kernel
theorem dX12_reckonNow_4 : decode cX12_reckonNow 4 = .ok (.iconst (-1), 1) := by decide +kernel
theorem dX12_reckonNow_5 : decode cX12_reckonNow 5 = .ok (.if_icmp .eq 6, 3) := by decide +kernel
theorem dX12_reckonNow_8 : decode cX12_reckonNow 8 = .ok (.bipush (-3), 2) := by decide +kernel
theorem dX12_reckonNow_10 : decode cX12_reckonNow 10 = .ok (.ireturn, 1) := by decide +kernel
theorem dX12_reckonNow_11 : decode cX12_reckonNow 11 = .ok (.aload_n 0, 1) := by decide +kernel
theorem dX12_reckonNow_12 : decode cX12_reckonNow 12 = .ok (.iload_n 1, 1) := by decide +kernel
theorem dX12_reckonNow_13 : decode cX12_reckonNow 13 = .ok (.invokevirtual 229, 3) := by decide +kernel
theorem dX12_reckonNow_16 : decode cX12_reckonNow 16 = .ok (.iload_n 2, 1) := by decide +kernel
theorem dX12_reckonNow_17 : decode cX12_reckonNow 17 = .ok (.iconst 3, 1) := by decide +kernel
theorem dX12_reckonNow_18 : decode cX12_reckonNow 18 = .ok (.if_icmp .ge 21, 3) := by decide +kernel
theorem dX12_reckonNow_21 : decode cX12_reckonNow 21 = .ok (.aload_n 0, 1) := by decide +kernel
theorem dX12_reckonNow_22 : decode cX12_reckonNow 22 = .ok (.getfield 65, 3) := by decide +kernel
theorem dX12_reckonNow_25 : decode cX12_reckonNow 25 = .ok (.iconst 3, 1) := by decide +kernel
theorem dX12_reckonNow_26 : decode cX12_reckonNow 26 = .ok (.aload_n 0, 1) := by decide +kernel
theorem dX12_reckonNow_27 : decode cX12_reckonNow 27 = .ok (.getfield 59, 3) := by decide +kernel
theorem dX12_reckonNow_30 : decode cX12_reckonNow 30 = .ok (.iconst 0, 1) := by decide +kernel
theorem dX12_reckonNow_31 : decode cX12_reckonNow 31 = .ok (.iaload, 1) := by decide +kernel
theorem dX12_reckonNow_32 : decode cX12_reckonNow 32 = .ok (.imul, 1) := by decide +kernel
theorem dX12_reckonNow_33 : decode cX12_reckonNow 33 = .ok (.iload_n 2, 1) := by decide +kernel
theorem dX12_reckonNow_34 : decode cX12_reckonNow 34 = .ok (.iadd, 1) := by decide +kernel
theorem dX12_reckonNow_35 : decode cX12_reckonNow 35 = .ok (.iaload, 1) := by decide +kernel
theorem dX12_reckonNow_36 : decode cX12_reckonNow 36 = .ok (.goto 29, 3) := by decide +kernel
theorem dX12_reckonNow_39 : decode cX12_reckonNow 39 = .ok (.iload_n 2, 1) := by decide +kernel
theorem dX12_reckonNow_40 : decode cX12_reckonNow 40 = .ok (.iconst 3, 1) := by decide +kernel
theorem dX12_reckonNow_41 : decode cX12_reckonNow 41 = .ok (.if_icmp .ne 10, 3) := by decide +kernel
theorem dX12_reckonNow_44 : decode cX12_reckonNow 44 = .ok (.aload_n 0, 1) := by decide +kernel
theorem dX12_reckonNow_45 : decode cX12_reckonNow 45 = .ok (.invokevirtual 233, 3) := by decide +kernel
theorem dX12_reckonNow_48 : decode cX12_reckonNow 48 = .ok (.goto 17, 3) := by decide +kernel
theorem dX12_reckonNow_51 : decode cX12_reckonNow 51 = .ok (.aload_n 0, 1) := by decide +kernel
theorem dX12_reckonNow_52 : decode cX12_reckonNow 52 = .ok (.iload_n 2, 1) := by decide +kernel
theorem dX12_reckonNow_53 : decode cX12_reckonNow 53 = .ok (.iconst 4, 1) := by decide +kernel
theorem dX12_reckonNow_54 : decode cX12_reckonNow 54 = .ok (.if_icmp .ne 7, 3) := by decide +kernel
theorem dX12_reckonNow_57 : decode cX12_reckonNow 57 = .ok (.iconst 1, 1) := by decide +kernel
theorem dX12_reckonNow_58 : decode cX12_reckonNow 58 = .ok (.goto 4, 3) := by decide +kernel
theorem dX12_reckonNow_61 : decode cX12_reckonNow 61 = .ok (.iconst 0, 1) := by decide +kernel
theorem dX12_reckonNow_62 : decode cX12_reckonNow 62 = .ok (.invokevirtual 236, 3) := by decide +kernel
theorem dX12_reckonNow_65 : decode cX12_reckonNow 65 = .ok (.ireturn, 1) := by decide +kernel
theorem dX12_reckon_0 : decode cX12_reckon 0 = .ok (.iload_n 1, 1) := by decide +kernel
theorem dX12_reckon_1 : decode cX12_reckon 1 = .ok (.iconst 0, 1) := by decide +kernel
theorem dX12_reckon_2 : decode cX12_reckon 2 = .ok (.bipush 40, 2) := by decide +kernel
theorem dX12_reckon_4 : decode cX12_reckon 4 = .ok (.invokestatic 107, 3) := by decide +kernel
theorem dX12_reckon_7 : decode cX12_reckon 7 = .ok (.ifCond .eq 21, 3) := by decide +kernel
theorem dX12_reckon_10 : decode cX12_reckon 10 = .ok (.iload_n 2, 1) := by decide +kernel
theorem dX12_reckon_11 : decode cX12_reckon 11 = .ok (.iconst 0, 1) := by decide +kernel
theorem dX12_reckon_12 : decode cX12_reckon 12 = .ok (.iconst 5, 1) := by decide +kernel
theorem dX12_reckon_13 : decode cX12_reckon 13 = .ok (.invokestatic 107, 3) := by decide +kernel
theorem dX12_reckon_16 : decode cX12_reckon 16 = .ok (.ifCond .eq 12, 3) := by decide +kernel
theorem dX12_reckon_19 : decode cX12_reckon 19 = .ok (.aload_n 0, 1) := by decide +kernel
theorem dX12_reckon_20 : decode cX12_reckon 20 = .ok (.iload_n 1, 1) := by decide +kernel
theorem dX12_reckon_21 : decode cX12_reckon 21 = .ok (.iload_n 2, 1) := by decide +kernel
theorem dX12_reckon_22 : decode cX12_reckon 22 = .ok (.invokevirtual 240, 3) := by decide +kernel
theorem dX12_reckon_25 : decode cX12_reckon 25 = .ok (.goto 5, 3) := by decide +kernel
theorem dX12_reckon_28 : decode cX12_reckon 28 = .ok (.bipush (-2), 2) := by decide +kernel
theorem dX12_reckon_30 : decode cX12_reckon 30 = .ok (.ireturn, 1) := by decide +kernel
theorem dX12_how_0 : decode cX12_how 0 = .ok (.iload_n 1, 1) := by decide +kernel
theorem dX12_how_1 : decode cX12_how 1 = .ok (.iconst 0, 1) := by decide +kernel
theorem dX12_how_2 : decode cX12_how 2 = .ok (.bipush 40, 2) := by decide +kernel
theorem dX12_how_4 : decode cX12_how 4 = .ok (.invokestatic 107, 3) := by decide +kernel
theorem dX12_how_7 : decode cX12_how 7 = .ok (.ifCond .eq 7, 3) := by decide +kernel
theorem dX12_how_10 : decode cX12_how 10 = .ok (.iload_n 2, 1) := by decide +kernel
theorem dX12_how_11 : decode cX12_how 11 = .ok (.ifCond .ge 6, 3) := by decide +kernel
theorem dX12_how_14 : decode cX12_how 14 = .ok (.bipush (-2), 2) := by decide +kernel
theorem dX12_how_16 : decode cX12_how 16 = .ok (.ireturn, 1) := by decide +kernel
theorem dX12_how_17 : decode cX12_how 17 = .ok (.aload_n 0, 1) := by decide +kernel
theorem dX12_how_18 : decode cX12_how 18 = .ok (.invokevirtual 222, 3) := by decide +kernel
theorem dX12_how_21 : decode cX12_how 21 = .ok (.iconst (-1), 1) := by decide +kernel
theorem dX12_how_22 : decode cX12_how 22 = .ok (.if_icmp .eq 6, 3) := by decide +kernel
theorem dX12_how_25 : decode cX12_how 25 = .ok (.bipush (-3), 2) := by decide +kernel
theorem dX12_how_27 : decode cX12_how 27 = .ok (.ireturn, 1) := by decide +kernel
theorem dX12_how_28 : decode cX12_how 28 = .ok (.aload_n 0, 1) := by decide +kernel
theorem dX12_how_29 : decode cX12_how 29 = .ok (.iload_n 1, 1) := by decide +kernel
theorem dX12_how_30 : decode cX12_how 30 = .ok (.invokevirtual 229, 3) := by decide +kernel
theorem dX12_how_33 : decode cX12_how 33 = .ok (.iload_n 2, 1) := by decide +kernel
theorem dX12_how_34 : decode cX12_how 34 = .ok (.aload_n 0, 1) := by decide +kernel
theorem dX12_how_35 : decode cX12_how 35 = .ok (.invokevirtual 233, 3) := by decide +kernel
theorem dX12_how_38 : decode cX12_how 38 = .ok (.if_icmp .lt 5, 3) := by decide +kernel
theorem dX12_how_41 : decode cX12_how 41 = .ok (.iconst (-1), 1) := by decide +kernel
theorem dX12_how_42 : decode cX12_how 42 = .ok (.ireturn, 1) := by decide +kernel
theorem dX12_how_43 : decode cX12_how 43 = .ok (.iconst 0, 1) := by decide +kernel
theorem dX12_how_44 : decode cX12_how 44 = .ok (.istore_n 3, 1) := by decide +kernel
theorem dX12_how_45 : decode cX12_how 45 = .ok (.iconst 0, 1) := by decide +kernel
theorem dX12_how_46 : decode cX12_how 46 = .ok (.istore 4, 2) := by decide +kernel
theorem dX12_how_48 : decode cX12_how 48 = .ok (.iload 4, 2) := by decide +kernel
theorem dX12_how_50 : decode cX12_how 50 = .ok (.iload_n 2, 1) := by decide +kernel
theorem dX12_how_51 : decode cX12_how 51 = .ok (.if_icmp .ge 16, 3) := by decide +kernel
theorem dX12_how_54 : decode cX12_how 54 = .ok (.aload_n 0, 1) := by decide +kernel
theorem dX12_how_55 : decode cX12_how 55 = .ok (.getfield 62, 3) := by decide +kernel
theorem dX12_how_58 : decode cX12_how 58 = .ok (.iload_n 3, 1) := by decide +kernel
theorem dX12_how_59 : decode cX12_how 59 = .ok (.iaload, 1) := by decide +kernel
theorem dX12_how_60 : decode cX12_how 60 = .ok (.istore_n 3, 1) := by decide +kernel
theorem dX12_how_61 : decode cX12_how 61 = .ok (.iinc 4 1, 3) := by decide +kernel
theorem dX12_how_64 : decode cX12_how 64 = .ok (.goto (-16), 3) := by decide +kernel
theorem dX12_how_67 : decode cX12_how 67 = .ok (.aload_n 0, 1) := by decide +kernel
theorem dX12_how_68 : decode cX12_how 68 = .ok (.getfield 53, 3) := by decide +kernel
theorem dX12_how_71 : decode cX12_how 71 = .ok (.aload_n 0, 1) := by decide +kernel
theorem dX12_how_72 : decode cX12_how 72 = .ok (.getfield 62, 3) := by decide +kernel
theorem dX12_how_75 : decode cX12_how 75 = .ok (.iload_n 3, 1) := by decide +kernel
theorem dX12_how_76 : decode cX12_how 76 = .ok (.iaload, 1) := by decide +kernel
theorem dX12_how_77 : decode cX12_how 77 = .ok (.iaload, 1) := by decide +kernel
theorem dX12_how_78 : decode cX12_how 78 = .ok (.ireturn, 1) := by decide +kernel
theorem dX12_temperNow_0 : decode cX12_temperNow 0 = .ok (.aload_n 0, 1) := by decide +kernel
theorem dX12_temperNow_1 : decode cX12_temperNow 1 = .ok (.invokevirtual 222, 3) := by decide +kernel
theorem dX12_temperNow_4 : decode cX12_temperNow 4 = .ok (.iconst (-1), 1) := by decide +kernel
theorem dX12_temperNow_5 : decode cX12_temperNow 5 = .ok (.if_icmp .eq 6, 3) := by decide +kernel
theorem dX12_temperNow_8 : decode cX12_temperNow 8 = .ok (.bipush (-3), 2) := by decide +kernel
theorem dX12_temperNow_10 : decode cX12_temperNow 10 = .ok (.ireturn, 1) := by decide +kernel
theorem dX12_temperNow_11 : decode cX12_temperNow 11 = .ok (.aload_n 0, 1) := by decide +kernel
theorem dX12_temperNow_12 : decode cX12_temperNow 12 = .ok (.iconst 0, 1) := by decide +kernel
theorem dX12_temperNow_13 : decode cX12_temperNow 13 = .ok (.invokevirtual 229, 3) := by decide +kernel
theorem dX12_temperNow_16 : decode cX12_temperNow 16 = .ok (.aload_n 0, 1) := by decide +kernel
theorem dX12_temperNow_17 : decode cX12_temperNow 17 = .ok (.getfield 59, 3) := by decide +kernel
theorem dX12_temperNow_20 : decode cX12_temperNow 20 = .ok (.iconst 0, 1) := by decide +kernel
theorem dX12_temperNow_21 : decode cX12_temperNow 21 = .ok (.iaload, 1) := by decide +kernel
theorem dX12_temperNow_22 : decode cX12_temperNow 22 = .ok (.istore_n 1, 1) := by decide +kernel
theorem dX12_temperNow_23 : decode cX12_temperNow 23 = .ok (.iconst 1, 1) := by decide +kernel
theorem dX12_temperNow_24 : decode cX12_temperNow 24 = .ok (.istore_n 2, 1) := by decide +kernel
theorem dX12_temperNow_25 : decode cX12_temperNow 25 = .ok (.iload_n 2, 1) := by decide +kernel
theorem dX12_temperNow_26 : decode cX12_temperNow 26 = .ok (.bipush 41, 2) := by decide +kernel
theorem dX12_temperNow_28 : decode cX12_temperNow 28 = .ok (.if_icmp .ge 26, 3) := by decide +kernel
theorem dX12_temperNow_31 : decode cX12_temperNow 31 = .ok (.aload_n 0, 1) := by decide +kernel
theorem dX12_temperNow_32 : decode cX12_temperNow 32 = .ok (.iload_n 2, 1) := by decide +kernel
theorem dX12_temperNow_33 : decode cX12_temperNow 33 = .ok (.invokevirtual 229, 3) := by decide +kernel
theorem dX12_temperNow_36 : decode cX12_temperNow 36 = .ok (.aload_n 0, 1) := by decide +kernel
theorem dX12_temperNow_37 : decode cX12_temperNow 37 = .ok (.getfield 59, 3) := by decide +kernel
theorem dX12_temperNow_40 : decode cX12_temperNow 40 = .ok (.iconst 0, 1) := by decide +kernel
theorem dX12_temperNow_41 : decode cX12_temperNow 41 = .ok (.iaload, 1) := by decide +kernel
theorem dX12_temperNow_42 : decode cX12_temperNow 42 = .ok (.iload_n 1, 1) := by decide +kernel
theorem dX12_temperNow_43 : decode cX12_temperNow 43 = .ok (.if_icmp .eq 5, 3) := by decide +kernel
theorem dX12_temperNow_46 : decode cX12_temperNow 46 = .ok (.iload_n 2, 1) := by decide +kernel
theorem dX12_temperNow_47 : decode cX12_temperNow 47 = .ok (.ireturn, 1) := by decide +kernel
theorem dX12_temperNow_48 : decode cX12_temperNow 48 = .ok (.iinc 2 1, 3) := by decide +kernel
theorem dX12_temperNow_51 : decode cX12_temperNow 51 = .ok (.goto (-26), 3) := by decide +kernel
theorem dX12_temperNow_54 : decode cX12_temperNow 54 = .ok (.iconst (-1), 1) := by decide +kernel
theorem dX12_temperNow_55 : decode cX12_temperNow 55 = .ok (.ireturn, 1) := by decide +kernel
theorem dX12_temper_0 : decode cX12_temper 0 = .ok (.aload_n 0, 1) := by decide +kernel
theorem dX12_temper_1 : decode cX12_temper 1 = .ok (.invokevirtual 243, 3) := by decide +kernel
theorem dX12_temper_4 : decode cX12_temper 4 = .ok (.ireturn, 1) := by decide +kernel
theorem dX12_two_0 : decode cX12_two 0 = .ok (.iload_n 1, 1) := by decide +kernel
theorem dX12_two_1 : decode cX12_two 1 = .ok (.invokestatic 111, 3) := by decide +kernel
theorem dX12_two_4 : decode cX12_two 4 = .ok (.ifCond .eq 15, 3) := by decide +kernel
theorem dX12_two_7 : decode cX12_two 7 = .ok (.iload_n 2, 1) := by decide +kernel
theorem dX12_two_8 : decode cX12_two 8 = .ok (.invokestatic 111, 3) := by decide +kernel
theorem dX12_two_11 : decode cX12_two 11 = .ok (.ifCond .eq 8, 3) := by decide +kernel
theorem dX12_two_14 : decode cX12_two 14 = .ok (.iload_n 1, 1) := by decide +kernel
theorem dX12_two_15 : decode cX12_two 15 = .ok (.iload_n 2, 1) := by decide +kernel
theorem dX12_two_16 : decode cX12_two 16 = .ok (.if_icmp .ne 6, 3) := by decide +kernel
theorem dX12_two_19 : decode cX12_two 19 = .ok (.bipush (-2), 2) := by decide +kernel
theorem dX12_two_21 : decode cX12_two 21 = .ok (.ireturn, 1) := by decide +kernel
theorem dX12_two_22 : decode cX12_two 22 = .ok (.aload_n 0, 1) := by decide +kernel
theorem dX12_two_23 : decode cX12_two 23 = .ok (.iload_n 1, 1) := by decide +kernel
theorem dX12_two_24 : decode cX12_two 24 = .ok (.iconst 0, 1) := by decide +kernel
theorem dX12_two_25 : decode cX12_two 25 = .ok (.invokevirtual 144, 3) := by decide +kernel
theorem dX12_two_28 : decode cX12_two 28 = .ok (.istore_n 3, 1) := by decide +kernel
theorem dX12_two_29 : decode cX12_two 29 = .ok (.aload_n 0, 1) := by decide +kernel
theorem dX12_two_30 : decode cX12_two 30 = .ok (.iload_n 2, 1) := by decide +kernel
theorem dX12_two_31 : decode cX12_two 31 = .ok (.iconst 0, 1) := by decide +kernel
theorem dX12_two_32 : decode cX12_two 32 = .ok (.invokevirtual 144, 3) := by decide +kernel
theorem dX12_two_35 : decode cX12_two 35 = .ok (.istore 4, 2) := by decide +kernel
theorem dX12_two_37 : decode cX12_two 37 = .ok (.iload_n 3, 1) := by decide +kernel
theorem dX12_two_38 : decode cX12_two 38 = .ok (.ifCond .eq 8, 3) := by decide +kernel
theorem dX12_two_41 : decode cX12_two 41 = .ok (.iload 4, 2) := by decide +kernel
theorem dX12_two_43 : decode cX12_two 43 = .ok (.ifCond .ne 6, 3) := by decide +kernel
theorem dX12_two_46 : decode cX12_two 46 = .ok (.bipush (-3), 2) := by decide +kernel
theorem dX12_two_48 : decode cX12_two 48 = .ok (.ireturn, 1) := by decide +kernel
theorem dX12_two_49 : decode cX12_two 49 = .ok (.iload_n 3, 1) := by decide +kernel
theorem dX12_two_50 : decode cX12_two 50 = .ok (.iload 4, 2) := by decide +kernel
theorem dX12_two_52 : decode cX12_two 52 = .ok (.iadd, 1) := by decide +kernel
theorem dX12_two_53 : decode cX12_two 53 = .ok (.bipush 14, 2) := by decide +kernel
theorem dX12_two_55 : decode cX12_two 55 = .ok (.if_icmp .le 6, 3) := by decide +kernel
theorem dX12_two_58 : decode cX12_two 58 = .ok (.bipush (-4), 2) := by decide +kernel
theorem dX12_two_60 : decode cX12_two 60 = .ok (.ireturn, 1) := by decide +kernel
theorem dX12_two_61 : decode cX12_two 61 = .ok (.aload_n 0, 1) := by decide +kernel
theorem dX12_two_62 : decode cX12_two 62 = .ok (.iload_n 1, 1) := by decide +kernel
theorem dX12_two_63 : decode cX12_two 63 = .ok (.iconst 0, 1) := by decide +kernel
theorem dX12_two_64 : decode cX12_two 64 = .ok (.invokevirtual 165, 3) := by decide +kernel
theorem dX12_two_67 : decode cX12_two 67 = .ok (.istore 5, 2) := by decide +kernel
theorem dX12_two_69 : decode cX12_two 69 = .ok (.iload 5, 2) := by decide +kernel
theorem dX12_two_71 : decode cX12_two 71 = .ok (.aload_n 0, 1) := by decide +kernel
theorem dX12_two_72 : decode cX12_two 72 = .ok (.iload_n 2, 1) := by decide +kernel
theorem dX12_two_73 : decode cX12_two 73 = .ok (.iconst 0, 1) := by decide +kernel
theorem dX12_two_74 : decode cX12_two 74 = .ok (.invokevirtual 165, 3) := by decide +kernel
theorem dX12_two_77 : decode cX12_two 77 = .ok (.iadd, 1) := by decide +kernel
theorem dX12_two_78 : decode cX12_two 78 = .ok (.istore 6, 2) := by decide +kernel
theorem dX12_two_80 : decode cX12_two 80 = .ok (.iload 5, 2) := by decide +kernel
theorem dX12_two_82 : decode cX12_two 82 = .ok (.iload 4, 2) := by decide +kernel
theorem dX12_two_84 : decode cX12_two 84 = .ok (.imul, 1) := by decide +kernel
theorem dX12_two_85 : decode cX12_two 85 = .ok (.iload 6, 2) := by decide +kernel
theorem dX12_two_87 : decode cX12_two 87 = .ok (.iload 5, 2) := by decide +kernel
theorem dX12_two_89 : decode cX12_two 89 = .ok (.isub, 1) := by decide +kernel
theorem dX12_two_90 : decode cX12_two 90 = .ok (.iload_n 3, 1) := by decide +kernel
theorem dX12_two_91 : decode cX12_two 91 = .ok (.imul, 1) := by decide +kernel
theorem dX12_two_92 : decode cX12_two 92 = .ok (.isub, 1) := by decide +kernel
theorem dX12_two_93 : decode cX12_two 93 = .ok (.invokestatic 204, 3) := by decide +kernel
theorem dX12_two_96 : decode cX12_two 96 = .ok (.istore 7, 2) := by decide +kernel
theorem dX12_two_98 : decode cX12_two 98 = .ok (.iconst 0, 1) := by decide +kernel
theorem dX12_two_99 : decode cX12_two 99 = .ok (.istore 8, 2) := by decide +kernel
theorem dX12_two_101 : decode cX12_two 101 = .ok (.iconst 0, 1) := by decide +kernel
theorem dX12_two_102 : decode cX12_two 102 = .ok (.istore 9, 2) := by decide +kernel
theorem dX12_two_104 : decode cX12_two 104 = .ok (.iload 9, 2) := by decide +kernel
theorem dX12_two_106 : decode cX12_two 106 = .ok (.aload_n 0, 1) := by decide +kernel
theorem dX12_two_107 : decode cX12_two 107 = .ok (.getfield 124, 3) := by decide +kernel
theorem dX12_two_110 : decode cX12_two 110 = .ok (.if_icmp .ge 48, 3) := by decide +kernel
theorem dX12_two_113 : decode cX12_two 113 = .ok (.aload_n 0, 1) := by decide +kernel
theorem dX12_two_114 : decode cX12_two 114 = .ok (.iload 9, 2) := by decide +kernel
theorem dX12_two_116 : decode cX12_two 116 = .ok (.iload_n 1, 1) := by decide +kernel
theorem dX12_two_117 : decode cX12_two 117 = .ok (.iconst 0, 1) := by decide +kernel
theorem dX12_two_118 : decode cX12_two 118 = .ok (.invokevirtual 141, 3) := by decide +kernel
theorem dX12_two_121 : decode cX12_two 121 = .ok (.ifCond .ne 14, 3) := by decide +kernel
theorem dX12_two_124 : decode cX12_two 124 = .ok (.aload_n 0, 1) := by decide +kernel
theorem dX12_two_125 : decode cX12_two 125 = .ok (.iload 9, 2) := by decide +kernel
theorem dX12_two_127 : decode cX12_two 127 = .ok (.iload_n 2, 1) := by decide +kernel
theorem dX12_two_128 : decode cX12_two 128 = .ok (.iconst 0, 1) := by decide +kernel
theorem dX12_two_129 : decode cX12_two 129 = .ok (.invokevirtual 141, 3) := by decide +kernel
theorem dX12_two_132 : decode cX12_two 132 = .ok (.ifCond .eq 20, 3) := by decide +kernel
theorem dX12_two_135 : decode cX12_two 135 = .ok (.aload_n 0, 1) := by decide +kernel
theorem dX12_two_136 : decode cX12_two 136 = .ok (.getfield 68, 3) := by decide +kernel
theorem dX12_two_139 : decode cX12_two 139 = .ok (.iload 8, 2) := by decide +kernel
theorem dX12_two_141 : decode cX12_two 141 = .ok (.aload_n 0, 1) := by decide +kernel
theorem dX12_two_142 : decode cX12_two 142 = .ok (.getfield 16, 3) := by decide +kernel
theorem dX12_two_145 : decode cX12_two 145 = .ok (.iload 9, 2) := by decide +kernel
theorem dX12_two_147 : decode cX12_two 147 = .ok (.iaload, 1) := by decide +kernel
theorem dX12_two_148 : decode cX12_two 148 = .ok (.iastore, 1) := by decide +kernel
theorem dX12_two_149 : decode cX12_two 149 = .ok (.iinc 8 1, 3) := by decide +kernel
theorem dX12_two_152 : decode cX12_two 152 = .ok (.iinc 9 1, 3) := by decide +kernel
theorem dX12_two_155 : decode cX12_two 155 = .ok (.goto (-51), 3) := by decide +kernel
theorem dX12_two_158 : decode cX12_two 158 = .ok (.lconst 0, 1) := by decide +kernel
theorem dX12_two_159 : decode cX12_two 159 = .ok (.lstore 9, 2) := by decide +kernel
theorem dX12_two_161 : decode cX12_two 161 = .ok (.lconst 0, 1) := by decide +kernel
theorem dX12_two_162 : decode cX12_two 162 = .ok (.lstore 11, 2) := by decide +kernel
theorem dX12_two_164 : decode cX12_two 164 = .ok (.iconst 0, 1) := by decide +kernel
theorem dX12_two_165 : decode cX12_two 165 = .ok (.istore 13, 2) := by decide +kernel
theorem dX12_two_167 : decode cX12_two 167 = .ok (.iload 13, 2) := by decide +kernel
theorem dX12_two_169 : decode cX12_two 169 = .ok (.iconst 1, 1) := by decide +kernel
theorem dX12_two_170 : decode cX12_two 170 = .ok (.iload_n 3, 1) := by decide +kernel
theorem dX12_two_171 : decode cX12_two 171 = .ok (.iload 4, 2) := by decide +kernel
theorem dX12_two_173 : decode cX12_two 173 = .ok (.iadd, 1) := by decide +kernel
theorem dX12_two_174 : decode cX12_two 174 = .ok (.ishl, 1) := by decide +kernel
theorem dX12_two_175 : decode cX12_two 175 = .ok (.if_icmp .ge 102, 3) := by decide +kernel
theorem dX12_two_178 : decode cX12_two 178 = .ok (.iload 13, 2) := by decide +kernel
theorem dX12_two_180 : decode cX12_two 180 = .ok (.invokestatic 246, 3) := by decide +kernel
theorem dX12_two_183 : decode cX12_two 183 = .ok (.iload_n 3, 1) := by decide +kernel
theorem dX12_two_184 : decode cX12_two 184 = .ok (.if_icmp .ne 87, 3) := by decide +kernel
theorem dX12_two_187 : decode cX12_two 187 = .ok (.iconst 0, 1) := by decide +kernel
theorem dX12_two_188 : decode cX12_two 188 = .ok (.istore 14, 2) := by decide +kernel
theorem dX12_two_190 : decode cX12_two 190 = .ok (.iconst 0, 1) := by decide +kernel
theorem dX12_two_191 : decode cX12_two 191 = .ok (.istore 15, 2) := by decide +kernel
theorem dX12_two_193 : decode cX12_two 193 = .ok (.iload 15, 2) := by decide +kernel
theorem dX12_two_195 : decode cX12_two 195 = .ok (.iload_n 3, 1) := by decide +kernel
theorem dX12_two_196 : decode cX12_two 196 = .ok (.iload 4, 2) := by decide +kernel
theorem dX12_two_198 : decode cX12_two 198 = .ok (.iadd, 1) := by decide +kernel
theorem dX12_two_199 : decode cX12_two 199 = .ok (.if_icmp .ge 35, 3) := by decide +kernel
theorem dX12_two_202 : decode cX12_two 202 = .ok (.iload 14, 2) := by decide +kernel
theorem dX12_two_204 : decode cX12_two 204 = .ok (.iload 13, 2) := by decide +kernel
theorem dX12_two_206 : decode cX12_two 206 = .ok (.iload 15, 2) := by decide +kernel
theorem dX12_two_208 : decode cX12_two 208 = .ok (.invokestatic 179, 3) := by decide +kernel
theorem dX12_two_211 : decode cX12_two 211 = .ok (.ifCond .eq 13, 3) := by decide +kernel
theorem dX12_two_214 : decode cX12_two 214 = .ok (.aload_n 0, 1) := by decide +kernel
theorem dX12_two_215 : decode cX12_two 215 = .ok (.getfield 68, 3) := by decide +kernel
theorem dX12_two_218 : decode cX12_two 218 = .ok (.iload 15, 2) := by decide +kernel
theorem dX12_two_220 : decode cX12_two 220 = .ok (.iaload, 1) := by decide +kernel
theorem dX12_two_221 : decode cX12_two 221 = .ok (.goto 4, 3) := by decide +kernel
theorem dX12_two_224 : decode cX12_two 224 = .ok (.iconst 0, 1) := by decide +kernel
theorem dX12_two_225 : decode cX12_two 225 = .ok (.iadd, 1) := by decide +kernel
theorem dX12_two_226 : decode cX12_two 226 = .ok (.istore 14, 2) := by decide +kernel
theorem dX12_two_228 : decode cX12_two 228 = .ok (.iinc 15 1, 3) := by decide +kernel
theorem dX12_two_231 : decode cX12_two 231 = .ok (.goto (-38), 3) := by decide +kernel
theorem dX12_two_234 : decode cX12_two 234 = .ok (.lload 9, 2) := by decide +kernel
theorem dX12_two_236 : decode cX12_two 236 = .ok (.lconst 1, 1) := by decide +kernel
theorem dX12_two_237 : decode cX12_two 237 = .ok (.ladd, 1) := by decide +kernel
theorem dX12_two_238 : decode cX12_two 238 = .ok (.lstore 9, 2) := by decide +kernel
theorem dX12_two_240 : decode cX12_two 240 = .ok (.lload 11, 2) := by decide +kernel
theorem dX12_two_242 : decode cX12_two 242 = .ok (.iload 14, 2) := by decide +kernel
theorem dX12_two_244 : decode cX12_two 244 = .ok (.iload 4, 2) := by decide +kernel
theorem dX12_two_246 : decode cX12_two 246 = .ok (.imul, 1) := by decide +kernel
theorem dX12_two_247 : decode cX12_two 247 = .ok (.iload 6, 2) := by decide +kernel
theorem dX12_two_249 : decode cX12_two 249 = .ok (.iload 14, 2) := by decide +kernel
theorem dX12_two_251 : decode cX12_two 251 = .ok (.isub, 1) := by decide +kernel
theorem dX12_two_252 : decode cX12_two 252 = .ok (.iload_n 3, 1) := by decide +kernel
theorem dX12_two_253 : decode cX12_two 253 = .ok (.imul, 1) := by decide +kernel
theorem dX12_two_254 : decode cX12_two 254 = .ok (.isub, 1) := by decide +kernel
theorem dX12_two_255 : decode cX12_two 255 = .ok (.invokestatic 204, 3) := by decide +kernel
theorem dX12_two_258 : decode cX12_two 258 = .ok (.iload 7, 2) := by decide +kernel
theorem dX12_two_260 : decode cX12_two 260 = .ok (.if_icmp .lt 7, 3) := by decide +kernel
theorem dX12_two_263 : decode cX12_two 263 = .ok (.lconst 1, 1) := by decide +kernel
theorem dX12_two_264 : decode cX12_two 264 = .ok (.goto 4, 3) := by decide +kernel
theorem dX12_two_267 : decode cX12_two 267 = .ok (.lconst 0, 1) := by decide +kernel
theorem dX12_two_268 : decode cX12_two 268 = .ok (.ladd, 1) := by decide +kernel
theorem dX12_two_269 : decode cX12_two 269 = .ok (.lstore 11, 2) := by decide +kernel
theorem dX12_two_271 : decode cX12_two 271 = .ok (.iinc 13 1, 3) := by decide +kernel
theorem dX12_two_274 : decode cX12_two 274 = .ok (.goto (-107), 3) := by decide +kernel
theorem dX12_two_277 : decode cX12_two 277 = .ok (.ldc2_w 249, 3) := by decide +kernel
theorem dX12_two_280 : decode cX12_two 280 = .ok (.lload 11, 2) := by decide +kernel
theorem dX12_two_282 : decode cX12_two 282 = .ok (.lmul, 1) := by decide +kernel
theorem dX12_two_283 : decode cX12_two 283 = .ok (.lload 9, 2) := by decide +kernel
theorem dX12_two_285 : decode cX12_two 285 = .ok (.ldiv, 1) := by decide +kernel
theorem dX12_two_286 : decode cX12_two 286 = .ok (.l2i, 1) := by decide +kernel
theorem dX12_two_287 : decode cX12_two 287 = .ok (.ireturn, 1) := by decide +kernel
theorem dX12_thing_0 : decode cX12_thing 0 = .ok (.iload_n 1, 1) := by decide +kernel
theorem dX12_thing_1 : decode cX12_thing 1 = .ok (.iconst 0, 1) := by decide +kernel
theorem dX12_thing_2 : decode cX12_thing 2 = .ok (.bipush 99, 2) := by decide +kernel
theorem dX12_thing_4 : decode cX12_thing 4 = .ok (.invokestatic 107, 3) := by decide +kernel
theorem dX12_thing_7 : decode cX12_thing 7 = .ok (.ifCond .eq 34, 3) := by decide +kernel
theorem dX12_thing_10 : decode cX12_thing 10 = .ok (.iload_n 2, 1) := by decide +kernel
theorem dX12_thing_11 : decode cX12_thing 11 = .ok (.iconst 0, 1) := by decide +kernel
theorem dX12_thing_12 : decode cX12_thing 12 = .ok (.bipush 99, 2) := by decide +kernel
theorem dX12_thing_14 : decode cX12_thing 14 = .ok (.invokestatic 107, 3) := by decide +kernel
theorem dX12_thing_17 : decode cX12_thing 17 = .ok (.ifCond .eq 24, 3) := by decide +kernel
theorem dX12_thing_20 : decode cX12_thing 20 = .ok (.iload_n 3, 1) := by decide +kernel
theorem dX12_thing_21 : decode cX12_thing 21 = .ok (.iconst 0, 1) := by decide +kernel
theorem dX12_thing_22 : decode cX12_thing 22 = .ok (.bipush 99, 2) := by decide +kernel
theorem dX12_thing_24 : decode cX12_thing 24 = .ok (.invokestatic 107, 3) := by decide +kernel
theorem dX12_thing_27 : decode cX12_thing 27 = .ok (.ifCond .eq 14, 3) := by decide +kernel
theorem dX12_thing_30 : decode cX12_thing 30 = .ok (.iload 4, 2) := by decide +kernel
theorem dX12_thing_32 : decode cX12_thing 32 = .ok (.iconst 0, 1) := by decide +kernel
theorem dX12_thing_33 : decode cX12_thing 33 = .ok (.bipush 99, 2) := by decide +kernel
theorem dX12_thing_35 : decode cX12_thing 35 = .ok (.invokestatic 107, 3) := by decide +kernel
theorem dX12_thing_38 : decode cX12_thing 38 = .ok (.ifCond .ne 6, 3) := by decide +kernel
theorem dX12_thing_41 : decode cX12_thing 41 = .ok (.bipush (-2), 2) := by decide +kernel
theorem dX12_thing_43 : decode cX12_thing 43 = .ok (.ireturn, 1) := by decide +kernel
theorem dX12_thing_44 : decode cX12_thing 44 = .ok (.aload_n 0, 1) := by decide +kernel
theorem dX12_thing_45 : decode cX12_thing 45 = .ok (.getfield 251, 3) := by decide +kernel
theorem dX12_thing_48 : decode cX12_thing 48 = .ok (.bipush 6, 2) := by decide +kernel
theorem dX12_thing_50 : decode cX12_thing 50 = .ok (.if_icmp .ne 6, 3) := by decide +kernel
theorem dX12_thing_53 : decode cX12_thing 53 = .ok (.bipush (-4), 2) := by decide +kernel
theorem dX12_thing_55 : decode cX12_thing 55 = .ok (.ireturn, 1) := by decide +kernel
theorem dX12_thing_56 : decode cX12_thing 56 = .ok (.aload_n 0, 1) := by decide +kernel
theorem dX12_thing_57 : decode cX12_thing 57 = .ok (.getfield 71, 3) := by decide +kernel
theorem dX12_thing_60 : decode cX12_thing 60 = .ok (.iconst 4, 1) := by decide +kernel
theorem dX12_thing_61 : decode cX12_thing 61 = .ok (.aload_n 0, 1) := by decide +kernel
theorem dX12_thing_62 : decode cX12_thing 62 = .ok (.getfield 251, 3) := by decide +kernel
theorem dX12_thing_65 : decode cX12_thing 65 = .ok (.imul, 1) := by decide +kernel
theorem dX12_thing_66 : decode cX12_thing 66 = .ok (.iload_n 1, 1) := by decide +kernel
theorem dX12_thing_67 : decode cX12_thing 67 = .ok (.iastore, 1) := by decide +kernel
theorem dX12_thing_68 : decode cX12_thing 68 = .ok (.aload_n 0, 1) := by decide +kernel
theorem dX12_thing_69 : decode cX12_thing 69 = .ok (.getfield 71, 3) := by decide +kernel
theorem dX12_thing_72 : decode cX12_thing 72 = .ok (.iconst 4, 1) := by decide +kernel
theorem dX12_thing_73 : decode cX12_thing 73 = .ok (.aload_n 0, 1) := by decide +kernel
theorem dX12_thing_74 : decode cX12_thing 74 = .ok (.getfield 251, 3) := by decide +kernel
theorem dX12_thing_77 : decode cX12_thing 77 = .ok (.imul, 1) := by decide +kernel
theorem dX12_thing_78 : decode cX12_thing 78 = .ok (.iconst 1, 1) := by decide +kernel
theorem dX12_thing_79 : decode cX12_thing 79 = .ok (.iadd, 1) := by decide +kernel
theorem dX12_thing_80 : decode cX12_thing 80 = .ok (.iload_n 2, 1) := by decide +kernel
theorem dX12_thing_81 : decode cX12_thing 81 = .ok (.iastore, 1) := by decide +kernel
theorem dX12_thing_82 : decode cX12_thing 82 = .ok (.aload_n 0, 1) := by decide +kernel
theorem dX12_thing_83 : decode cX12_thing 83 = .ok (.getfield 71, 3) := by decide +kernel
theorem dX12_thing_86 : decode cX12_thing 86 = .ok (.iconst 4, 1) := by decide +kernel
theorem dX12_thing_87 : decode cX12_thing 87 = .ok (.aload_n 0, 1) := by decide +kernel
theorem dX12_thing_88 : decode cX12_thing 88 = .ok (.getfield 251, 3) := by decide +kernel
theorem dX12_thing_91 : decode cX12_thing 91 = .ok (.imul, 1) := by decide +kernel
theorem dX12_thing_92 : decode cX12_thing 92 = .ok (.iconst 2, 1) := by decide +kernel
theorem dX12_thing_93 : decode cX12_thing 93 = .ok (.iadd, 1) := by decide +kernel
theorem dX12_thing_94 : decode cX12_thing 94 = .ok (.iload_n 3, 1) := by decide +kernel
theorem dX12_thing_95 : decode cX12_thing 95 = .ok (.iastore, 1) := by decide +kernel
theorem dX12_thing_96 : decode cX12_thing 96 = .ok (.aload_n 0, 1) := by decide +kernel
theorem dX12_thing_97 : decode cX12_thing 97 = .ok (.getfield 71, 3) := by decide +kernel
theorem dX12_thing_100 : decode cX12_thing 100 = .ok (.iconst 4, 1) := by decide +kernel
theorem dX12_thing_101 : decode cX12_thing 101 = .ok (.aload_n 0, 1) := by decide +kernel
theorem dX12_thing_102 : decode cX12_thing 102 = .ok (.getfield 251, 3) := by decide +kernel
theorem dX12_thing_105 : decode cX12_thing 105 = .ok (.imul, 1) := by decide +kernel
theorem dX12_thing_106 : decode cX12_thing 106 = .ok (.iconst 3, 1) := by decide +kernel
theorem dX12_thing_107 : decode cX12_thing 107 = .ok (.iadd, 1) := by decide +kernel
theorem dX12_thing_108 : decode cX12_thing 108 = .ok (.iload 4, 2) := by decide +kernel
theorem dX12_thing_110 : decode cX12_thing 110 = .ok (.iastore, 1) := by decide +kernel
theorem dX12_thing_111 : decode cX12_thing 111 = .ok (.aload_n 0, 1) := by decide +kernel
theorem dX12_thing_112 : decode cX12_thing 112 = .ok (.dup, 1) := by decide +kernel
theorem dX12_thing_113 : decode cX12_thing 113 = .ok (.getfield 251, 3) := by decide +kernel
theorem dX12_thing_116 : decode cX12_thing 116 = .ok (.iconst 1, 1) := by decide +kernel
theorem dX12_thing_117 : decode cX12_thing 117 = .ok (.iadd, 1) := by decide +kernel
theorem dX12_thing_118 : decode cX12_thing 118 = .ok (.putfield 251, 3) := by decide +kernel
theorem dX12_thing_121 : decode cX12_thing 121 = .ok (.aload_n 0, 1) := by decide +kernel
theorem dX12_thing_122 : decode cX12_thing 122 = .ok (.getfield 251, 3) := by decide +kernel
theorem dX12_thing_125 : decode cX12_thing 125 = .ok (.iconst 1, 1) := by decide +kernel
theorem dX12_thing_126 : decode cX12_thing 126 = .ok (.isub, 1) := by decide +kernel
theorem dX12_thing_127 : decode cX12_thing 127 = .ok (.ireturn, 1) := by decide +kernel
theorem dX12_way_0 : decode cX12_way 0 = .ok (.iload_n 0, 1) := by decide +kernel
theorem dX12_way_1 : decode cX12_way 1 = .ok (.ifCond .le 7, 3) := by decide +kernel
theorem dX12_way_4 : decode cX12_way 4 = .ok (.iconst 1, 1) := by decide +kernel
theorem dX12_way_5 : decode cX12_way 5 = .ok (.goto 12, 3) := by decide +kernel
theorem dX12_way_8 : decode cX12_way 8 = .ok (.iload_n 0, 1) := by decide +kernel
theorem dX12_way_9 : decode cX12_way 9 = .ok (.ifCond .ge 7, 3) := by decide +kernel
theorem dX12_way_12 : decode cX12_way 12 = .ok (.iconst (-1), 1) := by decide +kernel
theorem dX12_way_13 : decode cX12_way 13 = .ok (.goto 4, 3) := by decide +kernel
theorem dX12_way_16 : decode cX12_way 16 = .ok (.iconst 0, 1) := by decide +kernel
theorem dX12_way_17 : decode cX12_way 17 = .ok (.ireturn, 1) := by decide +kernel
theorem dX12_gathers_0 : decode cX12_gathers 0 = .ok (.aload_n 0, 1) := by decide +kernel
theorem dX12_gathers_1 : decode cX12_gathers 1 = .ok (.iconst 0, 1) := by decide +kernel
theorem dX12_gathers_2 : decode cX12_gathers 2 = .ok (.putfield 254, 3) := by decide +kernel
theorem dX12_gathers_5 : decode cX12_gathers 5 = .ok (.iconst 0, 1) := by decide +kernel
theorem dX12_gathers_6 : decode cX12_gathers 6 = .ok (.istore_n 1, 1) := by decide +kernel
theorem dX12_gathers_7 : decode cX12_gathers 7 = .ok (.iload_n 1, 1) := by decide +kernel
theorem dX12_gathers_8 : decode cX12_gathers 8 = .ok (.iconst 4, 1) := by decide +kernel
theorem dX12_gathers_9 : decode cX12_gathers 9 = .ok (.if_icmp .ge 48, 3) := by decide +kernel
theorem dX12_gathers_12 : decode cX12_gathers 12 = .ok (.aload_n 0, 1) := by decide +kernel
theorem dX12_gathers_13 : decode cX12_gathers 13 = .ok (.iload_n 1, 1) := by decide +kernel
theorem dX12_gathers_14 : decode cX12_gathers 14 = .ok (.iconst 0, 1) := by decide +kernel
theorem dX12_gathers_15 : decode cX12_gathers 15 = .ok (.invokevirtual 144, 3) := by decide +kernel
theorem dX12_gathers_18 : decode cX12_gathers 18 = .ok (.ifCond .le 33, 3) := by decide +kernel
theorem dX12_gathers_21 : decode cX12_gathers 21 = .ok (.aload_n 0, 1) := by decide +kernel
theorem dX12_gathers_22 : decode cX12_gathers 22 = .ok (.getfield 74, 3) := by decide +kernel
theorem dX12_gathers_25 : decode cX12_gathers 25 = .ok (.aload_n 0, 1) := by decide +kernel
theorem dX12_gathers_26 : decode cX12_gathers 26 = .ok (.getfield 254, 3) := by decide +kernel
theorem dX12_gathers_29 : decode cX12_gathers 29 = .ok (.iload_n 1, 1) := by decide +kernel
theorem dX12_gathers_30 : decode cX12_gathers 30 = .ok (.iastore, 1) := by decide +kernel
theorem dX12_gathers_31 : decode cX12_gathers 31 = .ok (.aload_n 0, 1) := by decide +kernel
theorem dX12_gathers_32 : decode cX12_gathers 32 = .ok (.getfield 77, 3) := by decide +kernel
theorem dX12_gathers_35 : decode cX12_gathers 35 = .ok (.aload_n 0, 1) := by decide +kernel
theorem dX12_gathers_36 : decode cX12_gathers 36 = .ok (.getfield 254, 3) := by decide +kernel
theorem dX12_gathers_39 : decode cX12_gathers 39 = .ok (.iload_n 1, 1) := by decide +kernel
theorem dX12_gathers_40 : decode cX12_gathers 40 = .ok (.iastore, 1) := by decide +kernel
theorem dX12_gathers_41 : decode cX12_gathers 41 = .ok (.aload_n 0, 1) := by decide +kernel
theorem dX12_gathers_42 : decode cX12_gathers 42 = .ok (.dup, 1) := by decide +kernel
theorem dX12_gathers_43 : decode cX12_gathers 43 = .ok (.getfield 254, 3) := by decide +kernel
theorem dX12_gathers_46 : decode cX12_gathers 46 = .ok (.iconst 1, 1) := by decide +kernel
theorem dX12_gathers_47 : decode cX12_gathers 47 = .ok (.iadd, 1) := by decide +kernel
theorem dX12_gathers_48 : decode cX12_gathers 48 = .ok (.putfield 254, 3) := by decide +kernel
theorem dX12_gathers_51 : decode cX12_gathers 51 = .ok (.iinc 1 1, 3) := by decide +kernel
theorem dX12_gathers_54 : decode cX12_gathers 54 = .ok (.goto (-47), 3) := by decide +kernel
theorem dX12_gathers_57 : decode cX12_gathers 57 = .ok (.return_, 1) := by decide +kernel
theorem dX12_goesBy_0 : decode cX12_goesBy 0 = .ok (.iconst 0, 1) := by decide +kernel
theorem dX12_goesBy_1 : decode cX12_goesBy 1 = .ok (.istore_n 2, 1) := by decide +kernel
theorem dX12_goesBy_2 : decode cX12_goesBy 2 = .ok (.iconst 0, 1) := by decide +kernel
theorem dX12_goesBy_3 : decode cX12_goesBy 3 = .ok (.istore_n 3, 1) := by decide +kernel
theorem dX12_goesBy_4 : decode cX12_goesBy 4 = .ok (.iload_n 3, 1) := by decide +kernel
theorem dX12_goesBy_5 : decode cX12_goesBy 5 = .ok (.aload_n 0, 1) := by decide +kernel
theorem dX12_goesBy_6 : decode cX12_goesBy 6 = .ok (.getfield 254, 3) := by decide +kernel
theorem dX12_goesBy_9 : decode cX12_goesBy 9 = .ok (.if_icmp .ge 119, 3) := by decide +kernel
theorem dX12_goesBy_12 : decode cX12_goesBy 12 = .ok (.iconst 0, 1) := by decide +kernel
theorem dX12_goesBy_13 : decode cX12_goesBy 13 = .ok (.istore 4, 2) := by decide +kernel
theorem dX12_goesBy_15 : decode cX12_goesBy 15 = .ok (.iload 4, 2) := by decide +kernel
theorem dX12_goesBy_17 : decode cX12_goesBy 17 = .ok (.iload_n 3, 1) := by decide +kernel
theorem dX12_goesBy_18 : decode cX12_goesBy 18 = .ok (.if_icmp .ge 104, 3) := by decide +kernel
theorem dX12_goesBy_21 : decode cX12_goesBy 21 = .ok (.aload_n 0, 1) := by decide +kernel
theorem dX12_goesBy_22 : decode cX12_goesBy 22 = .ok (.aload_n 0, 1) := by decide +kernel
theorem dX12_goesBy_23 : decode cX12_goesBy 23 = .ok (.getfield 77, 3) := by decide +kernel
theorem dX12_goesBy_26 : decode cX12_goesBy 26 = .ok (.iload_n 3, 1) := by decide +kernel
theorem dX12_goesBy_27 : decode cX12_goesBy 27 = .ok (.iaload, 1) := by decide +kernel
theorem dX12_goesBy_28 : decode cX12_goesBy 28 = .ok (.iconst 0, 1) := by decide +kernel
theorem dX12_goesBy_29 : decode cX12_goesBy 29 = .ok (.invokevirtual 165, 3) := by decide +kernel
theorem dX12_goesBy_32 : decode cX12_goesBy 32 = .ok (.aload_n 0, 1) := by decide +kernel
theorem dX12_goesBy_33 : decode cX12_goesBy 33 = .ok (.aload_n 0, 1) := by decide +kernel
theorem dX12_goesBy_34 : decode cX12_goesBy 34 = .ok (.getfield 77, 3) := by decide +kernel
theorem dX12_goesBy_37 : decode cX12_goesBy 37 = .ok (.iload 4, 2) := by decide +kernel
theorem dX12_goesBy_39 : decode cX12_goesBy 39 = .ok (.iaload, 1) := by decide +kernel
theorem dX12_goesBy_40 : decode cX12_goesBy 40 = .ok (.iconst 0, 1) := by decide +kernel
theorem dX12_goesBy_41 : decode cX12_goesBy 41 = .ok (.invokevirtual 144, 3) := by decide +kernel
theorem dX12_goesBy_44 : decode cX12_goesBy 44 = .ok (.imul, 1) := by decide +kernel
theorem dX12_goesBy_45 : decode cX12_goesBy 45 = .ok (.aload_n 0, 1) := by decide +kernel
theorem dX12_goesBy_46 : decode cX12_goesBy 46 = .ok (.aload_n 0, 1) := by decide +kernel
theorem dX12_goesBy_47 : decode cX12_goesBy 47 = .ok (.getfield 77, 3) := by decide +kernel
theorem dX12_goesBy_50 : decode cX12_goesBy 50 = .ok (.iload 4, 2) := by decide +kernel
theorem dX12_goesBy_52 : decode cX12_goesBy 52 = .ok (.iaload, 1) := by decide +kernel
theorem dX12_goesBy_53 : decode cX12_goesBy 53 = .ok (.iconst 0, 1) := by decide +kernel
theorem dX12_goesBy_54 : decode cX12_goesBy 54 = .ok (.invokevirtual 165, 3) := by decide +kernel
theorem dX12_goesBy_57 : decode cX12_goesBy 57 = .ok (.aload_n 0, 1) := by decide +kernel
theorem dX12_goesBy_58 : decode cX12_goesBy 58 = .ok (.aload_n 0, 1) := by decide +kernel
theorem dX12_goesBy_59 : decode cX12_goesBy 59 = .ok (.getfield 77, 3) := by decide +kernel
theorem dX12_goesBy_62 : decode cX12_goesBy 62 = .ok (.iload_n 3, 1) := by decide +kernel
theorem dX12_goesBy_63 : decode cX12_goesBy 63 = .ok (.iaload, 1) := by decide +kernel
theorem dX12_goesBy_64 : decode cX12_goesBy 64 = .ok (.iconst 0, 1) := by decide +kernel
theorem dX12_goesBy_65 : decode cX12_goesBy 65 = .ok (.invokevirtual 144, 3) := by decide +kernel
theorem dX12_goesBy_68 : decode cX12_goesBy 68 = .ok (.imul, 1) := by decide +kernel
theorem dX12_goesBy_69 : decode cX12_goesBy 69 = .ok (.isub, 1) := by decide +kernel
theorem dX12_goesBy_70 : decode cX12_goesBy 70 = .ok (.invokestatic 257, 3) := by decide +kernel
theorem dX12_goesBy_73 : decode cX12_goesBy 73 = .ok (.istore 5, 2) := by decide +kernel
theorem dX12_goesBy_75 : decode cX12_goesBy 75 = .ok (.iload_n 2, 1) := by decide +kernel
theorem dX12_goesBy_76 : decode cX12_goesBy 76 = .ok (.iload 5, 2) := by decide +kernel
theorem dX12_goesBy_78 : decode cX12_goesBy 78 = .ok (.aload_n 0, 1) := by decide +kernel
theorem dX12_goesBy_79 : decode cX12_goesBy 79 = .ok (.getfield 71, 3) := by decide +kernel
theorem dX12_goesBy_82 : decode cX12_goesBy 82 = .ok (.iconst 4, 1) := by decide +kernel
theorem dX12_goesBy_83 : decode cX12_goesBy 83 = .ok (.iload_n 1, 1) := by decide +kernel
theorem dX12_goesBy_84 : decode cX12_goesBy 84 = .ok (.imul, 1) := by decide +kernel
theorem dX12_goesBy_85 : decode cX12_goesBy 85 = .ok (.aload_n 0, 1) := by decide +kernel
theorem dX12_goesBy_86 : decode cX12_goesBy 86 = .ok (.getfield 74, 3) := by decide +kernel
theorem dX12_goesBy_89 : decode cX12_goesBy 89 = .ok (.iload_n 3, 1) := by decide +kernel
theorem dX12_goesBy_90 : decode cX12_goesBy 90 = .ok (.iaload, 1) := by decide +kernel
theorem dX12_goesBy_91 : decode cX12_goesBy 91 = .ok (.iadd, 1) := by decide +kernel
theorem dX12_goesBy_92 : decode cX12_goesBy 92 = .ok (.iaload, 1) := by decide +kernel
theorem dX12_goesBy_93 : decode cX12_goesBy 93 = .ok (.aload_n 0, 1) := by decide +kernel
theorem dX12_goesBy_94 : decode cX12_goesBy 94 = .ok (.getfield 71, 3) := by decide +kernel
theorem dX12_goesBy_97 : decode cX12_goesBy 97 = .ok (.iconst 4, 1) := by decide +kernel
theorem dX12_goesBy_98 : decode cX12_goesBy 98 = .ok (.iload_n 1, 1) := by decide +kernel
theorem dX12_goesBy_99 : decode cX12_goesBy 99 = .ok (.imul, 1) := by decide +kernel
theorem dX12_goesBy_100 : decode cX12_goesBy 100 = .ok (.aload_n 0, 1) := by decide +kernel
theorem dX12_goesBy_101 : decode cX12_goesBy 101 = .ok (.getfield 74, 3) := by decide +kernel
theorem dX12_goesBy_104 : decode cX12_goesBy 104 = .ok (.iload 4, 2) := by decide +kernel
theorem dX12_goesBy_106 : decode cX12_goesBy 106 = .ok (.iaload, 1) := by decide +kernel
theorem dX12_goesBy_107 : decode cX12_goesBy 107 = .ok (.iadd, 1) := by decide +kernel
theorem dX12_goesBy_108 : decode cX12_goesBy 108 = .ok (.iaload, 1) := by decide +kernel
theorem dX12_goesBy_109 : decode cX12_goesBy 109 = .ok (.isub, 1) := by decide +kernel
theorem dX12_goesBy_110 : decode cX12_goesBy 110 = .ok (.invokestatic 257, 3) := by decide +kernel
theorem dX12_goesBy_113 : decode cX12_goesBy 113 = .ok (.imul, 1) := by decide +kernel
theorem dX12_goesBy_114 : decode cX12_goesBy 114 = .ok (.iadd, 1) := by decide +kernel
theorem dX12_goesBy_115 : decode cX12_goesBy 115 = .ok (.istore_n 2, 1) := by decide +kernel
theorem dX12_goesBy_116 : decode cX12_goesBy 116 = .ok (.iinc 4 1, 3) := by decide +kernel
theorem dX12_goesBy_119 : decode cX12_goesBy 119 = .ok (.goto (-104), 3) := by decide +kernel
theorem dX12_goesBy_122 : decode cX12_goesBy 122 = .ok (.iinc 3 1, 3) := by decide +kernel
theorem dX12_goesBy_125 : decode cX12_goesBy 125 = .ok (.goto (-121), 3) := by decide +kernel
theorem dX12_goesBy_128 : decode cX12_goesBy 128 = .ok (.iload_n 2, 1) := by decide +kernel
theorem dX12_goesBy_129 : decode cX12_goesBy 129 = .ok (.ireturn, 1) := by decide +kernel
theorem dX12_goesNow_0 : decode cX12_goesNow 0 = .ok (.aload_n 0, 1) := by decide +kernel
theorem dX12_goesNow_1 : decode cX12_goesNow 1 = .ok (.invokevirtual 260, 3) := by decide +kernel
theorem dX12_goesNow_4 : decode cX12_goesNow 4 = .ok (.aload_n 0, 1) := by decide +kernel
theorem dX12_goesNow_5 : decode cX12_goesNow 5 = .ok (.iload_n 1, 1) := by decide +kernel
theorem dX12_goesNow_6 : decode cX12_goesNow 6 = .ok (.invokevirtual 263, 3) := by decide +kernel
theorem dX12_goesNow_9 : decode cX12_goesNow 9 = .ok (.ireturn, 1) := by decide +kernel
theorem dX12_goes_0 : decode cX12_goes 0 = .ok (.iload_n 1, 1) := by decide +kernel
theorem dX12_goes_1 : decode cX12_goes 1 = .ok (.iconst 0, 1) := by decide +kernel
theorem dX12_goes_2 : decode cX12_goes 2 = .ok (.aload_n 0, 1) := by decide +kernel
theorem dX12_goes_3 : decode cX12_goes 3 = .ok (.getfield 251, 3) := by decide +kernel
theorem dX12_goes_6 : decode cX12_goes 6 = .ok (.iconst 1, 1) := by decide +kernel
theorem dX12_goes_7 : decode cX12_goes 7 = .ok (.isub, 1) := by decide +kernel
theorem dX12_goes_8 : decode cX12_goes 8 = .ok (.invokestatic 107, 3) := by decide +kernel
theorem dX12_goes_11 : decode cX12_goes 11 = .ok (.ifCond .eq 11, 3) := by decide +kernel
theorem dX12_goes_14 : decode cX12_goes 14 = .ok (.aload_n 0, 1) := by decide +kernel
theorem dX12_goes_15 : decode cX12_goes 15 = .ok (.iload_n 1, 1) := by decide +kernel
theorem dX12_goes_16 : decode cX12_goes 16 = .ok (.invokevirtual 266, 3) := by decide +kernel
theorem dX12_goes_19 : decode cX12_goes 19 = .ok (.goto 5, 3) := by decide +kernel
theorem dX12_goes_22 : decode cX12_goes 22 = .ok (.bipush (-99), 2) := by decide +kernel
theorem dX12_goes_24 : decode cX12_goes 24 = .ok (.ireturn, 1) := by decide +kernel
theorem dX12_greatest_0 : decode cX12_greatest 0 = .ok (.iconst 0, 1) := by decide +kernel
theorem dX12_greatest_1 : decode cX12_greatest 1 = .ok (.istore_n 1, 1) := by decide +kernel
theorem dX12_greatest_2 : decode cX12_greatest 2 = .ok (.iconst 0, 1) := by decide +kernel
theorem dX12_greatest_3 : decode cX12_greatest 3 = .ok (.istore_n 2, 1) := by decide +kernel
theorem dX12_greatest_4 : decode cX12_greatest 4 = .ok (.iload_n 2, 1) := by decide +kernel
theorem dX12_greatest_5 : decode cX12_greatest 5 = .ok (.aload_n 0, 1) := by decide +kernel
theorem dX12_greatest_6 : decode cX12_greatest 6 = .ok (.getfield 251, 3) := by decide +kernel
theorem dX12_greatest_9 : decode cX12_greatest 9 = .ok (.if_icmp .ge 29, 3) := by decide +kernel
theorem dX12_greatest_12 : decode cX12_greatest 12 = .ok (.aload_n 0, 1) := by decide +kernel
theorem dX12_greatest_13 : decode cX12_greatest 13 = .ok (.iload_n 2, 1) := by decide +kernel
theorem dX12_greatest_14 : decode cX12_greatest 14 = .ok (.invokevirtual 263, 3) := by decide +kernel
theorem dX12_greatest_17 : decode cX12_greatest 17 = .ok (.invokestatic 204, 3) := by decide +kernel
theorem dX12_greatest_20 : decode cX12_greatest 20 = .ok (.istore_n 3, 1) := by decide +kernel
theorem dX12_greatest_21 : decode cX12_greatest 21 = .ok (.iload_n 3, 1) := by decide +kernel
theorem dX12_greatest_22 : decode cX12_greatest 22 = .ok (.iload_n 1, 1) := by decide +kernel
theorem dX12_greatest_23 : decode cX12_greatest 23 = .ok (.if_icmp .le 7, 3) := by decide +kernel
theorem dX12_greatest_26 : decode cX12_greatest 26 = .ok (.iload_n 3, 1) := by decide +kernel
theorem dX12_greatest_27 : decode cX12_greatest 27 = .ok (.goto 4, 3) := by decide +kernel
theorem dX12_greatest_30 : decode cX12_greatest 30 = .ok (.iload_n 1, 1) := by decide +kernel
theorem dX12_greatest_31 : decode cX12_greatest 31 = .ok (.istore_n 1, 1) := by decide +kernel
theorem dX12_greatest_32 : decode cX12_greatest 32 = .ok (.iinc 2 1, 3) := by decide +kernel
theorem dX12_greatest_35 : decode cX12_greatest 35 = .ok (.goto (-31), 3) := by decide +kernel
theorem dX12_greatest_38 : decode cX12_greatest 38 = .ok (.iload_n 1, 1) := by decide +kernel
theorem dX12_greatest_39 : decode cX12_greatest 39 = .ok (.ireturn, 1) := by decide +kernel
theorem dX12_lookedNow_0 : decode cX12_lookedNow 0 = .ok (.aload_n 0, 1) := by decide +kernel
theorem dX12_lookedNow_1 : decode cX12_lookedNow 1 = .ok (.invokevirtual 260, 3) := by decide +kernel
theorem dX12_lookedNow_4 : decode cX12_lookedNow 4 = .ok (.aload_n 0, 1) := by decide +kernel
theorem dX12_lookedNow_5 : decode cX12_lookedNow 5 = .ok (.getfield 251, 3) := by decide +kernel
theorem dX12_lookedNow_8 : decode cX12_lookedNow 8 = .ok (.ifCond .eq 11, 3) := by decide +kernel
theorem dX12_lookedNow_11 : decode cX12_lookedNow 11 = .ok (.aload_n 0, 1) := by decide +kernel
theorem dX12_lookedNow_12 : decode cX12_lookedNow 12 = .ok (.getfield 254, 3) := by decide +kernel
theorem dX12_lookedNow_15 : decode cX12_lookedNow 15 = .ok (.iconst 2, 1) := by decide +kernel
theorem dX12_lookedNow_16 : decode cX12_lookedNow 16 = .ok (.if_icmp .ge 6, 3) := by decide +kernel
theorem dX12_lookedNow_19 : decode cX12_lookedNow 19 = .ok (.bipush (-3), 2) := by decide +kernel
theorem dX12_lookedNow_21 : decode cX12_lookedNow 21 = .ok (.ireturn, 1) := by decide +kernel
theorem dX12_lookedNow_22 : decode cX12_lookedNow 22 = .ok (.aload_n 0, 1) := by decide +kernel
theorem dX12_lookedNow_23 : decode cX12_lookedNow 23 = .ok (.invokevirtual 269, 3) := by decide +kernel
theorem dX12_lookedNow_26 : decode cX12_lookedNow 26 = .ok (.istore_n 1, 1) := by decide +kernel
theorem dX12_lookedNow_27 : decode cX12_lookedNow 27 = .ok (.iconst 1, 1) := by decide +kernel
theorem dX12_lookedNow_28 : decode cX12_lookedNow 28 = .ok (.istore_n 2, 1) := by decide +kernel
theorem dX12_lookedNow_29 : decode cX12_lookedNow 29 = .ok (.iconst 0, 1) := by decide +kernel
theorem dX12_lookedNow_30 : decode cX12_lookedNow 30 = .ok (.istore_n 3, 1) := by decide +kernel
theorem dX12_lookedNow_31 : decode cX12_lookedNow 31 = .ok (.iload_n 3, 1) := by decide +kernel
theorem dX12_lookedNow_32 : decode cX12_lookedNow 32 = .ok (.aload_n 0, 1) := by decide +kernel
theorem dX12_lookedNow_33 : decode cX12_lookedNow 33 = .ok (.getfield 254, 3) := by decide +kernel
theorem dX12_lookedNow_36 : decode cX12_lookedNow 36 = .ok (.if_icmp .ge 16, 3) := by decide +kernel
theorem dX12_lookedNow_39 : decode cX12_lookedNow 39 = .ok (.iload_n 2, 1) := by decide +kernel
theorem dX12_lookedNow_40 : decode cX12_lookedNow 40 = .ok (.aload_n 0, 1) := by decide +kernel
theorem dX12_lookedNow_41 : decode cX12_lookedNow 41 = .ok (.getfield 254, 3) := by decide +kernel
theorem dX12_lookedNow_44 : decode cX12_lookedNow 44 = .ok (.imul, 1) := by decide +kernel
theorem dX12_lookedNow_45 : decode cX12_lookedNow 45 = .ok (.istore_n 2, 1) := by decide +kernel
theorem dX12_lookedNow_46 : decode cX12_lookedNow 46 = .ok (.iinc 3 1, 3) := by decide +kernel
theorem dX12_lookedNow_49 : decode cX12_lookedNow 49 = .ok (.goto (-18), 3) := by decide +kernel
theorem dX12_lookedNow_52 : decode cX12_lookedNow 52 = .ok (.lconst 0, 1) := by decide +kernel
theorem dX12_lookedNow_53 : decode cX12_lookedNow 53 = .ok (.lstore_n 3, 1) := by decide +kernel
theorem dX12_lookedNow_54 : decode cX12_lookedNow 54 = .ok (.lconst 0, 1) := by decide +kernel
theorem dX12_lookedNow_55 : decode cX12_lookedNow 55 = .ok (.lstore 5, 2) := by decide +kernel
theorem dX12_lookedNow_57 : decode cX12_lookedNow 57 = .ok (.iconst 0, 1) := by decide +kernel
theorem dX12_lookedNow_58 : decode cX12_lookedNow 58 = .ok (.istore 7, 2) := by decide +kernel
theorem dX12_lookedNow_60 : decode cX12_lookedNow 60 = .ok (.iload 7, 2) := by decide +kernel
theorem dX12_lookedNow_62 : decode cX12_lookedNow 62 = .ok (.iload_n 2, 1) := by decide +kernel
theorem dX12_lookedNow_63 : decode cX12_lookedNow 63 = .ok (.if_icmp .ge 111, 3) := by decide +kernel
theorem dX12_lookedNow_66 : decode cX12_lookedNow 66 = .ok (.iload 7, 2) := by decide +kernel
theorem dX12_lookedNow_68 : decode cX12_lookedNow 68 = .ok (.istore 8, 2) := by decide +kernel
theorem dX12_lookedNow_70 : decode cX12_lookedNow 70 = .ok (.iconst 0, 1) := by decide +kernel
theorem dX12_lookedNow_71 : decode cX12_lookedNow 71 = .ok (.istore 9, 2) := by decide +kernel
theorem dX12_lookedNow_73 : decode cX12_lookedNow 73 = .ok (.iconst 0, 1) := by decide +kernel
theorem dX12_lookedNow_74 : decode cX12_lookedNow 74 = .ok (.istore 10, 2) := by decide +kernel
theorem dX12_lookedNow_76 : decode cX12_lookedNow 76 = .ok (.iload 10, 2) := by decide +kernel
theorem dX12_lookedNow_78 : decode cX12_lookedNow 78 = .ok (.aload_n 0, 1) := by decide +kernel
theorem dX12_lookedNow_79 : decode cX12_lookedNow 79 = .ok (.getfield 254, 3) := by decide +kernel
theorem dX12_lookedNow_82 : decode cX12_lookedNow 82 = .ok (.if_icmp .ge 51, 3) := by decide +kernel
theorem dX12_lookedNow_85 : decode cX12_lookedNow 85 = .ok (.aload_n 0, 1) := by decide +kernel
theorem dX12_lookedNow_86 : decode cX12_lookedNow 86 = .ok (.getfield 77, 3) := by decide +kernel
theorem dX12_lookedNow_89 : decode cX12_lookedNow 89 = .ok (.iload 10, 2) := by decide +kernel
theorem dX12_lookedNow_91 : decode cX12_lookedNow 91 = .ok (.aload_n 0, 1) := by decide +kernel
theorem dX12_lookedNow_92 : decode cX12_lookedNow 92 = .ok (.getfield 74, 3) := by decide +kernel
theorem dX12_lookedNow_95 : decode cX12_lookedNow 95 = .ok (.iload 8, 2) := by decide +kernel
theorem dX12_lookedNow_97 : decode cX12_lookedNow 97 = .ok (.aload_n 0, 1) := by decide +kernel
theorem dX12_lookedNow_98 : decode cX12_lookedNow 98 = .ok (.getfield 254, 3) := by decide +kernel
theorem dX12_lookedNow_101 : decode cX12_lookedNow 101 = .ok (.irem, 1) := by decide +kernel
theorem dX12_lookedNow_102 : decode cX12_lookedNow 102 = .ok (.iaload, 1) := by decide +kernel
theorem dX12_lookedNow_103 : decode cX12_lookedNow 103 = .ok (.iastore, 1) := by decide +kernel
theorem dX12_lookedNow_104 : decode cX12_lookedNow 104 = .ok (.iload 9, 2) := by decide +kernel
theorem dX12_lookedNow_106 : decode cX12_lookedNow 106 = .ok (.iconst 1, 1) := by decide +kernel
theorem dX12_lookedNow_107 : decode cX12_lookedNow 107 = .ok (.iload 8, 2) := by decide +kernel
theorem dX12_lookedNow_109 : decode cX12_lookedNow 109 = .ok (.aload_n 0, 1) := by decide +kernel
theorem dX12_lookedNow_110 : decode cX12_lookedNow 110 = .ok (.getfield 254, 3) := by decide +kernel
theorem dX12_lookedNow_113 : decode cX12_lookedNow 113 = .ok (.irem, 1) := by decide +kernel
theorem dX12_lookedNow_114 : decode cX12_lookedNow 114 = .ok (.ishl, 1) := by decide +kernel
theorem dX12_lookedNow_115 : decode cX12_lookedNow 115 = .ok (.ior, 1) := by decide +kernel
theorem dX12_lookedNow_116 : decode cX12_lookedNow 116 = .ok (.istore 9, 2) := by decide +kernel
theorem dX12_lookedNow_118 : decode cX12_lookedNow 118 = .ok (.iload 8, 2) := by decide +kernel
theorem dX12_lookedNow_120 : decode cX12_lookedNow 120 = .ok (.aload_n 0, 1) := by decide +kernel
theorem dX12_lookedNow_121 : decode cX12_lookedNow 121 = .ok (.getfield 254, 3) := by decide +kernel
theorem dX12_lookedNow_124 : decode cX12_lookedNow 124 = .ok (.idiv, 1) := by decide +kernel
theorem dX12_lookedNow_125 : decode cX12_lookedNow 125 = .ok (.istore 8, 2) := by decide +kernel
theorem dX12_lookedNow_127 : decode cX12_lookedNow 127 = .ok (.iinc 10 1, 3) := by decide +kernel
theorem dX12_lookedNow_130 : decode cX12_lookedNow 130 = .ok (.goto (-54), 3) := by decide +kernel
theorem dX12_lookedNow_133 : decode cX12_lookedNow 133 = .ok (.iload 9, 2) := by decide +kernel
theorem dX12_lookedNow_135 : decode cX12_lookedNow 135 = .ok (.iconst 1, 1) := by decide +kernel
theorem dX12_lookedNow_136 : decode cX12_lookedNow 136 = .ok (.aload_n 0, 1) := by decide +kernel
theorem dX12_lookedNow_137 : decode cX12_lookedNow 137 = .ok (.getfield 254, 3) := by decide +kernel
theorem dX12_lookedNow_140 : decode cX12_lookedNow 140 = .ok (.ishl, 1) := by decide +kernel
theorem dX12_lookedNow_141 : decode cX12_lookedNow 141 = .ok (.iconst 1, 1) := by decide +kernel
theorem dX12_lookedNow_142 : decode cX12_lookedNow 142 = .ok (.isub, 1) := by decide +kernel
theorem dX12_lookedNow_143 : decode cX12_lookedNow 143 = .ok (.if_icmp .ne 25, 3) := by decide +kernel
theorem dX12_lookedNow_146 : decode cX12_lookedNow 146 = .ok (.lload_n 3, 1) := by decide +kernel
theorem dX12_lookedNow_147 : decode cX12_lookedNow 147 = .ok (.lconst 1, 1) := by decide +kernel
theorem dX12_lookedNow_148 : decode cX12_lookedNow 148 = .ok (.ladd, 1) := by decide +kernel
theorem dX12_lookedNow_149 : decode cX12_lookedNow 149 = .ok (.lstore_n 3, 1) := by decide +kernel
theorem dX12_lookedNow_150 : decode cX12_lookedNow 150 = .ok (.lload 5, 2) := by decide +kernel
theorem dX12_lookedNow_152 : decode cX12_lookedNow 152 = .ok (.aload_n 0, 1) := by decide +kernel
theorem dX12_lookedNow_153 : decode cX12_lookedNow 153 = .ok (.invokevirtual 269, 3) := by decide +kernel
theorem dX12_lookedNow_156 : decode cX12_lookedNow 156 = .ok (.iload_n 1, 1) := by decide +kernel
theorem dX12_lookedNow_157 : decode cX12_lookedNow 157 = .ok (.if_icmp .lt 7, 3) := by decide +kernel
theorem dX12_lookedNow_160 : decode cX12_lookedNow 160 = .ok (.lconst 1, 1) := by decide +kernel
theorem dX12_lookedNow_161 : decode cX12_lookedNow 161 = .ok (.goto 4, 3) := by decide +kernel
theorem dX12_lookedNow_164 : decode cX12_lookedNow 164 = .ok (.lconst 0, 1) := by decide +kernel
theorem dX12_lookedNow_165 : decode cX12_lookedNow 165 = .ok (.ladd, 1) := by decide +kernel
theorem dX12_lookedNow_166 : decode cX12_lookedNow 166 = .ok (.lstore 5, 2) := by decide +kernel
theorem dX12_lookedNow_168 : decode cX12_lookedNow 168 = .ok (.iinc 7 1, 3) := by decide +kernel
theorem dX12_lookedNow_171 : decode cX12_lookedNow 171 = .ok (.goto (-111), 3) := by decide +kernel
theorem dX12_lookedNow_174 : decode cX12_lookedNow 174 = .ok (.ldc2_w 249, 3) := by decide +kernel
theorem dX12_lookedNow_177 : decode cX12_lookedNow 177 = .ok (.lload 5, 2) := by decide +kernel
theorem dX12_lookedNow_179 : decode cX12_lookedNow 179 = .ok (.lmul, 1) := by decide +kernel
theorem dX12_lookedNow_180 : decode cX12_lookedNow 180 = .ok (.lload_n 3, 1) := by decide +kernel
theorem dX12_lookedNow_181 : decode cX12_lookedNow 181 = .ok (.ldiv, 1) := by decide +kernel
theorem dX12_lookedNow_182 : decode cX12_lookedNow 182 = .ok (.l2i, 1) := by decide +kernel
theorem dX12_lookedNow_183 : decode cX12_lookedNow 183 = .ok (.ireturn, 1) := by decide +kernel
theorem dX12_looked_0 : decode cX12_looked 0 = .ok (.aload_n 0, 1) := by decide +kernel
theorem dX12_looked_1 : decode cX12_looked 1 = .ok (.invokevirtual 272, 3) := by decide +kernel
theorem dX12_looked_4 : decode cX12_looked 4 = .ok (.ireturn, 1) := by decide +kernel
theorem dX12_spanOf_0 : decode cX12_spanOf 0 = .ok (.iload_n 0, 1) := by decide +kernel
theorem dX12_spanOf_1 : decode cX12_spanOf 1 = .ok (.iconst 4, 1) := by decide +kernel
theorem dX12_spanOf_2 : decode cX12_spanOf 2 = .ok (.if_icmp .ge 7, 3) := by decide +kernel
theorem dX12_spanOf_5 : decode cX12_spanOf 5 = .ok (.iconst 0, 1) := by decide +kernel
theorem dX12_spanOf_6 : decode cX12_spanOf 6 = .ok (.goto 14, 3) := by decide +kernel
theorem dX12_spanOf_9 : decode cX12_spanOf 9 = .ok (.iload_n 0, 1) := by decide +kernel
theorem dX12_spanOf_10 : decode cX12_spanOf 10 = .ok (.bipush 7, 2) := by decide +kernel
theorem dX12_spanOf_12 : decode cX12_spanOf 12 = .ok (.if_icmp .ge 7, 3) := by decide +kernel
theorem dX12_spanOf_15 : decode cX12_spanOf 15 = .ok (.iconst 1, 1) := by decide +kernel
theorem dX12_spanOf_16 : decode cX12_spanOf 16 = .ok (.goto 4, 3) := by decide +kernel
theorem dX12_spanOf_19 : decode cX12_spanOf 19 = .ok (.iconst 2, 1) := by decide +kernel
theorem dX12_spanOf_20 : decode cX12_spanOf 20 = .ok (.ireturn, 1) := by decide +kernel
theorem dX12_story_0 : decode cX12_story 0 = .ok (.iload_n 1, 1) := by decide +kernel
theorem dX12_story_1 : decode cX12_story 1 = .ok (.iconst 0, 1) := by decide +kernel
theorem dX12_story_2 : decode cX12_story 2 = .ok (.iconst 2, 1) := by decide +kernel
theorem dX12_story_3 : decode cX12_story 3 = .ok (.invokestatic 107, 3) := by decide +kernel
theorem dX12_story_6 : decode cX12_story 6 = .ok (.ifCond .eq 22, 3) := by decide +kernel
theorem dX12_story_9 : decode cX12_story 9 = .ok (.iload_n 2, 1) := by decide +kernel
theorem dX12_story_10 : decode cX12_story 10 = .ok (.iconst 0, 1) := by decide +kernel
theorem dX12_story_11 : decode cX12_story 11 = .ok (.iconst 2, 1) := by decide +kernel
theorem dX12_story_12 : decode cX12_story 12 = .ok (.invokestatic 107, 3) := by decide +kernel
theorem dX12_story_15 : decode cX12_story 15 = .ok (.ifCond .eq 13, 3) := by decide +kernel
theorem dX12_story_18 : decode cX12_story 18 = .ok (.iload_n 3, 1) := by decide +kernel
theorem dX12_story_19 : decode cX12_story 19 = .ok (.iconst 1, 1) := by decide +kernel
theorem dX12_story_20 : decode cX12_story 20 = .ok (.bipush 15, 2) := by decide +kernel
theorem dX12_story_22 : decode cX12_story 22 = .ok (.invokestatic 107, 3) := by decide +kernel
theorem dX12_story_25 : decode cX12_story 25 = .ok (.ifCond .ne 6, 3) := by decide +kernel
theorem dX12_story_28 : decode cX12_story 28 = .ok (.bipush (-2), 2) := by decide +kernel
theorem dX12_story_30 : decode cX12_story 30 = .ok (.ireturn, 1) := by decide +kernel
theorem dX12_story_31 : decode cX12_story 31 = .ok (.aload_n 0, 1) := by decide +kernel
theorem dX12_story_32 : decode cX12_story 32 = .ok (.getfield 80, 3) := by decide +kernel
theorem dX12_story_35 : decode cX12_story 35 = .ok (.iconst 3, 1) := by decide +kernel
theorem dX12_story_36 : decode cX12_story 36 = .ok (.iload_n 1, 1) := by decide +kernel
theorem dX12_story_37 : decode cX12_story 37 = .ok (.imul, 1) := by decide +kernel
theorem dX12_story_38 : decode cX12_story 38 = .ok (.iload_n 2, 1) := by decide +kernel
theorem dX12_story_39 : decode cX12_story 39 = .ok (.iadd, 1) := by decide +kernel
theorem dX12_story_40 : decode cX12_story 40 = .ok (.iaload, 1) := by decide +kernel
theorem dX12_story_41 : decode cX12_story 41 = .ok (.istore 4, 2) := by decide +kernel
theorem dX12_story_43 : decode cX12_story 43 = .ok (.aload_n 0, 1) := by decide +kernel
theorem dX12_story_44 : decode cX12_story 44 = .ok (.getfield 80, 3) := by decide +kernel
theorem dX12_story_47 : decode cX12_story 47 = .ok (.iconst 3, 1) := by decide +kernel
theorem dX12_story_48 : decode cX12_story 48 = .ok (.iload_n 1, 1) := by decide +kernel
theorem dX12_story_49 : decode cX12_story 49 = .ok (.imul, 1) := by decide +kernel
theorem dX12_story_50 : decode cX12_story 50 = .ok (.iload_n 2, 1) := by decide +kernel
theorem dX12_story_51 : decode cX12_story 51 = .ok (.iadd, 1) := by decide +kernel
theorem dX12_story_52 : decode cX12_story 52 = .ok (.iload_n 3, 1) := by decide +kernel
theorem dX12_story_53 : decode cX12_story 53 = .ok (.iastore, 1) := by decide +kernel
theorem dX12_story_54 : decode cX12_story 54 = .ok (.iload 4, 2) := by decide +kernel
theorem dX12_story_56 : decode cX12_story 56 = .ok (.ireturn, 1) := by decide +kernel
theorem dX12_partOf_0 : decode cX12_partOf 0 = .ok (.lconst 1, 1) := by decide +kernel
theorem dX12_partOf_1 : decode cX12_partOf 1 = .ok (.lstore_n 3, 1) := by decide +kernel
theorem dX12_partOf_2 : decode cX12_partOf 2 = .ok (.iconst 0, 1) := by decide +kernel
theorem dX12_partOf_3 : decode cX12_partOf 3 = .ok (.istore 5, 2) := by decide +kernel
theorem dX12_partOf_5 : decode cX12_partOf 5 = .ok (.iload 5, 2) := by decide +kernel
theorem dX12_partOf_7 : decode cX12_partOf 7 = .ok (.aload_n 0, 1) := by decide +kernel
theorem dX12_partOf_8 : decode cX12_partOf 8 = .ok (.getfield 124, 3) := by decide +kernel
theorem dX12_partOf_11 : decode cX12_partOf 11 = .ok (.if_icmp .ge 66, 3) := by decide +kernel
theorem dX12_partOf_14 : decode cX12_partOf 14 = .ok (.aload_n 0, 1) := by decide +kernel
theorem dX12_partOf_15 : decode cX12_partOf 15 = .ok (.iload 5, 2) := by decide +kernel
theorem dX12_partOf_17 : decode cX12_partOf 17 = .ok (.iload_n 1, 1) := by decide +kernel
theorem dX12_partOf_18 : decode cX12_partOf 18 = .ok (.iconst 0, 1) := by decide +kernel
theorem dX12_partOf_19 : decode cX12_partOf 19 = .ok (.invokevirtual 141, 3) := by decide +kernel
theorem dX12_partOf_22 : decode cX12_partOf 22 = .ok (.ifCond .eq 49, 3) := by decide +kernel
theorem dX12_partOf_25 : decode cX12_partOf 25 = .ok (.aload_n 0, 1) := by decide +kernel
theorem dX12_partOf_26 : decode cX12_partOf 26 = .ok (.getfield 80, 3) := by decide +kernel
theorem dX12_partOf_29 : decode cX12_partOf 29 = .ok (.iconst 3, 1) := by decide +kernel
theorem dX12_partOf_30 : decode cX12_partOf 30 = .ok (.iload_n 2, 1) := by decide +kernel
theorem dX12_partOf_31 : decode cX12_partOf 31 = .ok (.imul, 1) := by decide +kernel
theorem dX12_partOf_32 : decode cX12_partOf 32 = .ok (.aload_n 0, 1) := by decide +kernel
theorem dX12_partOf_33 : decode cX12_partOf 33 = .ok (.getfield 16, 3) := by decide +kernel
theorem dX12_partOf_36 : decode cX12_partOf 36 = .ok (.iload 5, 2) := by decide +kernel
theorem dX12_partOf_38 : decode cX12_partOf 38 = .ok (.iaload, 1) := by decide +kernel
theorem dX12_partOf_39 : decode cX12_partOf 39 = .ok (.invokestatic 275, 3) := by decide +kernel
theorem dX12_partOf_42 : decode cX12_partOf 42 = .ok (.iadd, 1) := by decide +kernel
theorem dX12_partOf_43 : decode cX12_partOf 43 = .ok (.iaload, 1) := by decide +kernel
theorem dX12_partOf_44 : decode cX12_partOf 44 = .ok (.istore 6, 2) := by decide +kernel
theorem dX12_partOf_46 : decode cX12_partOf 46 = .ok (.lload_n 3, 1) := by decide +kernel
theorem dX12_partOf_47 : decode cX12_partOf 47 = .ok (.aload_n 0, 1) := by decide +kernel
theorem dX12_partOf_48 : decode cX12_partOf 48 = .ok (.getfield 19, 3) := by decide +kernel
theorem dX12_partOf_51 : decode cX12_partOf 51 = .ok (.iload 5, 2) := by decide +kernel
theorem dX12_partOf_53 : decode cX12_partOf 53 = .ok (.iaload, 1) := by decide +kernel
theorem dX12_partOf_54 : decode cX12_partOf 54 = .ok (.ifCond .ne 9, 3) := by decide +kernel
theorem dX12_partOf_57 : decode cX12_partOf 57 = .ok (.iload 6, 2) := by decide +kernel
theorem dX12_partOf_59 : decode cX12_partOf 59 = .ok (.i2l, 1) := by decide +kernel
theorem dX12_partOf_60 : decode cX12_partOf 60 = .ok (.goto 9, 3) := by decide +kernel
theorem dX12_partOf_63 : decode cX12_partOf 63 = .ok (.bipush 16, 2) := by decide +kernel
theorem dX12_partOf_65 : decode cX12_partOf 65 = .ok (.iload 6, 2) := by decide +kernel
theorem dX12_partOf_67 : decode cX12_partOf 67 = .ok (.isub, 1) := by decide +kernel
theorem dX12_partOf_68 : decode cX12_partOf 68 = .ok (.i2l, 1) := by decide +kernel
theorem dX12_partOf_69 : decode cX12_partOf 69 = .ok (.lmul, 1) := by decide +kernel
theorem dX12_partOf_70 : decode cX12_partOf 70 = .ok (.lstore_n 3, 1) := by decide +kernel
theorem dX12_partOf_71 : decode cX12_partOf 71 = .ok (.iinc 5 1, 3) := by decide +kernel
theorem dX12_partOf_74 : decode cX12_partOf 74 = .ok (.goto (-69), 3) := by decide +kernel
theorem dX12_partOf_77 : decode cX12_partOf 77 = .ok (.lload_n 3, 1) := by decide +kernel
theorem dX12_partOf_78 : decode cX12_partOf 78 = .ok (.lreturn, 1) := by decide +kernel
theorem dX12_odds_0 : decode cX12_odds 0 = .ok (.iload_n 1, 1) := by decide +kernel
theorem dX12_odds_1 : decode cX12_odds 1 = .ok (.invokestatic 154, 3) := by decide +kernel
theorem dX12_odds_4 : decode cX12_odds 4 = .ok (.ifCond .eq 21, 3) := by decide +kernel
theorem dX12_odds_7 : decode cX12_odds 7 = .ok (.iload_n 2, 1) := by decide +kernel
theorem dX12_odds_8 : decode cX12_odds 8 = .ok (.iconst 0, 1) := by decide +kernel
theorem dX12_odds_9 : decode cX12_odds 9 = .ok (.iconst 2, 1) := by decide +kernel
theorem dX12_odds_10 : decode cX12_odds 10 = .ok (.invokestatic 107, 3) := by decide +kernel
theorem dX12_odds_13 : decode cX12_odds 13 = .ok (.ifCond .eq 12, 3) := by decide +kernel
theorem dX12_odds_16 : decode cX12_odds 16 = .ok (.iload_n 3, 1) := by decide +kernel
theorem dX12_odds_17 : decode cX12_odds 17 = .ok (.iconst 0, 1) := by decide +kernel
theorem dX12_odds_18 : decode cX12_odds 18 = .ok (.iconst 1, 1) := by decide +kernel
theorem dX12_odds_19 : decode cX12_odds 19 = .ok (.invokestatic 107, 3) := by decide +kernel
theorem dX12_odds_22 : decode cX12_odds 22 = .ok (.ifCond .ne 9, 3) := by decide +kernel
theorem dX12_odds_25 : decode cX12_odds 25 = .ok (.bipush (-2), 2) := by decide +kernel
theorem dX12_odds_27 : decode cX12_odds 27 = .ok (.invokestatic 161, 3) := by decide +kernel
theorem dX12_odds_30 : decode cX12_odds 30 = .ok (.lreturn, 1) := by decide +kernel
theorem dX12_odds_31 : decode cX12_odds 31 = .ok (.aload_n 0, 1) := by decide +kernel
theorem dX12_odds_32 : decode cX12_odds 32 = .ok (.iload_n 1, 1) := by decide +kernel
theorem dX12_odds_33 : decode cX12_odds 33 = .ok (.iconst 0, 1) := by decide +kernel
theorem dX12_odds_34 : decode cX12_odds 34 = .ok (.invokevirtual 144, 3) := by decide +kernel
theorem dX12_odds_37 : decode cX12_odds 37 = .ok (.bipush 14, 2) := by decide +kernel
theorem dX12_odds_39 : decode cX12_odds 39 = .ok (.if_icmp .le 9, 3) := by decide +kernel
theorem dX12_odds_42 : decode cX12_odds 42 = .ok (.bipush (-4), 2) := by decide +kernel
theorem dX12_odds_44 : decode cX12_odds 44 = .ok (.invokestatic 161, 3) := by decide +kernel
theorem dX12_odds_47 : decode cX12_odds 47 = .ok (.lreturn, 1) := by decide +kernel
theorem dX12_odds_48 : decode cX12_odds 48 = .ok (.aload_n 0, 1) := by decide +kernel
theorem dX12_odds_49 : decode cX12_odds 49 = .ok (.iload_n 1, 1) := by decide +kernel
theorem dX12_odds_50 : decode cX12_odds 50 = .ok (.iload_n 2, 1) := by decide +kernel
theorem dX12_odds_51 : decode cX12_odds 51 = .ok (.invokevirtual 278, 3) := by decide +kernel
theorem dX12_odds_54 : decode cX12_odds 54 = .ok (.aload_n 0, 1) := by decide +kernel
theorem dX12_odds_55 : decode cX12_odds 55 = .ok (.iload_n 1, 1) := by decide +kernel
theorem dX12_odds_56 : decode cX12_odds 56 = .ok (.iconst 0, 1) := by decide +kernel
theorem dX12_odds_57 : decode cX12_odds 57 = .ok (.invokevirtual 278, 3) := by decide +kernel
theorem dX12_odds_60 : decode cX12_odds 60 = .ok (.aload_n 0, 1) := by decide +kernel
theorem dX12_odds_61 : decode cX12_odds 61 = .ok (.iload_n 1, 1) := by decide +kernel
theorem dX12_odds_62 : decode cX12_odds 62 = .ok (.iconst 1, 1) := by decide +kernel
theorem dX12_odds_63 : decode cX12_odds 63 = .ok (.invokevirtual 278, 3) := by decide +kernel
theorem dX12_odds_66 : decode cX12_odds 66 = .ok (.ladd, 1) := by decide +kernel
theorem dX12_odds_67 : decode cX12_odds 67 = .ok (.aload_n 0, 1) := by decide +kernel
theorem dX12_odds_68 : decode cX12_odds 68 = .ok (.iload_n 1, 1) := by decide +kernel
theorem dX12_odds_69 : decode cX12_odds 69 = .ok (.iconst 2, 1) := by decide +kernel
theorem dX12_odds_70 : decode cX12_odds 70 = .ok (.invokevirtual 278, 3) := by decide +kernel
theorem dX12_odds_73 : decode cX12_odds 73 = .ok (.ladd, 1) := by decide +kernel
theorem dX12_odds_74 : decode cX12_odds 74 = .ok (.iload_n 3, 1) := by decide +kernel
theorem dX12_odds_75 : decode cX12_odds 75 = .ok (.invokestatic 168, 3) := by decide +kernel
theorem dX12_odds_78 : decode cX12_odds 78 = .ok (.lreturn, 1) := by decide +kernel
theorem dX12_round_0 : decode cX12_round 0 = .ok (.iload_n 1, 1) := by decide +kernel
theorem dX12_round_1 : decode cX12_round 1 = .ok (.invokestatic 118, 3) := by decide +kernel
theorem dX12_round_4 : decode cX12_round 4 = .ok (.ifCond .eq 12, 3) := by decide +kernel
theorem dX12_round_7 : decode cX12_round 7 = .ok (.iload_n 2, 1) := by decide +kernel
theorem dX12_round_8 : decode cX12_round 8 = .ok (.iconst 0, 1) := by decide +kernel
theorem dX12_round_9 : decode cX12_round 9 = .ok (.iconst 1, 1) := by decide +kernel
theorem dX12_round_10 : decode cX12_round 10 = .ok (.invokestatic 107, 3) := by decide +kernel
theorem dX12_round_13 : decode cX12_round 13 = .ok (.ifCond .ne 6, 3) := by decide +kernel
theorem dX12_round_16 : decode cX12_round 16 = .ok (.bipush (-2), 2) := by decide +kernel
theorem dX12_round_18 : decode cX12_round 18 = .ok (.ireturn, 1) := by decide +kernel
theorem dX12_round_19 : decode cX12_round 19 = .ok (.aload_n 0, 1) := by decide +kernel
theorem dX12_round_20 : decode cX12_round 20 = .ok (.getfield 282, 3) := by decide +kernel
theorem dX12_round_23 : decode cX12_round 23 = .ok (.bipush 24, 2) := by decide +kernel
theorem dX12_round_25 : decode cX12_round 25 = .ok (.if_icmp .ne 6, 3) := by decide +kernel
theorem dX12_round_28 : decode cX12_round 28 = .ok (.bipush (-4), 2) := by decide +kernel
theorem dX12_round_30 : decode cX12_round 30 = .ok (.ireturn, 1) := by decide +kernel
theorem dX12_round_31 : decode cX12_round 31 = .ok (.aload_n 0, 1) := by decide +kernel
theorem dX12_round_32 : decode cX12_round 32 = .ok (.getfield 83, 3) := by decide +kernel
theorem dX12_round_35 : decode cX12_round 35 = .ok (.aload_n 0, 1) := by decide +kernel
theorem dX12_round_36 : decode cX12_round 36 = .ok (.getfield 282, 3) := by decide +kernel
theorem dX12_round_39 : decode cX12_round 39 = .ok (.iload_n 1, 1) := by decide +kernel
theorem dX12_round_40 : decode cX12_round 40 = .ok (.iastore, 1) := by decide +kernel
theorem dX12_round_41 : decode cX12_round 41 = .ok (.aload_n 0, 1) := by decide +kernel
theorem dX12_round_42 : decode cX12_round 42 = .ok (.getfield 86, 3) := by decide +kernel
theorem dX12_round_45 : decode cX12_round 45 = .ok (.aload_n 0, 1) := by decide +kernel
theorem dX12_round_46 : decode cX12_round 46 = .ok (.getfield 282, 3) := by decide +kernel
theorem dX12_round_49 : decode cX12_round 49 = .ok (.iload_n 2, 1) := by decide +kernel
theorem dX12_round_50 : decode cX12_round 50 = .ok (.iastore, 1) := by decide +kernel
theorem dX12_round_51 : decode cX12_round 51 = .ok (.aload_n 0, 1) := by decide +kernel
theorem dX12_round_52 : decode cX12_round 52 = .ok (.dup, 1) := by decide +kernel
theorem dX12_round_53 : decode cX12_round 53 = .ok (.getfield 282, 3) := by decide +kernel
theorem dX12_round_56 : decode cX12_round 56 = .ok (.iconst 1, 1) := by decide +kernel
theorem dX12_round_57 : decode cX12_round 57 = .ok (.iadd, 1) := by decide +kernel
theorem dX12_round_58 : decode cX12_round 58 = .ok (.putfield 282, 3) := by decide +kernel
theorem dX12_round_61 : decode cX12_round 61 = .ok (.aload_n 0, 1) := by decide +kernel
theorem dX12_round_62 : decode cX12_round 62 = .ok (.getfield 282, 3) := by decide +kernel
theorem dX12_round_65 : decode cX12_round 65 = .ok (.ireturn, 1) := by decide +kernel
theorem dX12_forget_0 : decode cX12_forget 0 = .ok (.aload_n 0, 1) := by decide +kernel
theorem dX12_forget_1 : decode cX12_forget 1 = .ok (.getfield 282, 3) := by decide +kernel
theorem dX12_forget_4 : decode cX12_forget 4 = .ok (.istore_n 1, 1) := by decide +kernel
theorem dX12_forget_5 : decode cX12_forget 5 = .ok (.aload_n 0, 1) := by decide +kernel
theorem dX12_forget_6 : decode cX12_forget 6 = .ok (.iconst 0, 1) := by decide +kernel
theorem dX12_forget_7 : decode cX12_forget 7 = .ok (.putfield 282, 3) := by decide +kernel
theorem dX12_forget_10 : decode cX12_forget 10 = .ok (.iload_n 1, 1) := by decide +kernel
theorem dX12_forget_11 : decode cX12_forget 11 = .ok (.ireturn, 1) := by decide +kernel
theorem dX12_missesOf_0 : decode cX12_missesOf 0 = .ok (.iconst 0, 1) := by decide +kernel
theorem dX12_missesOf_1 : decode cX12_missesOf 1 = .ok (.istore_n 3, 1) := by decide +kernel
theorem dX12_missesOf_2 : decode cX12_missesOf 2 = .ok (.iconst 0, 1) := by decide +kernel
theorem dX12_missesOf_3 : decode cX12_missesOf 3 = .ok (.istore 4, 2) := by decide +kernel
theorem dX12_missesOf_5 : decode cX12_missesOf 5 = .ok (.iload 4, 2) := by decide +kernel
theorem dX12_missesOf_7 : decode cX12_missesOf 7 = .ok (.iconst 1, 1) := by decide +kernel
theorem dX12_missesOf_8 : decode cX12_missesOf 8 = .ok (.iadd, 1) := by decide +kernel
theorem dX12_missesOf_9 : decode cX12_missesOf 9 = .ok (.aload_n 0, 1) := by decide +kernel
theorem dX12_missesOf_10 : decode cX12_missesOf 10 = .ok (.getfield 282, 3) := by decide +kernel
theorem dX12_missesOf_13 : decode cX12_missesOf 13 = .ok (.if_icmp .ge 85, 3) := by decide +kernel
theorem dX12_missesOf_16 : decode cX12_missesOf 16 = .ok (.aload_n 0, 1) := by decide +kernel
theorem dX12_missesOf_17 : decode cX12_missesOf 17 = .ok (.getfield 86, 3) := by decide +kernel
theorem dX12_missesOf_20 : decode cX12_missesOf 20 = .ok (.iload 4, 2) := by decide +kernel
theorem dX12_missesOf_22 : decode cX12_missesOf 22 = .ok (.iaload, 1) := by decide +kernel
theorem dX12_missesOf_23 : decode cX12_missesOf 23 = .ok (.ifCond .ne 15, 3) := by decide +kernel
theorem dX12_missesOf_26 : decode cX12_missesOf 26 = .ok (.aload_n 0, 1) := by decide +kernel
theorem dX12_missesOf_27 : decode cX12_missesOf 27 = .ok (.getfield 83, 3) := by decide +kernel
theorem dX12_missesOf_30 : decode cX12_missesOf 30 = .ok (.iload 4, 2) := by decide +kernel
theorem dX12_missesOf_32 : decode cX12_missesOf 32 = .ok (.iaload, 1) := by decide +kernel
theorem dX12_missesOf_33 : decode cX12_missesOf 33 = .ok (.iload_n 1, 1) := by decide +kernel
theorem dX12_missesOf_34 : decode cX12_missesOf 34 = .ok (.iadd, 1) := by decide +kernel
theorem dX12_missesOf_35 : decode cX12_missesOf 35 = .ok (.goto 12, 3) := by decide +kernel
theorem dX12_missesOf_38 : decode cX12_missesOf 38 = .ok (.aload_n 0, 1) := by decide +kernel
theorem dX12_missesOf_39 : decode cX12_missesOf 39 = .ok (.getfield 83, 3) := by decide +kernel
theorem dX12_missesOf_42 : decode cX12_missesOf 42 = .ok (.iload 4, 2) := by decide +kernel
theorem dX12_missesOf_44 : decode cX12_missesOf 44 = .ok (.iaload, 1) := by decide +kernel
theorem dX12_missesOf_45 : decode cX12_missesOf 45 = .ok (.iload_n 2, 1) := by decide +kernel
theorem dX12_missesOf_46 : decode cX12_missesOf 46 = .ok (.isub, 1) := by decide +kernel
theorem dX12_missesOf_47 : decode cX12_missesOf 47 = .ok (.istore 5, 2) := by decide +kernel
theorem dX12_missesOf_49 : decode cX12_missesOf 49 = .ok (.iload 5, 2) := by decide +kernel
theorem dX12_missesOf_51 : decode cX12_missesOf 51 = .ok (.ifCond .ge 7, 3) := by decide +kernel
theorem dX12_missesOf_54 : decode cX12_missesOf 54 = .ok (.iconst 0, 1) := by decide +kernel
theorem dX12_missesOf_55 : decode cX12_missesOf 55 = .ok (.goto 17, 3) := by decide +kernel
theorem dX12_missesOf_58 : decode cX12_missesOf 58 = .ok (.iload 5, 2) := by decide +kernel
theorem dX12_missesOf_60 : decode cX12_missesOf 60 = .ok (.bipush 10, 2) := by decide +kernel
theorem dX12_missesOf_62 : decode cX12_missesOf 62 = .ok (.if_icmp .le 8, 3) := by decide +kernel
theorem dX12_missesOf_65 : decode cX12_missesOf 65 = .ok (.bipush 10, 2) := by decide +kernel
theorem dX12_missesOf_67 : decode cX12_missesOf 67 = .ok (.goto 5, 3) := by decide +kernel
theorem dX12_missesOf_70 : decode cX12_missesOf 70 = .ok (.iload 5, 2) := by decide +kernel
theorem dX12_missesOf_72 : decode cX12_missesOf 72 = .ok (.istore 5, 2) := by decide +kernel
theorem dX12_missesOf_74 : decode cX12_missesOf 74 = .ok (.iload_n 3, 1) := by decide +kernel
theorem dX12_missesOf_75 : decode cX12_missesOf 75 = .ok (.aload_n 0, 1) := by decide +kernel
theorem dX12_missesOf_76 : decode cX12_missesOf 76 = .ok (.getfield 83, 3) := by decide +kernel
theorem dX12_missesOf_79 : decode cX12_missesOf 79 = .ok (.iload 4, 2) := by decide +kernel
theorem dX12_missesOf_81 : decode cX12_missesOf 81 = .ok (.iconst 1, 1) := by decide +kernel
theorem dX12_missesOf_82 : decode cX12_missesOf 82 = .ok (.iadd, 1) := by decide +kernel
theorem dX12_missesOf_83 : decode cX12_missesOf 83 = .ok (.iaload, 1) := by decide +kernel
theorem dX12_missesOf_84 : decode cX12_missesOf 84 = .ok (.iload 5, 2) := by decide +kernel
theorem dX12_missesOf_86 : decode cX12_missesOf 86 = .ok (.isub, 1) := by decide +kernel
theorem dX12_missesOf_87 : decode cX12_missesOf 87 = .ok (.invokestatic 204, 3) := by decide +kernel
theorem dX12_missesOf_90 : decode cX12_missesOf 90 = .ok (.iadd, 1) := by decide +kernel
theorem dX12_missesOf_91 : decode cX12_missesOf 91 = .ok (.istore_n 3, 1) := by decide +kernel
theorem dX12_missesOf_92 : decode cX12_missesOf 92 = .ok (.iinc 4 1, 3) := by decide +kernel
theorem dX12_missesOf_95 : decode cX12_missesOf 95 = .ok (.goto (-90), 3) := by decide +kernel
theorem dX12_missesOf_98 : decode cX12_missesOf 98 = .ok (.iload_n 3, 1) := by decide +kernel
theorem dX12_missesOf_99 : decode cX12_missesOf 99 = .ok (.ireturn, 1) := by decide +kernel
theorem dX12_misses_0 : decode cX12_misses 0 = .ok (.iload_n 1, 1) := by decide +kernel
theorem dX12_misses_1 : decode cX12_misses 1 = .ok (.iconst 0, 1) := by decide +kernel
theorem dX12_misses_2 : decode cX12_misses 2 = .ok (.iconst 4, 1) := by decide +kernel
theorem dX12_misses_3 : decode cX12_misses 3 = .ok (.invokestatic 107, 3) := by decide +kernel
theorem dX12_misses_6 : decode cX12_misses 6 = .ok (.ifCond .eq 21, 3) := by decide +kernel
theorem dX12_misses_9 : decode cX12_misses 9 = .ok (.iload_n 2, 1) := by decide +kernel
theorem dX12_misses_10 : decode cX12_misses 10 = .ok (.iconst 0, 1) := by decide +kernel
theorem dX12_misses_11 : decode cX12_misses 11 = .ok (.iconst 4, 1) := by decide +kernel
theorem dX12_misses_12 : decode cX12_misses 12 = .ok (.invokestatic 107, 3) := by decide +kernel
theorem dX12_misses_15 : decode cX12_misses 15 = .ok (.ifCond .eq 12, 3) := by decide +kernel
theorem dX12_misses_18 : decode cX12_misses 18 = .ok (.aload_n 0, 1) := by decide +kernel
theorem dX12_misses_19 : decode cX12_misses 19 = .ok (.iload_n 1, 1) := by decide +kernel
theorem dX12_misses_20 : decode cX12_misses 20 = .ok (.iload_n 2, 1) := by decide +kernel
theorem dX12_misses_21 : decode cX12_misses 21 = .ok (.invokevirtual 285, 3) := by decide +kernel
theorem dX12_misses_24 : decode cX12_misses 24 = .ok (.goto 5, 3) := by decide +kernel
theorem dX12_misses_27 : decode cX12_misses 27 = .ok (.bipush (-2), 2) := by decide +kernel
theorem dX12_misses_29 : decode cX12_misses 29 = .ok (.ireturn, 1) := by decide +kernel
theorem dX12_gotNow_0 : decode cX12_gotNow 0 = .ok (.iconst 0, 1) := by decide +kernel
theorem dX12_gotNow_1 : decode cX12_gotNow 1 = .ok (.istore_n 1, 1) := by decide +kernel
theorem dX12_gotNow_2 : decode cX12_gotNow 2 = .ok (.iconst 0, 1) := by decide +kernel
theorem dX12_gotNow_3 : decode cX12_gotNow 3 = .ok (.istore_n 2, 1) := by decide +kernel
theorem dX12_gotNow_4 : decode cX12_gotNow 4 = .ok (.iload_n 2, 1) := by decide +kernel
theorem dX12_gotNow_5 : decode cX12_gotNow 5 = .ok (.aload_n 0, 1) := by decide +kernel
theorem dX12_gotNow_6 : decode cX12_gotNow 6 = .ok (.getfield 282, 3) := by decide +kernel
theorem dX12_gotNow_9 : decode cX12_gotNow 9 = .ok (.if_icmp .ge 35, 3) := by decide +kernel
theorem dX12_gotNow_12 : decode cX12_gotNow 12 = .ok (.iload_n 1, 1) := by decide +kernel
theorem dX12_gotNow_13 : decode cX12_gotNow 13 = .ok (.aload_n 0, 1) := by decide +kernel
theorem dX12_gotNow_14 : decode cX12_gotNow 14 = .ok (.getfield 86, 3) := by decide +kernel
theorem dX12_gotNow_17 : decode cX12_gotNow 17 = .ok (.iload_n 2, 1) := by decide +kernel
theorem dX12_gotNow_18 : decode cX12_gotNow 18 = .ok (.iaload, 1) := by decide +kernel
theorem dX12_gotNow_19 : decode cX12_gotNow 19 = .ok (.iconst 1, 1) := by decide +kernel
theorem dX12_gotNow_20 : decode cX12_gotNow 20 = .ok (.if_icmp .ne 15, 3) := by decide +kernel
theorem dX12_gotNow_23 : decode cX12_gotNow 23 = .ok (.bipush 10, 2) := by decide +kernel
theorem dX12_gotNow_25 : decode cX12_gotNow 25 = .ok (.aload_n 0, 1) := by decide +kernel
theorem dX12_gotNow_26 : decode cX12_gotNow 26 = .ok (.getfield 83, 3) := by decide +kernel
theorem dX12_gotNow_29 : decode cX12_gotNow 29 = .ok (.iload_n 2, 1) := by decide +kernel
theorem dX12_gotNow_30 : decode cX12_gotNow 30 = .ok (.iaload, 1) := by decide +kernel
theorem dX12_gotNow_31 : decode cX12_gotNow 31 = .ok (.isub, 1) := by decide +kernel
theorem dX12_gotNow_32 : decode cX12_gotNow 32 = .ok (.goto 4, 3) := by decide +kernel
theorem dX12_gotNow_35 : decode cX12_gotNow 35 = .ok (.iconst 0, 1) := by decide +kernel
theorem dX12_gotNow_36 : decode cX12_gotNow 36 = .ok (.iadd, 1) := by decide +kernel
theorem dX12_gotNow_37 : decode cX12_gotNow 37 = .ok (.istore_n 1, 1) := by decide +kernel
theorem dX12_gotNow_38 : decode cX12_gotNow 38 = .ok (.iinc 2 1, 3) := by decide +kernel
theorem dX12_gotNow_41 : decode cX12_gotNow 41 = .ok (.goto (-37), 3) := by decide +kernel
theorem dX12_gotNow_44 : decode cX12_gotNow 44 = .ok (.iload_n 1, 1) := by decide +kernel
theorem dX12_gotNow_45 : decode cX12_gotNow 45 = .ok (.ireturn, 1) := by decide +kernel
theorem dX12_couldNow_0 : decode cX12_couldNow 0 = .ok (.iconst 0, 1) := by decide +kernel
theorem dX12_couldNow_1 : decode cX12_couldNow 1 = .ok (.istore_n 1, 1) := by decide +kernel
theorem dX12_couldNow_2 : decode cX12_couldNow 2 = .ok (.iconst 0, 1) := by decide +kernel
theorem dX12_couldNow_3 : decode cX12_couldNow 3 = .ok (.istore_n 2, 1) := by decide +kernel
theorem dX12_couldNow_4 : decode cX12_couldNow 4 = .ok (.iload_n 2, 1) := by decide +kernel
theorem dX12_couldNow_5 : decode cX12_couldNow 5 = .ok (.bipush 11, 2) := by decide +kernel
theorem dX12_couldNow_7 : decode cX12_couldNow 7 = .ok (.if_icmp .ge 73, 3) := by decide +kernel
theorem dX12_couldNow_10 : decode cX12_couldNow 10 = .ok (.iconst 0, 1) := by decide +kernel
theorem dX12_couldNow_11 : decode cX12_couldNow 11 = .ok (.istore_n 3, 1) := by decide +kernel
theorem dX12_couldNow_12 : decode cX12_couldNow 12 = .ok (.iconst 0, 1) := by decide +kernel
theorem dX12_couldNow_13 : decode cX12_couldNow 13 = .ok (.istore 4, 2) := by decide +kernel
theorem dX12_couldNow_15 : decode cX12_couldNow 15 = .ok (.iload 4, 2) := by decide +kernel
theorem dX12_couldNow_17 : decode cX12_couldNow 17 = .ok (.aload_n 0, 1) := by decide +kernel
theorem dX12_couldNow_18 : decode cX12_couldNow 18 = .ok (.getfield 282, 3) := by decide +kernel
theorem dX12_couldNow_21 : decode cX12_couldNow 21 = .ok (.if_icmp .ge 42, 3) := by decide +kernel
theorem dX12_couldNow_24 : decode cX12_couldNow 24 = .ok (.iload_n 3, 1) := by decide +kernel
theorem dX12_couldNow_25 : decode cX12_couldNow 25 = .ok (.aload_n 0, 1) := by decide +kernel
theorem dX12_couldNow_26 : decode cX12_couldNow 26 = .ok (.getfield 86, 3) := by decide +kernel
theorem dX12_couldNow_29 : decode cX12_couldNow 29 = .ok (.iload 4, 2) := by decide +kernel
theorem dX12_couldNow_31 : decode cX12_couldNow 31 = .ok (.iaload, 1) := by decide +kernel
theorem dX12_couldNow_32 : decode cX12_couldNow 32 = .ok (.iconst 1, 1) := by decide +kernel
theorem dX12_couldNow_33 : decode cX12_couldNow 33 = .ok (.if_icmp .ne 21, 3) := by decide +kernel
theorem dX12_couldNow_36 : decode cX12_couldNow 36 = .ok (.aload_n 0, 1) := by decide +kernel
theorem dX12_couldNow_37 : decode cX12_couldNow 37 = .ok (.getfield 83, 3) := by decide +kernel
theorem dX12_couldNow_40 : decode cX12_couldNow 40 = .ok (.iload 4, 2) := by decide +kernel
theorem dX12_couldNow_42 : decode cX12_couldNow 42 = .ok (.iaload, 1) := by decide +kernel
theorem dX12_couldNow_43 : decode cX12_couldNow 43 = .ok (.iload_n 2, 1) := by decide +kernel
theorem dX12_couldNow_44 : decode cX12_couldNow 44 = .ok (.if_icmp .gt 10, 3) := by decide +kernel
theorem dX12_couldNow_47 : decode cX12_couldNow 47 = .ok (.bipush 10, 2) := by decide +kernel
theorem dX12_couldNow_49 : decode cX12_couldNow 49 = .ok (.iload_n 2, 1) := by decide +kernel
theorem dX12_couldNow_50 : decode cX12_couldNow 50 = .ok (.isub, 1) := by decide +kernel
theorem dX12_couldNow_51 : decode cX12_couldNow 51 = .ok (.goto 4, 3) := by decide +kernel
theorem dX12_couldNow_54 : decode cX12_couldNow 54 = .ok (.iconst 0, 1) := by decide +kernel
theorem dX12_couldNow_55 : decode cX12_couldNow 55 = .ok (.iadd, 1) := by decide +kernel
theorem dX12_couldNow_56 : decode cX12_couldNow 56 = .ok (.istore_n 3, 1) := by decide +kernel
theorem dX12_couldNow_57 : decode cX12_couldNow 57 = .ok (.iinc 4 1, 3) := by decide +kernel
theorem dX12_couldNow_60 : decode cX12_couldNow 60 = .ok (.goto (-45), 3) := by decide +kernel
theorem dX12_couldNow_63 : decode cX12_couldNow 63 = .ok (.iload_n 3, 1) := by decide +kernel
theorem dX12_couldNow_64 : decode cX12_couldNow 64 = .ok (.iload_n 1, 1) := by decide +kernel
theorem dX12_couldNow_65 : decode cX12_couldNow 65 = .ok (.if_icmp .le 7, 3) := by decide +kernel
theorem dX12_couldNow_68 : decode cX12_couldNow 68 = .ok (.iload_n 3, 1) := by decide +kernel
theorem dX12_couldNow_69 : decode cX12_couldNow 69 = .ok (.goto 4, 3) := by decide +kernel
theorem dX12_couldNow_72 : decode cX12_couldNow 72 = .ok (.iload_n 1, 1) := by decide +kernel
theorem dX12_couldNow_73 : decode cX12_couldNow 73 = .ok (.istore_n 1, 1) := by decide +kernel
theorem dX12_couldNow_74 : decode cX12_couldNow 74 = .ok (.iinc 2 1, 3) := by decide +kernel
theorem dX12_couldNow_77 : decode cX12_couldNow 77 = .ok (.goto (-73), 3) := by decide +kernel
theorem dX12_couldNow_80 : decode cX12_couldNow 80 = .ok (.iload_n 1, 1) := by decide +kernel
theorem dX12_couldNow_81 : decode cX12_couldNow 81 = .ok (.ireturn, 1) := by decide +kernel
theorem dX12_learntNow_0 : decode cX12_learntNow 0 = .ok (.iload_n 1, 1) := by decide +kernel
theorem dX12_learntNow_1 : decode cX12_learntNow 1 = .ok (.iconst 2, 1) := by decide +kernel
theorem dX12_learntNow_2 : decode cX12_learntNow 2 = .ok (.if_icmp .le 20, 3) := by decide +kernel
theorem dX12_learntNow_5 : decode cX12_learntNow 5 = .ok (.iload_n 1, 1) := by decide +kernel
theorem dX12_learntNow_6 : decode cX12_learntNow 6 = .ok (.iconst 3, 1) := by decide +kernel
theorem dX12_learntNow_7 : decode cX12_learntNow 7 = .ok (.if_icmp .ne 10, 3) := by decide +kernel
theorem dX12_learntNow_10 : decode cX12_learntNow 10 = .ok (.aload_n 0, 1) := by decide +kernel
theorem dX12_learntNow_11 : decode cX12_learntNow 11 = .ok (.invokevirtual 288, 3) := by decide +kernel
theorem dX12_learntNow_14 : decode cX12_learntNow 14 = .ok (.goto 7, 3) := by decide +kernel
theorem dX12_learntNow_17 : decode cX12_learntNow 17 = .ok (.aload_n 0, 1) := by decide +kernel
theorem dX12_learntNow_18 : decode cX12_learntNow 18 = .ok (.invokevirtual 291, 3) := by decide +kernel
theorem dX12_learntNow_21 : decode cX12_learntNow 21 = .ok (.ireturn, 1) := by decide +kernel
theorem dX12_learntNow_22 : decode cX12_learntNow 22 = .ok (.aload_n 0, 1) := by decide +kernel
theorem dX12_learntNow_23 : decode cX12_learntNow 23 = .ok (.getfield 282, 3) := by decide +kernel
theorem dX12_learntNow_26 : decode cX12_learntNow 26 = .ok (.iconst 2, 1) := by decide +kernel
theorem dX12_learntNow_27 : decode cX12_learntNow 27 = .ok (.if_icmp .ge 6, 3) := by decide +kernel
theorem dX12_learntNow_30 : decode cX12_learntNow 30 = .ok (.bipush (-3), 2) := by decide +kernel
theorem dX12_learntNow_32 : decode cX12_learntNow 32 = .ok (.ireturn, 1) := by decide +kernel
theorem dX12_learntNow_33 : decode cX12_learntNow 33 = .ok (.iconst 0, 1) := by decide +kernel
theorem dX12_learntNow_34 : decode cX12_learntNow 34 = .ok (.istore_n 2, 1) := by decide +kernel
theorem dX12_learntNow_35 : decode cX12_learntNow 35 = .ok (.aload_n 0, 1) := by decide +kernel
theorem dX12_learntNow_36 : decode cX12_learntNow 36 = .ok (.iconst 0, 1) := by decide +kernel
theorem dX12_learntNow_37 : decode cX12_learntNow 37 = .ok (.iconst 0, 1) := by decide +kernel
theorem dX12_learntNow_38 : decode cX12_learntNow 38 = .ok (.invokevirtual 285, 3) := by decide +kernel
theorem dX12_learntNow_41 : decode cX12_learntNow 41 = .ok (.istore_n 3, 1) := by decide +kernel
theorem dX12_learntNow_42 : decode cX12_learntNow 42 = .ok (.iconst 1, 1) := by decide +kernel
theorem dX12_learntNow_43 : decode cX12_learntNow 43 = .ok (.istore 4, 2) := by decide +kernel
theorem dX12_learntNow_45 : decode cX12_learntNow 45 = .ok (.iload 4, 2) := by decide +kernel
theorem dX12_learntNow_47 : decode cX12_learntNow 47 = .ok (.bipush 25, 2) := by decide +kernel
theorem dX12_learntNow_49 : decode cX12_learntNow 49 = .ok (.if_icmp .ge 49, 3) := by decide +kernel
theorem dX12_learntNow_52 : decode cX12_learntNow 52 = .ok (.aload_n 0, 1) := by decide +kernel
theorem dX12_learntNow_53 : decode cX12_learntNow 53 = .ok (.iload 4, 2) := by decide +kernel
theorem dX12_learntNow_55 : decode cX12_learntNow 55 = .ok (.iconst 5, 1) := by decide +kernel
theorem dX12_learntNow_56 : decode cX12_learntNow 56 = .ok (.idiv, 1) := by decide +kernel
theorem dX12_learntNow_57 : decode cX12_learntNow 57 = .ok (.iload 4, 2) := by decide +kernel
theorem dX12_learntNow_59 : decode cX12_learntNow 59 = .ok (.iconst 5, 1) := by decide +kernel
theorem dX12_learntNow_60 : decode cX12_learntNow 60 = .ok (.irem, 1) := by decide +kernel
theorem dX12_learntNow_61 : decode cX12_learntNow 61 = .ok (.invokevirtual 285, 3) := by decide +kernel
theorem dX12_learntNow_64 : decode cX12_learntNow 64 = .ok (.istore 5, 2) := by decide +kernel
theorem dX12_learntNow_66 : decode cX12_learntNow 66 = .ok (.iload 5, 2) := by decide +kernel
theorem dX12_learntNow_68 : decode cX12_learntNow 68 = .ok (.iload_n 3, 1) := by decide +kernel
theorem dX12_learntNow_69 : decode cX12_learntNow 69 = .ok (.if_icmp .ge 8, 3) := by decide +kernel
theorem dX12_learntNow_72 : decode cX12_learntNow 72 = .ok (.iload 4, 2) := by decide +kernel
theorem dX12_learntNow_74 : decode cX12_learntNow 74 = .ok (.goto 4, 3) := by decide +kernel
theorem dX12_learntNow_77 : decode cX12_learntNow 77 = .ok (.iload_n 2, 1) := by decide +kernel
theorem dX12_learntNow_78 : decode cX12_learntNow 78 = .ok (.istore_n 2, 1) := by decide +kernel
theorem dX12_learntNow_79 : decode cX12_learntNow 79 = .ok (.iload 5, 2) := by decide +kernel
theorem dX12_learntNow_81 : decode cX12_learntNow 81 = .ok (.iload_n 3, 1) := by decide +kernel
theorem dX12_learntNow_82 : decode cX12_learntNow 82 = .ok (.if_icmp .ge 8, 3) := by decide +kernel
theorem dX12_learntNow_85 : decode cX12_learntNow 85 = .ok (.iload 5, 2) := by decide +kernel
theorem dX12_learntNow_87 : decode cX12_learntNow 87 = .ok (.goto 4, 3) := by decide +kernel
theorem dX12_learntNow_90 : decode cX12_learntNow 90 = .ok (.iload_n 3, 1) := by decide +kernel
theorem dX12_learntNow_91 : decode cX12_learntNow 91 = .ok (.istore_n 3, 1) := by decide +kernel
theorem dX12_learntNow_92 : decode cX12_learntNow 92 = .ok (.iinc 4 1, 3) := by decide +kernel
theorem dX12_learntNow_95 : decode cX12_learntNow 95 = .ok (.goto (-50), 3) := by decide +kernel
theorem dX12_learntNow_98 : decode cX12_learntNow 98 = .ok (.iload_n 1, 1) := by decide +kernel
theorem dX12_learntNow_99 : decode cX12_learntNow 99 = .ok (.ifCond .ne 9, 3) := by decide +kernel
theorem dX12_learntNow_102 : decode cX12_learntNow 102 = .ok (.iload_n 2, 1) := by decide +kernel
theorem dX12_learntNow_103 : decode cX12_learntNow 103 = .ok (.iconst 5, 1) := by decide +kernel
theorem dX12_learntNow_104 : decode cX12_learntNow 104 = .ok (.idiv, 1) := by decide +kernel
theorem dX12_learntNow_105 : decode cX12_learntNow 105 = .ok (.goto 15, 3) := by decide +kernel
theorem dX12_learntNow_108 : decode cX12_learntNow 108 = .ok (.iload_n 1, 1) := by decide +kernel
theorem dX12_learntNow_109 : decode cX12_learntNow 109 = .ok (.iconst 1, 1) := by decide +kernel
theorem dX12_learntNow_110 : decode cX12_learntNow 110 = .ok (.if_icmp .ne 9, 3) := by decide +kernel
theorem dX12_learntNow_113 : decode cX12_learntNow 113 = .ok (.iload_n 2, 1) := by decide +kernel
theorem dX12_learntNow_114 : decode cX12_learntNow 114 = .ok (.iconst 5, 1) := by decide +kernel
theorem dX12_learntNow_115 : decode cX12_learntNow 115 = .ok (.irem, 1) := by decide +kernel
theorem dX12_learntNow_116 : decode cX12_learntNow 116 = .ok (.goto 4, 3) := by decide +kernel
theorem dX12_learntNow_119 : decode cX12_learntNow 119 = .ok (.iload_n 3, 1) := by decide +kernel
theorem dX12_learntNow_120 : decode cX12_learntNow 120 = .ok (.ireturn, 1) := by decide +kernel
theorem dX12_learnt_0 : decode cX12_learnt 0 = .ok (.iload_n 1, 1) := by decide +kernel
theorem dX12_learnt_1 : decode cX12_learnt 1 = .ok (.iconst 0, 1) := by decide +kernel
theorem dX12_learnt_2 : decode cX12_learnt 2 = .ok (.iconst 4, 1) := by decide +kernel
theorem dX12_learnt_3 : decode cX12_learnt 3 = .ok (.invokestatic 107, 3) := by decide +kernel
theorem dX12_learnt_6 : decode cX12_learnt 6 = .ok (.ifCond .eq 11, 3) := by decide +kernel
theorem dX12_learnt_9 : decode cX12_learnt 9 = .ok (.aload_n 0, 1) := by decide +kernel
theorem dX12_learnt_10 : decode cX12_learnt 10 = .ok (.iload_n 1, 1) := by decide +kernel
theorem dX12_learnt_11 : decode cX12_learnt 11 = .ok (.invokevirtual 294, 3) := by decide +kernel
theorem dX12_learnt_14 : decode cX12_learnt 14 = .ok (.goto 5, 3) := by decide +kernel
theorem dX12_learnt_17 : decode cX12_learnt 17 = .ok (.bipush (-2), 2) := by decide +kernel
theorem dX12_learnt_19 : decode cX12_learnt 19 = .ok (.ireturn, 1) := by decide +kernel
theorem dX12_meets_0 : decode cX12_meets 0 = .ok (.aload_n 0, 1) := by decide +kernel
theorem dX12_meets_1 : decode cX12_meets 1 = .ok (.iload_n 1, 1) := by decide +kernel
theorem dX12_meets_2 : decode cX12_meets 2 = .ok (.putfield 297, 3) := by decide +kernel
theorem dX12_meets_5 : decode cX12_meets 5 = .ok (.bipush (-10), 2) := by decide +kernel
theorem dX12_meets_7 : decode cX12_meets 7 = .ok (.iload_n 1, 1) := by decide +kernel
theorem dX12_meets_8 : decode cX12_meets 8 = .ok (.isub, 1) := by decide +kernel
theorem dX12_meets_9 : decode cX12_meets 9 = .ok (.ireturn, 1) := by decide +kernel
theorem dX12_isSheet_0 : decode cX12_isSheet 0 = .ok (.iload_n 0, 1) := by decide +kernel
theorem dX12_isSheet_1 : decode cX12_isSheet 1 = .ok (.iconst 0, 1) := by decide +kernel
theorem dX12_isSheet_2 : decode cX12_isSheet 2 = .ok (.iconst 3, 1) := by decide +kernel
theorem dX12_isSheet_3 : decode cX12_isSheet 3 = .ok (.invokestatic 107, 3) := by decide +kernel
theorem dX12_isSheet_6 : decode cX12_isSheet 6 = .ok (.ireturn, 1) := by decide +kernel
theorem dX12_sheet_0 : decode cX12_sheet 0 = .ok (.iload_n 1, 1) := by decide +kernel
theorem dX12_sheet_1 : decode cX12_sheet 1 = .ok (.invokestatic 131, 3) := by decide +kernel
theorem dX12_sheet_4 : decode cX12_sheet 4 = .ok (.ifCond .eq 18, 3) := by decide +kernel
theorem dX12_sheet_7 : decode cX12_sheet 7 = .ok (.iload_n 2, 1) := by decide +kernel
theorem dX12_sheet_8 : decode cX12_sheet 8 = .ok (.iconst 0, 1) := by decide +kernel
theorem dX12_sheet_9 : decode cX12_sheet 9 = .ok (.iconst 2, 1) := by decide +kernel
theorem dX12_sheet_10 : decode cX12_sheet 10 = .ok (.invokestatic 107, 3) := by decide +kernel
theorem dX12_sheet_13 : decode cX12_sheet 13 = .ok (.ifCond .eq 9, 3) := by decide +kernel
theorem dX12_sheet_16 : decode cX12_sheet 16 = .ok (.iload_n 3, 1) := by decide +kernel
theorem dX12_sheet_17 : decode cX12_sheet 17 = .ok (.bipush 48, 2) := by decide +kernel
theorem dX12_sheet_19 : decode cX12_sheet 19 = .ok (.if_icmp .le 6, 3) := by decide +kernel
theorem dX12_sheet_22 : decode cX12_sheet 22 = .ok (.bipush (-2), 2) := by decide +kernel
theorem dX12_sheet_24 : decode cX12_sheet 24 = .ok (.ireturn, 1) := by decide +kernel
theorem dX12_sheet_25 : decode cX12_sheet 25 = .ok (.iload_n 3, 1) := by decide +kernel
theorem dX12_sheet_26 : decode cX12_sheet 26 = .ok (.ifCond .ge 9, 3) := by decide +kernel
theorem dX12_sheet_29 : decode cX12_sheet 29 = .ok (.aload_n 0, 1) := by decide +kernel
theorem dX12_sheet_30 : decode cX12_sheet 30 = .ok (.iconst 5, 1) := by decide +kernel
theorem dX12_sheet_31 : decode cX12_sheet 31 = .ok (.invokevirtual 134, 3) := by decide +kernel
theorem dX12_sheet_34 : decode cX12_sheet 34 = .ok (.ireturn, 1) := by decide +kernel
theorem dX12_sheet_35 : decode cX12_sheet 35 = .ok (.aload_n 0, 1) := by decide +kernel
theorem dX12_sheet_36 : decode cX12_sheet 36 = .ok (.getfield 89, 3) := by decide +kernel
theorem dX12_sheet_39 : decode cX12_sheet 39 = .ok (.iload_n 1, 1) := by decide +kernel
theorem dX12_sheet_40 : decode cX12_sheet 40 = .ok (.iconst 1, 1) := by decide +kernel
theorem dX12_sheet_41 : decode cX12_sheet 41 = .ok (.bastore, 1) := by decide +kernel
theorem dX12_sheet_42 : decode cX12_sheet 42 = .ok (.aload_n 0, 1) := by decide +kernel
theorem dX12_sheet_43 : decode cX12_sheet 43 = .ok (.getfield 93, 3) := by decide +kernel
theorem dX12_sheet_46 : decode cX12_sheet 46 = .ok (.iload_n 1, 1) := by decide +kernel
theorem dX12_sheet_47 : decode cX12_sheet 47 = .ok (.iload_n 2, 1) := by decide +kernel
theorem dX12_sheet_48 : decode cX12_sheet 48 = .ok (.iastore, 1) := by decide +kernel
theorem dX12_sheet_49 : decode cX12_sheet 49 = .ok (.aload_n 0, 1) := by decide +kernel
theorem dX12_sheet_50 : decode cX12_sheet 50 = .ok (.getfield 96, 3) := by decide +kernel
theorem dX12_sheet_53 : decode cX12_sheet 53 = .ok (.iload_n 1, 1) := by decide +kernel
theorem dX12_sheet_54 : decode cX12_sheet 54 = .ok (.iload_n 3, 1) := by decide +kernel
theorem dX12_sheet_55 : decode cX12_sheet 55 = .ok (.iastore, 1) := by decide +kernel
theorem dX12_sheet_56 : decode cX12_sheet 56 = .ok (.iconst 0, 1) := by decide +kernel
theorem dX12_sheet_57 : decode cX12_sheet 57 = .ok (.istore 4, 2) := by decide +kernel
theorem dX12_sheet_59 : decode cX12_sheet 59 = .ok (.iload 4, 2) := by decide +kernel
theorem dX12_sheet_61 : decode cX12_sheet 61 = .ok (.bipush 48, 2) := by decide +kernel
theorem dX12_sheet_63 : decode cX12_sheet 63 = .ok (.if_icmp .ge 22, 3) := by decide +kernel
theorem dX12_sheet_66 : decode cX12_sheet 66 = .ok (.aload_n 0, 1) := by decide +kernel
theorem dX12_sheet_67 : decode cX12_sheet 67 = .ok (.getfield 99, 3) := by decide +kernel
theorem dX12_sheet_70 : decode cX12_sheet 70 = .ok (.bipush 48, 2) := by decide +kernel
theorem dX12_sheet_72 : decode cX12_sheet 72 = .ok (.iload_n 1, 1) := by decide +kernel
theorem dX12_sheet_73 : decode cX12_sheet 73 = .ok (.imul, 1) := by decide +kernel
theorem dX12_sheet_74 : decode cX12_sheet 74 = .ok (.iload 4, 2) := by decide +kernel
theorem dX12_sheet_76 : decode cX12_sheet 76 = .ok (.iadd, 1) := by decide +kernel
theorem dX12_sheet_77 : decode cX12_sheet 77 = .ok (.iconst 0, 1) := by decide +kernel
theorem dX12_sheet_78 : decode cX12_sheet 78 = .ok (.iastore, 1) := by decide +kernel
theorem dX12_sheet_79 : decode cX12_sheet 79 = .ok (.iinc 4 1, 3) := by decide +kernel
theorem dX12_sheet_82 : decode cX12_sheet 82 = .ok (.goto (-23), 3) := by decide +kernel
theorem dX12_sheet_85 : decode cX12_sheet 85 = .ok (.iload_n 3, 1) := by decide +kernel
theorem dX12_sheet_86 : decode cX12_sheet 86 = .ok (.ireturn, 1) := by decide +kernel
theorem dX12_lose_0 : decode cX12_lose 0 = .ok (.iload_n 1, 1) := by decide +kernel
theorem dX12_lose_1 : decode cX12_lose 1 = .ok (.invokestatic 131, 3) := by decide +kernel
theorem dX12_lose_4 : decode cX12_lose 4 = .ok (.ifCond .ne 6, 3) := by decide +kernel
theorem dX12_lose_7 : decode cX12_lose 7 = .ok (.bipush (-2), 2) := by decide +kernel
theorem dX12_lose_9 : decode cX12_lose 9 = .ok (.ireturn, 1) := by decide +kernel
theorem dX12_lose_10 : decode cX12_lose 10 = .ok (.aload_n 0, 1) := by decide +kernel
theorem dX12_lose_11 : decode cX12_lose 11 = .ok (.getfield 89, 3) := by decide +kernel
theorem dX12_lose_14 : decode cX12_lose 14 = .ok (.iload_n 1, 1) := by decide +kernel
theorem dX12_lose_15 : decode cX12_lose 15 = .ok (.baload, 1) := by decide +kernel
theorem dX12_lose_16 : decode cX12_lose 16 = .ok (.ifCond .ne 9, 3) := by decide +kernel
theorem dX12_lose_19 : decode cX12_lose 19 = .ok (.aload_n 0, 1) := by decide +kernel
theorem dX12_lose_20 : decode cX12_lose 20 = .ok (.iconst 1, 1) := by decide +kernel
theorem dX12_lose_21 : decode cX12_lose 21 = .ok (.invokevirtual 134, 3) := by decide +kernel
theorem dX12_lose_24 : decode cX12_lose 24 = .ok (.ireturn, 1) := by decide +kernel
theorem dX12_lose_25 : decode cX12_lose 25 = .ok (.aload_n 0, 1) := by decide +kernel
theorem dX12_lose_26 : decode cX12_lose 26 = .ok (.getfield 89, 3) := by decide +kernel
theorem dX12_lose_29 : decode cX12_lose 29 = .ok (.iload_n 1, 1) := by decide +kernel
theorem dX12_lose_30 : decode cX12_lose 30 = .ok (.iconst 0, 1) := by decide +kernel
theorem dX12_lose_31 : decode cX12_lose 31 = .ok (.bastore, 1) := by decide +kernel
theorem dX12_lose_32 : decode cX12_lose 32 = .ok (.aload_n 0, 1) := by decide +kernel
theorem dX12_lose_33 : decode cX12_lose 33 = .ok (.getfield 96, 3) := by decide +kernel
theorem dX12_lose_36 : decode cX12_lose 36 = .ok (.iload_n 1, 1) := by decide +kernel
theorem dX12_lose_37 : decode cX12_lose 37 = .ok (.iaload, 1) := by decide +kernel
theorem dX12_lose_38 : decode cX12_lose 38 = .ok (.ireturn, 1) := by decide +kernel
theorem dX12_lacks_0 : decode cX12_lacks 0 = .ok (.aload_n 0, 1) := by decide +kernel
theorem dX12_lacks_1 : decode cX12_lacks 1 = .ok (.getfield 89, 3) := by decide +kernel
theorem dX12_lacks_4 : decode cX12_lacks 4 = .ok (.iload_n 1, 1) := by decide +kernel
theorem dX12_lacks_5 : decode cX12_lacks 5 = .ok (.baload, 1) := by decide +kernel
theorem dX12_lacks_6 : decode cX12_lacks 6 = .ok (.ifCond .ne 7, 3) := by decide +kernel
theorem dX12_lacks_9 : decode cX12_lacks 9 = .ok (.iconst 1, 1) := by decide +kernel
theorem dX12_lacks_10 : decode cX12_lacks 10 = .ok (.goto 38, 3) := by decide +kernel
theorem dX12_lacks_13 : decode cX12_lacks 13 = .ok (.aload_n 0, 1) := by decide +kernel
theorem dX12_lacks_14 : decode cX12_lacks 14 = .ok (.getfield 93, 3) := by decide +kernel
theorem dX12_lacks_17 : decode cX12_lacks 17 = .ok (.iload_n 1, 1) := by decide +kernel
theorem dX12_lacks_18 : decode cX12_lacks 18 = .ok (.iaload, 1) := by decide +kernel
theorem dX12_lacks_19 : decode cX12_lacks 19 = .ok (.iload_n 2, 1) := by decide +kernel
theorem dX12_lacks_20 : decode cX12_lacks 20 = .ok (.if_icmp .eq 7, 3) := by decide +kernel
theorem dX12_lacks_23 : decode cX12_lacks 23 = .ok (.iconst 3, 1) := by decide +kernel
theorem dX12_lacks_24 : decode cX12_lacks 24 = .ok (.goto 24, 3) := by decide +kernel
theorem dX12_lacks_27 : decode cX12_lacks 27 = .ok (.iload_n 3, 1) := by decide +kernel
theorem dX12_lacks_28 : decode cX12_lacks 28 = .ok (.iconst 0, 1) := by decide +kernel
theorem dX12_lacks_29 : decode cX12_lacks 29 = .ok (.aload_n 0, 1) := by decide +kernel
theorem dX12_lacks_30 : decode cX12_lacks 30 = .ok (.getfield 96, 3) := by decide +kernel
theorem dX12_lacks_33 : decode cX12_lacks 33 = .ok (.iload_n 1, 1) := by decide +kernel
theorem dX12_lacks_34 : decode cX12_lacks 34 = .ok (.iaload, 1) := by decide +kernel
theorem dX12_lacks_35 : decode cX12_lacks 35 = .ok (.iconst 1, 1) := by decide +kernel
theorem dX12_lacks_36 : decode cX12_lacks 36 = .ok (.isub, 1) := by decide +kernel
theorem dX12_lacks_37 : decode cX12_lacks 37 = .ok (.invokestatic 107, 3) := by decide +kernel
theorem dX12_lacks_40 : decode cX12_lacks 40 = .ok (.ifCond .eq 7, 3) := by decide +kernel
theorem dX12_lacks_43 : decode cX12_lacks 43 = .ok (.iconst 0, 1) := by decide +kernel
theorem dX12_lacks_44 : decode cX12_lacks 44 = .ok (.goto 4, 3) := by decide +kernel
theorem dX12_lacks_47 : decode cX12_lacks 47 = .ok (.iconst 2, 1) := by decide +kernel
theorem dX12_lacks_48 : decode cX12_lacks 48 = .ok (.ireturn, 1) := by decide +kernel
theorem dX12_keep_0 : decode cX12_keep 0 = .ok (.aload_n 0, 1) := by decide +kernel
theorem dX12_keep_1 : decode cX12_keep 1 = .ok (.getfield 99, 3) := by decide +kernel
theorem dX12_keep_4 : decode cX12_keep 4 = .ok (.bipush 48, 2) := by decide +kernel
theorem dX12_keep_6 : decode cX12_keep 6 = .ok (.iload_n 1, 1) := by decide +kernel
theorem dX12_keep_7 : decode cX12_keep 7 = .ok (.imul, 1) := by decide +kernel
theorem dX12_keep_8 : decode cX12_keep 8 = .ok (.iload_n 2, 1) := by decide +kernel
theorem dX12_keep_9 : decode cX12_keep 9 = .ok (.iadd, 1) := by decide +kernel
theorem dX12_keep_10 : decode cX12_keep 10 = .ok (.aload_n 0, 1) := by decide +kernel
theorem dX12_keep_11 : decode cX12_keep 11 = .ok (.getfield 93, 3) := by decide +kernel
theorem dX12_keep_14 : decode cX12_keep 14 = .ok (.iload_n 1, 1) := by decide +kernel
theorem dX12_keep_15 : decode cX12_keep 15 = .ok (.iaload, 1) := by decide +kernel
theorem dX12_keep_16 : decode cX12_keep 16 = .ok (.ifCond .ne 8, 3) := by decide +kernel
theorem dX12_keep_19 : decode cX12_keep 19 = .ok (.iload_n 3, 1) := by decide +kernel
theorem dX12_keep_20 : decode cX12_keep 20 = .ok (.i2b, 1) := by decide +kernel
theorem dX12_keep_21 : decode cX12_keep 21 = .ok (.goto 19, 3) := by decide +kernel
theorem dX12_keep_24 : decode cX12_keep 24 = .ok (.aload_n 0, 1) := by decide +kernel
theorem dX12_keep_25 : decode cX12_keep 25 = .ok (.getfield 93, 3) := by decide +kernel
theorem dX12_keep_28 : decode cX12_keep 28 = .ok (.iload_n 1, 1) := by decide +kernel
theorem dX12_keep_29 : decode cX12_keep 29 = .ok (.iaload, 1) := by decide +kernel
theorem dX12_keep_30 : decode cX12_keep 30 = .ok (.iconst 1, 1) := by decide +kernel
theorem dX12_keep_31 : decode cX12_keep 31 = .ok (.if_icmp .ne 8, 3) := by decide +kernel
theorem dX12_keep_34 : decode cX12_keep 34 = .ok (.iload_n 3, 1) := by decide +kernel
theorem dX12_keep_35 : decode cX12_keep 35 = .ok (.i2s, 1) := by decide +kernel
theorem dX12_keep_36 : decode cX12_keep 36 = .ok (.goto 4, 3) := by decide +kernel
theorem dX12_keep_39 : decode cX12_keep 39 = .ok (.iload_n 3, 1) := by decide +kernel
theorem dX12_keep_40 : decode cX12_keep 40 = .ok (.iastore, 1) := by decide +kernel
theorem dX12_keep_41 : decode cX12_keep 41 = .ok (.return_, 1) := by decide +kernel
theorem dX12_put_0 : decode cX12_put 0 = .ok (.iload_n 1, 1) := by decide +kernel
theorem dX12_put_1 : decode cX12_put 1 = .ok (.invokestatic 131, 3) := by decide +kernel
theorem dX12_put_4 : decode cX12_put 4 = .ok (.ifCond .eq 12, 3) := by decide +kernel
theorem dX12_put_7 : decode cX12_put 7 = .ok (.iload_n 2, 1) := by decide +kernel
theorem dX12_put_8 : decode cX12_put 8 = .ok (.iconst 0, 1) := by decide +kernel
theorem dX12_put_9 : decode cX12_put 9 = .ok (.iconst 2, 1) := by decide +kernel
theorem dX12_put_10 : decode cX12_put 10 = .ok (.invokestatic 107, 3) := by decide +kernel
theorem dX12_put_13 : decode cX12_put 13 = .ok (.ifCond .ne 6, 3) := by decide +kernel
theorem dX12_put_16 : decode cX12_put 16 = .ok (.bipush (-2), 2) := by decide +kernel
theorem dX12_put_18 : decode cX12_put 18 = .ok (.ireturn, 1) := by decide +kernel
theorem dX12_put_19 : decode cX12_put 19 = .ok (.aload_n 0, 1) := by decide +kernel
theorem dX12_put_20 : decode cX12_put 20 = .ok (.iload_n 1, 1) := by decide +kernel
theorem dX12_put_21 : decode cX12_put 21 = .ok (.iload_n 2, 1) := by decide +kernel
theorem dX12_put_22 : decode cX12_put 22 = .ok (.iload_n 3, 1) := by decide +kernel
theorem dX12_put_23 : decode cX12_put 23 = .ok (.invokevirtual 300, 3) := by decide +kernel
theorem dX12_put_26 : decode cX12_put 26 = .ok (.istore 5, 2) := by decide +kernel
theorem dX12_put_28 : decode cX12_put 28 = .ok (.iload 5, 2) := by decide +kernel
theorem dX12_put_30 : decode cX12_put 30 = .ok (.ifCond .le 10, 3) := by decide +kernel
theorem dX12_put_33 : decode cX12_put 33 = .ok (.aload_n 0, 1) := by decide +kernel
theorem dX12_put_34 : decode cX12_put 34 = .ok (.iload 5, 2) := by decide +kernel
theorem dX12_put_36 : decode cX12_put 36 = .ok (.invokevirtual 134, 3) := by decide +kernel
theorem dX12_put_39 : decode cX12_put 39 = .ok (.ireturn, 1) := by decide +kernel
theorem dX12_put_40 : decode cX12_put 40 = .ok (.aload_n 0, 1) := by decide +kernel
theorem dX12_put_41 : decode cX12_put 41 = .ok (.iload_n 1, 1) := by decide +kernel
theorem dX12_put_42 : decode cX12_put 42 = .ok (.iload_n 3, 1) := by decide +kernel
theorem dX12_put_43 : decode cX12_put 43 = .ok (.iload 4, 2) := by decide +kernel
theorem dX12_put_45 : decode cX12_put 45 = .ok (.invokevirtual 303, 3) := by decide +kernel
theorem dX12_put_48 : decode cX12_put 48 = .ok (.iconst 1, 1) := by decide +kernel
theorem dX12_put_49 : decode cX12_put 49 = .ok (.ireturn, 1) := by decide +kernel
theorem dX12_get_0 : decode cX12_get 0 = .ok (.iload_n 1, 1) := by decide +kernel
theorem dX12_get_1 : decode cX12_get 1 = .ok (.invokestatic 131, 3) := by decide +kernel
theorem dX12_get_4 : decode cX12_get 4 = .ok (.ifCond .eq 12, 3) := by decide +kernel
theorem dX12_get_7 : decode cX12_get 7 = .ok (.iload_n 2, 1) := by decide +kernel
theorem dX12_get_8 : decode cX12_get 8 = .ok (.iconst 0, 1) := by decide +kernel
theorem dX12_get_9 : decode cX12_get 9 = .ok (.iconst 2, 1) := by decide +kernel
theorem dX12_get_10 : decode cX12_get 10 = .ok (.invokestatic 107, 3) := by decide +kernel
theorem dX12_get_13 : decode cX12_get 13 = .ok (.ifCond .ne 7, 3) := by decide +kernel
theorem dX12_get_16 : decode cX12_get 16 = .ok (.ldc_w 307, 3) := by decide +kernel
theorem dX12_get_19 : decode cX12_get 19 = .ok (.ireturn, 1) := by decide +kernel
theorem dX12_get_20 : decode cX12_get 20 = .ok (.aload_n 0, 1) := by decide +kernel
theorem dX12_get_21 : decode cX12_get 21 = .ok (.iload_n 1, 1) := by decide +kernel
theorem dX12_get_22 : decode cX12_get 22 = .ok (.iload_n 2, 1) := by decide +kernel
theorem dX12_get_23 : decode cX12_get 23 = .ok (.iload_n 3, 1) := by decide +kernel
theorem dX12_get_24 : decode cX12_get 24 = .ok (.invokevirtual 300, 3) := by decide +kernel
theorem dX12_get_27 : decode cX12_get 27 = .ok (.istore 4, 2) := by decide +kernel
theorem dX12_get_29 : decode cX12_get 29 = .ok (.iload 4, 2) := by decide +kernel
theorem dX12_get_31 : decode cX12_get 31 = .ok (.ifCond .le 13, 3) := by decide +kernel
theorem dX12_get_34 : decode cX12_get 34 = .ok (.aload_n 0, 1) := by decide +kernel
theorem dX12_get_35 : decode cX12_get 35 = .ok (.iload 4, 2) := by decide +kernel
theorem dX12_get_37 : decode cX12_get 37 = .ok (.putfield 297, 3) := by decide +kernel
theorem dX12_get_40 : decode cX12_get 40 = .ok (.ldc_w 307, 3) := by decide +kernel
theorem dX12_get_43 : decode cX12_get 43 = .ok (.ireturn, 1) := by decide +kernel
theorem dX12_get_44 : decode cX12_get 44 = .ok (.aload_n 0, 1) := by decide +kernel
theorem dX12_get_45 : decode cX12_get 45 = .ok (.getfield 99, 3) := by decide +kernel
theorem dX12_get_48 : decode cX12_get 48 = .ok (.bipush 48, 2) := by decide +kernel
theorem dX12_get_50 : decode cX12_get 50 = .ok (.iload_n 1, 1) := by decide +kernel
theorem dX12_get_51 : decode cX12_get 51 = .ok (.imul, 1) := by decide +kernel
theorem dX12_get_52 : decode cX12_get 52 = .ok (.iload_n 3, 1) := by decide +kernel
theorem dX12_get_53 : decode cX12_get 53 = .ok (.iadd, 1) := by decide +kernel
theorem dX12_get_54 : decode cX12_get 54 = .ok (.iaload, 1) := by decide +kernel
theorem dX12_get_55 : decode cX12_get 55 = .ok (.ireturn, 1) := by decide +kernel
theorem dX12_copy_0 : decode cX12_copy 0 = .ok (.iload_n 1, 1) := by decide +kernel
theorem dX12_copy_1 : decode cX12_copy 1 = .ok (.invokestatic 131, 3) := by decide +kernel
theorem dX12_copy_4 : decode cX12_copy 4 = .ok (.ifCond .eq 10, 3) := by decide +kernel
theorem dX12_copy_7 : decode cX12_copy 7 = .ok (.iload_n 3, 1) := by decide +kernel
theorem dX12_copy_8 : decode cX12_copy 8 = .ok (.invokestatic 131, 3) := by decide +kernel
theorem dX12_copy_11 : decode cX12_copy 11 = .ok (.ifCond .ne 6, 3) := by decide +kernel
theorem dX12_copy_14 : decode cX12_copy 14 = .ok (.bipush (-2), 2) := by decide +kernel
theorem dX12_copy_16 : decode cX12_copy 16 = .ok (.ireturn, 1) := by decide +kernel
theorem dX12_copy_17 : decode cX12_copy 17 = .ok (.aload_n 0, 1) := by decide +kernel
theorem dX12_copy_18 : decode cX12_copy 18 = .ok (.getfield 89, 3) := by decide +kernel
theorem dX12_copy_21 : decode cX12_copy 21 = .ok (.iload_n 1, 1) := by decide +kernel
theorem dX12_copy_22 : decode cX12_copy 22 = .ok (.baload, 1) := by decide +kernel
theorem dX12_copy_23 : decode cX12_copy 23 = .ok (.ifCond .eq 12, 3) := by decide +kernel
theorem dX12_copy_26 : decode cX12_copy 26 = .ok (.aload_n 0, 1) := by decide +kernel
theorem dX12_copy_27 : decode cX12_copy 27 = .ok (.getfield 89, 3) := by decide +kernel
theorem dX12_copy_30 : decode cX12_copy 30 = .ok (.iload_n 3, 1) := by decide +kernel
theorem dX12_copy_31 : decode cX12_copy 31 = .ok (.baload, 1) := by decide +kernel
theorem dX12_copy_32 : decode cX12_copy 32 = .ok (.ifCond .ne 9, 3) := by decide +kernel
theorem dX12_copy_35 : decode cX12_copy 35 = .ok (.aload_n 0, 1) := by decide +kernel
theorem dX12_copy_36 : decode cX12_copy 36 = .ok (.iconst 1, 1) := by decide +kernel
theorem dX12_copy_37 : decode cX12_copy 37 = .ok (.invokevirtual 134, 3) := by decide +kernel
theorem dX12_copy_40 : decode cX12_copy 40 = .ok (.ireturn, 1) := by decide +kernel
theorem dX12_copy_41 : decode cX12_copy 41 = .ok (.aload_n 0, 1) := by decide +kernel
theorem dX12_copy_42 : decode cX12_copy 42 = .ok (.getfield 93, 3) := by decide +kernel
theorem dX12_copy_45 : decode cX12_copy 45 = .ok (.iload_n 1, 1) := by decide +kernel
theorem dX12_copy_46 : decode cX12_copy 46 = .ok (.iaload, 1) := by decide +kernel
theorem dX12_copy_47 : decode cX12_copy 47 = .ok (.aload_n 0, 1) := by decide +kernel
theorem dX12_copy_48 : decode cX12_copy 48 = .ok (.getfield 93, 3) := by decide +kernel
theorem dX12_copy_51 : decode cX12_copy 51 = .ok (.iload_n 3, 1) := by decide +kernel
theorem dX12_copy_52 : decode cX12_copy 52 = .ok (.iaload, 1) := by decide +kernel
theorem dX12_copy_53 : decode cX12_copy 53 = .ok (.if_icmp .eq 9, 3) := by decide +kernel
theorem dX12_copy_56 : decode cX12_copy 56 = .ok (.aload_n 0, 1) := by decide +kernel
theorem dX12_copy_57 : decode cX12_copy 57 = .ok (.iconst 4, 1) := by decide +kernel
theorem dX12_copy_58 : decode cX12_copy 58 = .ok (.invokevirtual 134, 3) := by decide +kernel
theorem dX12_copy_61 : decode cX12_copy 61 = .ok (.ireturn, 1) := by decide +kernel
theorem dX12_copy_62 : decode cX12_copy 62 = .ok (.iload_n 2, 1) := by decide +kernel
theorem dX12_copy_63 : decode cX12_copy 63 = .ok (.ifCond .lt 48, 3) := by decide +kernel
theorem dX12_copy_66 : decode cX12_copy 66 = .ok (.iload 4, 2) := by decide +kernel
theorem dX12_copy_68 : decode cX12_copy 68 = .ok (.ifCond .lt 43, 3) := by decide +kernel
theorem dX12_copy_71 : decode cX12_copy 71 = .ok (.iload 5, 2) := by decide +kernel
theorem dX12_copy_73 : decode cX12_copy 73 = .ok (.ifCond .lt 38, 3) := by decide +kernel
theorem dX12_copy_76 : decode cX12_copy 76 = .ok (.iload_n 2, 1) := by decide +kernel
theorem dX12_copy_77 : decode cX12_copy 77 = .ok (.i2l, 1) := by decide +kernel
theorem dX12_copy_78 : decode cX12_copy 78 = .ok (.iload 5, 2) := by decide +kernel
theorem dX12_copy_80 : decode cX12_copy 80 = .ok (.i2l, 1) := by decide +kernel
theorem dX12_copy_81 : decode cX12_copy 81 = .ok (.ladd, 1) := by decide +kernel
theorem dX12_copy_82 : decode cX12_copy 82 = .ok (.aload_n 0, 1) := by decide +kernel
theorem dX12_copy_83 : decode cX12_copy 83 = .ok (.getfield 96, 3) := by decide +kernel
theorem dX12_copy_86 : decode cX12_copy 86 = .ok (.iload_n 1, 1) := by decide +kernel
theorem dX12_copy_87 : decode cX12_copy 87 = .ok (.iaload, 1) := by decide +kernel
theorem dX12_copy_88 : decode cX12_copy 88 = .ok (.i2l, 1) := by decide +kernel
theorem dX12_copy_89 : decode cX12_copy 89 = .ok (.lcmp, 1) := by decide +kernel
theorem dX12_copy_90 : decode cX12_copy 90 = .ok (.ifCond .gt 21, 3) := by decide +kernel
theorem dX12_copy_93 : decode cX12_copy 93 = .ok (.iload 4, 2) := by decide +kernel
theorem dX12_copy_95 : decode cX12_copy 95 = .ok (.i2l, 1) := by decide +kernel
theorem dX12_copy_96 : decode cX12_copy 96 = .ok (.iload 5, 2) := by decide +kernel
theorem dX12_copy_98 : decode cX12_copy 98 = .ok (.i2l, 1) := by decide +kernel
theorem dX12_copy_99 : decode cX12_copy 99 = .ok (.ladd, 1) := by decide +kernel
theorem dX12_copy_100 : decode cX12_copy 100 = .ok (.aload_n 0, 1) := by decide +kernel
theorem dX12_copy_101 : decode cX12_copy 101 = .ok (.getfield 96, 3) := by decide +kernel
theorem dX12_copy_104 : decode cX12_copy 104 = .ok (.iload_n 3, 1) := by decide +kernel
theorem dX12_copy_105 : decode cX12_copy 105 = .ok (.iaload, 1) := by decide +kernel
theorem dX12_copy_106 : decode cX12_copy 106 = .ok (.i2l, 1) := by decide +kernel
theorem dX12_copy_107 : decode cX12_copy 107 = .ok (.lcmp, 1) := by decide +kernel
theorem dX12_copy_108 : decode cX12_copy 108 = .ok (.ifCond .le 9, 3) := by decide +kernel
theorem dX12_copy_111 : decode cX12_copy 111 = .ok (.aload_n 0, 1) := by decide +kernel
theorem dX12_copy_112 : decode cX12_copy 112 = .ok (.iconst 2, 1) := by decide +kernel
theorem dX12_copy_113 : decode cX12_copy 113 = .ok (.invokevirtual 134, 3) := by decide +kernel
theorem dX12_copy_116 : decode cX12_copy 116 = .ok (.ireturn, 1) := by decide +kernel
theorem dX12_copy_117 : decode cX12_copy 117 = .ok (.iconst 0, 1) := by decide +kernel
theorem dX12_copy_118 : decode cX12_copy 118 = .ok (.istore 6, 2) := by decide +kernel
theorem dX12_copy_120 : decode cX12_copy 120 = .ok (.iload 6, 2) := by decide +kernel
theorem dX12_copy_122 : decode cX12_copy 122 = .ok (.iload 5, 2) := by decide +kernel
theorem dX12_copy_124 : decode cX12_copy 124 = .ok (.if_icmp .ge 30, 3) := by decide +kernel
theorem dX12_copy_127 : decode cX12_copy 127 = .ok (.aload_n 0, 1) := by decide +kernel
theorem dX12_copy_128 : decode cX12_copy 128 = .ok (.getfield 102, 3) := by decide +kernel
theorem dX12_copy_131 : decode cX12_copy 131 = .ok (.iload 6, 2) := by decide +kernel
theorem dX12_copy_133 : decode cX12_copy 133 = .ok (.aload_n 0, 1) := by decide +kernel
theorem dX12_copy_134 : decode cX12_copy 134 = .ok (.getfield 99, 3) := by decide +kernel
theorem dX12_copy_137 : decode cX12_copy 137 = .ok (.bipush 48, 2) := by decide +kernel
theorem dX12_copy_139 : decode cX12_copy 139 = .ok (.iload_n 1, 1) := by decide +kernel
theorem dX12_copy_140 : decode cX12_copy 140 = .ok (.imul, 1) := by decide +kernel
theorem dX12_copy_141 : decode cX12_copy 141 = .ok (.iload_n 2, 1) := by decide +kernel
theorem dX12_copy_142 : decode cX12_copy 142 = .ok (.iadd, 1) := by decide +kernel
theorem dX12_copy_143 : decode cX12_copy 143 = .ok (.iload 6, 2) := by decide +kernel
theorem dX12_copy_145 : decode cX12_copy 145 = .ok (.iadd, 1) := by decide +kernel
theorem dX12_copy_146 : decode cX12_copy 146 = .ok (.iaload, 1) := by decide +kernel
theorem dX12_copy_147 : decode cX12_copy 147 = .ok (.iastore, 1) := by decide +kernel
theorem dX12_copy_148 : decode cX12_copy 148 = .ok (.iinc 6 1, 3) := by decide +kernel
theorem dX12_copy_151 : decode cX12_copy 151 = .ok (.goto (-31), 3) := by decide +kernel
theorem dX12_copy_154 : decode cX12_copy 154 = .ok (.iconst 0, 1) := by decide +kernel
theorem dX12_copy_155 : decode cX12_copy 155 = .ok (.istore 6, 2) := by decide +kernel
theorem dX12_copy_157 : decode cX12_copy 157 = .ok (.iload 6, 2) := by decide +kernel
theorem dX12_copy_159 : decode cX12_copy 159 = .ok (.iload 5, 2) := by decide +kernel
theorem dX12_copy_161 : decode cX12_copy 161 = .ok (.if_icmp .ge 31, 3) := by decide +kernel
theorem dX12_copy_164 : decode cX12_copy 164 = .ok (.aload_n 0, 1) := by decide +kernel
theorem dX12_copy_165 : decode cX12_copy 165 = .ok (.getfield 99, 3) := by decide +kernel
theorem dX12_copy_168 : decode cX12_copy 168 = .ok (.bipush 48, 2) := by decide +kernel
theorem dX12_copy_170 : decode cX12_copy 170 = .ok (.iload_n 3, 1) := by decide +kernel
theorem dX12_copy_171 : decode cX12_copy 171 = .ok (.imul, 1) := by decide +kernel
theorem dX12_copy_172 : decode cX12_copy 172 = .ok (.iload 4, 2) := by decide +kernel
theorem dX12_copy_174 : decode cX12_copy 174 = .ok (.iadd, 1) := by decide +kernel
theorem dX12_copy_175 : decode cX12_copy 175 = .ok (.iload 6, 2) := by decide +kernel
theorem dX12_copy_177 : decode cX12_copy 177 = .ok (.iadd, 1) := by decide +kernel
theorem dX12_copy_178 : decode cX12_copy 178 = .ok (.aload_n 0, 1) := by decide +kernel
theorem dX12_copy_179 : decode cX12_copy 179 = .ok (.getfield 102, 3) := by decide +kernel
theorem dX12_copy_182 : decode cX12_copy 182 = .ok (.iload 6, 2) := by decide +kernel
theorem dX12_copy_184 : decode cX12_copy 184 = .ok (.iaload, 1) := by decide +kernel
theorem dX12_copy_185 : decode cX12_copy 185 = .ok (.iastore, 1) := by decide +kernel
theorem dX12_copy_186 : decode cX12_copy 186 = .ok (.iinc 6 1, 3) := by decide +kernel
theorem dX12_copy_189 : decode cX12_copy 189 = .ok (.goto (-32), 3) := by decide +kernel
theorem dX12_copy_192 : decode cX12_copy 192 = .ok (.iconst 1, 1) := by decide +kernel
theorem dX12_copy_193 : decode cX12_copy 193 = .ok (.ireturn, 1) := by decide +kernel
theorem dX12_write_0 : decode cX12_write 0 = .ok (.iload_n 1, 1) := by decide +kernel
theorem dX12_write_1 : decode cX12_write 1 = .ok (.invokestatic 154, 3) := by decide +kernel
theorem dX12_write_4 : decode cX12_write 4 = .ok (.ifCond .eq 17, 3) := by decide +kernel
theorem dX12_write_7 : decode cX12_write 7 = .ok (.iload_n 2, 1) := by decide +kernel
theorem dX12_write_8 : decode cX12_write 8 = .ok (.invokestatic 115, 3) := by decide +kernel
theorem dX12_write_11 : decode cX12_write 11 = .ok (.ifCond .eq 10, 3) := by decide +kernel
theorem dX12_write_14 : decode cX12_write 14 = .ok (.iload_n 3, 1) := by decide +kernel
theorem dX12_write_15 : decode cX12_write 15 = .ok (.invokestatic 131, 3) := by decide +kernel
theorem dX12_write_18 : decode cX12_write 18 = .ok (.ifCond .ne 6, 3) := by decide +kernel
theorem dX12_write_21 : decode cX12_write 21 = .ok (.bipush (-2), 2) := by decide +kernel
theorem dX12_write_23 : decode cX12_write 23 = .ok (.ireturn, 1) := by decide +kernel
theorem dX12_write_24 : decode cX12_write 24 = .ok (.aload_n 0, 1) := by decide +kernel
theorem dX12_write_25 : decode cX12_write 25 = .ok (.getfield 89, 3) := by decide +kernel
theorem dX12_write_28 : decode cX12_write 28 = .ok (.iload_n 3, 1) := by decide +kernel
theorem dX12_write_29 : decode cX12_write 29 = .ok (.baload, 1) := by decide +kernel
theorem dX12_write_30 : decode cX12_write 30 = .ok (.ifCond .ne 9, 3) := by decide +kernel
theorem dX12_write_33 : decode cX12_write 33 = .ok (.aload_n 0, 1) := by decide +kernel
theorem dX12_write_34 : decode cX12_write 34 = .ok (.iconst 1, 1) := by decide +kernel
theorem dX12_write_35 : decode cX12_write 35 = .ok (.invokevirtual 134, 3) := by decide +kernel
theorem dX12_write_38 : decode cX12_write 38 = .ok (.ireturn, 1) := by decide +kernel
theorem dX12_write_39 : decode cX12_write 39 = .ok (.iconst 0, 1) := by decide +kernel
theorem dX12_write_40 : decode cX12_write 40 = .ok (.istore 4, 2) := by decide +kernel
theorem dX12_write_42 : decode cX12_write 42 = .ok (.iconst 0, 1) := by decide +kernel
theorem dX12_write_43 : decode cX12_write 43 = .ok (.istore 5, 2) := by decide +kernel
theorem dX12_write_45 : decode cX12_write 45 = .ok (.iload 5, 2) := by decide +kernel
theorem dX12_write_47 : decode cX12_write 47 = .ok (.aload_n 0, 1) := by decide +kernel
theorem dX12_write_48 : decode cX12_write 48 = .ok (.getfield 124, 3) := by decide +kernel
theorem dX12_write_51 : decode cX12_write 51 = .ok (.if_icmp .ge 48, 3) := by decide +kernel
theorem dX12_write_54 : decode cX12_write 54 = .ok (.iload 4, 2) := by decide +kernel
theorem dX12_write_56 : decode cX12_write 56 = .ok (.aload_n 0, 1) := by decide +kernel
theorem dX12_write_57 : decode cX12_write 57 = .ok (.getfield 96, 3) := by decide +kernel
theorem dX12_write_60 : decode cX12_write 60 = .ok (.iload_n 3, 1) := by decide +kernel
theorem dX12_write_61 : decode cX12_write 61 = .ok (.iaload, 1) := by decide +kernel
theorem dX12_write_62 : decode cX12_write 62 = .ok (.if_icmp .ge 37, 3) := by decide +kernel
theorem dX12_write_65 : decode cX12_write 65 = .ok (.aload_n 0, 1) := by decide +kernel
theorem dX12_write_66 : decode cX12_write 66 = .ok (.iload 5, 2) := by decide +kernel
theorem dX12_write_68 : decode cX12_write 68 = .ok (.iload_n 1, 1) := by decide +kernel
theorem dX12_write_69 : decode cX12_write 69 = .ok (.iload_n 2, 1) := by decide +kernel
theorem dX12_write_70 : decode cX12_write 70 = .ok (.invokevirtual 141, 3) := by decide +kernel
theorem dX12_write_73 : decode cX12_write 73 = .ok (.ifCond .eq 20, 3) := by decide +kernel
theorem dX12_write_76 : decode cX12_write 76 = .ok (.aload_n 0, 1) := by decide +kernel
theorem dX12_write_77 : decode cX12_write 77 = .ok (.iload_n 3, 1) := by decide +kernel
theorem dX12_write_78 : decode cX12_write 78 = .ok (.iload 4, 2) := by decide +kernel
theorem dX12_write_80 : decode cX12_write 80 = .ok (.aload_n 0, 1) := by decide +kernel
theorem dX12_write_81 : decode cX12_write 81 = .ok (.getfield 16, 3) := by decide +kernel
theorem dX12_write_84 : decode cX12_write 84 = .ok (.iload 5, 2) := by decide +kernel
theorem dX12_write_86 : decode cX12_write 86 = .ok (.iaload, 1) := by decide +kernel
theorem dX12_write_87 : decode cX12_write 87 = .ok (.invokevirtual 303, 3) := by decide +kernel
theorem dX12_write_90 : decode cX12_write 90 = .ok (.iinc 4 1, 3) := by decide +kernel
theorem dX12_write_93 : decode cX12_write 93 = .ok (.iinc 5 1, 3) := by decide +kernel
theorem dX12_write_96 : decode cX12_write 96 = .ok (.goto (-51), 3) := by decide +kernel
theorem dX12_write_99 : decode cX12_write 99 = .ok (.iload 4, 2) := by decide +kernel
theorem dX12_write_101 : decode cX12_write 101 = .ok (.ireturn, 1) := by decide +kernel
theorem dX12_knownMany_0 : decode cX12_knownMany 0 = .ok (.iconst 0, 1) := by decide +kernel
theorem dX12_knownMany_1 : decode cX12_knownMany 1 = .ok (.istore_n 1, 1) := by decide +kernel
theorem dX12_knownMany_2 : decode cX12_knownMany 2 = .ok (.iconst 0, 1) := by decide +kernel
theorem dX12_knownMany_3 : decode cX12_knownMany 3 = .ok (.istore_n 2, 1) := by decide +kernel
theorem dX12_knownMany_4 : decode cX12_knownMany 4 = .ok (.iload_n 2, 1) := by decide +kernel
theorem dX12_knownMany_5 : decode cX12_knownMany 5 = .ok (.aload_n 0, 1) := by decide +kernel
theorem dX12_knownMany_6 : decode cX12_knownMany 6 = .ok (.getfield 124, 3) := by decide +kernel
theorem dX12_knownMany_9 : decode cX12_knownMany 9 = .ok (.if_icmp .ge 25, 3) := by decide +kernel
theorem dX12_knownMany_12 : decode cX12_knownMany 12 = .ok (.iload_n 1, 1) := by decide +kernel
theorem dX12_knownMany_13 : decode cX12_knownMany 13 = .ok (.aload_n 0, 1) := by decide +kernel
theorem dX12_knownMany_14 : decode cX12_knownMany 14 = .ok (.iload_n 2, 1) := by decide +kernel
theorem dX12_knownMany_15 : decode cX12_knownMany 15 = .ok (.invokevirtual 138, 3) := by decide +kernel
theorem dX12_knownMany_18 : decode cX12_knownMany 18 = .ok (.ifCond .eq 7, 3) := by decide +kernel
theorem dX12_knownMany_21 : decode cX12_knownMany 21 = .ok (.iconst 1, 1) := by decide +kernel
theorem dX12_knownMany_22 : decode cX12_knownMany 22 = .ok (.goto 4, 3) := by decide +kernel
theorem dX12_knownMany_25 : decode cX12_knownMany 25 = .ok (.iconst 0, 1) := by decide +kernel
theorem dX12_knownMany_26 : decode cX12_knownMany 26 = .ok (.iadd, 1) := by decide +kernel
theorem dX12_knownMany_27 : decode cX12_knownMany 27 = .ok (.istore_n 1, 1) := by decide +kernel
theorem dX12_knownMany_28 : decode cX12_knownMany 28 = .ok (.iinc 2 1, 3) := by decide +kernel
theorem dX12_knownMany_31 : decode cX12_knownMany 31 = .ok (.goto (-27), 3) := by decide +kernel
theorem dX12_knownMany_34 : decode cX12_knownMany 34 = .ok (.iload_n 1, 1) := by decide +kernel
theorem dX12_knownMany_35 : decode cX12_knownMany 35 = .ok (.ireturn, 1) := by decide +kernel
theorem dX12_count_0 : decode cX12_count 0 = .ok (.iload_n 1, 1) := by decide +kernel
theorem dX12_count_1 : decode cX12_count 1 = .ok (.tableswitch 96 0 8 #[51, 56, 61, 66, 71, 76, 81, 86, 91], 51) := by decide +kernel
theorem dX12_count_52 : decode cX12_count 52 = .ok (.aload_n 0, 1) := by decide +kernel
theorem dX12_count_53 : decode cX12_count 53 = .ok (.getfield 124, 3) := by decide +kernel
theorem dX12_count_56 : decode cX12_count 56 = .ok (.ireturn, 1) := by decide +kernel
theorem dX12_count_57 : decode cX12_count 57 = .ok (.aload_n 0, 1) := by decide +kernel
theorem dX12_count_58 : decode cX12_count 58 = .ok (.invokevirtual 308, 3) := by decide +kernel
theorem dX12_count_61 : decode cX12_count 61 = .ok (.ireturn, 1) := by decide +kernel
theorem dX12_count_62 : decode cX12_count 62 = .ok (.aload_n 0, 1) := by decide +kernel
theorem dX12_count_63 : decode cX12_count 63 = .ok (.getfield 176, 3) := by decide +kernel
theorem dX12_count_66 : decode cX12_count 66 = .ok (.ireturn, 1) := by decide +kernel
theorem dX12_count_67 : decode cX12_count 67 = .ok (.aload_n 0, 1) := by decide +kernel
theorem dX12_count_68 : decode cX12_count 68 = .ok (.getfield 195, 3) := by decide +kernel
theorem dX12_count_71 : decode cX12_count 71 = .ok (.ireturn, 1) := by decide +kernel
theorem dX12_count_72 : decode cX12_count 72 = .ok (.aload_n 0, 1) := by decide +kernel
theorem dX12_count_73 : decode cX12_count 73 = .ok (.getfield 209, 3) := by decide +kernel
theorem dX12_count_76 : decode cX12_count 76 = .ok (.ireturn, 1) := by decide +kernel
theorem dX12_count_77 : decode cX12_count 77 = .ok (.aload_n 0, 1) := by decide +kernel
theorem dX12_count_78 : decode cX12_count 78 = .ok (.getfield 251, 3) := by decide +kernel
theorem dX12_count_81 : decode cX12_count 81 = .ok (.ireturn, 1) := by decide +kernel
theorem dX12_count_82 : decode cX12_count 82 = .ok (.aload_n 0, 1) := by decide +kernel
theorem dX12_count_83 : decode cX12_count 83 = .ok (.getfield 282, 3) := by decide +kernel
theorem dX12_count_86 : decode cX12_count 86 = .ok (.ireturn, 1) := by decide +kernel
theorem dX12_count_87 : decode cX12_count 87 = .ok (.aload_n 0, 1) := by decide +kernel
theorem dX12_count_88 : decode cX12_count 88 = .ok (.getfield 28, 3) := by decide +kernel
theorem dX12_count_91 : decode cX12_count 91 = .ok (.ireturn, 1) := by decide +kernel
theorem dX12_count_92 : decode cX12_count 92 = .ok (.aload_n 0, 1) := by decide +kernel
theorem dX12_count_93 : decode cX12_count 93 = .ok (.getfield 297, 3) := by decide +kernel
theorem dX12_count_96 : decode cX12_count 96 = .ok (.ireturn, 1) := by decide +kernel
theorem dX12_count_97 : decode cX12_count 97 = .ok (.bipush (-2), 2) := by decide +kernel
theorem dX12_count_99 : decode cX12_count 99 = .ok (.ireturn, 1) := by decide +kernel
theorem dX12_digest_0 : decode cX12_digest 0 = .ok (.ldc2_w 311, 3) := by decide +kernel
theorem dX12_digest_3 : decode cX12_digest 3 = .ok (.lstore_n 1, 1) := by decide +kernel
theorem dX12_digest_4 : decode cX12_digest 4 = .ok (.iconst 0, 1) := by decide +kernel
theorem dX12_digest_5 : decode cX12_digest 5 = .ok (.istore_n 3, 1) := by decide +kernel
theorem dX12_digest_6 : decode cX12_digest 6 = .ok (.iload_n 3, 1) := by decide +kernel
theorem dX12_digest_7 : decode cX12_digest 7 = .ok (.bipush 8, 2) := by decide +kernel
theorem dX12_digest_9 : decode cX12_digest 9 = .ok (.if_icmp .ge 22, 3) := by decide +kernel
theorem dX12_digest_12 : decode cX12_digest 12 = .ok (.ldc2_w 313, 3) := by decide +kernel
theorem dX12_digest_15 : decode cX12_digest 15 = .ok (.lload_n 1, 1) := by decide +kernel
theorem dX12_digest_16 : decode cX12_digest 16 = .ok (.lmul, 1) := by decide +kernel
theorem dX12_digest_17 : decode cX12_digest 17 = .ok (.aload_n 0, 1) := by decide +kernel
theorem dX12_digest_18 : decode cX12_digest 18 = .ok (.iload_n 3, 1) := by decide +kernel
theorem dX12_digest_19 : decode cX12_digest 19 = .ok (.invokevirtual 315, 3) := by decide +kernel
theorem dX12_digest_22 : decode cX12_digest 22 = .ok (.i2l, 1) := by decide +kernel
theorem dX12_digest_23 : decode cX12_digest 23 = .ok (.ladd, 1) := by decide +kernel
theorem dX12_digest_24 : decode cX12_digest 24 = .ok (.lstore_n 1, 1) := by decide +kernel
theorem dX12_digest_25 : decode cX12_digest 25 = .ok (.iinc 3 1, 3) := by decide +kernel
theorem dX12_digest_28 : decode cX12_digest 28 = .ok (.goto (-22), 3) := by decide +kernel
theorem dX12_digest_31 : decode cX12_digest 31 = .ok (.ldc2_w 313, 3) := by decide +kernel
theorem dX12_digest_34 : decode cX12_digest 34 = .ok (.lload_n 1, 1) := by decide +kernel
theorem dX12_digest_35 : decode cX12_digest 35 = .ok (.lmul, 1) := by decide +kernel
theorem dX12_digest_36 : decode cX12_digest 36 = .ok (.aload_n 0, 1) := by decide +kernel
theorem dX12_digest_37 : decode cX12_digest 37 = .ok (.invokevirtual 222, 3) := by decide +kernel
theorem dX12_digest_40 : decode cX12_digest 40 = .ok (.i2l, 1) := by decide +kernel
theorem dX12_digest_41 : decode cX12_digest 41 = .ok (.ladd, 1) := by decide +kernel
theorem dX12_digest_42 : decode cX12_digest 42 = .ok (.lstore_n 1, 1) := by decide +kernel
theorem dX12_digest_43 : decode cX12_digest 43 = .ok (.iconst (-1), 1) := by decide +kernel
theorem dX12_digest_44 : decode cX12_digest 44 = .ok (.istore_n 3, 1) := by decide +kernel
theorem dX12_digest_45 : decode cX12_digest 45 = .ok (.iload_n 3, 1) := by decide +kernel
theorem dX12_digest_46 : decode cX12_digest 46 = .ok (.iconst 4, 1) := by decide +kernel
theorem dX12_digest_47 : decode cX12_digest 47 = .ok (.if_icmp .ge 56, 3) := by decide +kernel
theorem dX12_digest_50 : decode cX12_digest 50 = .ok (.iconst 0, 1) := by decide +kernel
theorem dX12_digest_51 : decode cX12_digest 51 = .ok (.istore 4, 2) := by decide +kernel
theorem dX12_digest_53 : decode cX12_digest 53 = .ok (.iload 4, 2) := by decide +kernel
theorem dX12_digest_55 : decode cX12_digest 55 = .ok (.iconst 4, 1) := by decide +kernel
theorem dX12_digest_56 : decode cX12_digest 56 = .ok (.if_icmp .ge 41, 3) := by decide +kernel
theorem dX12_digest_59 : decode cX12_digest 59 = .ok (.ldc2_w 313, 3) := by decide +kernel
theorem dX12_digest_62 : decode cX12_digest 62 = .ok (.lload_n 1, 1) := by decide +kernel
theorem dX12_digest_63 : decode cX12_digest 63 = .ok (.lmul, 1) := by decide +kernel
theorem dX12_digest_64 : decode cX12_digest 64 = .ok (.aload_n 0, 1) := by decide +kernel
theorem dX12_digest_65 : decode cX12_digest 65 = .ok (.iload_n 3, 1) := by decide +kernel
theorem dX12_digest_66 : decode cX12_digest 66 = .ok (.iload 4, 2) := by decide +kernel
theorem dX12_digest_68 : decode cX12_digest 68 = .ok (.iconst 0, 1) := by decide +kernel
theorem dX12_digest_69 : decode cX12_digest 69 = .ok (.invokevirtual 157, 3) := by decide +kernel
theorem dX12_digest_72 : decode cX12_digest 72 = .ok (.i2l, 1) := by decide +kernel
theorem dX12_digest_73 : decode cX12_digest 73 = .ok (.ladd, 1) := by decide +kernel
theorem dX12_digest_74 : decode cX12_digest 74 = .ok (.lstore_n 1, 1) := by decide +kernel
theorem dX12_digest_75 : decode cX12_digest 75 = .ok (.ldc2_w 313, 3) := by decide +kernel
theorem dX12_digest_78 : decode cX12_digest 78 = .ok (.lload_n 1, 1) := by decide +kernel
theorem dX12_digest_79 : decode cX12_digest 79 = .ok (.lmul, 1) := by decide +kernel
theorem dX12_digest_80 : decode cX12_digest 80 = .ok (.aload_n 0, 1) := by decide +kernel
theorem dX12_digest_81 : decode cX12_digest 81 = .ok (.iload_n 3, 1) := by decide +kernel
theorem dX12_digest_82 : decode cX12_digest 82 = .ok (.iload 4, 2) := by decide +kernel
theorem dX12_digest_84 : decode cX12_digest 84 = .ok (.iconst 1, 1) := by decide +kernel
theorem dX12_digest_85 : decode cX12_digest 85 = .ok (.invokevirtual 157, 3) := by decide +kernel
theorem dX12_digest_88 : decode cX12_digest 88 = .ok (.i2l, 1) := by decide +kernel
theorem dX12_digest_89 : decode cX12_digest 89 = .ok (.ladd, 1) := by decide +kernel
theorem dX12_digest_90 : decode cX12_digest 90 = .ok (.lstore_n 1, 1) := by decide +kernel
theorem dX12_digest_91 : decode cX12_digest 91 = .ok (.iinc 4 1, 3) := by decide +kernel
theorem dX12_digest_94 : decode cX12_digest 94 = .ok (.goto (-41), 3) := by decide +kernel
theorem dX12_digest_97 : decode cX12_digest 97 = .ok (.iinc 3 1, 3) := by decide +kernel
theorem dX12_digest_100 : decode cX12_digest 100 = .ok (.goto (-55), 3) := by decide +kernel
theorem dX12_digest_103 : decode cX12_digest 103 = .ok (.ldc2_w 313, 3) := by decide +kernel
theorem dX12_digest_106 : decode cX12_digest 106 = .ok (.lload_n 1, 1) := by decide +kernel
theorem dX12_digest_107 : decode cX12_digest 107 = .ok (.lmul, 1) := by decide +kernel
theorem dX12_digest_108 : decode cX12_digest 108 = .ok (.aload_n 0, 1) := by decide +kernel
theorem dX12_digest_109 : decode cX12_digest 109 = .ok (.iconst (-1), 1) := by decide +kernel
theorem dX12_digest_110 : decode cX12_digest 110 = .ok (.iconst 0, 1) := by decide +kernel
theorem dX12_digest_111 : decode cX12_digest 111 = .ok (.iconst 0, 1) := by decide +kernel
theorem dX12_digest_112 : decode cX12_digest 112 = .ok (.invokevirtual 172, 3) := by decide +kernel
theorem dX12_digest_115 : decode cX12_digest 115 = .ok (.ladd, 1) := by decide +kernel
theorem dX12_digest_116 : decode cX12_digest 116 = .ok (.lstore_n 1, 1) := by decide +kernel
theorem dX12_digest_117 : decode cX12_digest 117 = .ok (.ldc2_w 313, 3) := by decide +kernel
theorem dX12_digest_120 : decode cX12_digest 120 = .ok (.lload_n 1, 1) := by decide +kernel
theorem dX12_digest_121 : decode cX12_digest 121 = .ok (.lmul, 1) := by decide +kernel
theorem dX12_digest_122 : decode cX12_digest 122 = .ok (.aload_n 0, 1) := by decide +kernel
theorem dX12_digest_123 : decode cX12_digest 123 = .ok (.iconst (-1), 1) := by decide +kernel
theorem dX12_digest_124 : decode cX12_digest 124 = .ok (.iconst 0, 1) := by decide +kernel
theorem dX12_digest_125 : decode cX12_digest 125 = .ok (.iconst 1, 1) := by decide +kernel
theorem dX12_digest_126 : decode cX12_digest 126 = .ok (.invokevirtual 172, 3) := by decide +kernel
theorem dX12_digest_129 : decode cX12_digest 129 = .ok (.ladd, 1) := by decide +kernel
theorem dX12_digest_130 : decode cX12_digest 130 = .ok (.lstore_n 1, 1) := by decide +kernel
theorem dX12_digest_131 : decode cX12_digest 131 = .ok (.ldc2_w 313, 3) := by decide +kernel
theorem dX12_digest_134 : decode cX12_digest 134 = .ok (.lload_n 1, 1) := by decide +kernel
theorem dX12_digest_135 : decode cX12_digest 135 = .ok (.lmul, 1) := by decide +kernel
theorem dX12_digest_136 : decode cX12_digest 136 = .ok (.aload_n 0, 1) := by decide +kernel
theorem dX12_digest_137 : decode cX12_digest 137 = .ok (.iconst (-1), 1) := by decide +kernel
theorem dX12_digest_138 : decode cX12_digest 138 = .ok (.invokevirtual 192, 3) := by decide +kernel
theorem dX12_digest_141 : decode cX12_digest 141 = .ok (.i2l, 1) := by decide +kernel
theorem dX12_digest_142 : decode cX12_digest 142 = .ok (.ladd, 1) := by decide +kernel
theorem dX12_digest_143 : decode cX12_digest 143 = .ok (.lstore_n 1, 1) := by decide +kernel
theorem dX12_digest_144 : decode cX12_digest 144 = .ok (.iconst 0, 1) := by decide +kernel
theorem dX12_digest_145 : decode cX12_digest 145 = .ok (.istore_n 3, 1) := by decide +kernel
theorem dX12_digest_146 : decode cX12_digest 146 = .ok (.iload_n 3, 1) := by decide +kernel
theorem dX12_digest_147 : decode cX12_digest 147 = .ok (.aload_n 0, 1) := by decide +kernel
theorem dX12_digest_148 : decode cX12_digest 148 = .ok (.getfield 176, 3) := by decide +kernel
theorem dX12_digest_151 : decode cX12_digest 151 = .ok (.if_icmp .ge 39, 3) := by decide +kernel
theorem dX12_digest_154 : decode cX12_digest 154 = .ok (.iconst 0, 1) := by decide +kernel
theorem dX12_digest_155 : decode cX12_digest 155 = .ok (.istore 4, 2) := by decide +kernel
theorem dX12_digest_157 : decode cX12_digest 157 = .ok (.iload 4, 2) := by decide +kernel
theorem dX12_digest_159 : decode cX12_digest 159 = .ok (.iconst 3, 1) := by decide +kernel
theorem dX12_digest_160 : decode cX12_digest 160 = .ok (.if_icmp .ge 24, 3) := by decide +kernel
theorem dX12_digest_163 : decode cX12_digest 163 = .ok (.ldc2_w 313, 3) := by decide +kernel
theorem dX12_digest_166 : decode cX12_digest 166 = .ok (.lload_n 1, 1) := by decide +kernel
theorem dX12_digest_167 : decode cX12_digest 167 = .ok (.lmul, 1) := by decide +kernel
theorem dX12_digest_168 : decode cX12_digest 168 = .ok (.aload_n 0, 1) := by decide +kernel
theorem dX12_digest_169 : decode cX12_digest 169 = .ok (.iload_n 3, 1) := by decide +kernel
theorem dX12_digest_170 : decode cX12_digest 170 = .ok (.iload 4, 2) := by decide +kernel
theorem dX12_digest_172 : decode cX12_digest 172 = .ok (.invokevirtual 183, 3) := by decide +kernel
theorem dX12_digest_175 : decode cX12_digest 175 = .ok (.i2l, 1) := by decide +kernel
theorem dX12_digest_176 : decode cX12_digest 176 = .ok (.ladd, 1) := by decide +kernel
theorem dX12_digest_177 : decode cX12_digest 177 = .ok (.lstore_n 1, 1) := by decide +kernel
theorem dX12_digest_178 : decode cX12_digest 178 = .ok (.iinc 4 1, 3) := by decide +kernel
theorem dX12_digest_181 : decode cX12_digest 181 = .ok (.goto (-24), 3) := by decide +kernel
theorem dX12_digest_184 : decode cX12_digest 184 = .ok (.iinc 3 1, 3) := by decide +kernel
theorem dX12_digest_187 : decode cX12_digest 187 = .ok (.goto (-41), 3) := by decide +kernel
theorem dX12_digest_190 : decode cX12_digest 190 = .ok (.iconst 0, 1) := by decide +kernel
theorem dX12_digest_191 : decode cX12_digest 191 = .ok (.istore_n 3, 1) := by decide +kernel
theorem dX12_digest_192 : decode cX12_digest 192 = .ok (.iload_n 3, 1) := by decide +kernel
theorem dX12_digest_193 : decode cX12_digest 193 = .ok (.aload_n 0, 1) := by decide +kernel
theorem dX12_digest_194 : decode cX12_digest 194 = .ok (.getfield 195, 3) := by decide +kernel
theorem dX12_digest_197 : decode cX12_digest 197 = .ok (.if_icmp .ge 22, 3) := by decide +kernel
theorem dX12_digest_200 : decode cX12_digest 200 = .ok (.ldc2_w 313, 3) := by decide +kernel
theorem dX12_digest_203 : decode cX12_digest 203 = .ok (.lload_n 1, 1) := by decide +kernel
theorem dX12_digest_204 : decode cX12_digest 204 = .ok (.lmul, 1) := by decide +kernel
theorem dX12_digest_205 : decode cX12_digest 205 = .ok (.aload_n 0, 1) := by decide +kernel
theorem dX12_digest_206 : decode cX12_digest 206 = .ok (.iload_n 3, 1) := by decide +kernel
theorem dX12_digest_207 : decode cX12_digest 207 = .ok (.invokevirtual 201, 3) := by decide +kernel
theorem dX12_digest_210 : decode cX12_digest 210 = .ok (.i2l, 1) := by decide +kernel
theorem dX12_digest_211 : decode cX12_digest 211 = .ok (.ladd, 1) := by decide +kernel
theorem dX12_digest_212 : decode cX12_digest 212 = .ok (.lstore_n 1, 1) := by decide +kernel
theorem dX12_digest_213 : decode cX12_digest 213 = .ok (.iinc 3 1, 3) := by decide +kernel
theorem dX12_digest_216 : decode cX12_digest 216 = .ok (.goto (-24), 3) := by decide +kernel
theorem dX12_digest_219 : decode cX12_digest 219 = .ok (.iconst 0, 1) := by decide +kernel
theorem dX12_digest_220 : decode cX12_digest 220 = .ok (.istore_n 3, 1) := by decide +kernel
theorem dX12_digest_221 : decode cX12_digest 221 = .ok (.iload_n 3, 1) := by decide +kernel
theorem dX12_digest_222 : decode cX12_digest 222 = .ok (.bipush 6, 2) := by decide +kernel
theorem dX12_digest_224 : decode cX12_digest 224 = .ok (.if_icmp .ge 23, 3) := by decide +kernel
theorem dX12_digest_227 : decode cX12_digest 227 = .ok (.ldc2_w 313, 3) := by decide +kernel
theorem dX12_digest_230 : decode cX12_digest 230 = .ok (.lload_n 1, 1) := by decide +kernel
theorem dX12_digest_231 : decode cX12_digest 231 = .ok (.lmul, 1) := by decide +kernel
theorem dX12_digest_232 : decode cX12_digest 232 = .ok (.aload_n 0, 1) := by decide +kernel
theorem dX12_digest_233 : decode cX12_digest 233 = .ok (.iconst 0, 1) := by decide +kernel
theorem dX12_digest_234 : decode cX12_digest 234 = .ok (.iload_n 3, 1) := by decide +kernel
theorem dX12_digest_235 : decode cX12_digest 235 = .ok (.invokevirtual 240, 3) := by decide +kernel
theorem dX12_digest_238 : decode cX12_digest 238 = .ok (.i2l, 1) := by decide +kernel
theorem dX12_digest_239 : decode cX12_digest 239 = .ok (.ladd, 1) := by decide +kernel
theorem dX12_digest_240 : decode cX12_digest 240 = .ok (.lstore_n 1, 1) := by decide +kernel
theorem dX12_digest_241 : decode cX12_digest 241 = .ok (.iinc 3 1, 3) := by decide +kernel
theorem dX12_digest_244 : decode cX12_digest 244 = .ok (.goto (-23), 3) := by decide +kernel
theorem dX12_digest_247 : decode cX12_digest 247 = .ok (.iconst 0, 1) := by decide +kernel
theorem dX12_digest_248 : decode cX12_digest 248 = .ok (.istore_n 3, 1) := by decide +kernel
theorem dX12_digest_249 : decode cX12_digest 249 = .ok (.iload_n 3, 1) := by decide +kernel
theorem dX12_digest_250 : decode cX12_digest 250 = .ok (.iconst 3, 1) := by decide +kernel
theorem dX12_digest_251 : decode cX12_digest 251 = .ok (.if_icmp .ge 23, 3) := by decide +kernel
theorem dX12_digest_254 : decode cX12_digest 254 = .ok (.ldc2_w 313, 3) := by decide +kernel
theorem dX12_digest_257 : decode cX12_digest 257 = .ok (.lload_n 1, 1) := by decide +kernel
theorem dX12_digest_258 : decode cX12_digest 258 = .ok (.lmul, 1) := by decide +kernel
theorem dX12_digest_259 : decode cX12_digest 259 = .ok (.aload_n 0, 1) := by decide +kernel
theorem dX12_digest_260 : decode cX12_digest 260 = .ok (.iconst 4, 1) := by decide +kernel
theorem dX12_digest_261 : decode cX12_digest 261 = .ok (.iload_n 3, 1) := by decide +kernel
theorem dX12_digest_262 : decode cX12_digest 262 = .ok (.invokevirtual 240, 3) := by decide +kernel
theorem dX12_digest_265 : decode cX12_digest 265 = .ok (.i2l, 1) := by decide +kernel
theorem dX12_digest_266 : decode cX12_digest 266 = .ok (.ladd, 1) := by decide +kernel
theorem dX12_digest_267 : decode cX12_digest 267 = .ok (.lstore_n 1, 1) := by decide +kernel
theorem dX12_digest_268 : decode cX12_digest 268 = .ok (.iinc 3 1, 3) := by decide +kernel
theorem dX12_digest_271 : decode cX12_digest 271 = .ok (.goto (-22), 3) := by decide +kernel
theorem dX12_digest_274 : decode cX12_digest 274 = .ok (.ldc2_w 313, 3) := by decide +kernel
theorem dX12_digest_277 : decode cX12_digest 277 = .ok (.lload_n 1, 1) := by decide +kernel
theorem dX12_digest_278 : decode cX12_digest 278 = .ok (.lmul, 1) := by decide +kernel
theorem dX12_digest_279 : decode cX12_digest 279 = .ok (.aload_n 0, 1) := by decide +kernel
theorem dX12_digest_280 : decode cX12_digest 280 = .ok (.invokevirtual 243, 3) := by decide +kernel
theorem dX12_digest_283 : decode cX12_digest 283 = .ok (.i2l, 1) := by decide +kernel
theorem dX12_digest_284 : decode cX12_digest 284 = .ok (.ladd, 1) := by decide +kernel
theorem dX12_digest_285 : decode cX12_digest 285 = .ok (.lstore_n 1, 1) := by decide +kernel
theorem dX12_digest_286 : decode cX12_digest 286 = .ok (.iconst 0, 1) := by decide +kernel
theorem dX12_digest_287 : decode cX12_digest 287 = .ok (.istore_n 3, 1) := by decide +kernel
theorem dX12_digest_288 : decode cX12_digest 288 = .ok (.iload_n 3, 1) := by decide +kernel
theorem dX12_digest_289 : decode cX12_digest 289 = .ok (.aload_n 0, 1) := by decide +kernel
theorem dX12_digest_290 : decode cX12_digest 290 = .ok (.getfield 251, 3) := by decide +kernel
theorem dX12_digest_293 : decode cX12_digest 293 = .ok (.if_icmp .ge 22, 3) := by decide +kernel
theorem dX12_digest_296 : decode cX12_digest 296 = .ok (.ldc2_w 313, 3) := by decide +kernel
theorem dX12_digest_299 : decode cX12_digest 299 = .ok (.lload_n 1, 1) := by decide +kernel
theorem dX12_digest_300 : decode cX12_digest 300 = .ok (.lmul, 1) := by decide +kernel
theorem dX12_digest_301 : decode cX12_digest 301 = .ok (.aload_n 0, 1) := by decide +kernel
theorem dX12_digest_302 : decode cX12_digest 302 = .ok (.iload_n 3, 1) := by decide +kernel
theorem dX12_digest_303 : decode cX12_digest 303 = .ok (.invokevirtual 266, 3) := by decide +kernel
theorem dX12_digest_306 : decode cX12_digest 306 = .ok (.i2l, 1) := by decide +kernel
theorem dX12_digest_307 : decode cX12_digest 307 = .ok (.ladd, 1) := by decide +kernel
theorem dX12_digest_308 : decode cX12_digest 308 = .ok (.lstore_n 1, 1) := by decide +kernel
theorem dX12_digest_309 : decode cX12_digest 309 = .ok (.iinc 3 1, 3) := by decide +kernel
theorem dX12_digest_312 : decode cX12_digest 312 = .ok (.goto (-24), 3) := by decide +kernel
theorem dX12_digest_315 : decode cX12_digest 315 = .ok (.ldc2_w 313, 3) := by decide +kernel
theorem dX12_digest_318 : decode cX12_digest 318 = .ok (.lload_n 1, 1) := by decide +kernel
theorem dX12_digest_319 : decode cX12_digest 319 = .ok (.lmul, 1) := by decide +kernel
theorem dX12_digest_320 : decode cX12_digest 320 = .ok (.aload_n 0, 1) := by decide +kernel
theorem dX12_digest_321 : decode cX12_digest 321 = .ok (.invokevirtual 272, 3) := by decide +kernel
theorem dX12_digest_324 : decode cX12_digest 324 = .ok (.i2l, 1) := by decide +kernel
theorem dX12_digest_325 : decode cX12_digest 325 = .ok (.ladd, 1) := by decide +kernel
theorem dX12_digest_326 : decode cX12_digest 326 = .ok (.lstore_n 1, 1) := by decide +kernel
theorem dX12_digest_327 : decode cX12_digest 327 = .ok (.iconst 0, 1) := by decide +kernel
theorem dX12_digest_328 : decode cX12_digest 328 = .ok (.istore_n 3, 1) := by decide +kernel
theorem dX12_digest_329 : decode cX12_digest 329 = .ok (.iload_n 3, 1) := by decide +kernel
theorem dX12_digest_330 : decode cX12_digest 330 = .ok (.iconst 5, 1) := by decide +kernel
theorem dX12_digest_331 : decode cX12_digest 331 = .ok (.if_icmp .ge 22, 3) := by decide +kernel
theorem dX12_digest_334 : decode cX12_digest 334 = .ok (.ldc2_w 313, 3) := by decide +kernel
theorem dX12_digest_337 : decode cX12_digest 337 = .ok (.lload_n 1, 1) := by decide +kernel
theorem dX12_digest_338 : decode cX12_digest 338 = .ok (.lmul, 1) := by decide +kernel
theorem dX12_digest_339 : decode cX12_digest 339 = .ok (.aload_n 0, 1) := by decide +kernel
theorem dX12_digest_340 : decode cX12_digest 340 = .ok (.iload_n 3, 1) := by decide +kernel
theorem dX12_digest_341 : decode cX12_digest 341 = .ok (.invokevirtual 294, 3) := by decide +kernel
theorem dX12_digest_344 : decode cX12_digest 344 = .ok (.i2l, 1) := by decide +kernel
theorem dX12_digest_345 : decode cX12_digest 345 = .ok (.ladd, 1) := by decide +kernel
theorem dX12_digest_346 : decode cX12_digest 346 = .ok (.lstore_n 1, 1) := by decide +kernel
theorem dX12_digest_347 : decode cX12_digest 347 = .ok (.iinc 3 1, 3) := by decide +kernel
theorem dX12_digest_350 : decode cX12_digest 350 = .ok (.goto (-21), 3) := by decide +kernel
theorem dX12_digest_353 : decode cX12_digest 353 = .ok (.lload_n 1, 1) := by decide +kernel
theorem dX12_digest_354 : decode cX12_digest 354 = .ok (.lreturn, 1) := by decide +kernel
end
section
theorem dL_law_0 : decode cL_law 0 = .ok (.new 7, 3) := by decide +kernel
theorem dL_law_3 : decode cL_law 3 = .ok (.dup, 1) := by decide +kernel
theorem dL_law_4 : decode cL_law 4 = .ok (.invokespecial 9, 3) := by decide +kernel
theorem dL_law_7 : decode cL_law 7 = .ok (.astore_n 1, 1) := by decide +kernel
theorem dL_law_8 : decode cL_law 8 = .ok (.new 10, 3) := by decide +kernel
theorem dL_law_11 : decode cL_law 11 = .ok (.dup, 1) := by decide +kernel
theorem dL_law_12 : decode cL_law 12 = .ok (.invokespecial 12, 3) := by decide +kernel
theorem dL_law_15 : decode cL_law 15 = .ok (.astore_n 2, 1) := by decide +kernel
theorem dL_law_16 : decode cL_law 16 = .ok (.iconst 0, 1) := by decide +kernel
theorem dL_law_17 : decode cL_law 17 = .ok (.istore_n 3, 1) := by decide +kernel
theorem dL_law_18 : decode cL_law 18 = .ok (.iload_n 3, 1) := by decide +kernel
theorem dL_law_19 : decode cL_law 19 = .ok (.aload_n 0, 1) := by decide +kernel
theorem dL_law_20 : decode cL_law 20 = .ok (.arraylength, 1) := by decide +kernel
theorem dL_law_21 : decode cL_law 21 = .ok (.bipush 6, 2) := by decide +kernel
theorem dL_law_23 : decode cL_law 23 = .ok (.isub, 1) := by decide +kernel
theorem dL_law_24 : decode cL_law 24 = .ok (.if_icmp .gt 1557, 3) := by decide +kernel
theorem dL_law_27 : decode cL_law 27 = .ok (.aload_n 0, 1) := by decide +kernel
theorem dL_law_28 : decode cL_law 28 = .ok (.iload_n 3, 1) := by decide +kernel
theorem dL_law_29 : decode cL_law 29 = .ok (.iaload, 1) := by decide +kernel
theorem dL_law_30 : decode cL_law 30 = .ok (.bipush 63, 2) := by decide +kernel
theorem dL_law_32 : decode cL_law 32 = .ok (.iand, 1) := by decide +kernel
theorem dL_law_33 : decode cL_law 33 = .ok (.tableswitch 1542 0 39 #[175, 238, 291, 324, 347, 390, 434, 488, 532, 565, 598, 642, 665, 688, 731, 754, 798, 821, 834, 847, 880, 913, 926, 959, 1012, 1035, 1048, 1091, 1135, 1168, 1181, 1214, 1237, 1280, 1303, 1356, 1399, 1462, 1505, 1528], 175) := by decide +kernel
theorem dL_law_208 : decode cL_law 208 = .ok (.aload_n 1, 1) := by decide +kernel
theorem dL_law_209 : decode cL_law 209 = .ok (.aload_n 0, 1) := by decide +kernel
theorem dL_law_210 : decode cL_law 210 = .ok (.iload_n 3, 1) := by decide +kernel
theorem dL_law_211 : decode cL_law 211 = .ok (.iconst 1, 1) := by decide +kernel
theorem dL_law_212 : decode cL_law 212 = .ok (.iadd, 1) := by decide +kernel
theorem dL_law_213 : decode cL_law 213 = .ok (.iaload, 1) := by decide +kernel
theorem dL_law_214 : decode cL_law 214 = .ok (.aload_n 0, 1) := by decide +kernel
theorem dL_law_215 : decode cL_law 215 = .ok (.iload_n 3, 1) := by decide +kernel
theorem dL_law_216 : decode cL_law 216 = .ok (.iconst 2, 1) := by decide +kernel
theorem dL_law_217 : decode cL_law 217 = .ok (.iadd, 1) := by decide +kernel
theorem dL_law_218 : decode cL_law 218 = .ok (.iaload, 1) := by decide +kernel
theorem dL_law_219 : decode cL_law 219 = .ok (.aload_n 0, 1) := by decide +kernel
theorem dL_law_220 : decode cL_law 220 = .ok (.iload_n 3, 1) := by decide +kernel
theorem dL_law_221 : decode cL_law 221 = .ok (.iconst 3, 1) := by decide +kernel
theorem dL_law_222 : decode cL_law 222 = .ok (.iadd, 1) := by decide +kernel
theorem dL_law_223 : decode cL_law 223 = .ok (.iaload, 1) := by decide +kernel
theorem dL_law_224 : decode cL_law 224 = .ok (.aload_n 0, 1) := by decide +kernel
theorem dL_law_225 : decode cL_law 225 = .ok (.iload_n 3, 1) := by decide +kernel
theorem dL_law_226 : decode cL_law 226 = .ok (.iconst 4, 1) := by decide +kernel
theorem dL_law_227 : decode cL_law 227 = .ok (.iadd, 1) := by decide +kernel
theorem dL_law_228 : decode cL_law 228 = .ok (.iaload, 1) := by decide +kernel
theorem dL_law_229 : decode cL_law 229 = .ok (.aload_n 0, 1) := by decide +kernel
theorem dL_law_230 : decode cL_law 230 = .ok (.iload_n 3, 1) := by decide +kernel
theorem dL_law_231 : decode cL_law 231 = .ok (.iconst 5, 1) := by decide +kernel
theorem dL_law_232 : decode cL_law 232 = .ok (.iadd, 1) := by decide +kernel
theorem dL_law_233 : decode cL_law 233 = .ok (.iaload, 1) := by decide +kernel
theorem dL_law_234 : decode cL_law 234 = .ok (.invokevirtual 13, 3) := by decide +kernel
theorem dL_law_237 : decode cL_law 237 = .ok (.aload_n 2, 1) := by decide +kernel
theorem dL_law_238 : decode cL_law 238 = .ok (.aload_n 0, 1) := by decide +kernel
theorem dL_law_239 : decode cL_law 239 = .ok (.iload_n 3, 1) := by decide +kernel
theorem dL_law_240 : decode cL_law 240 = .ok (.iconst 1, 1) := by decide +kernel
theorem dL_law_241 : decode cL_law 241 = .ok (.iadd, 1) := by decide +kernel
theorem dL_law_242 : decode cL_law 242 = .ok (.iaload, 1) := by decide +kernel
theorem dL_law_243 : decode cL_law 243 = .ok (.aload_n 0, 1) := by decide +kernel
theorem dL_law_244 : decode cL_law 244 = .ok (.iload_n 3, 1) := by decide +kernel
theorem dL_law_245 : decode cL_law 245 = .ok (.iconst 2, 1) := by decide +kernel
theorem dL_law_246 : decode cL_law 246 = .ok (.iadd, 1) := by decide +kernel
theorem dL_law_247 : decode cL_law 247 = .ok (.iaload, 1) := by decide +kernel
theorem dL_law_248 : decode cL_law 248 = .ok (.aload_n 0, 1) := by decide +kernel
theorem dL_law_249 : decode cL_law 249 = .ok (.iload_n 3, 1) := by decide +kernel
theorem dL_law_250 : decode cL_law 250 = .ok (.iconst 3, 1) := by decide +kernel
theorem dL_law_251 : decode cL_law 251 = .ok (.iadd, 1) := by decide +kernel
theorem dL_law_252 : decode cL_law 252 = .ok (.iaload, 1) := by decide +kernel
theorem dL_law_253 : decode cL_law 253 = .ok (.aload_n 0, 1) := by decide +kernel
theorem dL_law_254 : decode cL_law 254 = .ok (.iload_n 3, 1) := by decide +kernel
theorem dL_law_255 : decode cL_law 255 = .ok (.iconst 4, 1) := by decide +kernel
theorem dL_law_256 : decode cL_law 256 = .ok (.iadd, 1) := by decide +kernel
theorem dL_law_257 : decode cL_law 257 = .ok (.iaload, 1) := by decide +kernel
theorem dL_law_258 : decode cL_law 258 = .ok (.aload_n 0, 1) := by decide +kernel
theorem dL_law_259 : decode cL_law 259 = .ok (.iload_n 3, 1) := by decide +kernel
theorem dL_law_260 : decode cL_law 260 = .ok (.iconst 5, 1) := by decide +kernel
theorem dL_law_261 : decode cL_law 261 = .ok (.iadd, 1) := by decide +kernel
theorem dL_law_262 : decode cL_law 262 = .ok (.iaload, 1) := by decide +kernel
theorem dL_law_263 : decode cL_law 263 = .ok (.invokevirtual 17, 3) := by decide +kernel
theorem dL_law_266 : decode cL_law 266 = .ok (.if_icmp .eq 1309, 3) := by decide +kernel
theorem dL_law_269 : decode cL_law 269 = .ok (.iconst 0, 1) := by decide +kernel
theorem dL_law_270 : decode cL_law 270 = .ok (.ireturn, 1) := by decide +kernel
theorem dL_law_271 : decode cL_law 271 = .ok (.aload_n 1, 1) := by decide +kernel
theorem dL_law_272 : decode cL_law 272 = .ok (.aload_n 0, 1) := by decide +kernel
theorem dL_law_273 : decode cL_law 273 = .ok (.iload_n 3, 1) := by decide +kernel
theorem dL_law_274 : decode cL_law 274 = .ok (.iconst 1, 1) := by decide +kernel
theorem dL_law_275 : decode cL_law 275 = .ok (.iadd, 1) := by decide +kernel
theorem dL_law_276 : decode cL_law 276 = .ok (.iaload, 1) := by decide +kernel
theorem dL_law_277 : decode cL_law 277 = .ok (.aload_n 0, 1) := by decide +kernel
theorem dL_law_278 : decode cL_law 278 = .ok (.iload_n 3, 1) := by decide +kernel
theorem dL_law_279 : decode cL_law 279 = .ok (.iconst 2, 1) := by decide +kernel
theorem dL_law_280 : decode cL_law 280 = .ok (.iadd, 1) := by decide +kernel
theorem dL_law_281 : decode cL_law 281 = .ok (.iaload, 1) := by decide +kernel
theorem dL_law_282 : decode cL_law 282 = .ok (.aload_n 0, 1) := by decide +kernel
theorem dL_law_283 : decode cL_law 283 = .ok (.iload_n 3, 1) := by decide +kernel
theorem dL_law_284 : decode cL_law 284 = .ok (.iconst 3, 1) := by decide +kernel
theorem dL_law_285 : decode cL_law 285 = .ok (.iadd, 1) := by decide +kernel
theorem dL_law_286 : decode cL_law 286 = .ok (.iaload, 1) := by decide +kernel
theorem dL_law_287 : decode cL_law 287 = .ok (.aload_n 0, 1) := by decide +kernel
theorem dL_law_288 : decode cL_law 288 = .ok (.iload_n 3, 1) := by decide +kernel
theorem dL_law_289 : decode cL_law 289 = .ok (.iconst 4, 1) := by decide +kernel
theorem dL_law_290 : decode cL_law 290 = .ok (.iadd, 1) := by decide +kernel
theorem dL_law_291 : decode cL_law 291 = .ok (.iaload, 1) := by decide +kernel
theorem dL_law_292 : decode cL_law 292 = .ok (.invokevirtual 18, 3) := by decide +kernel
theorem dL_law_295 : decode cL_law 295 = .ok (.aload_n 2, 1) := by decide +kernel
theorem dL_law_296 : decode cL_law 296 = .ok (.aload_n 0, 1) := by decide +kernel
theorem dL_law_297 : decode cL_law 297 = .ok (.iload_n 3, 1) := by decide +kernel
theorem dL_law_298 : decode cL_law 298 = .ok (.iconst 1, 1) := by decide +kernel
theorem dL_law_299 : decode cL_law 299 = .ok (.iadd, 1) := by decide +kernel
theorem dL_law_300 : decode cL_law 300 = .ok (.iaload, 1) := by decide +kernel
theorem dL_law_301 : decode cL_law 301 = .ok (.aload_n 0, 1) := by decide +kernel
theorem dL_law_302 : decode cL_law 302 = .ok (.iload_n 3, 1) := by decide +kernel
theorem dL_law_303 : decode cL_law 303 = .ok (.iconst 2, 1) := by decide +kernel
theorem dL_law_304 : decode cL_law 304 = .ok (.iadd, 1) := by decide +kernel
theorem dL_law_305 : decode cL_law 305 = .ok (.iaload, 1) := by decide +kernel
theorem dL_law_306 : decode cL_law 306 = .ok (.aload_n 0, 1) := by decide +kernel
theorem dL_law_307 : decode cL_law 307 = .ok (.iload_n 3, 1) := by decide +kernel
theorem dL_law_308 : decode cL_law 308 = .ok (.iconst 3, 1) := by decide +kernel
theorem dL_law_309 : decode cL_law 309 = .ok (.iadd, 1) := by decide +kernel
theorem dL_law_310 : decode cL_law 310 = .ok (.iaload, 1) := by decide +kernel
theorem dL_law_311 : decode cL_law 311 = .ok (.aload_n 0, 1) := by decide +kernel
theorem dL_law_312 : decode cL_law 312 = .ok (.iload_n 3, 1) := by decide +kernel
theorem dL_law_313 : decode cL_law 313 = .ok (.iconst 4, 1) := by decide +kernel
theorem dL_law_314 : decode cL_law 314 = .ok (.iadd, 1) := by decide +kernel
theorem dL_law_315 : decode cL_law 315 = .ok (.iaload, 1) := by decide +kernel
theorem dL_law_316 : decode cL_law 316 = .ok (.invokevirtual 22, 3) := by decide +kernel
theorem dL_law_319 : decode cL_law 319 = .ok (.if_icmp .eq 1256, 3) := by decide +kernel
theorem dL_law_322 : decode cL_law 322 = .ok (.iconst 0, 1) := by decide +kernel
theorem dL_law_323 : decode cL_law 323 = .ok (.ireturn, 1) := by decide +kernel
theorem dL_law_324 : decode cL_law 324 = .ok (.aload_n 1, 1) := by decide +kernel
theorem dL_law_325 : decode cL_law 325 = .ok (.aload_n 0, 1) := by decide +kernel
theorem dL_law_326 : decode cL_law 326 = .ok (.iload_n 3, 1) := by decide +kernel
theorem dL_law_327 : decode cL_law 327 = .ok (.iconst 1, 1) := by decide +kernel
theorem dL_law_328 : decode cL_law 328 = .ok (.iadd, 1) := by decide +kernel
theorem dL_law_329 : decode cL_law 329 = .ok (.iaload, 1) := by decide +kernel
theorem dL_law_330 : decode cL_law 330 = .ok (.aload_n 0, 1) := by decide +kernel
theorem dL_law_331 : decode cL_law 331 = .ok (.iload_n 3, 1) := by decide +kernel
theorem dL_law_332 : decode cL_law 332 = .ok (.iconst 2, 1) := by decide +kernel
theorem dL_law_333 : decode cL_law 333 = .ok (.iadd, 1) := by decide +kernel
theorem dL_law_334 : decode cL_law 334 = .ok (.iaload, 1) := by decide +kernel
theorem dL_law_335 : decode cL_law 335 = .ok (.invokevirtual 23, 3) := by decide +kernel
theorem dL_law_338 : decode cL_law 338 = .ok (.aload_n 2, 1) := by decide +kernel
theorem dL_law_339 : decode cL_law 339 = .ok (.aload_n 0, 1) := by decide +kernel
theorem dL_law_340 : decode cL_law 340 = .ok (.iload_n 3, 1) := by decide +kernel
theorem dL_law_341 : decode cL_law 341 = .ok (.iconst 1, 1) := by decide +kernel
theorem dL_law_342 : decode cL_law 342 = .ok (.iadd, 1) := by decide +kernel
theorem dL_law_343 : decode cL_law 343 = .ok (.iaload, 1) := by decide +kernel
theorem dL_law_344 : decode cL_law 344 = .ok (.aload_n 0, 1) := by decide +kernel
theorem dL_law_345 : decode cL_law 345 = .ok (.iload_n 3, 1) := by decide +kernel
theorem dL_law_346 : decode cL_law 346 = .ok (.iconst 2, 1) := by decide +kernel
theorem dL_law_347 : decode cL_law 347 = .ok (.iadd, 1) := by decide +kernel
theorem dL_law_348 : decode cL_law 348 = .ok (.iaload, 1) := by decide +kernel
theorem dL_law_349 : decode cL_law 349 = .ok (.invokevirtual 27, 3) := by decide +kernel
theorem dL_law_352 : decode cL_law 352 = .ok (.if_icmp .eq 1223, 3) := by decide +kernel
theorem dL_law_355 : decode cL_law 355 = .ok (.iconst 0, 1) := by decide +kernel
theorem dL_law_356 : decode cL_law 356 = .ok (.ireturn, 1) := by decide +kernel
theorem dL_law_357 : decode cL_law 357 = .ok (.aload_n 1, 1) := by decide +kernel
theorem dL_law_358 : decode cL_law 358 = .ok (.aload_n 0, 1) := by decide +kernel
theorem dL_law_359 : decode cL_law 359 = .ok (.iload_n 3, 1) := by decide +kernel
theorem dL_law_360 : decode cL_law 360 = .ok (.iconst 1, 1) := by decide +kernel
theorem dL_law_361 : decode cL_law 361 = .ok (.iadd, 1) := by decide +kernel
theorem dL_law_362 : decode cL_law 362 = .ok (.iaload, 1) := by decide +kernel
theorem dL_law_363 : decode cL_law 363 = .ok (.invokevirtual 28, 3) := by decide +kernel
theorem dL_law_366 : decode cL_law 366 = .ok (.aload_n 2, 1) := by decide +kernel
theorem dL_law_367 : decode cL_law 367 = .ok (.aload_n 0, 1) := by decide +kernel
theorem dL_law_368 : decode cL_law 368 = .ok (.iload_n 3, 1) := by decide +kernel
theorem dL_law_369 : decode cL_law 369 = .ok (.iconst 1, 1) := by decide +kernel
theorem dL_law_370 : decode cL_law 370 = .ok (.iadd, 1) := by decide +kernel
theorem dL_law_371 : decode cL_law 371 = .ok (.iaload, 1) := by decide +kernel
theorem dL_law_372 : decode cL_law 372 = .ok (.invokevirtual 32, 3) := by decide +kernel
theorem dL_law_375 : decode cL_law 375 = .ok (.if_icmp .eq 1200, 3) := by decide +kernel
theorem dL_law_378 : decode cL_law 378 = .ok (.iconst 0, 1) := by decide +kernel
theorem dL_law_379 : decode cL_law 379 = .ok (.ireturn, 1) := by decide +kernel
theorem dL_law_380 : decode cL_law 380 = .ok (.aload_n 1, 1) := by decide +kernel
theorem dL_law_381 : decode cL_law 381 = .ok (.aload_n 0, 1) := by decide +kernel
theorem dL_law_382 : decode cL_law 382 = .ok (.iload_n 3, 1) := by decide +kernel
theorem dL_law_383 : decode cL_law 383 = .ok (.iconst 1, 1) := by decide +kernel
theorem dL_law_384 : decode cL_law 384 = .ok (.iadd, 1) := by decide +kernel
theorem dL_law_385 : decode cL_law 385 = .ok (.iaload, 1) := by decide +kernel
theorem dL_law_386 : decode cL_law 386 = .ok (.aload_n 0, 1) := by decide +kernel
theorem dL_law_387 : decode cL_law 387 = .ok (.iload_n 3, 1) := by decide +kernel
theorem dL_law_388 : decode cL_law 388 = .ok (.iconst 2, 1) := by decide +kernel
theorem dL_law_389 : decode cL_law 389 = .ok (.iadd, 1) := by decide +kernel
theorem dL_law_390 : decode cL_law 390 = .ok (.iaload, 1) := by decide +kernel
theorem dL_law_391 : decode cL_law 391 = .ok (.aload_n 0, 1) := by decide +kernel
theorem dL_law_392 : decode cL_law 392 = .ok (.iload_n 3, 1) := by decide +kernel
theorem dL_law_393 : decode cL_law 393 = .ok (.iconst 3, 1) := by decide +kernel
theorem dL_law_394 : decode cL_law 394 = .ok (.iadd, 1) := by decide +kernel
theorem dL_law_395 : decode cL_law 395 = .ok (.iaload, 1) := by decide +kernel
theorem dL_law_396 : decode cL_law 396 = .ok (.invokevirtual 33, 3) := by decide +kernel
theorem dL_law_399 : decode cL_law 399 = .ok (.aload_n 2, 1) := by decide +kernel
theorem dL_law_400 : decode cL_law 400 = .ok (.aload_n 0, 1) := by decide +kernel
theorem dL_law_401 : decode cL_law 401 = .ok (.iload_n 3, 1) := by decide +kernel
theorem dL_law_402 : decode cL_law 402 = .ok (.iconst 1, 1) := by decide +kernel
theorem dL_law_403 : decode cL_law 403 = .ok (.iadd, 1) := by decide +kernel
theorem dL_law_404 : decode cL_law 404 = .ok (.iaload, 1) := by decide +kernel
theorem dL_law_405 : decode cL_law 405 = .ok (.aload_n 0, 1) := by decide +kernel
theorem dL_law_406 : decode cL_law 406 = .ok (.iload_n 3, 1) := by decide +kernel
theorem dL_law_407 : decode cL_law 407 = .ok (.iconst 2, 1) := by decide +kernel
theorem dL_law_408 : decode cL_law 408 = .ok (.iadd, 1) := by decide +kernel
theorem dL_law_409 : decode cL_law 409 = .ok (.iaload, 1) := by decide +kernel
theorem dL_law_410 : decode cL_law 410 = .ok (.aload_n 0, 1) := by decide +kernel
theorem dL_law_411 : decode cL_law 411 = .ok (.iload_n 3, 1) := by decide +kernel
theorem dL_law_412 : decode cL_law 412 = .ok (.iconst 3, 1) := by decide +kernel
theorem dL_law_413 : decode cL_law 413 = .ok (.iadd, 1) := by decide +kernel
theorem dL_law_414 : decode cL_law 414 = .ok (.iaload, 1) := by decide +kernel
theorem dL_law_415 : decode cL_law 415 = .ok (.invokevirtual 37, 3) := by decide +kernel
theorem dL_law_418 : decode cL_law 418 = .ok (.if_icmp .eq 1157, 3) := by decide +kernel
theorem dL_law_421 : decode cL_law 421 = .ok (.iconst 0, 1) := by decide +kernel
theorem dL_law_422 : decode cL_law 422 = .ok (.ireturn, 1) := by decide +kernel
theorem dL_law_423 : decode cL_law 423 = .ok (.aload_n 1, 1) := by decide +kernel
theorem dL_law_424 : decode cL_law 424 = .ok (.aload_n 0, 1) := by decide +kernel
theorem dL_law_425 : decode cL_law 425 = .ok (.iload_n 3, 1) := by decide +kernel
theorem dL_law_426 : decode cL_law 426 = .ok (.iconst 1, 1) := by decide +kernel
theorem dL_law_427 : decode cL_law 427 = .ok (.iadd, 1) := by decide +kernel
theorem dL_law_428 : decode cL_law 428 = .ok (.iaload, 1) := by decide +kernel
theorem dL_law_429 : decode cL_law 429 = .ok (.aload_n 0, 1) := by decide +kernel
theorem dL_law_430 : decode cL_law 430 = .ok (.iload_n 3, 1) := by decide +kernel
theorem dL_law_431 : decode cL_law 431 = .ok (.iconst 2, 1) := by decide +kernel
theorem dL_law_432 : decode cL_law 432 = .ok (.iadd, 1) := by decide +kernel
theorem dL_law_433 : decode cL_law 433 = .ok (.iaload, 1) := by decide +kernel
theorem dL_law_434 : decode cL_law 434 = .ok (.aload_n 0, 1) := by decide +kernel
theorem dL_law_435 : decode cL_law 435 = .ok (.iload_n 3, 1) := by decide +kernel
theorem dL_law_436 : decode cL_law 436 = .ok (.iconst 3, 1) := by decide +kernel
theorem dL_law_437 : decode cL_law 437 = .ok (.iadd, 1) := by decide +kernel
theorem dL_law_438 : decode cL_law 438 = .ok (.iaload, 1) := by decide +kernel
theorem dL_law_439 : decode cL_law 439 = .ok (.invokevirtual 38, 3) := by decide +kernel
theorem dL_law_442 : decode cL_law 442 = .ok (.aload_n 2, 1) := by decide +kernel
theorem dL_law_443 : decode cL_law 443 = .ok (.aload_n 0, 1) := by decide +kernel
theorem dL_law_444 : decode cL_law 444 = .ok (.iload_n 3, 1) := by decide +kernel
theorem dL_law_445 : decode cL_law 445 = .ok (.iconst 1, 1) := by decide +kernel
theorem dL_law_446 : decode cL_law 446 = .ok (.iadd, 1) := by decide +kernel
theorem dL_law_447 : decode cL_law 447 = .ok (.iaload, 1) := by decide +kernel
theorem dL_law_448 : decode cL_law 448 = .ok (.aload_n 0, 1) := by decide +kernel
theorem dL_law_449 : decode cL_law 449 = .ok (.iload_n 3, 1) := by decide +kernel
theorem dL_law_450 : decode cL_law 450 = .ok (.iconst 2, 1) := by decide +kernel
theorem dL_law_451 : decode cL_law 451 = .ok (.iadd, 1) := by decide +kernel
theorem dL_law_452 : decode cL_law 452 = .ok (.iaload, 1) := by decide +kernel
theorem dL_law_453 : decode cL_law 453 = .ok (.aload_n 0, 1) := by decide +kernel
theorem dL_law_454 : decode cL_law 454 = .ok (.iload_n 3, 1) := by decide +kernel
theorem dL_law_455 : decode cL_law 455 = .ok (.iconst 3, 1) := by decide +kernel
theorem dL_law_456 : decode cL_law 456 = .ok (.iadd, 1) := by decide +kernel
theorem dL_law_457 : decode cL_law 457 = .ok (.iaload, 1) := by decide +kernel
theorem dL_law_458 : decode cL_law 458 = .ok (.invokevirtual 42, 3) := by decide +kernel
theorem dL_law_461 : decode cL_law 461 = .ok (.lcmp, 1) := by decide +kernel
theorem dL_law_462 : decode cL_law 462 = .ok (.ifCond .eq 1113, 3) := by decide +kernel
theorem dL_law_465 : decode cL_law 465 = .ok (.iconst 0, 1) := by decide +kernel
theorem dL_law_466 : decode cL_law 466 = .ok (.ireturn, 1) := by decide +kernel
theorem dL_law_467 : decode cL_law 467 = .ok (.aload_n 1, 1) := by decide +kernel
theorem dL_law_468 : decode cL_law 468 = .ok (.aload_n 0, 1) := by decide +kernel
theorem dL_law_469 : decode cL_law 469 = .ok (.iload_n 3, 1) := by decide +kernel
theorem dL_law_470 : decode cL_law 470 = .ok (.iconst 1, 1) := by decide +kernel
theorem dL_law_471 : decode cL_law 471 = .ok (.iadd, 1) := by decide +kernel
theorem dL_law_472 : decode cL_law 472 = .ok (.iaload, 1) := by decide +kernel
theorem dL_law_473 : decode cL_law 473 = .ok (.aload_n 0, 1) := by decide +kernel
theorem dL_law_474 : decode cL_law 474 = .ok (.iload_n 3, 1) := by decide +kernel
theorem dL_law_475 : decode cL_law 475 = .ok (.iconst 2, 1) := by decide +kernel
theorem dL_law_476 : decode cL_law 476 = .ok (.iadd, 1) := by decide +kernel
theorem dL_law_477 : decode cL_law 477 = .ok (.iaload, 1) := by decide +kernel
theorem dL_law_478 : decode cL_law 478 = .ok (.aload_n 0, 1) := by decide +kernel
theorem dL_law_479 : decode cL_law 479 = .ok (.iload_n 3, 1) := by decide +kernel
theorem dL_law_480 : decode cL_law 480 = .ok (.iconst 3, 1) := by decide +kernel
theorem dL_law_481 : decode cL_law 481 = .ok (.iadd, 1) := by decide +kernel
theorem dL_law_482 : decode cL_law 482 = .ok (.iaload, 1) := by decide +kernel
theorem dL_law_483 : decode cL_law 483 = .ok (.aload_n 0, 1) := by decide +kernel
theorem dL_law_484 : decode cL_law 484 = .ok (.iload_n 3, 1) := by decide +kernel
theorem dL_law_485 : decode cL_law 485 = .ok (.iconst 4, 1) := by decide +kernel
theorem dL_law_486 : decode cL_law 486 = .ok (.iadd, 1) := by decide +kernel
theorem dL_law_487 : decode cL_law 487 = .ok (.iaload, 1) := by decide +kernel
theorem dL_law_488 : decode cL_law 488 = .ok (.invokevirtual 43, 3) := by decide +kernel
theorem dL_law_491 : decode cL_law 491 = .ok (.aload_n 2, 1) := by decide +kernel
theorem dL_law_492 : decode cL_law 492 = .ok (.aload_n 0, 1) := by decide +kernel
theorem dL_law_493 : decode cL_law 493 = .ok (.iload_n 3, 1) := by decide +kernel
theorem dL_law_494 : decode cL_law 494 = .ok (.iconst 1, 1) := by decide +kernel
theorem dL_law_495 : decode cL_law 495 = .ok (.iadd, 1) := by decide +kernel
theorem dL_law_496 : decode cL_law 496 = .ok (.iaload, 1) := by decide +kernel
theorem dL_law_497 : decode cL_law 497 = .ok (.aload_n 0, 1) := by decide +kernel
theorem dL_law_498 : decode cL_law 498 = .ok (.iload_n 3, 1) := by decide +kernel
theorem dL_law_499 : decode cL_law 499 = .ok (.iconst 2, 1) := by decide +kernel
theorem dL_law_500 : decode cL_law 500 = .ok (.iadd, 1) := by decide +kernel
theorem dL_law_501 : decode cL_law 501 = .ok (.iaload, 1) := by decide +kernel
theorem dL_law_502 : decode cL_law 502 = .ok (.aload_n 0, 1) := by decide +kernel
theorem dL_law_503 : decode cL_law 503 = .ok (.iload_n 3, 1) := by decide +kernel
theorem dL_law_504 : decode cL_law 504 = .ok (.iconst 3, 1) := by decide +kernel
theorem dL_law_505 : decode cL_law 505 = .ok (.iadd, 1) := by decide +kernel
theorem dL_law_506 : decode cL_law 506 = .ok (.iaload, 1) := by decide +kernel
theorem dL_law_507 : decode cL_law 507 = .ok (.aload_n 0, 1) := by decide +kernel
theorem dL_law_508 : decode cL_law 508 = .ok (.iload_n 3, 1) := by decide +kernel
theorem dL_law_509 : decode cL_law 509 = .ok (.iconst 4, 1) := by decide +kernel
theorem dL_law_510 : decode cL_law 510 = .ok (.iadd, 1) := by decide +kernel
theorem dL_law_511 : decode cL_law 511 = .ok (.iaload, 1) := by decide +kernel
theorem dL_law_512 : decode cL_law 512 = .ok (.invokevirtual 47, 3) := by decide +kernel
theorem dL_law_515 : decode cL_law 515 = .ok (.lcmp, 1) := by decide +kernel
theorem dL_law_516 : decode cL_law 516 = .ok (.ifCond .eq 1059, 3) := by decide +kernel
theorem dL_law_519 : decode cL_law 519 = .ok (.iconst 0, 1) := by decide +kernel
theorem dL_law_520 : decode cL_law 520 = .ok (.ireturn, 1) := by decide +kernel
theorem dL_law_521 : decode cL_law 521 = .ok (.aload_n 1, 1) := by decide +kernel
theorem dL_law_522 : decode cL_law 522 = .ok (.aload_n 0, 1) := by decide +kernel
theorem dL_law_523 : decode cL_law 523 = .ok (.iload_n 3, 1) := by decide +kernel
theorem dL_law_524 : decode cL_law 524 = .ok (.iconst 1, 1) := by decide +kernel
theorem dL_law_525 : decode cL_law 525 = .ok (.iadd, 1) := by decide +kernel
theorem dL_law_526 : decode cL_law 526 = .ok (.iaload, 1) := by decide +kernel
theorem dL_law_527 : decode cL_law 527 = .ok (.aload_n 0, 1) := by decide +kernel
theorem dL_law_528 : decode cL_law 528 = .ok (.iload_n 3, 1) := by decide +kernel
theorem dL_law_529 : decode cL_law 529 = .ok (.iconst 2, 1) := by decide +kernel
theorem dL_law_530 : decode cL_law 530 = .ok (.iadd, 1) := by decide +kernel
theorem dL_law_531 : decode cL_law 531 = .ok (.iaload, 1) := by decide +kernel
theorem dL_law_532 : decode cL_law 532 = .ok (.aload_n 0, 1) := by decide +kernel
theorem dL_law_533 : decode cL_law 533 = .ok (.iload_n 3, 1) := by decide +kernel
theorem dL_law_534 : decode cL_law 534 = .ok (.iconst 3, 1) := by decide +kernel
theorem dL_law_535 : decode cL_law 535 = .ok (.iadd, 1) := by decide +kernel
theorem dL_law_536 : decode cL_law 536 = .ok (.iaload, 1) := by decide +kernel
theorem dL_law_537 : decode cL_law 537 = .ok (.invokevirtual 48, 3) := by decide +kernel
theorem dL_law_540 : decode cL_law 540 = .ok (.aload_n 2, 1) := by decide +kernel
theorem dL_law_541 : decode cL_law 541 = .ok (.aload_n 0, 1) := by decide +kernel
theorem dL_law_542 : decode cL_law 542 = .ok (.iload_n 3, 1) := by decide +kernel
theorem dL_law_543 : decode cL_law 543 = .ok (.iconst 1, 1) := by decide +kernel
theorem dL_law_544 : decode cL_law 544 = .ok (.iadd, 1) := by decide +kernel
theorem dL_law_545 : decode cL_law 545 = .ok (.iaload, 1) := by decide +kernel
theorem dL_law_546 : decode cL_law 546 = .ok (.aload_n 0, 1) := by decide +kernel
theorem dL_law_547 : decode cL_law 547 = .ok (.iload_n 3, 1) := by decide +kernel
theorem dL_law_548 : decode cL_law 548 = .ok (.iconst 2, 1) := by decide +kernel
theorem dL_law_549 : decode cL_law 549 = .ok (.iadd, 1) := by decide +kernel
theorem dL_law_550 : decode cL_law 550 = .ok (.iaload, 1) := by decide +kernel
theorem dL_law_551 : decode cL_law 551 = .ok (.aload_n 0, 1) := by decide +kernel
theorem dL_law_552 : decode cL_law 552 = .ok (.iload_n 3, 1) := by decide +kernel
theorem dL_law_553 : decode cL_law 553 = .ok (.iconst 3, 1) := by decide +kernel
theorem dL_law_554 : decode cL_law 554 = .ok (.iadd, 1) := by decide +kernel
theorem dL_law_555 : decode cL_law 555 = .ok (.iaload, 1) := by decide +kernel
theorem dL_law_556 : decode cL_law 556 = .ok (.invokevirtual 51, 3) := by decide +kernel
theorem dL_law_559 : decode cL_law 559 = .ok (.lcmp, 1) := by decide +kernel
theorem dL_law_560 : decode cL_law 560 = .ok (.ifCond .eq 1015, 3) := by decide +kernel
theorem dL_law_563 : decode cL_law 563 = .ok (.iconst 0, 1) := by decide +kernel
theorem dL_law_564 : decode cL_law 564 = .ok (.ireturn, 1) := by decide +kernel
theorem dL_law_565 : decode cL_law 565 = .ok (.aload_n 1, 1) := by decide +kernel
theorem dL_law_566 : decode cL_law 566 = .ok (.aload_n 0, 1) := by decide +kernel
theorem dL_law_567 : decode cL_law 567 = .ok (.iload_n 3, 1) := by decide +kernel
theorem dL_law_568 : decode cL_law 568 = .ok (.iconst 1, 1) := by decide +kernel
theorem dL_law_569 : decode cL_law 569 = .ok (.iadd, 1) := by decide +kernel
theorem dL_law_570 : decode cL_law 570 = .ok (.iaload, 1) := by decide +kernel
theorem dL_law_571 : decode cL_law 571 = .ok (.aload_n 0, 1) := by decide +kernel
theorem dL_law_572 : decode cL_law 572 = .ok (.iload_n 3, 1) := by decide +kernel
theorem dL_law_573 : decode cL_law 573 = .ok (.iconst 2, 1) := by decide +kernel
theorem dL_law_574 : decode cL_law 574 = .ok (.iadd, 1) := by decide +kernel
theorem dL_law_575 : decode cL_law 575 = .ok (.iaload, 1) := by decide +kernel
theorem dL_law_576 : decode cL_law 576 = .ok (.invokevirtual 52, 3) := by decide +kernel
theorem dL_law_579 : decode cL_law 579 = .ok (.aload_n 2, 1) := by decide +kernel
theorem dL_law_580 : decode cL_law 580 = .ok (.aload_n 0, 1) := by decide +kernel
theorem dL_law_581 : decode cL_law 581 = .ok (.iload_n 3, 1) := by decide +kernel
theorem dL_law_582 : decode cL_law 582 = .ok (.iconst 1, 1) := by decide +kernel
theorem dL_law_583 : decode cL_law 583 = .ok (.iadd, 1) := by decide +kernel
theorem dL_law_584 : decode cL_law 584 = .ok (.iaload, 1) := by decide +kernel
theorem dL_law_585 : decode cL_law 585 = .ok (.aload_n 0, 1) := by decide +kernel
theorem dL_law_586 : decode cL_law 586 = .ok (.iload_n 3, 1) := by decide +kernel
theorem dL_law_587 : decode cL_law 587 = .ok (.iconst 2, 1) := by decide +kernel
theorem dL_law_588 : decode cL_law 588 = .ok (.iadd, 1) := by decide +kernel
theorem dL_law_589 : decode cL_law 589 = .ok (.iaload, 1) := by decide +kernel
theorem dL_law_590 : decode cL_law 590 = .ok (.invokevirtual 55, 3) := by decide +kernel
theorem dL_law_593 : decode cL_law 593 = .ok (.if_icmp .eq 982, 3) := by decide +kernel
theorem dL_law_596 : decode cL_law 596 = .ok (.iconst 0, 1) := by decide +kernel
theorem dL_law_597 : decode cL_law 597 = .ok (.ireturn, 1) := by decide +kernel
theorem dL_law_598 : decode cL_law 598 = .ok (.aload_n 1, 1) := by decide +kernel
theorem dL_law_599 : decode cL_law 599 = .ok (.aload_n 0, 1) := by decide +kernel
theorem dL_law_600 : decode cL_law 600 = .ok (.iload_n 3, 1) := by decide +kernel
theorem dL_law_601 : decode cL_law 601 = .ok (.iconst 1, 1) := by decide +kernel
theorem dL_law_602 : decode cL_law 602 = .ok (.iadd, 1) := by decide +kernel
theorem dL_law_603 : decode cL_law 603 = .ok (.iaload, 1) := by decide +kernel
theorem dL_law_604 : decode cL_law 604 = .ok (.aload_n 0, 1) := by decide +kernel
theorem dL_law_605 : decode cL_law 605 = .ok (.iload_n 3, 1) := by decide +kernel
theorem dL_law_606 : decode cL_law 606 = .ok (.iconst 2, 1) := by decide +kernel
theorem dL_law_607 : decode cL_law 607 = .ok (.iadd, 1) := by decide +kernel
theorem dL_law_608 : decode cL_law 608 = .ok (.iaload, 1) := by decide +kernel
theorem dL_law_609 : decode cL_law 609 = .ok (.invokevirtual 56, 3) := by decide +kernel
theorem dL_law_612 : decode cL_law 612 = .ok (.aload_n 2, 1) := by decide +kernel
theorem dL_law_613 : decode cL_law 613 = .ok (.aload_n 0, 1) := by decide +kernel
theorem dL_law_614 : decode cL_law 614 = .ok (.iload_n 3, 1) := by decide +kernel
theorem dL_law_615 : decode cL_law 615 = .ok (.iconst 1, 1) := by decide +kernel
theorem dL_law_616 : decode cL_law 616 = .ok (.iadd, 1) := by decide +kernel
theorem dL_law_617 : decode cL_law 617 = .ok (.iaload, 1) := by decide +kernel
theorem dL_law_618 : decode cL_law 618 = .ok (.aload_n 0, 1) := by decide +kernel
theorem dL_law_619 : decode cL_law 619 = .ok (.iload_n 3, 1) := by decide +kernel
theorem dL_law_620 : decode cL_law 620 = .ok (.iconst 2, 1) := by decide +kernel
theorem dL_law_621 : decode cL_law 621 = .ok (.iadd, 1) := by decide +kernel
theorem dL_law_622 : decode cL_law 622 = .ok (.iaload, 1) := by decide +kernel
theorem dL_law_623 : decode cL_law 623 = .ok (.invokevirtual 59, 3) := by decide +kernel
theorem dL_law_626 : decode cL_law 626 = .ok (.if_icmp .eq 949, 3) := by decide +kernel
theorem dL_law_629 : decode cL_law 629 = .ok (.iconst 0, 1) := by decide +kernel
theorem dL_law_630 : decode cL_law 630 = .ok (.ireturn, 1) := by decide +kernel
theorem dL_law_631 : decode cL_law 631 = .ok (.aload_n 1, 1) := by decide +kernel
theorem dL_law_632 : decode cL_law 632 = .ok (.aload_n 0, 1) := by decide +kernel
theorem dL_law_633 : decode cL_law 633 = .ok (.iload_n 3, 1) := by decide +kernel
theorem dL_law_634 : decode cL_law 634 = .ok (.iconst 1, 1) := by decide +kernel
theorem dL_law_635 : decode cL_law 635 = .ok (.iadd, 1) := by decide +kernel
theorem dL_law_636 : decode cL_law 636 = .ok (.iaload, 1) := by decide +kernel
theorem dL_law_637 : decode cL_law 637 = .ok (.aload_n 0, 1) := by decide +kernel
theorem dL_law_638 : decode cL_law 638 = .ok (.iload_n 3, 1) := by decide +kernel
theorem dL_law_639 : decode cL_law 639 = .ok (.iconst 2, 1) := by decide +kernel
theorem dL_law_640 : decode cL_law 640 = .ok (.iadd, 1) := by decide +kernel
theorem dL_law_641 : decode cL_law 641 = .ok (.iaload, 1) := by decide +kernel
theorem dL_law_642 : decode cL_law 642 = .ok (.aload_n 0, 1) := by decide +kernel
theorem dL_law_643 : decode cL_law 643 = .ok (.iload_n 3, 1) := by decide +kernel
theorem dL_law_644 : decode cL_law 644 = .ok (.iconst 3, 1) := by decide +kernel
theorem dL_law_645 : decode cL_law 645 = .ok (.iadd, 1) := by decide +kernel
theorem dL_law_646 : decode cL_law 646 = .ok (.iaload, 1) := by decide +kernel
theorem dL_law_647 : decode cL_law 647 = .ok (.invokevirtual 60, 3) := by decide +kernel
theorem dL_law_650 : decode cL_law 650 = .ok (.aload_n 2, 1) := by decide +kernel
theorem dL_law_651 : decode cL_law 651 = .ok (.aload_n 0, 1) := by decide +kernel
theorem dL_law_652 : decode cL_law 652 = .ok (.iload_n 3, 1) := by decide +kernel
theorem dL_law_653 : decode cL_law 653 = .ok (.iconst 1, 1) := by decide +kernel
theorem dL_law_654 : decode cL_law 654 = .ok (.iadd, 1) := by decide +kernel
theorem dL_law_655 : decode cL_law 655 = .ok (.iaload, 1) := by decide +kernel
theorem dL_law_656 : decode cL_law 656 = .ok (.aload_n 0, 1) := by decide +kernel
theorem dL_law_657 : decode cL_law 657 = .ok (.iload_n 3, 1) := by decide +kernel
theorem dL_law_658 : decode cL_law 658 = .ok (.iconst 2, 1) := by decide +kernel
theorem dL_law_659 : decode cL_law 659 = .ok (.iadd, 1) := by decide +kernel
theorem dL_law_660 : decode cL_law 660 = .ok (.iaload, 1) := by decide +kernel
theorem dL_law_661 : decode cL_law 661 = .ok (.aload_n 0, 1) := by decide +kernel
theorem dL_law_662 : decode cL_law 662 = .ok (.iload_n 3, 1) := by decide +kernel
theorem dL_law_663 : decode cL_law 663 = .ok (.iconst 3, 1) := by decide +kernel
theorem dL_law_664 : decode cL_law 664 = .ok (.iadd, 1) := by decide +kernel
theorem dL_law_665 : decode cL_law 665 = .ok (.iaload, 1) := by decide +kernel
theorem dL_law_666 : decode cL_law 666 = .ok (.invokevirtual 63, 3) := by decide +kernel
theorem dL_law_669 : decode cL_law 669 = .ok (.lcmp, 1) := by decide +kernel
theorem dL_law_670 : decode cL_law 670 = .ok (.ifCond .eq 905, 3) := by decide +kernel
theorem dL_law_673 : decode cL_law 673 = .ok (.iconst 0, 1) := by decide +kernel
theorem dL_law_674 : decode cL_law 674 = .ok (.ireturn, 1) := by decide +kernel
theorem dL_law_675 : decode cL_law 675 = .ok (.aload_n 1, 1) := by decide +kernel
theorem dL_law_676 : decode cL_law 676 = .ok (.aload_n 0, 1) := by decide +kernel
theorem dL_law_677 : decode cL_law 677 = .ok (.iload_n 3, 1) := by decide +kernel
theorem dL_law_678 : decode cL_law 678 = .ok (.iconst 1, 1) := by decide +kernel
theorem dL_law_679 : decode cL_law 679 = .ok (.iadd, 1) := by decide +kernel
theorem dL_law_680 : decode cL_law 680 = .ok (.iaload, 1) := by decide +kernel
theorem dL_law_681 : decode cL_law 681 = .ok (.invokevirtual 64, 3) := by decide +kernel
theorem dL_law_684 : decode cL_law 684 = .ok (.aload_n 2, 1) := by decide +kernel
theorem dL_law_685 : decode cL_law 685 = .ok (.aload_n 0, 1) := by decide +kernel
theorem dL_law_686 : decode cL_law 686 = .ok (.iload_n 3, 1) := by decide +kernel
theorem dL_law_687 : decode cL_law 687 = .ok (.iconst 1, 1) := by decide +kernel
theorem dL_law_688 : decode cL_law 688 = .ok (.iadd, 1) := by decide +kernel
theorem dL_law_689 : decode cL_law 689 = .ok (.iaload, 1) := by decide +kernel
theorem dL_law_690 : decode cL_law 690 = .ok (.invokevirtual 67, 3) := by decide +kernel
theorem dL_law_693 : decode cL_law 693 = .ok (.if_icmp .eq 882, 3) := by decide +kernel
theorem dL_law_696 : decode cL_law 696 = .ok (.iconst 0, 1) := by decide +kernel
theorem dL_law_697 : decode cL_law 697 = .ok (.ireturn, 1) := by decide +kernel
theorem dL_law_698 : decode cL_law 698 = .ok (.aload_n 1, 1) := by decide +kernel
theorem dL_law_699 : decode cL_law 699 = .ok (.aload_n 0, 1) := by decide +kernel
theorem dL_law_700 : decode cL_law 700 = .ok (.iload_n 3, 1) := by decide +kernel
theorem dL_law_701 : decode cL_law 701 = .ok (.iconst 1, 1) := by decide +kernel
theorem dL_law_702 : decode cL_law 702 = .ok (.iadd, 1) := by decide +kernel
theorem dL_law_703 : decode cL_law 703 = .ok (.iaload, 1) := by decide +kernel
theorem dL_law_704 : decode cL_law 704 = .ok (.invokevirtual 68, 3) := by decide +kernel
theorem dL_law_707 : decode cL_law 707 = .ok (.aload_n 2, 1) := by decide +kernel
theorem dL_law_708 : decode cL_law 708 = .ok (.aload_n 0, 1) := by decide +kernel
theorem dL_law_709 : decode cL_law 709 = .ok (.iload_n 3, 1) := by decide +kernel
theorem dL_law_710 : decode cL_law 710 = .ok (.iconst 1, 1) := by decide +kernel
theorem dL_law_711 : decode cL_law 711 = .ok (.iadd, 1) := by decide +kernel
theorem dL_law_712 : decode cL_law 712 = .ok (.iaload, 1) := by decide +kernel
theorem dL_law_713 : decode cL_law 713 = .ok (.invokevirtual 71, 3) := by decide +kernel
theorem dL_law_716 : decode cL_law 716 = .ok (.if_icmp .eq 859, 3) := by decide +kernel
theorem dL_law_719 : decode cL_law 719 = .ok (.iconst 0, 1) := by decide +kernel
theorem dL_law_720 : decode cL_law 720 = .ok (.ireturn, 1) := by decide +kernel
theorem dL_law_721 : decode cL_law 721 = .ok (.aload_n 1, 1) := by decide +kernel
theorem dL_law_722 : decode cL_law 722 = .ok (.aload_n 0, 1) := by decide +kernel
theorem dL_law_723 : decode cL_law 723 = .ok (.iload_n 3, 1) := by decide +kernel
theorem dL_law_724 : decode cL_law 724 = .ok (.iconst 1, 1) := by decide +kernel
theorem dL_law_725 : decode cL_law 725 = .ok (.iadd, 1) := by decide +kernel
theorem dL_law_726 : decode cL_law 726 = .ok (.iaload, 1) := by decide +kernel
theorem dL_law_727 : decode cL_law 727 = .ok (.aload_n 0, 1) := by decide +kernel
theorem dL_law_728 : decode cL_law 728 = .ok (.iload_n 3, 1) := by decide +kernel
theorem dL_law_729 : decode cL_law 729 = .ok (.iconst 2, 1) := by decide +kernel
theorem dL_law_730 : decode cL_law 730 = .ok (.iadd, 1) := by decide +kernel
theorem dL_law_731 : decode cL_law 731 = .ok (.iaload, 1) := by decide +kernel
theorem dL_law_732 : decode cL_law 732 = .ok (.aload_n 0, 1) := by decide +kernel
theorem dL_law_733 : decode cL_law 733 = .ok (.iload_n 3, 1) := by decide +kernel
theorem dL_law_734 : decode cL_law 734 = .ok (.iconst 3, 1) := by decide +kernel
theorem dL_law_735 : decode cL_law 735 = .ok (.iadd, 1) := by decide +kernel
theorem dL_law_736 : decode cL_law 736 = .ok (.iaload, 1) := by decide +kernel
theorem dL_law_737 : decode cL_law 737 = .ok (.invokevirtual 72, 3) := by decide +kernel
theorem dL_law_740 : decode cL_law 740 = .ok (.aload_n 2, 1) := by decide +kernel
theorem dL_law_741 : decode cL_law 741 = .ok (.aload_n 0, 1) := by decide +kernel
theorem dL_law_742 : decode cL_law 742 = .ok (.iload_n 3, 1) := by decide +kernel
theorem dL_law_743 : decode cL_law 743 = .ok (.iconst 1, 1) := by decide +kernel
theorem dL_law_744 : decode cL_law 744 = .ok (.iadd, 1) := by decide +kernel
theorem dL_law_745 : decode cL_law 745 = .ok (.iaload, 1) := by decide +kernel
theorem dL_law_746 : decode cL_law 746 = .ok (.aload_n 0, 1) := by decide +kernel
theorem dL_law_747 : decode cL_law 747 = .ok (.iload_n 3, 1) := by decide +kernel
theorem dL_law_748 : decode cL_law 748 = .ok (.iconst 2, 1) := by decide +kernel
theorem dL_law_749 : decode cL_law 749 = .ok (.iadd, 1) := by decide +kernel
theorem dL_law_750 : decode cL_law 750 = .ok (.iaload, 1) := by decide +kernel
theorem dL_law_751 : decode cL_law 751 = .ok (.aload_n 0, 1) := by decide +kernel
theorem dL_law_752 : decode cL_law 752 = .ok (.iload_n 3, 1) := by decide +kernel
theorem dL_law_753 : decode cL_law 753 = .ok (.iconst 3, 1) := by decide +kernel
theorem dL_law_754 : decode cL_law 754 = .ok (.iadd, 1) := by decide +kernel
theorem dL_law_755 : decode cL_law 755 = .ok (.iaload, 1) := by decide +kernel
theorem dL_law_756 : decode cL_law 756 = .ok (.invokevirtual 75, 3) := by decide +kernel
theorem dL_law_759 : decode cL_law 759 = .ok (.if_icmp .eq 816, 3) := by decide +kernel
theorem dL_law_762 : decode cL_law 762 = .ok (.iconst 0, 1) := by decide +kernel
theorem dL_law_763 : decode cL_law 763 = .ok (.ireturn, 1) := by decide +kernel
theorem dL_law_764 : decode cL_law 764 = .ok (.aload_n 1, 1) := by decide +kernel
theorem dL_law_765 : decode cL_law 765 = .ok (.aload_n 0, 1) := by decide +kernel
theorem dL_law_766 : decode cL_law 766 = .ok (.iload_n 3, 1) := by decide +kernel
theorem dL_law_767 : decode cL_law 767 = .ok (.iconst 1, 1) := by decide +kernel
theorem dL_law_768 : decode cL_law 768 = .ok (.iadd, 1) := by decide +kernel
theorem dL_law_769 : decode cL_law 769 = .ok (.iaload, 1) := by decide +kernel
theorem dL_law_770 : decode cL_law 770 = .ok (.invokevirtual 76, 3) := by decide +kernel
theorem dL_law_773 : decode cL_law 773 = .ok (.aload_n 2, 1) := by decide +kernel
theorem dL_law_774 : decode cL_law 774 = .ok (.aload_n 0, 1) := by decide +kernel
theorem dL_law_775 : decode cL_law 775 = .ok (.iload_n 3, 1) := by decide +kernel
theorem dL_law_776 : decode cL_law 776 = .ok (.iconst 1, 1) := by decide +kernel
theorem dL_law_777 : decode cL_law 777 = .ok (.iadd, 1) := by decide +kernel
theorem dL_law_778 : decode cL_law 778 = .ok (.iaload, 1) := by decide +kernel
theorem dL_law_779 : decode cL_law 779 = .ok (.invokevirtual 79, 3) := by decide +kernel
theorem dL_law_782 : decode cL_law 782 = .ok (.if_icmp .eq 793, 3) := by decide +kernel
theorem dL_law_785 : decode cL_law 785 = .ok (.iconst 0, 1) := by decide +kernel
theorem dL_law_786 : decode cL_law 786 = .ok (.ireturn, 1) := by decide +kernel
theorem dL_law_787 : decode cL_law 787 = .ok (.aload_n 1, 1) := by decide +kernel
theorem dL_law_788 : decode cL_law 788 = .ok (.aload_n 0, 1) := by decide +kernel
theorem dL_law_789 : decode cL_law 789 = .ok (.iload_n 3, 1) := by decide +kernel
theorem dL_law_790 : decode cL_law 790 = .ok (.iconst 1, 1) := by decide +kernel
theorem dL_law_791 : decode cL_law 791 = .ok (.iadd, 1) := by decide +kernel
theorem dL_law_792 : decode cL_law 792 = .ok (.iaload, 1) := by decide +kernel
theorem dL_law_793 : decode cL_law 793 = .ok (.aload_n 0, 1) := by decide +kernel
theorem dL_law_794 : decode cL_law 794 = .ok (.iload_n 3, 1) := by decide +kernel
theorem dL_law_795 : decode cL_law 795 = .ok (.iconst 2, 1) := by decide +kernel
theorem dL_law_796 : decode cL_law 796 = .ok (.iadd, 1) := by decide +kernel
theorem dL_law_797 : decode cL_law 797 = .ok (.iaload, 1) := by decide +kernel
theorem dL_law_798 : decode cL_law 798 = .ok (.aload_n 0, 1) := by decide +kernel
theorem dL_law_799 : decode cL_law 799 = .ok (.iload_n 3, 1) := by decide +kernel
theorem dL_law_800 : decode cL_law 800 = .ok (.iconst 3, 1) := by decide +kernel
theorem dL_law_801 : decode cL_law 801 = .ok (.iadd, 1) := by decide +kernel
theorem dL_law_802 : decode cL_law 802 = .ok (.iaload, 1) := by decide +kernel
theorem dL_law_803 : decode cL_law 803 = .ok (.invokevirtual 80, 3) := by decide +kernel
theorem dL_law_806 : decode cL_law 806 = .ok (.aload_n 2, 1) := by decide +kernel
theorem dL_law_807 : decode cL_law 807 = .ok (.aload_n 0, 1) := by decide +kernel
theorem dL_law_808 : decode cL_law 808 = .ok (.iload_n 3, 1) := by decide +kernel
theorem dL_law_809 : decode cL_law 809 = .ok (.iconst 1, 1) := by decide +kernel
theorem dL_law_810 : decode cL_law 810 = .ok (.iadd, 1) := by decide +kernel
theorem dL_law_811 : decode cL_law 811 = .ok (.iaload, 1) := by decide +kernel
theorem dL_law_812 : decode cL_law 812 = .ok (.aload_n 0, 1) := by decide +kernel
theorem dL_law_813 : decode cL_law 813 = .ok (.iload_n 3, 1) := by decide +kernel
theorem dL_law_814 : decode cL_law 814 = .ok (.iconst 2, 1) := by decide +kernel
theorem dL_law_815 : decode cL_law 815 = .ok (.iadd, 1) := by decide +kernel
theorem dL_law_816 : decode cL_law 816 = .ok (.iaload, 1) := by decide +kernel
theorem dL_law_817 : decode cL_law 817 = .ok (.aload_n 0, 1) := by decide +kernel
theorem dL_law_818 : decode cL_law 818 = .ok (.iload_n 3, 1) := by decide +kernel
theorem dL_law_819 : decode cL_law 819 = .ok (.iconst 3, 1) := by decide +kernel
theorem dL_law_820 : decode cL_law 820 = .ok (.iadd, 1) := by decide +kernel
theorem dL_law_821 : decode cL_law 821 = .ok (.iaload, 1) := by decide +kernel
theorem dL_law_822 : decode cL_law 822 = .ok (.invokevirtual 83, 3) := by decide +kernel
theorem dL_law_825 : decode cL_law 825 = .ok (.lcmp, 1) := by decide +kernel
theorem dL_law_826 : decode cL_law 826 = .ok (.ifCond .eq 749, 3) := by decide +kernel
theorem dL_law_829 : decode cL_law 829 = .ok (.iconst 0, 1) := by decide +kernel
theorem dL_law_830 : decode cL_law 830 = .ok (.ireturn, 1) := by decide +kernel
theorem dL_law_831 : decode cL_law 831 = .ok (.aload_n 1, 1) := by decide +kernel
theorem dL_law_832 : decode cL_law 832 = .ok (.aload_n 0, 1) := by decide +kernel
theorem dL_law_833 : decode cL_law 833 = .ok (.iload_n 3, 1) := by decide +kernel
theorem dL_law_834 : decode cL_law 834 = .ok (.iconst 1, 1) := by decide +kernel
theorem dL_law_835 : decode cL_law 835 = .ok (.iadd, 1) := by decide +kernel
theorem dL_law_836 : decode cL_law 836 = .ok (.iaload, 1) := by decide +kernel
theorem dL_law_837 : decode cL_law 837 = .ok (.invokevirtual 84, 3) := by decide +kernel
theorem dL_law_840 : decode cL_law 840 = .ok (.aload_n 2, 1) := by decide +kernel
theorem dL_law_841 : decode cL_law 841 = .ok (.aload_n 0, 1) := by decide +kernel
theorem dL_law_842 : decode cL_law 842 = .ok (.iload_n 3, 1) := by decide +kernel
theorem dL_law_843 : decode cL_law 843 = .ok (.iconst 1, 1) := by decide +kernel
theorem dL_law_844 : decode cL_law 844 = .ok (.iadd, 1) := by decide +kernel
theorem dL_law_845 : decode cL_law 845 = .ok (.iaload, 1) := by decide +kernel
theorem dL_law_846 : decode cL_law 846 = .ok (.invokevirtual 87, 3) := by decide +kernel
theorem dL_law_849 : decode cL_law 849 = .ok (.if_icmp .eq 726, 3) := by decide +kernel
theorem dL_law_852 : decode cL_law 852 = .ok (.iconst 0, 1) := by decide +kernel
theorem dL_law_853 : decode cL_law 853 = .ok (.ireturn, 1) := by decide +kernel
theorem dL_law_854 : decode cL_law 854 = .ok (.aload_n 1, 1) := by decide +kernel
theorem dL_law_855 : decode cL_law 855 = .ok (.invokevirtual 88, 3) := by decide +kernel
theorem dL_law_858 : decode cL_law 858 = .ok (.aload_n 2, 1) := by decide +kernel
theorem dL_law_859 : decode cL_law 859 = .ok (.invokevirtual 92, 3) := by decide +kernel
theorem dL_law_862 : decode cL_law 862 = .ok (.if_icmp .eq 713, 3) := by decide +kernel
theorem dL_law_865 : decode cL_law 865 = .ok (.iconst 0, 1) := by decide +kernel
theorem dL_law_866 : decode cL_law 866 = .ok (.ireturn, 1) := by decide +kernel
theorem dL_law_867 : decode cL_law 867 = .ok (.aload_n 1, 1) := by decide +kernel
theorem dL_law_868 : decode cL_law 868 = .ok (.invokevirtual 93, 3) := by decide +kernel
theorem dL_law_871 : decode cL_law 871 = .ok (.aload_n 2, 1) := by decide +kernel
theorem dL_law_872 : decode cL_law 872 = .ok (.invokevirtual 96, 3) := by decide +kernel
theorem dL_law_875 : decode cL_law 875 = .ok (.if_icmp .eq 700, 3) := by decide +kernel
theorem dL_law_878 : decode cL_law 878 = .ok (.iconst 0, 1) := by decide +kernel
theorem dL_law_879 : decode cL_law 879 = .ok (.ireturn, 1) := by decide +kernel
theorem dL_law_880 : decode cL_law 880 = .ok (.aload_n 1, 1) := by decide +kernel
theorem dL_law_881 : decode cL_law 881 = .ok (.aload_n 0, 1) := by decide +kernel
theorem dL_law_882 : decode cL_law 882 = .ok (.iload_n 3, 1) := by decide +kernel
theorem dL_law_883 : decode cL_law 883 = .ok (.iconst 1, 1) := by decide +kernel
theorem dL_law_884 : decode cL_law 884 = .ok (.iadd, 1) := by decide +kernel
theorem dL_law_885 : decode cL_law 885 = .ok (.iaload, 1) := by decide +kernel
theorem dL_law_886 : decode cL_law 886 = .ok (.aload_n 0, 1) := by decide +kernel
theorem dL_law_887 : decode cL_law 887 = .ok (.iload_n 3, 1) := by decide +kernel
theorem dL_law_888 : decode cL_law 888 = .ok (.iconst 2, 1) := by decide +kernel
theorem dL_law_889 : decode cL_law 889 = .ok (.iadd, 1) := by decide +kernel
theorem dL_law_890 : decode cL_law 890 = .ok (.iaload, 1) := by decide +kernel
theorem dL_law_891 : decode cL_law 891 = .ok (.invokevirtual 97, 3) := by decide +kernel
theorem dL_law_894 : decode cL_law 894 = .ok (.aload_n 2, 1) := by decide +kernel
theorem dL_law_895 : decode cL_law 895 = .ok (.aload_n 0, 1) := by decide +kernel
theorem dL_law_896 : decode cL_law 896 = .ok (.iload_n 3, 1) := by decide +kernel
theorem dL_law_897 : decode cL_law 897 = .ok (.iconst 1, 1) := by decide +kernel
theorem dL_law_898 : decode cL_law 898 = .ok (.iadd, 1) := by decide +kernel
theorem dL_law_899 : decode cL_law 899 = .ok (.iaload, 1) := by decide +kernel
theorem dL_law_900 : decode cL_law 900 = .ok (.aload_n 0, 1) := by decide +kernel
theorem dL_law_901 : decode cL_law 901 = .ok (.iload_n 3, 1) := by decide +kernel
theorem dL_law_902 : decode cL_law 902 = .ok (.iconst 2, 1) := by decide +kernel
theorem dL_law_903 : decode cL_law 903 = .ok (.iadd, 1) := by decide +kernel
theorem dL_law_904 : decode cL_law 904 = .ok (.iaload, 1) := by decide +kernel
theorem dL_law_905 : decode cL_law 905 = .ok (.invokevirtual 100, 3) := by decide +kernel
theorem dL_law_908 : decode cL_law 908 = .ok (.if_icmp .eq 667, 3) := by decide +kernel
theorem dL_law_911 : decode cL_law 911 = .ok (.iconst 0, 1) := by decide +kernel
theorem dL_law_912 : decode cL_law 912 = .ok (.ireturn, 1) := by decide +kernel
theorem dL_law_913 : decode cL_law 913 = .ok (.aload_n 1, 1) := by decide +kernel
theorem dL_law_914 : decode cL_law 914 = .ok (.aload_n 0, 1) := by decide +kernel
theorem dL_law_915 : decode cL_law 915 = .ok (.iload_n 3, 1) := by decide +kernel
theorem dL_law_916 : decode cL_law 916 = .ok (.iconst 1, 1) := by decide +kernel
theorem dL_law_917 : decode cL_law 917 = .ok (.iadd, 1) := by decide +kernel
theorem dL_law_918 : decode cL_law 918 = .ok (.iaload, 1) := by decide +kernel
theorem dL_law_919 : decode cL_law 919 = .ok (.aload_n 0, 1) := by decide +kernel
theorem dL_law_920 : decode cL_law 920 = .ok (.iload_n 3, 1) := by decide +kernel
theorem dL_law_921 : decode cL_law 921 = .ok (.iconst 2, 1) := by decide +kernel
theorem dL_law_922 : decode cL_law 922 = .ok (.iadd, 1) := by decide +kernel
theorem dL_law_923 : decode cL_law 923 = .ok (.iaload, 1) := by decide +kernel
theorem dL_law_924 : decode cL_law 924 = .ok (.invokevirtual 101, 3) := by decide +kernel
theorem dL_law_927 : decode cL_law 927 = .ok (.aload_n 2, 1) := by decide +kernel
theorem dL_law_928 : decode cL_law 928 = .ok (.aload_n 0, 1) := by decide +kernel
theorem dL_law_929 : decode cL_law 929 = .ok (.iload_n 3, 1) := by decide +kernel
theorem dL_law_930 : decode cL_law 930 = .ok (.iconst 1, 1) := by decide +kernel
theorem dL_law_931 : decode cL_law 931 = .ok (.iadd, 1) := by decide +kernel
theorem dL_law_932 : decode cL_law 932 = .ok (.iaload, 1) := by decide +kernel
theorem dL_law_933 : decode cL_law 933 = .ok (.aload_n 0, 1) := by decide +kernel
theorem dL_law_934 : decode cL_law 934 = .ok (.iload_n 3, 1) := by decide +kernel
theorem dL_law_935 : decode cL_law 935 = .ok (.iconst 2, 1) := by decide +kernel
theorem dL_law_936 : decode cL_law 936 = .ok (.iadd, 1) := by decide +kernel
theorem dL_law_937 : decode cL_law 937 = .ok (.iaload, 1) := by decide +kernel
theorem dL_law_938 : decode cL_law 938 = .ok (.invokevirtual 104, 3) := by decide +kernel
theorem dL_law_941 : decode cL_law 941 = .ok (.if_icmp .eq 634, 3) := by decide +kernel
theorem dL_law_944 : decode cL_law 944 = .ok (.iconst 0, 1) := by decide +kernel
theorem dL_law_945 : decode cL_law 945 = .ok (.ireturn, 1) := by decide +kernel
theorem dL_law_946 : decode cL_law 946 = .ok (.aload_n 1, 1) := by decide +kernel
theorem dL_law_947 : decode cL_law 947 = .ok (.invokevirtual 105, 3) := by decide +kernel
theorem dL_law_950 : decode cL_law 950 = .ok (.aload_n 2, 1) := by decide +kernel
theorem dL_law_951 : decode cL_law 951 = .ok (.invokevirtual 108, 3) := by decide +kernel
theorem dL_law_954 : decode cL_law 954 = .ok (.if_icmp .eq 621, 3) := by decide +kernel
theorem dL_law_957 : decode cL_law 957 = .ok (.iconst 0, 1) := by decide +kernel
theorem dL_law_958 : decode cL_law 958 = .ok (.ireturn, 1) := by decide +kernel
theorem dL_law_959 : decode cL_law 959 = .ok (.aload_n 1, 1) := by decide +kernel
theorem dL_law_960 : decode cL_law 960 = .ok (.aload_n 0, 1) := by decide +kernel
theorem dL_law_961 : decode cL_law 961 = .ok (.iload_n 3, 1) := by decide +kernel
theorem dL_law_962 : decode cL_law 962 = .ok (.iconst 1, 1) := by decide +kernel
theorem dL_law_963 : decode cL_law 963 = .ok (.iadd, 1) := by decide +kernel
theorem dL_law_964 : decode cL_law 964 = .ok (.iaload, 1) := by decide +kernel
theorem dL_law_965 : decode cL_law 965 = .ok (.aload_n 0, 1) := by decide +kernel
theorem dL_law_966 : decode cL_law 966 = .ok (.iload_n 3, 1) := by decide +kernel
theorem dL_law_967 : decode cL_law 967 = .ok (.iconst 2, 1) := by decide +kernel
theorem dL_law_968 : decode cL_law 968 = .ok (.iadd, 1) := by decide +kernel
theorem dL_law_969 : decode cL_law 969 = .ok (.iaload, 1) := by decide +kernel
theorem dL_law_970 : decode cL_law 970 = .ok (.invokevirtual 109, 3) := by decide +kernel
theorem dL_law_973 : decode cL_law 973 = .ok (.aload_n 2, 1) := by decide +kernel
theorem dL_law_974 : decode cL_law 974 = .ok (.aload_n 0, 1) := by decide +kernel
theorem dL_law_975 : decode cL_law 975 = .ok (.iload_n 3, 1) := by decide +kernel
theorem dL_law_976 : decode cL_law 976 = .ok (.iconst 1, 1) := by decide +kernel
theorem dL_law_977 : decode cL_law 977 = .ok (.iadd, 1) := by decide +kernel
theorem dL_law_978 : decode cL_law 978 = .ok (.iaload, 1) := by decide +kernel
theorem dL_law_979 : decode cL_law 979 = .ok (.aload_n 0, 1) := by decide +kernel
theorem dL_law_980 : decode cL_law 980 = .ok (.iload_n 3, 1) := by decide +kernel
theorem dL_law_981 : decode cL_law 981 = .ok (.iconst 2, 1) := by decide +kernel
theorem dL_law_982 : decode cL_law 982 = .ok (.iadd, 1) := by decide +kernel
theorem dL_law_983 : decode cL_law 983 = .ok (.iaload, 1) := by decide +kernel
theorem dL_law_984 : decode cL_law 984 = .ok (.invokevirtual 112, 3) := by decide +kernel
theorem dL_law_987 : decode cL_law 987 = .ok (.if_icmp .eq 588, 3) := by decide +kernel
theorem dL_law_990 : decode cL_law 990 = .ok (.iconst 0, 1) := by decide +kernel
theorem dL_law_991 : decode cL_law 991 = .ok (.ireturn, 1) := by decide +kernel
theorem dL_law_992 : decode cL_law 992 = .ok (.aload_n 1, 1) := by decide +kernel
theorem dL_law_993 : decode cL_law 993 = .ok (.aload_n 0, 1) := by decide +kernel
theorem dL_law_994 : decode cL_law 994 = .ok (.iload_n 3, 1) := by decide +kernel
theorem dL_law_995 : decode cL_law 995 = .ok (.iconst 1, 1) := by decide +kernel
theorem dL_law_996 : decode cL_law 996 = .ok (.iadd, 1) := by decide +kernel
theorem dL_law_997 : decode cL_law 997 = .ok (.iaload, 1) := by decide +kernel
theorem dL_law_998 : decode cL_law 998 = .ok (.aload_n 0, 1) := by decide +kernel
theorem dL_law_999 : decode cL_law 999 = .ok (.iload_n 3, 1) := by decide +kernel
theorem dL_law_1000 : decode cL_law 1000 = .ok (.iconst 2, 1) := by decide +kernel
theorem dL_law_1001 : decode cL_law 1001 = .ok (.iadd, 1) := by decide +kernel
theorem dL_law_1002 : decode cL_law 1002 = .ok (.iaload, 1) := by decide +kernel
theorem dL_law_1003 : decode cL_law 1003 = .ok (.aload_n 0, 1) := by decide +kernel
theorem dL_law_1004 : decode cL_law 1004 = .ok (.iload_n 3, 1) := by decide +kernel
theorem dL_law_1005 : decode cL_law 1005 = .ok (.iconst 3, 1) := by decide +kernel
theorem dL_law_1006 : decode cL_law 1006 = .ok (.iadd, 1) := by decide +kernel
theorem dL_law_1007 : decode cL_law 1007 = .ok (.iaload, 1) := by decide +kernel
theorem dL_law_1008 : decode cL_law 1008 = .ok (.aload_n 0, 1) := by decide +kernel
theorem dL_law_1009 : decode cL_law 1009 = .ok (.iload_n 3, 1) := by decide +kernel
theorem dL_law_1010 : decode cL_law 1010 = .ok (.iconst 4, 1) := by decide +kernel
theorem dL_law_1011 : decode cL_law 1011 = .ok (.iadd, 1) := by decide +kernel
theorem dL_law_1012 : decode cL_law 1012 = .ok (.iaload, 1) := by decide +kernel
theorem dL_law_1013 : decode cL_law 1013 = .ok (.invokevirtual 113, 3) := by decide +kernel
theorem dL_law_1016 : decode cL_law 1016 = .ok (.aload_n 2, 1) := by decide +kernel
theorem dL_law_1017 : decode cL_law 1017 = .ok (.aload_n 0, 1) := by decide +kernel
theorem dL_law_1018 : decode cL_law 1018 = .ok (.iload_n 3, 1) := by decide +kernel
theorem dL_law_1019 : decode cL_law 1019 = .ok (.iconst 1, 1) := by decide +kernel
theorem dL_law_1020 : decode cL_law 1020 = .ok (.iadd, 1) := by decide +kernel
theorem dL_law_1021 : decode cL_law 1021 = .ok (.iaload, 1) := by decide +kernel
theorem dL_law_1022 : decode cL_law 1022 = .ok (.aload_n 0, 1) := by decide +kernel
theorem dL_law_1023 : decode cL_law 1023 = .ok (.iload_n 3, 1) := by decide +kernel
theorem dL_law_1024 : decode cL_law 1024 = .ok (.iconst 2, 1) := by decide +kernel
theorem dL_law_1025 : decode cL_law 1025 = .ok (.iadd, 1) := by decide +kernel
theorem dL_law_1026 : decode cL_law 1026 = .ok (.iaload, 1) := by decide +kernel
theorem dL_law_1027 : decode cL_law 1027 = .ok (.aload_n 0, 1) := by decide +kernel
theorem dL_law_1028 : decode cL_law 1028 = .ok (.iload_n 3, 1) := by decide +kernel
theorem dL_law_1029 : decode cL_law 1029 = .ok (.iconst 3, 1) := by decide +kernel
theorem dL_law_1030 : decode cL_law 1030 = .ok (.iadd, 1) := by decide +kernel
theorem dL_law_1031 : decode cL_law 1031 = .ok (.iaload, 1) := by decide +kernel
theorem dL_law_1032 : decode cL_law 1032 = .ok (.aload_n 0, 1) := by decide +kernel
theorem dL_law_1033 : decode cL_law 1033 = .ok (.iload_n 3, 1) := by decide +kernel
theorem dL_law_1034 : decode cL_law 1034 = .ok (.iconst 4, 1) := by decide +kernel
theorem dL_law_1035 : decode cL_law 1035 = .ok (.iadd, 1) := by decide +kernel
theorem dL_law_1036 : decode cL_law 1036 = .ok (.iaload, 1) := by decide +kernel
theorem dL_law_1037 : decode cL_law 1037 = .ok (.invokevirtual 116, 3) := by decide +kernel
theorem dL_law_1040 : decode cL_law 1040 = .ok (.if_icmp .eq 535, 3) := by decide +kernel
theorem dL_law_1043 : decode cL_law 1043 = .ok (.iconst 0, 1) := by decide +kernel
theorem dL_law_1044 : decode cL_law 1044 = .ok (.ireturn, 1) := by decide +kernel
theorem dL_law_1045 : decode cL_law 1045 = .ok (.aload_n 1, 1) := by decide +kernel
theorem dL_law_1046 : decode cL_law 1046 = .ok (.aload_n 0, 1) := by decide +kernel
theorem dL_law_1047 : decode cL_law 1047 = .ok (.iload_n 3, 1) := by decide +kernel
theorem dL_law_1048 : decode cL_law 1048 = .ok (.iconst 1, 1) := by decide +kernel
theorem dL_law_1049 : decode cL_law 1049 = .ok (.iadd, 1) := by decide +kernel
theorem dL_law_1050 : decode cL_law 1050 = .ok (.iaload, 1) := by decide +kernel
theorem dL_law_1051 : decode cL_law 1051 = .ok (.invokevirtual 117, 3) := by decide +kernel
theorem dL_law_1054 : decode cL_law 1054 = .ok (.aload_n 2, 1) := by decide +kernel
theorem dL_law_1055 : decode cL_law 1055 = .ok (.aload_n 0, 1) := by decide +kernel
theorem dL_law_1056 : decode cL_law 1056 = .ok (.iload_n 3, 1) := by decide +kernel
theorem dL_law_1057 : decode cL_law 1057 = .ok (.iconst 1, 1) := by decide +kernel
theorem dL_law_1058 : decode cL_law 1058 = .ok (.iadd, 1) := by decide +kernel
theorem dL_law_1059 : decode cL_law 1059 = .ok (.iaload, 1) := by decide +kernel
theorem dL_law_1060 : decode cL_law 1060 = .ok (.invokevirtual 120, 3) := by decide +kernel
theorem dL_law_1063 : decode cL_law 1063 = .ok (.if_icmp .eq 512, 3) := by decide +kernel
theorem dL_law_1066 : decode cL_law 1066 = .ok (.iconst 0, 1) := by decide +kernel
theorem dL_law_1067 : decode cL_law 1067 = .ok (.ireturn, 1) := by decide +kernel
theorem dL_law_1068 : decode cL_law 1068 = .ok (.aload_n 1, 1) := by decide +kernel
theorem dL_law_1069 : decode cL_law 1069 = .ok (.invokevirtual 121, 3) := by decide +kernel
theorem dL_law_1072 : decode cL_law 1072 = .ok (.aload_n 2, 1) := by decide +kernel
theorem dL_law_1073 : decode cL_law 1073 = .ok (.invokevirtual 124, 3) := by decide +kernel
theorem dL_law_1076 : decode cL_law 1076 = .ok (.if_icmp .eq 499, 3) := by decide +kernel
theorem dL_law_1079 : decode cL_law 1079 = .ok (.iconst 0, 1) := by decide +kernel
theorem dL_law_1080 : decode cL_law 1080 = .ok (.ireturn, 1) := by decide +kernel
theorem dL_law_1081 : decode cL_law 1081 = .ok (.aload_n 1, 1) := by decide +kernel
theorem dL_law_1082 : decode cL_law 1082 = .ok (.aload_n 0, 1) := by decide +kernel
theorem dL_law_1083 : decode cL_law 1083 = .ok (.iload_n 3, 1) := by decide +kernel
theorem dL_law_1084 : decode cL_law 1084 = .ok (.iconst 1, 1) := by decide +kernel
theorem dL_law_1085 : decode cL_law 1085 = .ok (.iadd, 1) := by decide +kernel
theorem dL_law_1086 : decode cL_law 1086 = .ok (.iaload, 1) := by decide +kernel
theorem dL_law_1087 : decode cL_law 1087 = .ok (.aload_n 0, 1) := by decide +kernel
theorem dL_law_1088 : decode cL_law 1088 = .ok (.iload_n 3, 1) := by decide +kernel
theorem dL_law_1089 : decode cL_law 1089 = .ok (.iconst 2, 1) := by decide +kernel
theorem dL_law_1090 : decode cL_law 1090 = .ok (.iadd, 1) := by decide +kernel
theorem dL_law_1091 : decode cL_law 1091 = .ok (.iaload, 1) := by decide +kernel
theorem dL_law_1092 : decode cL_law 1092 = .ok (.aload_n 0, 1) := by decide +kernel
theorem dL_law_1093 : decode cL_law 1093 = .ok (.iload_n 3, 1) := by decide +kernel
theorem dL_law_1094 : decode cL_law 1094 = .ok (.iconst 3, 1) := by decide +kernel
theorem dL_law_1095 : decode cL_law 1095 = .ok (.iadd, 1) := by decide +kernel
theorem dL_law_1096 : decode cL_law 1096 = .ok (.iaload, 1) := by decide +kernel
theorem dL_law_1097 : decode cL_law 1097 = .ok (.invokevirtual 125, 3) := by decide +kernel
theorem dL_law_1100 : decode cL_law 1100 = .ok (.aload_n 2, 1) := by decide +kernel
theorem dL_law_1101 : decode cL_law 1101 = .ok (.aload_n 0, 1) := by decide +kernel
theorem dL_law_1102 : decode cL_law 1102 = .ok (.iload_n 3, 1) := by decide +kernel
theorem dL_law_1103 : decode cL_law 1103 = .ok (.iconst 1, 1) := by decide +kernel
theorem dL_law_1104 : decode cL_law 1104 = .ok (.iadd, 1) := by decide +kernel
theorem dL_law_1105 : decode cL_law 1105 = .ok (.iaload, 1) := by decide +kernel
theorem dL_law_1106 : decode cL_law 1106 = .ok (.aload_n 0, 1) := by decide +kernel
theorem dL_law_1107 : decode cL_law 1107 = .ok (.iload_n 3, 1) := by decide +kernel
theorem dL_law_1108 : decode cL_law 1108 = .ok (.iconst 2, 1) := by decide +kernel
theorem dL_law_1109 : decode cL_law 1109 = .ok (.iadd, 1) := by decide +kernel
theorem dL_law_1110 : decode cL_law 1110 = .ok (.iaload, 1) := by decide +kernel
theorem dL_law_1111 : decode cL_law 1111 = .ok (.aload_n 0, 1) := by decide +kernel
theorem dL_law_1112 : decode cL_law 1112 = .ok (.iload_n 3, 1) := by decide +kernel
theorem dL_law_1113 : decode cL_law 1113 = .ok (.iconst 3, 1) := by decide +kernel
theorem dL_law_1114 : decode cL_law 1114 = .ok (.iadd, 1) := by decide +kernel
theorem dL_law_1115 : decode cL_law 1115 = .ok (.iaload, 1) := by decide +kernel
theorem dL_law_1116 : decode cL_law 1116 = .ok (.invokevirtual 128, 3) := by decide +kernel
theorem dL_law_1119 : decode cL_law 1119 = .ok (.if_icmp .eq 456, 3) := by decide +kernel
theorem dL_law_1122 : decode cL_law 1122 = .ok (.iconst 0, 1) := by decide +kernel
theorem dL_law_1123 : decode cL_law 1123 = .ok (.ireturn, 1) := by decide +kernel
theorem dL_law_1124 : decode cL_law 1124 = .ok (.aload_n 1, 1) := by decide +kernel
theorem dL_law_1125 : decode cL_law 1125 = .ok (.aload_n 0, 1) := by decide +kernel
theorem dL_law_1126 : decode cL_law 1126 = .ok (.iload_n 3, 1) := by decide +kernel
theorem dL_law_1127 : decode cL_law 1127 = .ok (.iconst 1, 1) := by decide +kernel
theorem dL_law_1128 : decode cL_law 1128 = .ok (.iadd, 1) := by decide +kernel
theorem dL_law_1129 : decode cL_law 1129 = .ok (.iaload, 1) := by decide +kernel
theorem dL_law_1130 : decode cL_law 1130 = .ok (.aload_n 0, 1) := by decide +kernel
theorem dL_law_1131 : decode cL_law 1131 = .ok (.iload_n 3, 1) := by decide +kernel
theorem dL_law_1132 : decode cL_law 1132 = .ok (.iconst 2, 1) := by decide +kernel
theorem dL_law_1133 : decode cL_law 1133 = .ok (.iadd, 1) := by decide +kernel
theorem dL_law_1134 : decode cL_law 1134 = .ok (.iaload, 1) := by decide +kernel
theorem dL_law_1135 : decode cL_law 1135 = .ok (.aload_n 0, 1) := by decide +kernel
theorem dL_law_1136 : decode cL_law 1136 = .ok (.iload_n 3, 1) := by decide +kernel
theorem dL_law_1137 : decode cL_law 1137 = .ok (.iconst 3, 1) := by decide +kernel
theorem dL_law_1138 : decode cL_law 1138 = .ok (.iadd, 1) := by decide +kernel
theorem dL_law_1139 : decode cL_law 1139 = .ok (.iaload, 1) := by decide +kernel
theorem dL_law_1140 : decode cL_law 1140 = .ok (.invokevirtual 129, 3) := by decide +kernel
theorem dL_law_1143 : decode cL_law 1143 = .ok (.aload_n 2, 1) := by decide +kernel
theorem dL_law_1144 : decode cL_law 1144 = .ok (.aload_n 0, 1) := by decide +kernel
theorem dL_law_1145 : decode cL_law 1145 = .ok (.iload_n 3, 1) := by decide +kernel
theorem dL_law_1146 : decode cL_law 1146 = .ok (.iconst 1, 1) := by decide +kernel
theorem dL_law_1147 : decode cL_law 1147 = .ok (.iadd, 1) := by decide +kernel
theorem dL_law_1148 : decode cL_law 1148 = .ok (.iaload, 1) := by decide +kernel
theorem dL_law_1149 : decode cL_law 1149 = .ok (.aload_n 0, 1) := by decide +kernel
theorem dL_law_1150 : decode cL_law 1150 = .ok (.iload_n 3, 1) := by decide +kernel
theorem dL_law_1151 : decode cL_law 1151 = .ok (.iconst 2, 1) := by decide +kernel
theorem dL_law_1152 : decode cL_law 1152 = .ok (.iadd, 1) := by decide +kernel
theorem dL_law_1153 : decode cL_law 1153 = .ok (.iaload, 1) := by decide +kernel
theorem dL_law_1154 : decode cL_law 1154 = .ok (.aload_n 0, 1) := by decide +kernel
theorem dL_law_1155 : decode cL_law 1155 = .ok (.iload_n 3, 1) := by decide +kernel
theorem dL_law_1156 : decode cL_law 1156 = .ok (.iconst 3, 1) := by decide +kernel
theorem dL_law_1157 : decode cL_law 1157 = .ok (.iadd, 1) := by decide +kernel
theorem dL_law_1158 : decode cL_law 1158 = .ok (.iaload, 1) := by decide +kernel
theorem dL_law_1159 : decode cL_law 1159 = .ok (.invokevirtual 132, 3) := by decide +kernel
theorem dL_law_1162 : decode cL_law 1162 = .ok (.lcmp, 1) := by decide +kernel
theorem dL_law_1163 : decode cL_law 1163 = .ok (.ifCond .eq 412, 3) := by decide +kernel
theorem dL_law_1166 : decode cL_law 1166 = .ok (.iconst 0, 1) := by decide +kernel
theorem dL_law_1167 : decode cL_law 1167 = .ok (.ireturn, 1) := by decide +kernel
theorem dL_law_1168 : decode cL_law 1168 = .ok (.aload_n 1, 1) := by decide +kernel
theorem dL_law_1169 : decode cL_law 1169 = .ok (.aload_n 0, 1) := by decide +kernel
theorem dL_law_1170 : decode cL_law 1170 = .ok (.iload_n 3, 1) := by decide +kernel
theorem dL_law_1171 : decode cL_law 1171 = .ok (.iconst 1, 1) := by decide +kernel
theorem dL_law_1172 : decode cL_law 1172 = .ok (.iadd, 1) := by decide +kernel
theorem dL_law_1173 : decode cL_law 1173 = .ok (.iaload, 1) := by decide +kernel
theorem dL_law_1174 : decode cL_law 1174 = .ok (.aload_n 0, 1) := by decide +kernel
theorem dL_law_1175 : decode cL_law 1175 = .ok (.iload_n 3, 1) := by decide +kernel
theorem dL_law_1176 : decode cL_law 1176 = .ok (.iconst 2, 1) := by decide +kernel
theorem dL_law_1177 : decode cL_law 1177 = .ok (.iadd, 1) := by decide +kernel
theorem dL_law_1178 : decode cL_law 1178 = .ok (.iaload, 1) := by decide +kernel
theorem dL_law_1179 : decode cL_law 1179 = .ok (.invokevirtual 133, 3) := by decide +kernel
theorem dL_law_1182 : decode cL_law 1182 = .ok (.aload_n 2, 1) := by decide +kernel
theorem dL_law_1183 : decode cL_law 1183 = .ok (.aload_n 0, 1) := by decide +kernel
theorem dL_law_1184 : decode cL_law 1184 = .ok (.iload_n 3, 1) := by decide +kernel
theorem dL_law_1185 : decode cL_law 1185 = .ok (.iconst 1, 1) := by decide +kernel
theorem dL_law_1186 : decode cL_law 1186 = .ok (.iadd, 1) := by decide +kernel
theorem dL_law_1187 : decode cL_law 1187 = .ok (.iaload, 1) := by decide +kernel
theorem dL_law_1188 : decode cL_law 1188 = .ok (.aload_n 0, 1) := by decide +kernel
theorem dL_law_1189 : decode cL_law 1189 = .ok (.iload_n 3, 1) := by decide +kernel
theorem dL_law_1190 : decode cL_law 1190 = .ok (.iconst 2, 1) := by decide +kernel
theorem dL_law_1191 : decode cL_law 1191 = .ok (.iadd, 1) := by decide +kernel
theorem dL_law_1192 : decode cL_law 1192 = .ok (.iaload, 1) := by decide +kernel
theorem dL_law_1193 : decode cL_law 1193 = .ok (.invokevirtual 136, 3) := by decide +kernel
theorem dL_law_1196 : decode cL_law 1196 = .ok (.if_icmp .eq 379, 3) := by decide +kernel
theorem dL_law_1199 : decode cL_law 1199 = .ok (.iconst 0, 1) := by decide +kernel
theorem dL_law_1200 : decode cL_law 1200 = .ok (.ireturn, 1) := by decide +kernel
theorem dL_law_1201 : decode cL_law 1201 = .ok (.aload_n 1, 1) := by decide +kernel
theorem dL_law_1202 : decode cL_law 1202 = .ok (.invokevirtual 137, 3) := by decide +kernel
theorem dL_law_1205 : decode cL_law 1205 = .ok (.aload_n 2, 1) := by decide +kernel
theorem dL_law_1206 : decode cL_law 1206 = .ok (.invokevirtual 140, 3) := by decide +kernel
theorem dL_law_1209 : decode cL_law 1209 = .ok (.if_icmp .eq 366, 3) := by decide +kernel
theorem dL_law_1212 : decode cL_law 1212 = .ok (.iconst 0, 1) := by decide +kernel
theorem dL_law_1213 : decode cL_law 1213 = .ok (.ireturn, 1) := by decide +kernel
theorem dL_law_1214 : decode cL_law 1214 = .ok (.aload_n 1, 1) := by decide +kernel
theorem dL_law_1215 : decode cL_law 1215 = .ok (.aload_n 0, 1) := by decide +kernel
theorem dL_law_1216 : decode cL_law 1216 = .ok (.iload_n 3, 1) := by decide +kernel
theorem dL_law_1217 : decode cL_law 1217 = .ok (.iconst 1, 1) := by decide +kernel
theorem dL_law_1218 : decode cL_law 1218 = .ok (.iadd, 1) := by decide +kernel
theorem dL_law_1219 : decode cL_law 1219 = .ok (.iaload, 1) := by decide +kernel
theorem dL_law_1220 : decode cL_law 1220 = .ok (.aload_n 0, 1) := by decide +kernel
theorem dL_law_1221 : decode cL_law 1221 = .ok (.iload_n 3, 1) := by decide +kernel
theorem dL_law_1222 : decode cL_law 1222 = .ok (.iconst 2, 1) := by decide +kernel
theorem dL_law_1223 : decode cL_law 1223 = .ok (.iadd, 1) := by decide +kernel
theorem dL_law_1224 : decode cL_law 1224 = .ok (.iaload, 1) := by decide +kernel
theorem dL_law_1225 : decode cL_law 1225 = .ok (.invokevirtual 141, 3) := by decide +kernel
theorem dL_law_1228 : decode cL_law 1228 = .ok (.aload_n 2, 1) := by decide +kernel
theorem dL_law_1229 : decode cL_law 1229 = .ok (.aload_n 0, 1) := by decide +kernel
theorem dL_law_1230 : decode cL_law 1230 = .ok (.iload_n 3, 1) := by decide +kernel
theorem dL_law_1231 : decode cL_law 1231 = .ok (.iconst 1, 1) := by decide +kernel
theorem dL_law_1232 : decode cL_law 1232 = .ok (.iadd, 1) := by decide +kernel
theorem dL_law_1233 : decode cL_law 1233 = .ok (.iaload, 1) := by decide +kernel
theorem dL_law_1234 : decode cL_law 1234 = .ok (.aload_n 0, 1) := by decide +kernel
theorem dL_law_1235 : decode cL_law 1235 = .ok (.iload_n 3, 1) := by decide +kernel
theorem dL_law_1236 : decode cL_law 1236 = .ok (.iconst 2, 1) := by decide +kernel
theorem dL_law_1237 : decode cL_law 1237 = .ok (.iadd, 1) := by decide +kernel
theorem dL_law_1238 : decode cL_law 1238 = .ok (.iaload, 1) := by decide +kernel
theorem dL_law_1239 : decode cL_law 1239 = .ok (.invokevirtual 144, 3) := by decide +kernel
theorem dL_law_1242 : decode cL_law 1242 = .ok (.if_icmp .eq 333, 3) := by decide +kernel
theorem dL_law_1245 : decode cL_law 1245 = .ok (.iconst 0, 1) := by decide +kernel
theorem dL_law_1246 : decode cL_law 1246 = .ok (.ireturn, 1) := by decide +kernel
theorem dL_law_1247 : decode cL_law 1247 = .ok (.aload_n 1, 1) := by decide +kernel
theorem dL_law_1248 : decode cL_law 1248 = .ok (.aload_n 0, 1) := by decide +kernel
theorem dL_law_1249 : decode cL_law 1249 = .ok (.iload_n 3, 1) := by decide +kernel
theorem dL_law_1250 : decode cL_law 1250 = .ok (.iconst 1, 1) := by decide +kernel
theorem dL_law_1251 : decode cL_law 1251 = .ok (.iadd, 1) := by decide +kernel
theorem dL_law_1252 : decode cL_law 1252 = .ok (.iaload, 1) := by decide +kernel
theorem dL_law_1253 : decode cL_law 1253 = .ok (.invokevirtual 145, 3) := by decide +kernel
theorem dL_law_1256 : decode cL_law 1256 = .ok (.aload_n 2, 1) := by decide +kernel
theorem dL_law_1257 : decode cL_law 1257 = .ok (.aload_n 0, 1) := by decide +kernel
theorem dL_law_1258 : decode cL_law 1258 = .ok (.iload_n 3, 1) := by decide +kernel
theorem dL_law_1259 : decode cL_law 1259 = .ok (.iconst 1, 1) := by decide +kernel
theorem dL_law_1260 : decode cL_law 1260 = .ok (.iadd, 1) := by decide +kernel
theorem dL_law_1261 : decode cL_law 1261 = .ok (.iaload, 1) := by decide +kernel
theorem dL_law_1262 : decode cL_law 1262 = .ok (.invokevirtual 148, 3) := by decide +kernel
theorem dL_law_1265 : decode cL_law 1265 = .ok (.if_icmp .eq 310, 3) := by decide +kernel
theorem dL_law_1268 : decode cL_law 1268 = .ok (.iconst 0, 1) := by decide +kernel
theorem dL_law_1269 : decode cL_law 1269 = .ok (.ireturn, 1) := by decide +kernel
theorem dL_law_1270 : decode cL_law 1270 = .ok (.aload_n 1, 1) := by decide +kernel
theorem dL_law_1271 : decode cL_law 1271 = .ok (.aload_n 0, 1) := by decide +kernel
theorem dL_law_1272 : decode cL_law 1272 = .ok (.iload_n 3, 1) := by decide +kernel
theorem dL_law_1273 : decode cL_law 1273 = .ok (.iconst 1, 1) := by decide +kernel
theorem dL_law_1274 : decode cL_law 1274 = .ok (.iadd, 1) := by decide +kernel
theorem dL_law_1275 : decode cL_law 1275 = .ok (.iaload, 1) := by decide +kernel
theorem dL_law_1276 : decode cL_law 1276 = .ok (.aload_n 0, 1) := by decide +kernel
theorem dL_law_1277 : decode cL_law 1277 = .ok (.iload_n 3, 1) := by decide +kernel
theorem dL_law_1278 : decode cL_law 1278 = .ok (.iconst 2, 1) := by decide +kernel
theorem dL_law_1279 : decode cL_law 1279 = .ok (.iadd, 1) := by decide +kernel
theorem dL_law_1280 : decode cL_law 1280 = .ok (.iaload, 1) := by decide +kernel
theorem dL_law_1281 : decode cL_law 1281 = .ok (.aload_n 0, 1) := by decide +kernel
theorem dL_law_1282 : decode cL_law 1282 = .ok (.iload_n 3, 1) := by decide +kernel
theorem dL_law_1283 : decode cL_law 1283 = .ok (.iconst 3, 1) := by decide +kernel
theorem dL_law_1284 : decode cL_law 1284 = .ok (.iadd, 1) := by decide +kernel
theorem dL_law_1285 : decode cL_law 1285 = .ok (.iaload, 1) := by decide +kernel
theorem dL_law_1286 : decode cL_law 1286 = .ok (.invokevirtual 149, 3) := by decide +kernel
theorem dL_law_1289 : decode cL_law 1289 = .ok (.aload_n 2, 1) := by decide +kernel
theorem dL_law_1290 : decode cL_law 1290 = .ok (.aload_n 0, 1) := by decide +kernel
theorem dL_law_1291 : decode cL_law 1291 = .ok (.iload_n 3, 1) := by decide +kernel
theorem dL_law_1292 : decode cL_law 1292 = .ok (.iconst 1, 1) := by decide +kernel
theorem dL_law_1293 : decode cL_law 1293 = .ok (.iadd, 1) := by decide +kernel
theorem dL_law_1294 : decode cL_law 1294 = .ok (.iaload, 1) := by decide +kernel
theorem dL_law_1295 : decode cL_law 1295 = .ok (.aload_n 0, 1) := by decide +kernel
theorem dL_law_1296 : decode cL_law 1296 = .ok (.iload_n 3, 1) := by decide +kernel
theorem dL_law_1297 : decode cL_law 1297 = .ok (.iconst 2, 1) := by decide +kernel
theorem dL_law_1298 : decode cL_law 1298 = .ok (.iadd, 1) := by decide +kernel
theorem dL_law_1299 : decode cL_law 1299 = .ok (.iaload, 1) := by decide +kernel
theorem dL_law_1300 : decode cL_law 1300 = .ok (.aload_n 0, 1) := by decide +kernel
theorem dL_law_1301 : decode cL_law 1301 = .ok (.iload_n 3, 1) := by decide +kernel
theorem dL_law_1302 : decode cL_law 1302 = .ok (.iconst 3, 1) := by decide +kernel
theorem dL_law_1303 : decode cL_law 1303 = .ok (.iadd, 1) := by decide +kernel
theorem dL_law_1304 : decode cL_law 1304 = .ok (.iaload, 1) := by decide +kernel
theorem dL_law_1305 : decode cL_law 1305 = .ok (.invokevirtual 152, 3) := by decide +kernel
theorem dL_law_1308 : decode cL_law 1308 = .ok (.if_icmp .eq 267, 3) := by decide +kernel
theorem dL_law_1311 : decode cL_law 1311 = .ok (.iconst 0, 1) := by decide +kernel
theorem dL_law_1312 : decode cL_law 1312 = .ok (.ireturn, 1) := by decide +kernel
theorem dL_law_1313 : decode cL_law 1313 = .ok (.aload_n 1, 1) := by decide +kernel
theorem dL_law_1314 : decode cL_law 1314 = .ok (.aload_n 0, 1) := by decide +kernel
theorem dL_law_1315 : decode cL_law 1315 = .ok (.iload_n 3, 1) := by decide +kernel
theorem dL_law_1316 : decode cL_law 1316 = .ok (.iconst 1, 1) := by decide +kernel
theorem dL_law_1317 : decode cL_law 1317 = .ok (.iadd, 1) := by decide +kernel
theorem dL_law_1318 : decode cL_law 1318 = .ok (.iaload, 1) := by decide +kernel
theorem dL_law_1319 : decode cL_law 1319 = .ok (.invokevirtual 153, 3) := by decide +kernel
theorem dL_law_1322 : decode cL_law 1322 = .ok (.aload_n 2, 1) := by decide +kernel
theorem dL_law_1323 : decode cL_law 1323 = .ok (.aload_n 0, 1) := by decide +kernel
theorem dL_law_1324 : decode cL_law 1324 = .ok (.iload_n 3, 1) := by decide +kernel
theorem dL_law_1325 : decode cL_law 1325 = .ok (.iconst 1, 1) := by decide +kernel
theorem dL_law_1326 : decode cL_law 1326 = .ok (.iadd, 1) := by decide +kernel
theorem dL_law_1327 : decode cL_law 1327 = .ok (.iaload, 1) := by decide +kernel
theorem dL_law_1328 : decode cL_law 1328 = .ok (.invokevirtual 156, 3) := by decide +kernel
theorem dL_law_1331 : decode cL_law 1331 = .ok (.if_icmp .eq 244, 3) := by decide +kernel
theorem dL_law_1334 : decode cL_law 1334 = .ok (.iconst 0, 1) := by decide +kernel
theorem dL_law_1335 : decode cL_law 1335 = .ok (.ireturn, 1) := by decide +kernel
theorem dL_law_1336 : decode cL_law 1336 = .ok (.aload_n 1, 1) := by decide +kernel
theorem dL_law_1337 : decode cL_law 1337 = .ok (.aload_n 0, 1) := by decide +kernel
theorem dL_law_1338 : decode cL_law 1338 = .ok (.iload_n 3, 1) := by decide +kernel
theorem dL_law_1339 : decode cL_law 1339 = .ok (.iconst 1, 1) := by decide +kernel
theorem dL_law_1340 : decode cL_law 1340 = .ok (.iadd, 1) := by decide +kernel
theorem dL_law_1341 : decode cL_law 1341 = .ok (.iaload, 1) := by decide +kernel
theorem dL_law_1342 : decode cL_law 1342 = .ok (.aload_n 0, 1) := by decide +kernel
theorem dL_law_1343 : decode cL_law 1343 = .ok (.iload_n 3, 1) := by decide +kernel
theorem dL_law_1344 : decode cL_law 1344 = .ok (.iconst 2, 1) := by decide +kernel
theorem dL_law_1345 : decode cL_law 1345 = .ok (.iadd, 1) := by decide +kernel
theorem dL_law_1346 : decode cL_law 1346 = .ok (.iaload, 1) := by decide +kernel
theorem dL_law_1347 : decode cL_law 1347 = .ok (.aload_n 0, 1) := by decide +kernel
theorem dL_law_1348 : decode cL_law 1348 = .ok (.iload_n 3, 1) := by decide +kernel
theorem dL_law_1349 : decode cL_law 1349 = .ok (.iconst 3, 1) := by decide +kernel
theorem dL_law_1350 : decode cL_law 1350 = .ok (.iadd, 1) := by decide +kernel
theorem dL_law_1351 : decode cL_law 1351 = .ok (.iaload, 1) := by decide +kernel
theorem dL_law_1352 : decode cL_law 1352 = .ok (.aload_n 0, 1) := by decide +kernel
theorem dL_law_1353 : decode cL_law 1353 = .ok (.iload_n 3, 1) := by decide +kernel
theorem dL_law_1354 : decode cL_law 1354 = .ok (.iconst 4, 1) := by decide +kernel
theorem dL_law_1355 : decode cL_law 1355 = .ok (.iadd, 1) := by decide +kernel
theorem dL_law_1356 : decode cL_law 1356 = .ok (.iaload, 1) := by decide +kernel
theorem dL_law_1357 : decode cL_law 1357 = .ok (.invokevirtual 157, 3) := by decide +kernel
theorem dL_law_1360 : decode cL_law 1360 = .ok (.aload_n 2, 1) := by decide +kernel
theorem dL_law_1361 : decode cL_law 1361 = .ok (.aload_n 0, 1) := by decide +kernel
theorem dL_law_1362 : decode cL_law 1362 = .ok (.iload_n 3, 1) := by decide +kernel
theorem dL_law_1363 : decode cL_law 1363 = .ok (.iconst 1, 1) := by decide +kernel
theorem dL_law_1364 : decode cL_law 1364 = .ok (.iadd, 1) := by decide +kernel
theorem dL_law_1365 : decode cL_law 1365 = .ok (.iaload, 1) := by decide +kernel
theorem dL_law_1366 : decode cL_law 1366 = .ok (.aload_n 0, 1) := by decide +kernel
theorem dL_law_1367 : decode cL_law 1367 = .ok (.iload_n 3, 1) := by decide +kernel
theorem dL_law_1368 : decode cL_law 1368 = .ok (.iconst 2, 1) := by decide +kernel
theorem dL_law_1369 : decode cL_law 1369 = .ok (.iadd, 1) := by decide +kernel
theorem dL_law_1370 : decode cL_law 1370 = .ok (.iaload, 1) := by decide +kernel
theorem dL_law_1371 : decode cL_law 1371 = .ok (.aload_n 0, 1) := by decide +kernel
theorem dL_law_1372 : decode cL_law 1372 = .ok (.iload_n 3, 1) := by decide +kernel
theorem dL_law_1373 : decode cL_law 1373 = .ok (.iconst 3, 1) := by decide +kernel
theorem dL_law_1374 : decode cL_law 1374 = .ok (.iadd, 1) := by decide +kernel
theorem dL_law_1375 : decode cL_law 1375 = .ok (.iaload, 1) := by decide +kernel
theorem dL_law_1376 : decode cL_law 1376 = .ok (.aload_n 0, 1) := by decide +kernel
theorem dL_law_1377 : decode cL_law 1377 = .ok (.iload_n 3, 1) := by decide +kernel
theorem dL_law_1378 : decode cL_law 1378 = .ok (.iconst 4, 1) := by decide +kernel
theorem dL_law_1379 : decode cL_law 1379 = .ok (.iadd, 1) := by decide +kernel
theorem dL_law_1380 : decode cL_law 1380 = .ok (.iaload, 1) := by decide +kernel
theorem dL_law_1381 : decode cL_law 1381 = .ok (.invokevirtual 160, 3) := by decide +kernel
theorem dL_law_1384 : decode cL_law 1384 = .ok (.if_icmp .eq 191, 3) := by decide +kernel
theorem dL_law_1387 : decode cL_law 1387 = .ok (.iconst 0, 1) := by decide +kernel
theorem dL_law_1388 : decode cL_law 1388 = .ok (.ireturn, 1) := by decide +kernel
theorem dL_law_1389 : decode cL_law 1389 = .ok (.aload_n 1, 1) := by decide +kernel
theorem dL_law_1390 : decode cL_law 1390 = .ok (.aload_n 0, 1) := by decide +kernel
theorem dL_law_1391 : decode cL_law 1391 = .ok (.iload_n 3, 1) := by decide +kernel
theorem dL_law_1392 : decode cL_law 1392 = .ok (.iconst 1, 1) := by decide +kernel
theorem dL_law_1393 : decode cL_law 1393 = .ok (.iadd, 1) := by decide +kernel
theorem dL_law_1394 : decode cL_law 1394 = .ok (.iaload, 1) := by decide +kernel
theorem dL_law_1395 : decode cL_law 1395 = .ok (.aload_n 0, 1) := by decide +kernel
theorem dL_law_1396 : decode cL_law 1396 = .ok (.iload_n 3, 1) := by decide +kernel
theorem dL_law_1397 : decode cL_law 1397 = .ok (.iconst 2, 1) := by decide +kernel
theorem dL_law_1398 : decode cL_law 1398 = .ok (.iadd, 1) := by decide +kernel
theorem dL_law_1399 : decode cL_law 1399 = .ok (.iaload, 1) := by decide +kernel
theorem dL_law_1400 : decode cL_law 1400 = .ok (.aload_n 0, 1) := by decide +kernel
theorem dL_law_1401 : decode cL_law 1401 = .ok (.iload_n 3, 1) := by decide +kernel
theorem dL_law_1402 : decode cL_law 1402 = .ok (.iconst 3, 1) := by decide +kernel
theorem dL_law_1403 : decode cL_law 1403 = .ok (.iadd, 1) := by decide +kernel
theorem dL_law_1404 : decode cL_law 1404 = .ok (.iaload, 1) := by decide +kernel
theorem dL_law_1405 : decode cL_law 1405 = .ok (.invokevirtual 161, 3) := by decide +kernel
theorem dL_law_1408 : decode cL_law 1408 = .ok (.aload_n 2, 1) := by decide +kernel
theorem dL_law_1409 : decode cL_law 1409 = .ok (.aload_n 0, 1) := by decide +kernel
theorem dL_law_1410 : decode cL_law 1410 = .ok (.iload_n 3, 1) := by decide +kernel
theorem dL_law_1411 : decode cL_law 1411 = .ok (.iconst 1, 1) := by decide +kernel
theorem dL_law_1412 : decode cL_law 1412 = .ok (.iadd, 1) := by decide +kernel
theorem dL_law_1413 : decode cL_law 1413 = .ok (.iaload, 1) := by decide +kernel
theorem dL_law_1414 : decode cL_law 1414 = .ok (.aload_n 0, 1) := by decide +kernel
theorem dL_law_1415 : decode cL_law 1415 = .ok (.iload_n 3, 1) := by decide +kernel
theorem dL_law_1416 : decode cL_law 1416 = .ok (.iconst 2, 1) := by decide +kernel
theorem dL_law_1417 : decode cL_law 1417 = .ok (.iadd, 1) := by decide +kernel
theorem dL_law_1418 : decode cL_law 1418 = .ok (.iaload, 1) := by decide +kernel
theorem dL_law_1419 : decode cL_law 1419 = .ok (.aload_n 0, 1) := by decide +kernel
theorem dL_law_1420 : decode cL_law 1420 = .ok (.iload_n 3, 1) := by decide +kernel
theorem dL_law_1421 : decode cL_law 1421 = .ok (.iconst 3, 1) := by decide +kernel
theorem dL_law_1422 : decode cL_law 1422 = .ok (.iadd, 1) := by decide +kernel
theorem dL_law_1423 : decode cL_law 1423 = .ok (.iaload, 1) := by decide +kernel
theorem dL_law_1424 : decode cL_law 1424 = .ok (.invokevirtual 164, 3) := by decide +kernel
theorem dL_law_1427 : decode cL_law 1427 = .ok (.if_icmp .eq 148, 3) := by decide +kernel
theorem dL_law_1430 : decode cL_law 1430 = .ok (.iconst 0, 1) := by decide +kernel
theorem dL_law_1431 : decode cL_law 1431 = .ok (.ireturn, 1) := by decide +kernel
theorem dL_law_1432 : decode cL_law 1432 = .ok (.aload_n 1, 1) := by decide +kernel
theorem dL_law_1433 : decode cL_law 1433 = .ok (.aload_n 0, 1) := by decide +kernel
theorem dL_law_1434 : decode cL_law 1434 = .ok (.iload_n 3, 1) := by decide +kernel
theorem dL_law_1435 : decode cL_law 1435 = .ok (.iconst 1, 1) := by decide +kernel
theorem dL_law_1436 : decode cL_law 1436 = .ok (.iadd, 1) := by decide +kernel
theorem dL_law_1437 : decode cL_law 1437 = .ok (.iaload, 1) := by decide +kernel
theorem dL_law_1438 : decode cL_law 1438 = .ok (.aload_n 0, 1) := by decide +kernel
theorem dL_law_1439 : decode cL_law 1439 = .ok (.iload_n 3, 1) := by decide +kernel
theorem dL_law_1440 : decode cL_law 1440 = .ok (.iconst 2, 1) := by decide +kernel
theorem dL_law_1441 : decode cL_law 1441 = .ok (.iadd, 1) := by decide +kernel
theorem dL_law_1442 : decode cL_law 1442 = .ok (.iaload, 1) := by decide +kernel
theorem dL_law_1443 : decode cL_law 1443 = .ok (.aload_n 0, 1) := by decide +kernel
theorem dL_law_1444 : decode cL_law 1444 = .ok (.iload_n 3, 1) := by decide +kernel
theorem dL_law_1445 : decode cL_law 1445 = .ok (.iconst 3, 1) := by decide +kernel
theorem dL_law_1446 : decode cL_law 1446 = .ok (.iadd, 1) := by decide +kernel
theorem dL_law_1447 : decode cL_law 1447 = .ok (.iaload, 1) := by decide +kernel
theorem dL_law_1448 : decode cL_law 1448 = .ok (.aload_n 0, 1) := by decide +kernel
theorem dL_law_1449 : decode cL_law 1449 = .ok (.iload_n 3, 1) := by decide +kernel
theorem dL_law_1450 : decode cL_law 1450 = .ok (.iconst 4, 1) := by decide +kernel
theorem dL_law_1451 : decode cL_law 1451 = .ok (.iadd, 1) := by decide +kernel
theorem dL_law_1452 : decode cL_law 1452 = .ok (.iaload, 1) := by decide +kernel
theorem dL_law_1453 : decode cL_law 1453 = .ok (.aload_n 0, 1) := by decide +kernel
theorem dL_law_1454 : decode cL_law 1454 = .ok (.iload_n 3, 1) := by decide +kernel
theorem dL_law_1455 : decode cL_law 1455 = .ok (.iconst 5, 1) := by decide +kernel
theorem dL_law_1456 : decode cL_law 1456 = .ok (.iadd, 1) := by decide +kernel
theorem dL_law_1457 : decode cL_law 1457 = .ok (.iaload, 1) := by decide +kernel
theorem dL_law_1458 : decode cL_law 1458 = .ok (.invokevirtual 165, 3) := by decide +kernel
theorem dL_law_1461 : decode cL_law 1461 = .ok (.aload_n 2, 1) := by decide +kernel
theorem dL_law_1462 : decode cL_law 1462 = .ok (.aload_n 0, 1) := by decide +kernel
theorem dL_law_1463 : decode cL_law 1463 = .ok (.iload_n 3, 1) := by decide +kernel
theorem dL_law_1464 : decode cL_law 1464 = .ok (.iconst 1, 1) := by decide +kernel
theorem dL_law_1465 : decode cL_law 1465 = .ok (.iadd, 1) := by decide +kernel
theorem dL_law_1466 : decode cL_law 1466 = .ok (.iaload, 1) := by decide +kernel
theorem dL_law_1467 : decode cL_law 1467 = .ok (.aload_n 0, 1) := by decide +kernel
theorem dL_law_1468 : decode cL_law 1468 = .ok (.iload_n 3, 1) := by decide +kernel
theorem dL_law_1469 : decode cL_law 1469 = .ok (.iconst 2, 1) := by decide +kernel
theorem dL_law_1470 : decode cL_law 1470 = .ok (.iadd, 1) := by decide +kernel
theorem dL_law_1471 : decode cL_law 1471 = .ok (.iaload, 1) := by decide +kernel
theorem dL_law_1472 : decode cL_law 1472 = .ok (.aload_n 0, 1) := by decide +kernel
theorem dL_law_1473 : decode cL_law 1473 = .ok (.iload_n 3, 1) := by decide +kernel
theorem dL_law_1474 : decode cL_law 1474 = .ok (.iconst 3, 1) := by decide +kernel
theorem dL_law_1475 : decode cL_law 1475 = .ok (.iadd, 1) := by decide +kernel
theorem dL_law_1476 : decode cL_law 1476 = .ok (.iaload, 1) := by decide +kernel
theorem dL_law_1477 : decode cL_law 1477 = .ok (.aload_n 0, 1) := by decide +kernel
theorem dL_law_1478 : decode cL_law 1478 = .ok (.iload_n 3, 1) := by decide +kernel
theorem dL_law_1479 : decode cL_law 1479 = .ok (.iconst 4, 1) := by decide +kernel
theorem dL_law_1480 : decode cL_law 1480 = .ok (.iadd, 1) := by decide +kernel
theorem dL_law_1481 : decode cL_law 1481 = .ok (.iaload, 1) := by decide +kernel
theorem dL_law_1482 : decode cL_law 1482 = .ok (.aload_n 0, 1) := by decide +kernel
theorem dL_law_1483 : decode cL_law 1483 = .ok (.iload_n 3, 1) := by decide +kernel
theorem dL_law_1484 : decode cL_law 1484 = .ok (.iconst 5, 1) := by decide +kernel
theorem dL_law_1485 : decode cL_law 1485 = .ok (.iadd, 1) := by decide +kernel
theorem dL_law_1486 : decode cL_law 1486 = .ok (.iaload, 1) := by decide +kernel
theorem dL_law_1487 : decode cL_law 1487 = .ok (.invokevirtual 168, 3) := by decide +kernel
theorem dL_law_1490 : decode cL_law 1490 = .ok (.if_icmp .eq 85, 3) := by decide +kernel
theorem dL_law_1493 : decode cL_law 1493 = .ok (.iconst 0, 1) := by decide +kernel
theorem dL_law_1494 : decode cL_law 1494 = .ok (.ireturn, 1) := by decide +kernel
theorem dL_law_1495 : decode cL_law 1495 = .ok (.aload_n 1, 1) := by decide +kernel
theorem dL_law_1496 : decode cL_law 1496 = .ok (.aload_n 0, 1) := by decide +kernel
theorem dL_law_1497 : decode cL_law 1497 = .ok (.iload_n 3, 1) := by decide +kernel
theorem dL_law_1498 : decode cL_law 1498 = .ok (.iconst 1, 1) := by decide +kernel
theorem dL_law_1499 : decode cL_law 1499 = .ok (.iadd, 1) := by decide +kernel
theorem dL_law_1500 : decode cL_law 1500 = .ok (.iaload, 1) := by decide +kernel
theorem dL_law_1501 : decode cL_law 1501 = .ok (.aload_n 0, 1) := by decide +kernel
theorem dL_law_1502 : decode cL_law 1502 = .ok (.iload_n 3, 1) := by decide +kernel
theorem dL_law_1503 : decode cL_law 1503 = .ok (.iconst 2, 1) := by decide +kernel
theorem dL_law_1504 : decode cL_law 1504 = .ok (.iadd, 1) := by decide +kernel
theorem dL_law_1505 : decode cL_law 1505 = .ok (.iaload, 1) := by decide +kernel
theorem dL_law_1506 : decode cL_law 1506 = .ok (.aload_n 0, 1) := by decide +kernel
theorem dL_law_1507 : decode cL_law 1507 = .ok (.iload_n 3, 1) := by decide +kernel
theorem dL_law_1508 : decode cL_law 1508 = .ok (.iconst 3, 1) := by decide +kernel
theorem dL_law_1509 : decode cL_law 1509 = .ok (.iadd, 1) := by decide +kernel
theorem dL_law_1510 : decode cL_law 1510 = .ok (.iaload, 1) := by decide +kernel
theorem dL_law_1511 : decode cL_law 1511 = .ok (.invokevirtual 169, 3) := by decide +kernel
theorem dL_law_1514 : decode cL_law 1514 = .ok (.aload_n 2, 1) := by decide +kernel
theorem dL_law_1515 : decode cL_law 1515 = .ok (.aload_n 0, 1) := by decide +kernel
theorem dL_law_1516 : decode cL_law 1516 = .ok (.iload_n 3, 1) := by decide +kernel
theorem dL_law_1517 : decode cL_law 1517 = .ok (.iconst 1, 1) := by decide +kernel
theorem dL_law_1518 : decode cL_law 1518 = .ok (.iadd, 1) := by decide +kernel
theorem dL_law_1519 : decode cL_law 1519 = .ok (.iaload, 1) := by decide +kernel
theorem dL_law_1520 : decode cL_law 1520 = .ok (.aload_n 0, 1) := by decide +kernel
theorem dL_law_1521 : decode cL_law 1521 = .ok (.iload_n 3, 1) := by decide +kernel
theorem dL_law_1522 : decode cL_law 1522 = .ok (.iconst 2, 1) := by decide +kernel
theorem dL_law_1523 : decode cL_law 1523 = .ok (.iadd, 1) := by decide +kernel
theorem dL_law_1524 : decode cL_law 1524 = .ok (.iaload, 1) := by decide +kernel
theorem dL_law_1525 : decode cL_law 1525 = .ok (.aload_n 0, 1) := by decide +kernel
theorem dL_law_1526 : decode cL_law 1526 = .ok (.iload_n 3, 1) := by decide +kernel
theorem dL_law_1527 : decode cL_law 1527 = .ok (.iconst 3, 1) := by decide +kernel
theorem dL_law_1528 : decode cL_law 1528 = .ok (.iadd, 1) := by decide +kernel
theorem dL_law_1529 : decode cL_law 1529 = .ok (.iaload, 1) := by decide +kernel
theorem dL_law_1530 : decode cL_law 1530 = .ok (.invokevirtual 172, 3) := by decide +kernel
theorem dL_law_1533 : decode cL_law 1533 = .ok (.if_icmp .eq 42, 3) := by decide +kernel
theorem dL_law_1536 : decode cL_law 1536 = .ok (.iconst 0, 1) := by decide +kernel
theorem dL_law_1537 : decode cL_law 1537 = .ok (.ireturn, 1) := by decide +kernel
theorem dL_law_1538 : decode cL_law 1538 = .ok (.aload_n 1, 1) := by decide +kernel
theorem dL_law_1539 : decode cL_law 1539 = .ok (.aload_n 0, 1) := by decide +kernel
theorem dL_law_1540 : decode cL_law 1540 = .ok (.iload_n 3, 1) := by decide +kernel
theorem dL_law_1541 : decode cL_law 1541 = .ok (.iconst 1, 1) := by decide +kernel
theorem dL_law_1542 : decode cL_law 1542 = .ok (.iadd, 1) := by decide +kernel
theorem dL_law_1543 : decode cL_law 1543 = .ok (.iaload, 1) := by decide +kernel
theorem dL_law_1544 : decode cL_law 1544 = .ok (.invokevirtual 173, 3) := by decide +kernel
theorem dL_law_1547 : decode cL_law 1547 = .ok (.aload_n 2, 1) := by decide +kernel
theorem dL_law_1548 : decode cL_law 1548 = .ok (.aload_n 0, 1) := by decide +kernel
theorem dL_law_1549 : decode cL_law 1549 = .ok (.iload_n 3, 1) := by decide +kernel
theorem dL_law_1550 : decode cL_law 1550 = .ok (.iconst 1, 1) := by decide +kernel
theorem dL_law_1551 : decode cL_law 1551 = .ok (.iadd, 1) := by decide +kernel
theorem dL_law_1552 : decode cL_law 1552 = .ok (.iaload, 1) := by decide +kernel
theorem dL_law_1553 : decode cL_law 1553 = .ok (.invokevirtual 176, 3) := by decide +kernel
theorem dL_law_1556 : decode cL_law 1556 = .ok (.if_icmp .eq 19, 3) := by decide +kernel
theorem dL_law_1559 : decode cL_law 1559 = .ok (.iconst 0, 1) := by decide +kernel
theorem dL_law_1560 : decode cL_law 1560 = .ok (.ireturn, 1) := by decide +kernel
theorem dL_law_1561 : decode cL_law 1561 = .ok (.aload_n 1, 1) := by decide +kernel
theorem dL_law_1562 : decode cL_law 1562 = .ok (.invokevirtual 177, 3) := by decide +kernel
theorem dL_law_1565 : decode cL_law 1565 = .ok (.aload_n 2, 1) := by decide +kernel
theorem dL_law_1566 : decode cL_law 1566 = .ok (.invokevirtual 181, 3) := by decide +kernel
theorem dL_law_1569 : decode cL_law 1569 = .ok (.lcmp, 1) := by decide +kernel
theorem dL_law_1570 : decode cL_law 1570 = .ok (.ifCond .eq 5, 3) := by decide +kernel
theorem dL_law_1573 : decode cL_law 1573 = .ok (.iconst 0, 1) := by decide +kernel
theorem dL_law_1574 : decode cL_law 1574 = .ok (.ireturn, 1) := by decide +kernel
theorem dL_law_1575 : decode cL_law 1575 = .ok (.iinc 3 6, 3) := by decide +kernel
theorem dL_law_1578 : decode cL_law 1578 = .ok (.goto (-1560), 3) := by decide +kernel
theorem dL_law_1581 : decode cL_law 1581 = .ok (.iconst 1, 1) := by decide +kernel
theorem dL_law_1582 : decode cL_law 1582 = .ok (.ireturn, 1) := by decide +kernel
end
section
theorem exp_len : lw_tbl.length = 1550 := by decide +kernel
theorem exp_good : (lw_tbl.filter (fun w => !goodWord w)).length = 113 := by decide +kernel
end
