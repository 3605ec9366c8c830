section
-- ===== PART A: goes FIRST, ahead of the names: the tables' words, and 'selects' of the private methods out of them =====
/-- a private method of a class that the tables say can be made, by its rows of tables_1 -/
def lw_okq (q : MethodName × Nat) : Prop := (q.1.cls ≠ "java/lang/invoke/MethodHandle" ∧ q.1.cls ≠ "java/lang/invoke/VarHandle") ∧ Cond.instantiable q.1.cls q.2 ∈ tables_1 ∧ Cond.privateMethod q.1 ∈ tables_1 ∧ Cond.instanceMethod q.1 ∈ tables_1
theorem lw_p0 : lw_okq (⟨"CordBay$Rack", "lineUp", "()V"⟩, 5) := ⟨⟨by decide +kernel, by decide +kernel⟩, List.mem_of_getElem? (i := 24) (by decide +kernel), List.mem_of_getElem? (i := 264) (by decide +kernel), List.mem_of_getElem? (i := 265) (by decide +kernel)⟩
theorem lw_p1 : lw_okq (⟨"CordBay$Rack", "placeNext", "(I)V"⟩, 5) := ⟨⟨by decide +kernel, by decide +kernel⟩, List.mem_of_getElem? (i := 24) (by decide +kernel), List.mem_of_getElem? (i := 268) (by decide +kernel), List.mem_of_getElem? (i := 269) (by decide +kernel)⟩
theorem lw_p2 : lw_okq (⟨"CordBay$Rack", "leastReady", "()I"⟩, 5) := ⟨⟨by decide +kernel, by decide +kernel⟩, List.mem_of_getElem? (i := 24) (by decide +kernel), List.mem_of_getElem? (i := 272) (by decide +kernel), List.mem_of_getElem? (i := 273) (by decide +kernel)⟩
theorem lw_p3 : lw_okq (⟨"CordBay$Rack", "isReady", "(LCordBay$Unit;)Z"⟩, 5) := ⟨⟨by decide +kernel, by decide +kernel⟩, List.mem_of_getElem? (i := 24) (by decide +kernel), List.mem_of_getElem? (i := 276) (by decide +kernel), List.mem_of_getElem? (i := 277) (by decide +kernel)⟩
theorem lw_p4 : lw_okq (⟨"CordBay$Rack", "stepOn", "(I)V"⟩, 5) := ⟨⟨by decide +kernel, by decide +kernel⟩, List.mem_of_getElem? (i := 24) (by decide +kernel), List.mem_of_getElem? (i := 306) (by decide +kernel), List.mem_of_getElem? (i := 307) (by decide +kernel)⟩
theorem lw_p5 : lw_okq (⟨"CordBay$Rack", "isFedAtStep", "(LCordBay$Unit;I)Z"⟩, 5) := ⟨⟨by decide +kernel, by decide +kernel⟩, List.mem_of_getElem? (i := 24) (by decide +kernel), List.mem_of_getElem? (i := 310) (by decide +kernel), List.mem_of_getElem? (i := 311) (by decide +kernel)⟩
theorem lw_p6 : lw_okq (⟨"CordBay$Block", "mark", "(I)V"⟩, 8) := ⟨⟨by decide +kernel, by decide +kernel⟩, List.mem_of_getElem? (i := 120) (by decide +kernel), List.mem_of_getElem? (i := 391) (by decide +kernel), List.mem_of_getElem? (i := 392) (by decide +kernel)⟩
theorem lw_p7 : lw_okq (⟨"CordBay$Block", "newRowOf", "(LCordBay$Unit;)LCordBay$Row;"⟩, 8) := ⟨⟨by decide +kernel, by decide +kernel⟩, List.mem_of_getElem? (i := 120) (by decide +kernel), List.mem_of_getElem? (i := 395) (by decide +kernel), List.mem_of_getElem? (i := 396) (by decide +kernel)⟩
theorem lw_p8 : lw_okq (⟨"CordBay$Block", "playTable", "(LCordBay$Unit;)LCordBay$Row;"⟩, 8) := ⟨⟨by decide +kernel, by decide +kernel⟩, List.mem_of_getElem? (i := 120) (by decide +kernel), List.mem_of_getElem? (i := 399) (by decide +kernel), List.mem_of_getElem? (i := 400) (by decide +kernel)⟩
theorem lw_p9 : lw_okq (⟨"CordBay$Block", "fail", "(II)LCordBay$Row;"⟩, 8) := ⟨⟨by decide +kernel, by decide +kernel⟩, List.mem_of_getElem? (i := 120) (by decide +kernel), List.mem_of_getElem? (i := 404) (by decide +kernel), List.mem_of_getElem? (i := 405) (by decide +kernel)⟩
theorem lw_p10 : lw_okq (⟨"CordBay$Block", "putFromTable", "(LCordBay$Unit;LCordBay$Row;II)V"⟩, 8) := ⟨⟨by decide +kernel, by decide +kernel⟩, List.mem_of_getElem? (i := 120) (by decide +kernel), List.mem_of_getElem? (i := 437) (by decide +kernel), List.mem_of_getElem? (i := 438) (by decide +kernel)⟩
theorem lw_p11 : lw_okq (⟨"CordBay$Block", "putWhole", "(LCordBay$Unit;LCordBay$Row;II)V"⟩, 8) := ⟨⟨by decide +kernel, by decide +kernel⟩, List.mem_of_getElem? (i := 120) (by decide +kernel), List.mem_of_getElem? (i := 454) (by decide +kernel), List.mem_of_getElem? (i := 455) (by decide +kernel)⟩
theorem lw_p12 : lw_okq (⟨"CordBay$Block", "shape", "(LCordBay$Unit;)LCordBay$Row;"⟩, 8) := ⟨⟨by decide +kernel, by decide +kernel⟩, List.mem_of_getElem? (i := 120) (by decide +kernel), List.mem_of_getElem? (i := 475) (by decide +kernel), List.mem_of_getElem? (i := 476) (by decide +kernel)⟩
theorem lw_p13 : lw_okq (⟨"CordBay$Block", "wantedRow", "(LCordBay$Unit;II)LCordBay$Row;"⟩, 8) := ⟨⟨by decide +kernel, by decide +kernel⟩, List.mem_of_getElem? (i := 120) (by decide +kernel), List.mem_of_getElem? (i := 479) (by decide +kernel), List.mem_of_getElem? (i := 480) (by decide +kernel)⟩
theorem lw_p14 : lw_okq (⟨"CordBay$Block", "rowAt", "(LCordBay$Unit;I)LCordBay$Row;"⟩, 8) := ⟨⟨by decide +kernel, by decide +kernel⟩, List.mem_of_getElem? (i := 120) (by decide +kernel), List.mem_of_getElem? (i := 484) (by decide +kernel), List.mem_of_getElem? (i := 485) (by decide +kernel)⟩
theorem lw_p15 : lw_okq (⟨"CordBay$Block", "endsAhead", "(LCordBay$Row;I)Z"⟩, 8) := ⟨⟨by decide +kernel, by decide +kernel⟩, List.mem_of_getElem? (i := 120) (by decide +kernel), List.mem_of_getElem? (i := 492) (by decide +kernel), List.mem_of_getElem? (i := 493) (by decide +kernel)⟩
def lw_privs_1 : List (MethodName × Nat) := [(⟨"CordBay$Rack", "lineUp", "()V"⟩, 5), (⟨"CordBay$Rack", "placeNext", "(I)V"⟩, 5), (⟨"CordBay$Rack", "leastReady", "()I"⟩, 5), (⟨"CordBay$Rack", "isReady", "(LCordBay$Unit;)Z"⟩, 5), (⟨"CordBay$Rack", "stepOn", "(I)V"⟩, 5), (⟨"CordBay$Rack", "isFedAtStep", "(LCordBay$Unit;I)Z"⟩, 5), (⟨"CordBay$Block", "mark", "(I)V"⟩, 8), (⟨"CordBay$Block", "newRowOf", "(LCordBay$Unit;)LCordBay$Row;"⟩, 8), (⟨"CordBay$Block", "playTable", "(LCordBay$Unit;)LCordBay$Row;"⟩, 8), (⟨"CordBay$Block", "fail", "(II)LCordBay$Row;"⟩, 8), (⟨"CordBay$Block", "putFromTable", "(LCordBay$Unit;LCordBay$Row;II)V"⟩, 8), (⟨"CordBay$Block", "putWhole", "(LCordBay$Unit;LCordBay$Row;II)V"⟩, 8), (⟨"CordBay$Block", "shape", "(LCordBay$Unit;)LCordBay$Row;"⟩, 8), (⟨"CordBay$Block", "wantedRow", "(LCordBay$Unit;II)LCordBay$Row;"⟩, 8), (⟨"CordBay$Block", "rowAt", "(LCordBay$Unit;I)LCordBay$Row;"⟩, 8), (⟨"CordBay$Block", "endsAhead", "(LCordBay$Row;I)Z"⟩, 8)]
theorem lw_r1 : ∀ q ∈ lw_privs_1, lw_okq q := List.forall_mem_cons.mpr ⟨lw_p0, List.forall_mem_cons.mpr ⟨lw_p1, List.forall_mem_cons.mpr ⟨lw_p2, List.forall_mem_cons.mpr ⟨lw_p3, List.forall_mem_cons.mpr ⟨lw_p4, List.forall_mem_cons.mpr ⟨lw_p5, List.forall_mem_cons.mpr ⟨lw_p6, List.forall_mem_cons.mpr ⟨lw_p7, List.forall_mem_cons.mpr ⟨lw_p8, List.forall_mem_cons.mpr ⟨lw_p9, List.forall_mem_cons.mpr ⟨lw_p10, List.forall_mem_cons.mpr ⟨lw_p11, List.forall_mem_cons.mpr ⟨lw_p12, List.forall_mem_cons.mpr ⟨lw_p13, List.forall_mem_cons.mpr ⟨lw_p14, List.forall_mem_cons.mpr ⟨lw_p15, fun _ h => absurd h List.not_mem_nil⟩⟩⟩⟩⟩⟩⟩⟩⟩⟩⟩⟩⟩⟩⟩⟩
theorem lw_p16 : lw_okq (⟨"CordBay$Block", "shapedSample", "(LCordBay$Unit;ID)D"⟩, 8) := ⟨⟨by decide +kernel, by decide +kernel⟩, List.mem_of_getElem? (i := 120) (by decide +kernel), List.mem_of_getElem? (i := 505) (by decide +kernel), List.mem_of_getElem? (i := 506) (by decide +kernel)⟩
theorem lw_p17 : lw_okq (⟨"CordBay$Block", "gainAt", "(LCordBay$Unit;I)D"⟩, 8) := ⟨⟨by decide +kernel, by decide +kernel⟩, List.mem_of_getElem? (i := 120) (by decide +kernel), List.mem_of_getElem? (i := 509) (by decide +kernel), List.mem_of_getElem? (i := 510) (by decide +kernel)⟩
theorem lw_p18 : lw_okq (⟨"CordBay$Block", "mix", "(LCordBay$Unit;)LCordBay$Row;"⟩, 8) := ⟨⟨by decide +kernel, by decide +kernel⟩, List.mem_of_getElem? (i := 120) (by decide +kernel), List.mem_of_getElem? (i := 514) (by decide +kernel), List.mem_of_getElem? (i := 515) (by decide +kernel)⟩
theorem lw_p19 : lw_okq (⟨"CordBay$Block", "sumAt", "(LCordBay$Unit;I)J"⟩, 8) := ⟨⟨by decide +kernel, by decide +kernel⟩, List.mem_of_getElem? (i := 120) (by decide +kernel), List.mem_of_getElem? (i := 520) (by decide +kernel), List.mem_of_getElem? (i := 521) (by decide +kernel)⟩
theorem lw_p20 : lw_okq (⟨"CordBay$Block", "openGate", "(LCordBay$Unit;)LCordBay$Row;"⟩, 8) := ⟨⟨by decide +kernel, by decide +kernel⟩, List.mem_of_getElem? (i := 120) (by decide +kernel), List.mem_of_getElem? (i := 534) (by decide +kernel), List.mem_of_getElem? (i := 535) (by decide +kernel)⟩
theorem lw_p21 : lw_okq (⟨"CordBay$Block", "upAfter", "(LCordBay$Unit;D)I"⟩, 8) := ⟨⟨by decide +kernel, by decide +kernel⟩, List.mem_of_getElem? (i := 120) (by decide +kernel), List.mem_of_getElem? (i := 538) (by decide +kernel), List.mem_of_getElem? (i := 539) (by decide +kernel)⟩
theorem lw_p22 : lw_okq (⟨"CordBay$Block", "turn", "(LCordBay$Unit;)LCordBay$Row;"⟩, 8) := ⟨⟨by decide +kernel, by decide +kernel⟩, List.mem_of_getElem? (i := 120) (by decide +kernel), List.mem_of_getElem? (i := 542) (by decide +kernel), List.mem_of_getElem? (i := 543) (by decide +kernel)⟩
theorem lw_p23 : lw_okq (⟨"CordBay$Block", "putFloating", "(LCordBay$Unit;LCordBay$Row;ILCordBay$Row;)V"⟩, 8) := ⟨⟨by decide +kernel, by decide +kernel⟩, List.mem_of_getElem? (i := 120) (by decide +kernel), List.mem_of_getElem? (i := 546) (by decide +kernel), List.mem_of_getElem? (i := 547) (by decide +kernel)⟩
theorem lw_p24 : lw_okq (⟨"CordBay$Block", "passOn", "(LCordBay$Unit;)LCordBay$Row;"⟩, 8) := ⟨⟨by decide +kernel, by decide +kernel⟩, List.mem_of_getElem? (i := 120) (by decide +kernel), List.mem_of_getElem? (i := 550) (by decide +kernel), List.mem_of_getElem? (i := 551) (by decide +kernel)⟩
theorem lw_p25 : lw_okq (⟨"CordBay$Block", "average", "(LCordBay$Unit;)LCordBay$Row;"⟩, 8) := ⟨⟨by decide +kernel, by decide +kernel⟩, List.mem_of_getElem? (i := 120) (by decide +kernel), List.mem_of_getElem? (i := 554) (by decide +kernel), List.mem_of_getElem? (i := 555) (by decide +kernel)⟩
theorem lw_p26 : lw_okq (⟨"CordBay$Block", "closeAll", "()V"⟩, 8) := ⟨⟨by decide +kernel, by decide +kernel⟩, List.mem_of_getElem? (i := 120) (by decide +kernel), List.mem_of_getElem? (i := 558) (by decide +kernel), List.mem_of_getElem? (i := 559) (by decide +kernel)⟩
theorem lw_p27 : lw_okq (⟨"CordBay$Block", "finish", "()V"⟩, 8) := ⟨⟨by decide +kernel, by decide +kernel⟩, List.mem_of_getElem? (i := 120) (by decide +kernel), List.mem_of_getElem? (i := 562) (by decide +kernel), List.mem_of_getElem? (i := 563) (by decide +kernel)⟩
theorem lw_p28 : lw_okq (⟨"CordBay", "countOfModule", "(I)I"⟩, 6) := ⟨⟨by decide +kernel, by decide +kernel⟩, List.mem_of_getElem? (i := 16) (by decide +kernel), List.mem_of_getElem? (i := 705) (by decide +kernel), List.mem_of_getElem? (i := 706) (by decide +kernel)⟩
theorem lw_p29 : lw_okq (⟨"CordBayModel", "hasIn", "(II)Z"⟩, 31) := ⟨⟨by decide +kernel, by decide +kernel⟩, List.mem_of_getElem? (i := 709) (by decide +kernel), List.mem_of_getElem? (i := 820) (by decide +kernel), List.mem_of_getElem? (i := 821) (by decide +kernel)⟩
theorem lw_p30 : lw_okq (⟨"CordBayModel", "isModule", "(I)Z"⟩, 31) := ⟨⟨by decide +kernel, by decide +kernel⟩, List.mem_of_getElem? (i := 709) (by decide +kernel), List.mem_of_getElem? (i := 824) (by decide +kernel), List.mem_of_getElem? (i := 825) (by decide +kernel)⟩
theorem lw_p31 : lw_okq (⟨"CordBayModel", "way", "(II)I"⟩, 31) := ⟨⟨by decide +kernel, by decide +kernel⟩, List.mem_of_getElem? (i := 709) (by decide +kernel), List.mem_of_getElem? (i := 828) (by decide +kernel), List.mem_of_getElem? (i := 829) (by decide +kernel)⟩
def lw_privs_2 : List (MethodName × Nat) := [(⟨"CordBay$Block", "shapedSample", "(LCordBay$Unit;ID)D"⟩, 8), (⟨"CordBay$Block", "gainAt", "(LCordBay$Unit;I)D"⟩, 8), (⟨"CordBay$Block", "mix", "(LCordBay$Unit;)LCordBay$Row;"⟩, 8), (⟨"CordBay$Block", "sumAt", "(LCordBay$Unit;I)J"⟩, 8), (⟨"CordBay$Block", "openGate", "(LCordBay$Unit;)LCordBay$Row;"⟩, 8), (⟨"CordBay$Block", "upAfter", "(LCordBay$Unit;D)I"⟩, 8), (⟨"CordBay$Block", "turn", "(LCordBay$Unit;)LCordBay$Row;"⟩, 8), (⟨"CordBay$Block", "putFloating", "(LCordBay$Unit;LCordBay$Row;ILCordBay$Row;)V"⟩, 8), (⟨"CordBay$Block", "passOn", "(LCordBay$Unit;)LCordBay$Row;"⟩, 8), (⟨"CordBay$Block", "average", "(LCordBay$Unit;)LCordBay$Row;"⟩, 8), (⟨"CordBay$Block", "closeAll", "()V"⟩, 8), (⟨"CordBay$Block", "finish", "()V"⟩, 8), (⟨"CordBay", "countOfModule", "(I)I"⟩, 6), (⟨"CordBayModel", "hasIn", "(II)Z"⟩, 31), (⟨"CordBayModel", "isModule", "(I)Z"⟩, 31), (⟨"CordBayModel", "way", "(II)I"⟩, 31)]
theorem lw_r2 : ∀ q ∈ lw_privs_2, lw_okq q := List.forall_mem_cons.mpr ⟨lw_p16, List.forall_mem_cons.mpr ⟨lw_p17, List.forall_mem_cons.mpr ⟨lw_p18, List.forall_mem_cons.mpr ⟨lw_p19, List.forall_mem_cons.mpr ⟨lw_p20, List.forall_mem_cons.mpr ⟨lw_p21, List.forall_mem_cons.mpr ⟨lw_p22, List.forall_mem_cons.mpr ⟨lw_p23, List.forall_mem_cons.mpr ⟨lw_p24, List.forall_mem_cons.mpr ⟨lw_p25, List.forall_mem_cons.mpr ⟨lw_p26, List.forall_mem_cons.mpr ⟨lw_p27, List.forall_mem_cons.mpr ⟨lw_p28, List.forall_mem_cons.mpr ⟨lw_p29, List.forall_mem_cons.mpr ⟨lw_p30, List.forall_mem_cons.mpr ⟨lw_p31, fun _ h => absurd h List.not_mem_nil⟩⟩⟩⟩⟩⟩⟩⟩⟩⟩⟩⟩⟩⟩⟩⟩
theorem lw_p32 : lw_okq (⟨"CordBayModel", "leads", "(II)Z"⟩, 31) := ⟨⟨by decide +kernel, by decide +kernel⟩, List.mem_of_getElem? (i := 709) (by decide +kernel), List.mem_of_getElem? (i := 832) (by decide +kernel), List.mem_of_getElem? (i := 833) (by decide +kernel)⟩
theorem lw_p33 : lw_okq (⟨"CordBayModel", "copyState", "(II)V"⟩, 31) := ⟨⟨by decide +kernel, by decide +kernel⟩, List.mem_of_getElem? (i := 709) (by decide +kernel), List.mem_of_getElem? (i := 856) (by decide +kernel), List.mem_of_getElem? (i := 857) (by decide +kernel)⟩
theorem lw_p34 : lw_okq (⟨"CordBayModel", "setOrder", "()V"⟩, 31) := ⟨⟨by decide +kernel, by decide +kernel⟩, List.mem_of_getElem? (i := 709) (by decide +kernel), List.mem_of_getElem? (i := 860) (by decide +kernel), List.mem_of_getElem? (i := 861) (by decide +kernel)⟩
theorem lw_p35 : lw_okq (⟨"CordBayModel", "hasActed", "(II)Z"⟩, 31) := ⟨⟨by decide +kernel, by decide +kernel⟩, List.mem_of_getElem? (i := 709) (by decide +kernel), List.mem_of_getElem? (i := 864) (by decide +kernel), List.mem_of_getElem? (i := 865) (by decide +kernel)⟩
theorem lw_p36 : lw_okq (⟨"CordBayModel", "acts", "(I)Z"⟩, 31) := ⟨⟨by decide +kernel, by decide +kernel⟩, List.mem_of_getElem? (i := 709) (by decide +kernel), List.mem_of_getElem? (i := 868) (by decide +kernel), List.mem_of_getElem? (i := 869) (by decide +kernel)⟩
theorem lw_p37 : lw_okq (⟨"CordBayModel", "source", "(I)Z"⟩, 31) := ⟨⟨by decide +kernel, by decide +kernel⟩, List.mem_of_getElem? (i := 709) (by decide +kernel), List.mem_of_getElem? (i := 872) (by decide +kernel), List.mem_of_getElem? (i := 873) (by decide +kernel)⟩
theorem lw_p38 : lw_okq (⟨"CordBayModel", "fails", "(III)Z"⟩, 31) := ⟨⟨by decide +kernel, by decide +kernel⟩, List.mem_of_getElem? (i := 709) (by decide +kernel), List.mem_of_getElem? (i := 876) (by decide +kernel), List.mem_of_getElem? (i := 877) (by decide +kernel)⟩
theorem lw_p39 : lw_okq (⟨"CordBayModel", "wholeInto", "(IJI)D"⟩, 31) := ⟨⟨by decide +kernel, by decide +kernel⟩, List.mem_of_getElem? (i := 709) (by decide +kernel), List.mem_of_getElem? (i := 881) (by decide +kernel), List.mem_of_getElem? (i := 882) (by decide +kernel)⟩
theorem lw_p40 : lw_okq (⟨"CordBayModel", "heldTo", "(IJI)D"⟩, 31) := ⟨⟨by decide +kernel, by decide +kernel⟩, List.mem_of_getElem? (i := 709) (by decide +kernel), List.mem_of_getElem? (i := 885) (by decide +kernel), List.mem_of_getElem? (i := 886) (by decide +kernel)⟩
theorem lw_p41 : lw_okq (⟨"CordBayModel", "give", "(II)V"⟩, 31) := ⟨⟨by decide +kernel, by decide +kernel⟩, List.mem_of_getElem? (i := 709) (by decide +kernel), List.mem_of_getElem? (i := 897) (by decide +kernel), List.mem_of_getElem? (i := 898) (by decide +kernel)⟩
theorem lw_p42 : lw_okq (⟨"CordBayModel", "rowAt", "(II)I"⟩, 31) := ⟨⟨by decide +kernel, by decide +kernel⟩, List.mem_of_getElem? (i := 709) (by decide +kernel), List.mem_of_getElem? (i := 901) (by decide +kernel), List.mem_of_getElem? (i := 902) (by decide +kernel)⟩
theorem lw_p43 : lw_okq (⟨"CordBayModel", "counts", "(II)Z"⟩, 31) := ⟨⟨by decide +kernel, by decide +kernel⟩, List.mem_of_getElem? (i := 709) (by decide +kernel), List.mem_of_getElem? (i := 905) (by decide +kernel), List.mem_of_getElem? (i := 906) (by decide +kernel)⟩
theorem lw_p44 : lw_okq (⟨"CordBayModel", "kindOf", "(I)I"⟩, 31) := ⟨⟨by decide +kernel, by decide +kernel⟩, List.mem_of_getElem? (i := 709) (by decide +kernel), List.mem_of_getElem? (i := 909) (by decide +kernel), List.mem_of_getElem? (i := 910) (by decide +kernel)⟩
theorem lw_p45 : lw_okq (⟨"CordBayModel", "mix", "(I)Z"⟩, 31) := ⟨⟨by decide +kernel, by decide +kernel⟩, List.mem_of_getElem? (i := 709) (by decide +kernel), List.mem_of_getElem? (i := 913) (by decide +kernel), List.mem_of_getElem? (i := 914) (by decide +kernel)⟩
theorem lw_p46 : lw_okq (⟨"CordBayModel", "hasSample", "(III)Z"⟩, 31) := ⟨⟨by decide +kernel, by decide +kernel⟩, List.mem_of_getElem? (i := 709) (by decide +kernel), List.mem_of_getElem? (i := 917) (by decide +kernel), List.mem_of_getElem? (i := 918) (by decide +kernel)⟩
theorem lw_p47 : lw_okq (⟨"CordBayModel", "sampleOf", "(III)D"⟩, 31) := ⟨⟨by decide +kernel, by decide +kernel⟩, List.mem_of_getElem? (i := 709) (by decide +kernel), List.mem_of_getElem? (i := 921) (by decide +kernel), List.mem_of_getElem? (i := 922) (by decide +kernel)⟩
def lw_privs_3 : List (MethodName × Nat) := [(⟨"CordBayModel", "leads", "(II)Z"⟩, 31), (⟨"CordBayModel", "copyState", "(II)V"⟩, 31), (⟨"CordBayModel", "setOrder", "()V"⟩, 31), (⟨"CordBayModel", "hasActed", "(II)Z"⟩, 31), (⟨"CordBayModel", "acts", "(I)Z"⟩, 31), (⟨"CordBayModel", "source", "(I)Z"⟩, 31), (⟨"CordBayModel", "fails", "(III)Z"⟩, 31), (⟨"CordBayModel", "wholeInto", "(IJI)D"⟩, 31), (⟨"CordBayModel", "heldTo", "(IJI)D"⟩, 31), (⟨"CordBayModel", "give", "(II)V"⟩, 31), (⟨"CordBayModel", "rowAt", "(II)I"⟩, 31), (⟨"CordBayModel", "counts", "(II)Z"⟩, 31), (⟨"CordBayModel", "kindOf", "(I)I"⟩, 31), (⟨"CordBayModel", "mix", "(I)Z"⟩, 31), (⟨"CordBayModel", "hasSample", "(III)Z"⟩, 31), (⟨"CordBayModel", "sampleOf", "(III)D"⟩, 31)]
theorem lw_r3 : ∀ q ∈ lw_privs_3, lw_okq q := List.forall_mem_cons.mpr ⟨lw_p32, List.forall_mem_cons.mpr ⟨lw_p33, List.forall_mem_cons.mpr ⟨lw_p34, List.forall_mem_cons.mpr ⟨lw_p35, List.forall_mem_cons.mpr ⟨lw_p36, List.forall_mem_cons.mpr ⟨lw_p37, List.forall_mem_cons.mpr ⟨lw_p38, List.forall_mem_cons.mpr ⟨lw_p39, List.forall_mem_cons.mpr ⟨lw_p40, List.forall_mem_cons.mpr ⟨lw_p41, List.forall_mem_cons.mpr ⟨lw_p42, List.forall_mem_cons.mpr ⟨lw_p43, List.forall_mem_cons.mpr ⟨lw_p44, List.forall_mem_cons.mpr ⟨lw_p45, List.forall_mem_cons.mpr ⟨lw_p46, List.forall_mem_cons.mpr ⟨lw_p47, fun _ h => absurd h List.not_mem_nil⟩⟩⟩⟩⟩⟩⟩⟩⟩⟩⟩⟩⟩⟩⟩⟩
theorem lw_p48 : lw_okq (⟨"CordBayModel", "noRow", "(II)V"⟩, 31) := ⟨⟨by decide +kernel, by decide +kernel⟩, List.mem_of_getElem? (i := 709) (by decide +kernel), List.mem_of_getElem? (i := 925) (by decide +kernel), List.mem_of_getElem? (i := 926) (by decide +kernel)⟩
theorem lw_p49 : lw_okq (⟨"CordBayModel", "delay", "(I)V"⟩, 31) := ⟨⟨by decide +kernel, by decide +kernel⟩, List.mem_of_getElem? (i := 709) (by decide +kernel), List.mem_of_getElem? (i := 929) (by decide +kernel), List.mem_of_getElem? (i := 930) (by decide +kernel)⟩
theorem lw_p50 : lw_okq (⟨"CordBayModel", "copyRow", "(IIII)V"⟩, 31) := ⟨⟨by decide +kernel, by decide +kernel⟩, List.mem_of_getElem? (i := 709) (by decide +kernel), List.mem_of_getElem? (i := 933) (by decide +kernel), List.mem_of_getElem? (i := 934) (by decide +kernel)⟩
theorem lw_p51 : lw_okq (⟨"CordBayModel", "gate", "(I)Z"⟩, 31) := ⟨⟨by decide +kernel, by decide +kernel⟩, List.mem_of_getElem? (i := 709) (by decide +kernel), List.mem_of_getElem? (i := 937) (by decide +kernel), List.mem_of_getElem? (i := 938) (by decide +kernel)⟩
theorem lw_p52 : lw_okq (⟨"CordBayModel", "hasRow", "(III)Z"⟩, 31) := ⟨⟨by decide +kernel, by decide +kernel⟩, List.mem_of_getElem? (i := 709) (by decide +kernel), List.mem_of_getElem? (i := 941) (by decide +kernel), List.mem_of_getElem? (i := 942) (by decide +kernel)⟩
theorem lw_p53 : lw_okq (⟨"CordBayModel", "isNoneOf", "(III)Z"⟩, 31) := ⟨⟨by decide +kernel, by decide +kernel⟩, List.mem_of_getElem? (i := 709) (by decide +kernel), List.mem_of_getElem? (i := 945) (by decide +kernel), List.mem_of_getElem? (i := 946) (by decide +kernel)⟩
theorem lw_p54 : lw_okq (⟨"CordBayModel", "turn", "(I)Z"⟩, 31) := ⟨⟨by decide +kernel, by decide +kernel⟩, List.mem_of_getElem? (i := 709) (by decide +kernel), List.mem_of_getElem? (i := 950) (by decide +kernel), List.mem_of_getElem? (i := 951) (by decide +kernel)⟩
theorem lw_p55 : lw_okq (⟨"CordBayModel", "floatingInto", "(IDI)D"⟩, 31) := ⟨⟨by decide +kernel, by decide +kernel⟩, List.mem_of_getElem? (i := 709) (by decide +kernel), List.mem_of_getElem? (i := 954) (by decide +kernel), List.mem_of_getElem? (i := 955) (by decide +kernel)⟩
theorem lw_p56 : lw_okq (⟨"CordBayModel", "doesSwitch", "(I)Z"⟩, 31) := ⟨⟨by decide +kernel, by decide +kernel⟩, List.mem_of_getElem? (i := 709) (by decide +kernel), List.mem_of_getElem? (i := 958) (by decide +kernel), List.mem_of_getElem? (i := 959) (by decide +kernel)⟩
theorem lw_p57 : lw_okq (⟨"CordBayModel", "mean", "(I)Z"⟩, 31) := ⟨⟨by decide +kernel, by decide +kernel⟩, List.mem_of_getElem? (i := 709) (by decide +kernel), List.mem_of_getElem? (i := 962) (by decide +kernel), List.mem_of_getElem? (i := 963) (by decide +kernel)⟩
theorem lw_p58 : lw_okq (⟨"CordBayModel", "shape", "(I)Z"⟩, 31) := ⟨⟨by decide +kernel, by decide +kernel⟩, List.mem_of_getElem? (i := 709) (by decide +kernel), List.mem_of_getElem? (i := 966) (by decide +kernel), List.mem_of_getElem? (i := 967) (by decide +kernel)⟩
theorem lw_p59 : lw_okq (⟨"CordBayModel", "shaped", "(IID)D"⟩, 31) := ⟨⟨by decide +kernel, by decide +kernel⟩, List.mem_of_getElem? (i := 709) (by decide +kernel), List.mem_of_getElem? (i := 970) (by decide +kernel), List.mem_of_getElem? (i := 971) (by decide +kernel)⟩
theorem lw_p60 : lw_okq (⟨"CordBayModel", "filtered", "(ID)D"⟩, 31) := ⟨⟨by decide +kernel, by decide +kernel⟩, List.mem_of_getElem? (i := 709) (by decide +kernel), List.mem_of_getElem? (i := 974) (by decide +kernel), List.mem_of_getElem? (i := 975) (by decide +kernel)⟩
theorem lw_p61 : lw_okq (⟨"CordBayModel", "late", "(ID)D"⟩, 31) := ⟨⟨by decide +kernel, by decide +kernel⟩, List.mem_of_getElem? (i := 709) (by decide +kernel), List.mem_of_getElem? (i := 978) (by decide +kernel), List.mem_of_getElem? (i := 979) (by decide +kernel)⟩
theorem lw_p62 : lw_okq (⟨"CordBayModel", "feed", "()V"⟩, 31) := ⟨⟨by decide +kernel, by decide +kernel⟩, List.mem_of_getElem? (i := 709) (by decide +kernel), List.mem_of_getElem? (i := 982) (by decide +kernel), List.mem_of_getElem? (i := 983) (by decide +kernel)⟩
theorem lw_p63 : lw_okq (⟨"CordBayModel", "takeOf", "(I)I"⟩, 31) := ⟨⟨by decide +kernel, by decide +kernel⟩, List.mem_of_getElem? (i := 709) (by decide +kernel), List.mem_of_getElem? (i := 1006) (by decide +kernel), List.mem_of_getElem? (i := 1007) (by decide +kernel)⟩
def lw_privs_4 : List (MethodName × Nat) := [(⟨"CordBayModel", "noRow", "(II)V"⟩, 31), (⟨"CordBayModel", "delay", "(I)V"⟩, 31), (⟨"CordBayModel", "copyRow", "(IIII)V"⟩, 31), (⟨"CordBayModel", "gate", "(I)Z"⟩, 31), (⟨"CordBayModel", "hasRow", "(III)Z"⟩, 31), (⟨"CordBayModel", "isNoneOf", "(III)Z"⟩, 31), (⟨"CordBayModel", "turn", "(I)Z"⟩, 31), (⟨"CordBayModel", "floatingInto", "(IDI)D"⟩, 31), (⟨"CordBayModel", "doesSwitch", "(I)Z"⟩, 31), (⟨"CordBayModel", "mean", "(I)Z"⟩, 31), (⟨"CordBayModel", "shape", "(I)Z"⟩, 31), (⟨"CordBayModel", "shaped", "(IID)D"⟩, 31), (⟨"CordBayModel", "filtered", "(ID)D"⟩, 31), (⟨"CordBayModel", "late", "(ID)D"⟩, 31), (⟨"CordBayModel", "feed", "()V"⟩, 31), (⟨"CordBayModel", "takeOf", "(I)I"⟩, 31)]
theorem lw_r4 : ∀ q ∈ lw_privs_4, lw_okq q := List.forall_mem_cons.mpr ⟨lw_p48, List.forall_mem_cons.mpr ⟨lw_p49, List.forall_mem_cons.mpr ⟨lw_p50, List.forall_mem_cons.mpr ⟨lw_p51, List.forall_mem_cons.mpr ⟨lw_p52, List.forall_mem_cons.mpr ⟨lw_p53, List.forall_mem_cons.mpr ⟨lw_p54, List.forall_mem_cons.mpr ⟨lw_p55, List.forall_mem_cons.mpr ⟨lw_p56, List.forall_mem_cons.mpr ⟨lw_p57, List.forall_mem_cons.mpr ⟨lw_p58, List.forall_mem_cons.mpr ⟨lw_p59, List.forall_mem_cons.mpr ⟨lw_p60, List.forall_mem_cons.mpr ⟨lw_p61, List.forall_mem_cons.mpr ⟨lw_p62, List.forall_mem_cons.mpr ⟨lw_p63, fun _ h => absurd h List.not_mem_nil⟩⟩⟩⟩⟩⟩⟩⟩⟩⟩⟩⟩⟩⟩⟩⟩
theorem lw_p64 : lw_okq (⟨"CordBayModel", "hasGiven", "(II)Z"⟩, 31) := ⟨⟨by decide +kernel, by decide +kernel⟩, List.mem_of_getElem? (i := 709) (by decide +kernel), List.mem_of_getElem? (i := 1021) (by decide +kernel), List.mem_of_getElem? (i := 1022) (by decide +kernel)⟩
def lw_privs_5 : List (MethodName × Nat) := [(⟨"CordBayModel", "hasGiven", "(II)Z"⟩, 31)]
theorem lw_r5 : ∀ q ∈ lw_privs_5, lw_okq q := List.forall_mem_cons.mpr ⟨lw_p64, fun _ h => absurd h List.not_mem_nil⟩
def lw_privs : List (MethodName × Nat) := lw_privs_1 ++ (lw_privs_2 ++ (lw_privs_3 ++ (lw_privs_4 ++ (lw_privs_5))))
def lw_tbl : List Cond := k2_sels lw_privs ++ tables_1
theorem lw_privs_ok : ∀ q ∈ lw_privs, lw_okq q := by
  show ∀ q ∈ lw_privs_1 ++ (lw_privs_2 ++ (lw_privs_3 ++ (lw_privs_4 ++ (lw_privs_5)))), lw_okq q
  exact List.forall_mem_append.mpr ⟨lw_r1, List.forall_mem_append.mpr ⟨lw_r2, List.forall_mem_append.mpr ⟨lw_r3, List.forall_mem_append.mpr ⟨lw_r4, lw_r5⟩⟩⟩⟩
/-- the streams that the claim lets the run draw from -/
abbrev lw_cs : List Choice := [Jvm.Choice.named "NaN.bits"]
theorem lw_bits : nanBits ∈ lw_cs := by first | decide | exact List.mem_cons_self | simp [lw_cs, nanBits]
end
section
def RX0 : String := "CordBay$Block"
def TX0 : u_T := fun k => match k with
  | 0 => ("CordBay$Block", "found", "I", false)
  | 1 => ("CordBay$Block", "foundModule", "I", false)
  | 2 => ("CordBay$Block", "foundSample", "I", false)
  | 3 => ("CordBay$Block", "rack", "LCordBay$Rack;", true)
  | 4 => ("CordBay$Block", "tables", "LCordBay$Tables;", true)
  | 5 => ("CordBay$Block", "marks", "[I", true)
  | 6 => ("CordBay$Block", "markCount", "I", false)
  | _ => ("CordBay$Block", "samples", "I", false)
def tyX0 : Nat → FieldType := fun k => match k with
  | 0 => .int
  | 1 => .int
  | 2 => .int
  | 3 => .object "CordBay$Rack"
  | 4 => .object "CordBay$Tables"
  | 5 => .array .int
  | 6 => .int
  | _ => .int
theorem nmX0 : ∀ a, a < 8 → ∀ b, b < 8 → a ≠ b → (TX0 a).2.1 ≠ (TX0 b).2.1 := by decide +kernel
theorem tyX0_ok : ∀ k, k < 8 → parseFieldDescriptor (TX0 k).2.2.1 = some (tyX0 k) := by decide +kernel
abbrev cX0_init : ByteArray := prog_2_method_1_code
def yX0_init : MethodName := ⟨RX0, "<init>", "(LCordBay$Rack;LCordBay$Tables;)V"⟩
abbrev cX0_markAt : ByteArray := prog_2_method_2_code
def yX0_markAt : MethodName := ⟨RX0, "markAt", "(I)I"⟩
abbrev cX0_perform : ByteArray := prog_2_method_3_code
def yX0_perform : MethodName := ⟨RX0, "perform", "(I)I"⟩
abbrev cX0_mark : ByteArray := prog_2_method_4_code
def yX0_mark : MethodName := ⟨RX0, "mark", "(I)V"⟩
abbrev cX0_closeAll : ByteArray := prog_2_method_5_code
def yX0_closeAll : MethodName := ⟨RX0, "closeAll", "()V"⟩
abbrev cX0_finish : ByteArray := prog_2_method_6_code
def yX0_finish : MethodName := ⟨RX0, "finish", "()V"⟩
abbrev cX0_newRowOf : ByteArray := prog_2_method_7_code
def yX0_newRowOf : MethodName := ⟨RX0, "newRowOf", "(LCordBay$Unit;)LCordBay$Row;"⟩
abbrev cX0_fail : ByteArray := prog_2_method_8_code
def yX0_fail : MethodName := ⟨RX0, "fail", "(II)LCordBay$Row;"⟩
abbrev cX0_rowAt : ByteArray := prog_2_method_9_code
def yX0_rowAt : MethodName := ⟨RX0, "rowAt", "(LCordBay$Unit;I)LCordBay$Row;"⟩
abbrev cX0_wantedRow : ByteArray := prog_2_method_10_code
def yX0_wantedRow : MethodName := ⟨RX0, "wantedRow", "(LCordBay$Unit;II)LCordBay$Row;"⟩
abbrev cX0_endsAhead : ByteArray := prog_2_method_11_code
def yX0_endsAhead : MethodName := ⟨RX0, "endsAhead", "(LCordBay$Row;I)Z"⟩
abbrev cX0_playTable : ByteArray := prog_2_method_12_code
def yX0_playTable : MethodName := ⟨RX0, "playTable", "(LCordBay$Unit;)LCordBay$Row;"⟩
abbrev cX0_putFromTable : ByteArray := prog_2_method_13_code
def yX0_putFromTable : MethodName := ⟨RX0, "putFromTable", "(LCordBay$Unit;LCordBay$Row;II)V"⟩
abbrev cX0_putWhole : ByteArray := prog_2_method_14_code
def yX0_putWhole : MethodName := ⟨RX0, "putWhole", "(LCordBay$Unit;LCordBay$Row;II)V"⟩
abbrev cX0_shape : ByteArray := prog_2_method_15_code
def yX0_shape : MethodName := ⟨RX0, "shape", "(LCordBay$Unit;)LCordBay$Row;"⟩
abbrev cX0_shapedSample : ByteArray := prog_2_method_16_code
def yX0_shapedSample : MethodName := ⟨RX0, "shapedSample", "(LCordBay$Unit;ID)D"⟩
abbrev cX0_gainAt : ByteArray := prog_2_method_17_code
def yX0_gainAt : MethodName := ⟨RX0, "gainAt", "(LCordBay$Unit;I)D"⟩
abbrev cX0_mix : ByteArray := prog_2_method_18_code
def yX0_mix : MethodName := ⟨RX0, "mix", "(LCordBay$Unit;)LCordBay$Row;"⟩
abbrev cX0_sumAt : ByteArray := prog_2_method_19_code
def yX0_sumAt : MethodName := ⟨RX0, "sumAt", "(LCordBay$Unit;I)J"⟩
abbrev cX0_openGate : ByteArray := prog_2_method_20_code
def yX0_openGate : MethodName := ⟨RX0, "openGate", "(LCordBay$Unit;)LCordBay$Row;"⟩
abbrev cX0_upAfter : ByteArray := prog_2_method_21_code
def yX0_upAfter : MethodName := ⟨RX0, "upAfter", "(LCordBay$Unit;D)I"⟩
abbrev cX0_turn : ByteArray := prog_2_method_22_code
def yX0_turn : MethodName := ⟨RX0, "turn", "(LCordBay$Unit;)LCordBay$Row;"⟩
abbrev cX0_putFloating : ByteArray := prog_2_method_23_code
def yX0_putFloating : MethodName := ⟨RX0, "putFloating", "(LCordBay$Unit;LCordBay$Row;ILCordBay$Row;)V"⟩
abbrev cX0_passOn : ByteArray := prog_2_method_24_code
def yX0_passOn : MethodName := ⟨RX0, "passOn", "(LCordBay$Unit;)LCordBay$Row;"⟩
abbrev cX0_average : ByteArray := prog_2_method_25_code
def yX0_average : MethodName := ⟨RX0, "average", "(LCordBay$Unit;)LCordBay$Row;"⟩
def RX1 : String := "CordBay$History"
def TX1 : u_T := fun k => match k with
  | 0 => ("CordBay$History", "done", "I", false)
  | 1 => ("CordBay$History", "reach", "I", false)
  | 2 => ("CordBay$History", "rack", "LCordBay$Rack;", true)
  | _ => ("CordBay$History", "slot", "I", false)
def tyX1 : Nat → FieldType := fun k => match k with
  | 0 => .int
  | 1 => .int
  | 2 => .object "CordBay$Rack"
  | _ => .int
theorem nmX1 : ∀ a, a < 4 → ∀ b, b < 4 → a ≠ b → (TX1 a).2.1 ≠ (TX1 b).2.1 := by decide +kernel
theorem tyX1_ok : ∀ k, k < 4 → parseFieldDescriptor (TX1 k).2.2.1 = some (tyX1 k) := by decide +kernel
abbrev cX1_init : ByteArray := prog_3_method_1_code
def yX1_init : MethodName := ⟨RX1, "<init>", "(LCordBay$Rack;)V"⟩
abbrev cX1_remember : ByteArray := prog_3_method_2_code
def yX1_remember : MethodName := ⟨RX1, "remember", "()V"⟩
abbrev cX1_advance : ByteArray := prog_3_method_3_code
def yX1_advance : MethodName := ⟨RX1, "advance", "()V"⟩
abbrev cX1_undo : ByteArray := prog_3_method_4_code
def yX1_undo : MethodName := ⟨RX1, "undo", "()V"⟩
abbrev cX1_goBack : ByteArray := prog_3_method_5_code
def yX1_goBack : MethodName := ⟨RX1, "goBack", "(I)V"⟩
def RX2 : String := "CordBay$Presets"
def TX2 : u_T := fun k => match k with
  | 0 => ("CordBay$Presets", "knobs", "[[I", true)
  | _ => ("CordBay$Presets", "sizes", "[I", true)
def tyX2 : Nat → FieldType := fun k => match k with
  | 0 => .array (.array .int)
  | _ => .array .int
theorem nmX2 : ∀ a, a < 2 → ∀ b, b < 2 → a ≠ b → (TX2 a).2.1 ≠ (TX2 b).2.1 := by decide +kernel
theorem tyX2_ok : ∀ k, k < 2 → parseFieldDescriptor (TX2 k).2.2.1 = some (tyX2 k) := by decide +kernel
abbrev cX2_init : ByteArray := prog_4_method_1_code
def yX2_init : MethodName := ⟨RX2, "<init>", "()V"⟩
abbrev cX2_has : ByteArray := prog_4_method_2_code
def yX2_has : MethodName := ⟨RX2, "has", "(I)Z"⟩
abbrev cX2_isUnused : ByteArray := prog_4_method_3_code
def yX2_isUnused : MethodName := ⟨RX2, "isUnused", "(I)Z"⟩
abbrev cX2_store : ByteArray := prog_4_method_4_code
def yX2_store : MethodName := ⟨RX2, "store", "(ILCordBay$Rack;)I"⟩
abbrev cX2_restore : ByteArray := prog_4_method_5_code
def yX2_restore : MethodName := ⟨RX2, "restore", "(ILCordBay$Rack;)I"⟩
def RX3 : String := "CordBay$Rack"
def TX3 : u_T := fun k => match k with
  | 0 => ("CordBay$Rack", "size", "I", false)
  | 1 => ("CordBay$Rack", "units", "[LCordBay$Unit;", true)
  | 2 => ("CordBay$Rack", "line", "[I", true)
  | 3 => ("CordBay$Rack", "acted", "[Z", true)
  | _ => ("CordBay$Rack", "steps", "[I", true)
def tyX3 : Nat → FieldType := fun k => match k with
  | 0 => .int
  | 1 => .array (.object "CordBay$Unit")
  | 2 => .array .int
  | 3 => .array .boolean
  | _ => .array .int
theorem nmX3 : ∀ a, a < 5 → ∀ b, b < 5 → a ≠ b → (TX3 a).2.1 ≠ (TX3 b).2.1 := by decide +kernel
theorem tyX3_ok : ∀ k, k < 5 → parseFieldDescriptor (TX3 k).2.2.1 = some (tyX3 k) := by decide +kernel
abbrev cX3_init : ByteArray := prog_5_method_1_code
def yX3_init : MethodName := ⟨RX3, "<init>", "()V"⟩
abbrev cX3_isFull : ByteArray := prog_5_method_2_code
def yX3_isFull : MethodName := ⟨RX3, "isFull", "()Z"⟩
abbrev cX3_at : ByteArray := prog_5_method_3_code
def yX3_at : MethodName := ⟨RX3, "at", "(I)LCordBay$Unit;"⟩
abbrev cX3_givenBy : ByteArray := prog_5_method_4_code
def yX3_givenBy : MethodName := ⟨RX3, "givenBy", "(I)LCordBay$Row;"⟩
abbrev cX3_inLine : ByteArray := prog_5_method_5_code
def yX3_inLine : MethodName := ⟨RX3, "inLine", "(I)I"⟩
abbrev cX3_add : ByteArray := prog_5_method_6_code
def yX3_add : MethodName := ⟨RX3, "add", "(II)I"⟩
abbrev cX3_join : ByteArray := prog_5_method_7_code
def yX3_join : MethodName := ⟨RX3, "join", "(ILCordBay$Unit;I)V"⟩
abbrev cX3_cordCount : ByteArray := prog_5_method_8_code
def yX3_cordCount : MethodName := ⟨RX3, "cordCount", "()I"⟩
abbrev cX3_shortestLoop : ByteArray := prog_5_method_9_code
def yX3_shortestLoop : MethodName := ⟨RX3, "shortestLoop", "(II)I"⟩
abbrev cX3_stepOn : ByteArray := prog_5_method_10_code
def yX3_stepOn : MethodName := ⟨RX3, "stepOn", "(I)V"⟩
abbrev cX3_isFedAtStep : ByteArray := prog_5_method_11_code
def yX3_isFedAtStep : MethodName := ⟨RX3, "isFedAtStep", "(LCordBay$Unit;I)Z"⟩
abbrev cX3_lineUp : ByteArray := prog_5_method_12_code
def yX3_lineUp : MethodName := ⟨RX3, "lineUp", "()V"⟩
abbrev cX3_placeNext : ByteArray := prog_5_method_13_code
def yX3_placeNext : MethodName := ⟨RX3, "placeNext", "(I)V"⟩
abbrev cX3_leastReady : ByteArray := prog_5_method_14_code
def yX3_leastReady : MethodName := ⟨RX3, "leastReady", "()I"⟩
abbrev cX3_isReady : ByteArray := prog_5_method_15_code
def yX3_isReady : MethodName := ⟨RX3, "isReady", "(LCordBay$Unit;)Z"⟩
def RX4 : String := "CordBay$Row"
def TX4 : u_T := fun k => match k with
  | 0 => ("CordBay$Row", "kind", "I", true)
  | 1 => ("CordBay$Row", "length", "I", true)
  | 2 => ("CordBay$Row", "values", "[D", true)
  | _ => ("CordBay$Row", "lacking", "I", false)
def tyX4 : Nat → FieldType := fun k => match k with
  | 0 => .int
  | 1 => .int
  | 2 => .array .double
  | _ => .int
theorem nmX4 : ∀ a, a < 4 → ∀ b, b < 4 → a ≠ b → (TX4 a).2.1 ≠ (TX4 b).2.1 := by decide +kernel
theorem tyX4_ok : ∀ k, k < 4 → parseFieldDescriptor (TX4 k).2.2.1 = some (tyX4 k) := by decide +kernel
abbrev cX4_init : ByteArray := prog_6_method_1_code
def yX4_init : MethodName := ⟨RX4, "<init>", "(II)V"⟩
abbrev cX4_isFloating : ByteArray := prog_6_method_2_code
def yX4_isFloating : MethodName := ⟨RX4, "isFloating", "()Z"⟩
abbrev cX4_has : ByteArray := prog_6_method_3_code
def yX4_has : MethodName := ⟨RX4, "has", "(I)Z"⟩
abbrev cX4_valueAt : ByteArray := prog_6_method_4_code
def yX4_valueAt : MethodName := ⟨RX4, "valueAt", "(I)D"⟩
abbrev cX4_lacksNumberAt : ByteArray := prog_6_method_5_code
def yX4_lacksNumberAt : MethodName := ⟨RX4, "lacksNumberAt", "(I)Z"⟩
abbrev cX4_put : ByteArray := prog_6_method_6_code
def yX4_put : MethodName := ⟨RX4, "put", "(ID)V"⟩
abbrev cX4_putNoNumber : ByteArray := prog_6_method_7_code
def yX4_putNoNumber : MethodName := ⟨RX4, "putNoNumber", "(I)V"⟩
abbrev cX4_noneCount : ByteArray := prog_6_method_8_code
def yX4_noneCount : MethodName := ⟨RX4, "noneCount", "()I"⟩
abbrev cX4_isSilent : ByteArray := prog_6_method_9_code
def yX4_isSilent : MethodName := ⟨RX4, "isSilent", "()Z"⟩
abbrev cX4_isSameAs : ByteArray := prog_6_method_10_code
def yX4_isSameAs : MethodName := ⟨RX4, "isSameAs", "(LCordBay$Row;)Z"⟩
abbrev cX4_haveSameBits : ByteArray := prog_6_method_11_code
def yX4_haveSameBits : MethodName := ⟨RX4, "haveSameBits", "(DD)Z"⟩
def RX5 : String := "CordBay$State"
def TX5 : u_T := fun k => match k with
  | 0 => ("CordBay$State", "gives", "LCordBay$Row;", false)
  | 1 => ("CordBay$State", "place", "I", false)
  | 2 => ("CordBay$State", "kept", "D", false)
  | 3 => ("CordBay$State", "old", "D", false)
  | 4 => ("CordBay$State", "up", "I", false)
  | 5 => ("CordBay$State", "saturations", "I", false)
  | 6 => ("CordBay$State", "knobBefore", "I", false)
  | _ => ("CordBay$State", "fed", "[LCordBay$Row;", true)
def tyX5 : Nat → FieldType := fun k => match k with
  | 0 => .object "CordBay$Row"
  | 1 => .int
  | 2 => .double
  | 3 => .double
  | 4 => .int
  | 5 => .int
  | 6 => .int
  | _ => .array (.object "CordBay$Row")
theorem nmX5 : ∀ a, a < 8 → ∀ b, b < 8 → a ≠ b → (TX5 a).2.1 ≠ (TX5 b).2.1 := by decide +kernel
theorem tyX5_ok : ∀ k, k < 8 → parseFieldDescriptor (TX5 k).2.2.1 = some (tyX5 k) := by decide +kernel
abbrev cX5_init : ByteArray := prog_7_method_1_code
def yX5_init : MethodName := ⟨RX5, "<init>", "()V"⟩
abbrev cX5_copyFrom : ByteArray := prog_7_method_2_code
def yX5_copyFrom : MethodName := ⟨RX5, "copyFrom", "(LCordBay$State;)V"⟩
abbrev cX5_feed : ByteArray := prog_7_method_3_code
def yX5_feed : MethodName := ⟨RX5, "feed", "(LCordBay$Row;)V"⟩
abbrev cX5_fedAgo : ByteArray := prog_7_method_4_code
def yX5_fedAgo : MethodName := ⟨RX5, "fedAgo", "(I)LCordBay$Row;"⟩
abbrev cX5_heldWithin : ByteArray := prog_7_method_5_code
def yX5_heldWithin : MethodName := ⟨RX5, "heldWithin", "(IIJ)I"⟩
def RX6 : String := "CordBay$Tables"
def TX6 : u_T := fun k => match k with
  | 0 => ("CordBay$Tables", "places", "[[I", true)
  | _ => ("CordBay$Tables", "lengths", "[I", true)
def tyX6 : Nat → FieldType := fun k => match k with
  | 0 => .array (.array .int)
  | _ => .array .int
theorem nmX6 : ∀ a, a < 2 → ∀ b, b < 2 → a ≠ b → (TX6 a).2.1 ≠ (TX6 b).2.1 := by decide +kernel
theorem tyX6_ok : ∀ k, k < 2 → parseFieldDescriptor (TX6 k).2.2.1 = some (tyX6 k) := by decide +kernel
abbrev cX6_init : ByteArray := prog_8_method_1_code
def yX6_init : MethodName := ⟨RX6, "<init>", "()V"⟩
abbrev cX6_has : ByteArray := prog_8_method_2_code
def yX6_has : MethodName := ⟨RX6, "has", "(I)Z"⟩
abbrev cX6_lengthOf : ByteArray := prog_8_method_3_code
def yX6_lengthOf : MethodName := ⟨RX6, "lengthOf", "(I)I"⟩
abbrev cX6_isMissing : ByteArray := prog_8_method_4_code
def yX6_isMissing : MethodName := ⟨RX6, "isMissing", "(I)Z"⟩
abbrev cX6_hasPlace : ByteArray := prog_8_method_5_code
def yX6_hasPlace : MethodName := ⟨RX6, "hasPlace", "(II)Z"⟩
abbrev cX6_renew : ByteArray := prog_8_method_6_code
def yX6_renew : MethodName := ⟨RX6, "renew", "(II)V"⟩
abbrev cX6_put : ByteArray := prog_8_method_7_code
def yX6_put : MethodName := ⟨RX6, "put", "(III)V"⟩
abbrev cX6_at : ByteArray := prog_8_method_8_code
def yX6_at : MethodName := ⟨RX6, "at", "(II)I"⟩
def RX7 : String := "CordBay$Takes"
def TX7 : u_T := fun k => match k with
  | 0 => ("CordBay$Takes", "size", "I", false)
  | _ => ("CordBay$Takes", "rows", "[LCordBay$Row;", true)
def tyX7 : Nat → FieldType := fun k => match k with
  | 0 => .int
  | _ => .array (.object "CordBay$Row")
theorem nmX7 : ∀ a, a < 2 → ∀ b, b < 2 → a ≠ b → (TX7 a).2.1 ≠ (TX7 b).2.1 := by decide +kernel
theorem tyX7_ok : ∀ k, k < 2 → parseFieldDescriptor (TX7 k).2.2.1 = some (tyX7 k) := by decide +kernel
abbrev cX7_init : ByteArray := prog_9_method_1_code
def yX7_init : MethodName := ⟨RX7, "<init>", "()V"⟩
abbrev cX7_isFull : ByteArray := prog_9_method_2_code
def yX7_isFull : MethodName := ⟨RX7, "isFull", "()Z"⟩
abbrev cX7_add : ByteArray := prog_9_method_3_code
def yX7_add : MethodName := ⟨RX7, "add", "(LCordBay$Row;)I"⟩
abbrev cX7_at : ByteArray := prog_9_method_4_code
def yX7_at : MethodName := ⟨RX7, "at", "(I)LCordBay$Row;"⟩
def RX8 : String := "CordBay$Unit"
def TX8 : u_T := fun k => match k with
  | 0 => ("CordBay$Unit", "number", "I", true)
  | 1 => ("CordBay$Unit", "kind", "I", true)
  | 2 => ("CordBay$Unit", "rowKind", "I", true)
  | 3 => ("CordBay$Unit", "knobs", "[I", true)
  | 4 => ("CordBay$Unit", "now", "LCordBay$State;", true)
  | 5 => ("CordBay$Unit", "ins", "[I", true)
  | _ => ("CordBay$Unit", "past", "[LCordBay$State;", true)
def tyX8 : Nat → FieldType := fun k => match k with
  | 0 => .int
  | 1 => .int
  | 2 => .int
  | 3 => .array .int
  | 4 => .object "CordBay$State"
  | 5 => .array .int
  | _ => .array (.object "CordBay$State")
theorem nmX8 : ∀ a, a < 7 → ∀ b, b < 7 → a ≠ b → (TX8 a).2.1 ≠ (TX8 b).2.1 := by decide +kernel
theorem tyX8_ok : ∀ k, k < 7 → parseFieldDescriptor (TX8 k).2.2.1 = some (tyX8 k) := by decide +kernel
abbrev cX8_init : ByteArray := prog_10_method_1_code
def yX8_init : MethodName := ⟨RX8, "<init>", "(III)V"⟩
abbrev cX8_hasIn : ByteArray := prog_10_method_2_code
def yX8_hasIn : MethodName := ⟨RX8, "hasIn", "(I)Z"⟩
abbrev cX8_inCount : ByteArray := prog_10_method_3_code
def yX8_inCount : MethodName := ⟨RX8, "inCount", "()I"⟩
abbrev cX8_cordOf : ByteArray := prog_10_method_4_code
def yX8_cordOf : MethodName := ⟨RX8, "cordOf", "(I)I"⟩
abbrev cX8_setCord : ByteArray := prog_10_method_5_code
def yX8_setCord : MethodName := ⟨RX8, "setCord", "(II)V"⟩
abbrev cX8_remember : ByteArray := prog_10_method_6_code
def yX8_remember : MethodName := ⟨RX8, "remember", "(I)V"⟩
abbrev cX8_becomeAsIn : ByteArray := prog_10_method_7_code
def yX8_becomeAsIn : MethodName := ⟨RX8, "becomeAsIn", "(I)V"⟩
def RX9 : String := "CordBay"
def TX9 : u_T := fun k => match k with
  | 0 => ("CordBay", "rack", "LCordBay$Rack;", true)
  | 1 => ("CordBay", "tables", "LCordBay$Tables;", true)
  | 2 => ("CordBay", "presets", "LCordBay$Presets;", true)
  | 3 => ("CordBay", "takes", "LCordBay$Takes;", true)
  | 4 => ("CordBay", "history", "LCordBay$History;", true)
  | _ => ("CordBay", "latest", "LCordBay$Block;", true)
def tyX9 : Nat → FieldType := fun k => match k with
  | 0 => .object "CordBay$Rack"
  | 1 => .object "CordBay$Tables"
  | 2 => .object "CordBay$Presets"
  | 3 => .object "CordBay$Takes"
  | 4 => .object "CordBay$History"
  | _ => .object "CordBay$Block"
theorem nmX9 : ∀ a, a < 6 → ∀ b, b < 6 → a ≠ b → (TX9 a).2.1 ≠ (TX9 b).2.1 := by decide +kernel
theorem tyX9_ok : ∀ k, k < 6 → parseFieldDescriptor (TX9 k).2.2.1 = some (tyX9 k) := by decide +kernel
abbrev cX9_init : ByteArray := prog_1_method_1_code
def yX9_init : MethodName := ⟨RX9, "<init>", "()V"⟩
abbrev cX9_module : ByteArray := prog_1_method_2_code
def yX9_module : MethodName := ⟨RX9, "module", "(II)I"⟩
abbrev cX9_cord : ByteArray := prog_1_method_3_code
def yX9_cord : MethodName := ⟨RX9, "cord", "(III)I"⟩
abbrev cX9_from : ByteArray := prog_1_method_4_code
def yX9_from : MethodName := ⟨RX9, "from", "(II)I"⟩
abbrev cX9_knob : ByteArray := prog_1_method_5_code
def yX9_knob : MethodName := ⟨RX9, "knob", "(III)I"⟩
abbrev cX9_table : ByteArray := prog_1_method_6_code
def yX9_table : MethodName := ⟨RX9, "table", "(II)I"⟩
abbrev cX9_write : ByteArray := prog_1_method_7_code
def yX9_write : MethodName := ⟨RX9, "write", "(III)I"⟩
abbrev cX9_block : ByteArray := prog_1_method_8_code
def yX9_block : MethodName := ⟨RX9, "block", "(I)I"⟩
abbrev cX9_back : ByteArray := prog_1_method_9_code
def yX9_back : MethodName := ⟨RX9, "back", "(I)I"⟩
abbrev cX9_keep : ByteArray := prog_1_method_10_code
def yX9_keep : MethodName := ⟨RX9, "keep", "(I)I"⟩
abbrev cX9_recall : ByteArray := prog_1_method_11_code
def yX9_recall : MethodName := ⟨RX9, "recall", "(I)I"⟩
abbrev cX9_take : ByteArray := prog_1_method_12_code
def yX9_take : MethodName := ⟨RX9, "take", "(I)I"⟩
abbrev cX9_equal : ByteArray := prog_1_method_13_code
def yX9_equal : MethodName := ⟨RX9, "equal", "(II)I"⟩
abbrev cX9_row : ByteArray := prog_1_method_14_code
def yX9_row : MethodName := ⟨RX9, "row", "(II)I"⟩
abbrev cX9_sample : ByteArray := prog_1_method_15_code
def yX9_sample : MethodName := ⟨RX9, "sample", "(II)D"⟩
abbrev cX9_isNone : ByteArray := prog_1_method_16_code
def yX9_isNone : MethodName := ⟨RX9, "isNone", "(II)Z"⟩
abbrev cX9_order : ByteArray := prog_1_method_17_code
def yX9_order : MethodName := ⟨RX9, "order", "(I)I"⟩
abbrev cX9_trace : ByteArray := prog_1_method_18_code
def yX9_trace : MethodName := ⟨RX9, "trace", "(I)I"⟩
abbrev cX9_finding : ByteArray := prog_1_method_19_code
def yX9_finding : MethodName := ⟨RX9, "finding", "(I)I"⟩
abbrev cX9_count : ByteArray := prog_1_method_20_code
def yX9_count : MethodName := ⟨RX9, "count", "(I)I"⟩
abbrev cX9_countOfModule : ByteArray := prog_1_method_21_code
def yX9_countOfModule : MethodName := ⟨RX9, "countOfModule", "(I)I"⟩
abbrev cX9_heldFloating : ByteArray := prog_1_method_22_code
def yX9_heldFloating : MethodName := ⟨RX9, "heldFloating", "(D)D"⟩
def RX10 : String := "CordBayModel"
def TX10 : u_T := fun k => match k with
  | 0 => ("CordBayModel", "latestTake", "I", false)
  | 1 => ("CordBayModel", "doubles", "[D", true)
  | 2 => ("CordBayModel", "ints", "[I", true)
  | 3 => ("CordBayModel", "modules", "I", false)
  | 4 => ("CordBayModel", "kinds", "[I", true)
  | 5 => ("CordBayModel", "rowKinds", "[I", true)
  | 6 => ("CordBayModel", "knobs", "[I", true)
  | 7 => ("CordBayModel", "cords", "[I", true)
  | 8 => ("CordBayModel", "tables", "[I", true)
  | 9 => ("CordBayModel", "tableMany", "[I", true)
  | 10 => ("CordBayModel", "done", "I", false)
  | 11 => ("CordBayModel", "pushed", "I", false)
  | 12 => ("CordBayModel", "backs", "I", false)
  | 13 => ("CordBayModel", "order", "[I", true)
  | 14 => ("CordBayModel", "trace", "[I", true)
  | 15 => ("CordBayModel", "traced", "I", false)
  | 16 => ("CordBayModel", "finding", "I", false)
  | 17 => ("CordBayModel", "findingModule", "I", false)
  | 18 => ("CordBayModel", "findingSample", "I", false)
  | 19 => ("CordBayModel", "samples", "I", false)
  | 20 => ("CordBayModel", "presets", "[I", true)
  | 21 => ("CordBayModel", "presetMany", "[I", true)
  | 22 => ("CordBayModel", "takes", "I", false)
  | 23 => ("CordBayModel", "takeNumbers", "[I", true)
  | 24 => ("CordBayModel", "takeKinds", "[I", true)
  | 25 => ("CordBayModel", "takeLengths", "[I", true)
  | 26 => ("CordBayModel", "takeNone", "[I", true)
  | 27 => ("CordBayModel", "takeSamples", "[D", true)
  | 28 => ("CordBayModel", "newNone", "I", false)
  | 29 => ("CordBayModel", "fresh", "[D", true)
  | _ => ("CordBayModel", "far", "[I", true)
def tyX10 : Nat → FieldType := fun k => match k with
  | 0 => .int
  | 1 => .array .double
  | 2 => .array .int
  | 3 => .int
  | 4 => .array .int
  | 5 => .array .int
  | 6 => .array .int
  | 7 => .array .int
  | 8 => .array .int
  | 9 => .array .int
  | 10 => .int
  | 11 => .int
  | 12 => .int
  | 13 => .array .int
  | 14 => .array .int
  | 15 => .int
  | 16 => .int
  | 17 => .int
  | 18 => .int
  | 19 => .int
  | 20 => .array .int
  | 21 => .array .int
  | 22 => .int
  | 23 => .array .int
  | 24 => .array .int
  | 25 => .array .int
  | 26 => .array .int
  | 27 => .array .double
  | 28 => .int
  | 29 => .array .double
  | _ => .array .int
theorem nmX10 : ∀ a, a < 31 → ∀ b, b < 31 → a ≠ b → (TX10 a).2.1 ≠ (TX10 b).2.1 := by decide +kernel
theorem tyX10_ok : ∀ k, k < 31 → parseFieldDescriptor (TX10 k).2.2.1 = some (tyX10 k) := by decide +kernel
abbrev cX10_init : ByteArray := prog_12_method_1_code
def yX10_init : MethodName := ⟨RX10, "<init>", "()V"⟩
abbrev cX10_isIn : ByteArray := prog_12_method_2_code
def yX10_isIn : MethodName := ⟨RX10, "isIn", "(III)Z"⟩
abbrev cX10_isModule : ByteArray := prog_12_method_3_code
def yX10_isModule : MethodName := ⟨RX10, "isModule", "(I)Z"⟩
abbrev cX10_hasIn : ByteArray := prog_12_method_4_code
def yX10_hasIn : MethodName := ⟨RX10, "hasIn", "(II)Z"⟩
abbrev cX10_module : ByteArray := prog_12_method_5_code
def yX10_module : MethodName := ⟨RX10, "module", "(II)I"⟩
abbrev cX10_leads : ByteArray := prog_12_method_6_code
def yX10_leads : MethodName := ⟨RX10, "leads", "(II)Z"⟩
abbrev cX10_way : ByteArray := prog_12_method_7_code
def yX10_way : MethodName := ⟨RX10, "way", "(II)I"⟩
abbrev cX10_cord : ByteArray := prog_12_method_8_code
def yX10_cord : MethodName := ⟨RX10, "cord", "(III)I"⟩
abbrev cX10_from : ByteArray := prog_12_method_9_code
def yX10_from : MethodName := ⟨RX10, "from", "(II)I"⟩
abbrev cX10_knob : ByteArray := prog_12_method_10_code
def yX10_knob : MethodName := ⟨RX10, "knob", "(III)I"⟩
abbrev cX10_table : ByteArray := prog_12_method_11_code
def yX10_table : MethodName := ⟨RX10, "table", "(II)I"⟩
abbrev cX10_write : ByteArray := prog_12_method_12_code
def yX10_write : MethodName := ⟨RX10, "write", "(III)I"⟩
abbrev cX10_rowAt : ByteArray := prog_12_method_13_code
def yX10_rowAt : MethodName := ⟨RX10, "rowAt", "(II)I"⟩
abbrev cX10_kindOf : ByteArray := prog_12_method_14_code
def yX10_kindOf : MethodName := ⟨RX10, "kindOf", "(I)I"⟩
abbrev cX10_copyRow : ByteArray := prog_12_method_15_code
def yX10_copyRow : MethodName := ⟨RX10, "copyRow", "(IIII)V"⟩
abbrev cX10_noRow : ByteArray := prog_12_method_16_code
def yX10_noRow : MethodName := ⟨RX10, "noRow", "(II)V"⟩
abbrev cX10_copyState : ByteArray := prog_12_method_17_code
def yX10_copyState : MethodName := ⟨RX10, "copyState", "(II)V"⟩
abbrev cX10_fails : ByteArray := prog_12_method_18_code
def yX10_fails : MethodName := ⟨RX10, "fails", "(III)Z"⟩
abbrev cX10_hasRow : ByteArray := prog_12_method_19_code
def yX10_hasRow : MethodName := ⟨RX10, "hasRow", "(III)Z"⟩
abbrev cX10_hasSample : ByteArray := prog_12_method_20_code
def yX10_hasSample : MethodName := ⟨RX10, "hasSample", "(III)Z"⟩
abbrev cX10_sampleOf : ByteArray := prog_12_method_21_code
def yX10_sampleOf : MethodName := ⟨RX10, "sampleOf", "(III)D"⟩
abbrev cX10_isNoneOf : ByteArray := prog_12_method_22_code
def yX10_isNoneOf : MethodName := ⟨RX10, "isNoneOf", "(III)Z"⟩
abbrev cX10_held : ByteArray := prog_12_method_23_code
def yX10_held : MethodName := ⟨RX10, "held", "(D)D"⟩
abbrev cX10_heldTo : ByteArray := prog_12_method_24_code
def yX10_heldTo : MethodName := ⟨RX10, "heldTo", "(IJI)D"⟩
abbrev cX10_wholeInto : ByteArray := prog_12_method_25_code
def yX10_wholeInto : MethodName := ⟨RX10, "wholeInto", "(IJI)D"⟩
abbrev cX10_floatingInto : ByteArray := prog_12_method_26_code
def yX10_floatingInto : MethodName := ⟨RX10, "floatingInto", "(IDI)D"⟩
abbrev cX10_source : ByteArray := prog_12_method_27_code
def yX10_source : MethodName := ⟨RX10, "source", "(I)Z"⟩
abbrev cX10_shaped : ByteArray := prog_12_method_28_code
def yX10_shaped : MethodName := ⟨RX10, "shaped", "(IID)D"⟩
abbrev cX10_filtered : ByteArray := prog_12_method_29_code
def yX10_filtered : MethodName := ⟨RX10, "filtered", "(ID)D"⟩
abbrev cX10_late : ByteArray := prog_12_method_30_code
def yX10_late : MethodName := ⟨RX10, "late", "(ID)D"⟩
abbrev cX10_shape : ByteArray := prog_12_method_31_code
def yX10_shape : MethodName := ⟨RX10, "shape", "(I)Z"⟩
abbrev cX10_counts : ByteArray := prog_12_method_32_code
def yX10_counts : MethodName := ⟨RX10, "counts", "(II)Z"⟩
abbrev cX10_mix : ByteArray := prog_12_method_33_code
def yX10_mix : MethodName := ⟨RX10, "mix", "(I)Z"⟩
abbrev cX10_gate : ByteArray := prog_12_method_34_code
def yX10_gate : MethodName := ⟨RX10, "gate", "(I)Z"⟩
abbrev cX10_turn : ByteArray := prog_12_method_35_code
def yX10_turn : MethodName := ⟨RX10, "turn", "(I)Z"⟩
abbrev cX10_mean : ByteArray := prog_12_method_36_code
def yX10_mean : MethodName := ⟨RX10, "mean", "(I)Z"⟩
abbrev cX10_give : ByteArray := prog_12_method_37_code
def yX10_give : MethodName := ⟨RX10, "give", "(II)V"⟩
abbrev cX10_doesSwitch : ByteArray := prog_12_method_38_code
def yX10_doesSwitch : MethodName := ⟨RX10, "doesSwitch", "(I)Z"⟩
abbrev cX10_delay : ByteArray := prog_12_method_39_code
def yX10_delay : MethodName := ⟨RX10, "delay", "(I)V"⟩
abbrev cX10_acts : ByteArray := prog_12_method_40_code
def yX10_acts : MethodName := ⟨RX10, "acts", "(I)Z"⟩
abbrev cX10_feed : ByteArray := prog_12_method_41_code
def yX10_feed : MethodName := ⟨RX10, "feed", "()V"⟩
abbrev cX10_hasActed : ByteArray := prog_12_method_42_code
def yX10_hasActed : MethodName := ⟨RX10, "hasActed", "(II)Z"⟩
abbrev cX10_setOrder : ByteArray := prog_12_method_43_code
def yX10_setOrder : MethodName := ⟨RX10, "setOrder", "()V"⟩
abbrev cX10_block : ByteArray := prog_12_method_44_code
def yX10_block : MethodName := ⟨RX10, "block", "(I)I"⟩
abbrev cX10_back : ByteArray := prog_12_method_45_code
def yX10_back : MethodName := ⟨RX10, "back", "(I)I"⟩
abbrev cX10_keep : ByteArray := prog_12_method_46_code
def yX10_keep : MethodName := ⟨RX10, "keep", "(I)I"⟩
abbrev cX10_recall : ByteArray := prog_12_method_47_code
def yX10_recall : MethodName := ⟨RX10, "recall", "(I)I"⟩
abbrev cX10_take : ByteArray := prog_12_method_48_code
def yX10_take : MethodName := ⟨RX10, "take", "(I)I"⟩
abbrev cX10_takeOf : ByteArray := prog_12_method_49_code
def yX10_takeOf : MethodName := ⟨RX10, "takeOf", "(I)I"⟩
abbrev cX10_hasMinus : ByteArray := prog_12_method_50_code
def yX10_hasMinus : MethodName := ⟨RX10, "hasMinus", "(D)Z"⟩
abbrev cX10_equal : ByteArray := prog_12_method_51_code
def yX10_equal : MethodName := ⟨RX10, "equal", "(II)I"⟩
abbrev cX10_row : ByteArray := prog_12_method_52_code
def yX10_row : MethodName := ⟨RX10, "row", "(II)I"⟩
abbrev cX10_hasGiven : ByteArray := prog_12_method_53_code
def yX10_hasGiven : MethodName := ⟨RX10, "hasGiven", "(II)Z"⟩
abbrev cX10_sample : ByteArray := prog_12_method_54_code
def yX10_sample : MethodName := ⟨RX10, "sample", "(II)D"⟩
abbrev cX10_isNone : ByteArray := prog_12_method_55_code
def yX10_isNone : MethodName := ⟨RX10, "isNone", "(II)Z"⟩
abbrev cX10_order : ByteArray := prog_12_method_56_code
def yX10_order : MethodName := ⟨RX10, "order", "(I)I"⟩
abbrev cX10_trace : ByteArray := prog_12_method_57_code
def yX10_trace : MethodName := ⟨RX10, "trace", "(I)I"⟩
abbrev cX10_finding : ByteArray := prog_12_method_58_code
def yX10_finding : MethodName := ⟨RX10, "finding", "(I)I"⟩
abbrev cX10_count : ByteArray := prog_12_method_59_code
def yX10_count : MethodName := ⟨RX10, "count", "(I)I"⟩
def RJ6 : String := "java/lang/Integer"
def TJ6 : u_T := fun k => match k with
  | _ => ("", "", "", false)
def tyJ6 : Nat → FieldType := fun k => match k with
  | _ => .int
theorem nmJ6 : ∀ a, a < 0 → ∀ b, b < 0 → a ≠ b → (TJ6 a).2.1 ≠ (TJ6 b).2.1 := by decide +kernel
theorem tyJ6_ok : ∀ k, k < 0 → parseFieldDescriptor (TJ6 k).2.2.1 = some (tyJ6 k) := by decide +kernel
abbrev cJ6_bitCount_0f7a4 : ByteArray := prog_13_method_49_code
def yJ6_bitCount_0f7a4 : MethodName := ⟨RJ6, "bitCount", "(I)I"⟩
def RJ9 : String := "java/lang/Math"
def TJ9 : u_T := fun k => match k with
  | _ => ("", "", "", false)
def tyJ9 : Nat → FieldType := fun k => match k with
  | _ => .int
theorem nmJ9 : ∀ a, a < 0 → ∀ b, b < 0 → a ≠ b → (TJ9 a).2.1 ≠ (TJ9 b).2.1 := by decide +kernel
theorem tyJ9_ok : ∀ k, k < 0 → parseFieldDescriptor (TJ9 k).2.2.1 = some (tyJ9 k) := by decide +kernel
abbrev cJ9_floorMod_7cf53 : ByteArray := prog_14_method_50_code
def yJ9_floorMod_7cf53 : MethodName := ⟨RJ9, "floorMod", "(II)I"⟩
abbrev cJ9_max_7cf53 : ByteArray := prog_14_method_65_code
def yJ9_max_7cf53 : MethodName := ⟨RJ9, "max", "(II)I"⟩
abbrev cJ9_min_7cf53 : ByteArray := prog_14_method_69_code
def yJ9_min_7cf53 : MethodName := ⟨RJ9, "min", "(II)I"⟩
def RJ10 : String := "java/lang/System"
def TJ10 : u_T := fun k => match k with
  | _ => ("", "", "", false)
def tyJ10 : Nat → FieldType := fun k => match k with
  | _ => .int
theorem nmJ10 : ∀ a, a < 0 → ∀ b, b < 0 → a ≠ b → (TJ10 a).2.1 ≠ (TJ10 b).2.1 := by decide +kernel
theorem tyJ10_ok : ∀ k, k < 0 → parseFieldDescriptor (TJ10 k).2.2.1 = some (tyJ10 k) := by decide +kernel
def RL : String := "CordBayLaw"
abbrev cL_law : ByteArray := code
def yL_law : MethodName := ⟨RL, "law", "([I)Z"⟩
abbrev vwCl : List vw_C := [(RX0, TX0, 8), (RX1, TX1, 4), (RX2, TX2, 2), (RX3, TX3, 5), (RX4, TX4, 4), (RX5, TX5, 8), (RX6, TX6, 2), (RX7, TX7, 2), (RX8, TX8, 7), (RX9, TX9, 6), (RX10, TX10, 31)]
end
section
theorem dX0_init_0 : decode cX0_init 0 = .ok (.aload_n 0, 1) := by decide +kernel
theorem dX0_init_1 : decode cX0_init 1 = .ok (.invokespecial 3, 3) := by decide +kernel
theorem dX0_init_4 : decode cX0_init 4 = .ok (.aload_n 0, 1) := by decide +kernel
theorem dX0_init_5 : decode cX0_init 5 = .ok (.bipush 48, 2) := by decide +kernel
theorem dX0_init_7 : decode cX0_init 7 = .ok (.newarray .int, 2) := by decide +kernel
theorem dX0_init_9 : decode cX0_init 9 = .ok (.putfield 9, 3) := by decide +kernel
theorem dX0_init_12 : decode cX0_init 12 = .ok (.aload_n 0, 1) := by decide +kernel
theorem dX0_init_13 : decode cX0_init 13 = .ok (.aload_n 1, 1) := by decide +kernel
theorem dX0_init_14 : decode cX0_init 14 = .ok (.putfield 15, 3) := by decide +kernel
theorem dX0_init_17 : decode cX0_init 17 = .ok (.aload_n 0, 1) := by decide +kernel
theorem dX0_init_18 : decode cX0_init 18 = .ok (.aload_n 2, 1) := by decide +kernel
theorem dX0_init_19 : decode cX0_init 19 = .ok (.putfield 19, 3) := by decide +kernel
theorem dX0_init_22 : decode cX0_init 22 = .ok (.return_, 1) := by decide +kernel
theorem dX0_markAt_0 : decode cX0_markAt 0 = .ok (.iload_n 1, 1) := by decide +kernel
theorem dX0_markAt_1 : decode cX0_markAt 1 = .ok (.ifCond .lt 20, 3) := by decide +kernel
theorem dX0_markAt_4 : decode cX0_markAt 4 = .ok (.iload_n 1, 1) := by decide +kernel
theorem dX0_markAt_5 : decode cX0_markAt 5 = .ok (.aload_n 0, 1) := by decide +kernel
theorem dX0_markAt_6 : decode cX0_markAt 6 = .ok (.getfield 23, 3) := by decide +kernel
theorem dX0_markAt_9 : decode cX0_markAt 9 = .ok (.if_icmp .ge 12, 3) := by decide +kernel
theorem dX0_markAt_12 : decode cX0_markAt 12 = .ok (.aload_n 0, 1) := by decide +kernel
theorem dX0_markAt_13 : decode cX0_markAt 13 = .ok (.getfield 9, 3) := by decide +kernel
theorem dX0_markAt_16 : decode cX0_markAt 16 = .ok (.iload_n 1, 1) := by decide +kernel
theorem dX0_markAt_17 : decode cX0_markAt 17 = .ok (.iaload, 1) := by decide +kernel
theorem dX0_markAt_18 : decode cX0_markAt 18 = .ok (.goto 4, 3) := by decide +kernel
theorem dX0_markAt_21 : decode cX0_markAt 21 = .ok (.iconst 0, 1) := by decide +kernel
theorem dX0_markAt_22 : decode cX0_markAt 22 = .ok (.ireturn, 1) := by decide +kernel
theorem dX0_perform_0 : decode cX0_perform 0 = .ok (.aload_n 0, 1) := by decide +kernel
theorem dX0_perform_1 : decode cX0_perform 1 = .ok (.iload_n 1, 1) := by decide +kernel
theorem dX0_perform_2 : decode cX0_perform 2 = .ok (.putfield 27, 3) := by decide +kernel
theorem dX0_perform_5 : decode cX0_perform 5 = .ok (.aload_n 0, 1) := by decide +kernel
theorem dX0_perform_6 : decode cX0_perform 6 = .ok (.iconst 0, 1) := by decide +kernel
theorem dX0_perform_7 : decode cX0_perform 7 = .ok (.putfield 30, 3) := by decide +kernel
theorem dX0_perform_10 : decode cX0_perform 10 = .ok (.aload_n 0, 1) := by decide +kernel
theorem dX0_perform_11 : decode cX0_perform 11 = .ok (.iconst 0, 1) := by decide +kernel
theorem dX0_perform_12 : decode cX0_perform 12 = .ok (.putfield 23, 3) := by decide +kernel
theorem dX0_perform_15 : decode cX0_perform 15 = .ok (.iconst 0, 1) := by decide +kernel
theorem dX0_perform_16 : decode cX0_perform 16 = .ok (.istore_n 2, 1) := by decide +kernel
theorem dX0_perform_17 : decode cX0_perform 17 = .ok (.iload_n 2, 1) := by decide +kernel
theorem dX0_perform_18 : decode cX0_perform 18 = .ok (.aload_n 0, 1) := by decide +kernel
theorem dX0_perform_19 : decode cX0_perform 19 = .ok (.getfield 15, 3) := by decide +kernel
theorem dX0_perform_22 : decode cX0_perform 22 = .ok (.getfield 33, 3) := by decide +kernel
theorem dX0_perform_25 : decode cX0_perform 25 = .ok (.if_icmp .ge 66, 3) := by decide +kernel
theorem dX0_perform_28 : decode cX0_perform 28 = .ok (.aload_n 0, 1) := by decide +kernel
theorem dX0_perform_29 : decode cX0_perform 29 = .ok (.getfield 30, 3) := by decide +kernel
theorem dX0_perform_32 : decode cX0_perform 32 = .ok (.ifCond .ne 59, 3) := by decide +kernel
theorem dX0_perform_35 : decode cX0_perform 35 = .ok (.aload_n 0, 1) := by decide +kernel
theorem dX0_perform_36 : decode cX0_perform 36 = .ok (.getfield 15, 3) := by decide +kernel
theorem dX0_perform_39 : decode cX0_perform 39 = .ok (.aload_n 0, 1) := by decide +kernel
theorem dX0_perform_40 : decode cX0_perform 40 = .ok (.getfield 15, 3) := by decide +kernel
theorem dX0_perform_43 : decode cX0_perform 43 = .ok (.iload_n 2, 1) := by decide +kernel
theorem dX0_perform_44 : decode cX0_perform 44 = .ok (.invokevirtual 38, 3) := by decide +kernel
theorem dX0_perform_47 : decode cX0_perform 47 = .ok (.invokevirtual 42, 3) := by decide +kernel
theorem dX0_perform_50 : decode cX0_perform 50 = .ok (.astore_n 3, 1) := by decide +kernel
theorem dX0_perform_51 : decode cX0_perform 51 = .ok (.aload_n 3, 1) := by decide +kernel
theorem dX0_perform_52 : decode cX0_perform 52 = .ok (.ifnull 33, 3) := by decide +kernel
theorem dX0_perform_55 : decode cX0_perform 55 = .ok (.aload_n 0, 1) := by decide +kernel
theorem dX0_perform_56 : decode cX0_perform 56 = .ok (.aload_n 3, 1) := by decide +kernel
theorem dX0_perform_57 : decode cX0_perform 57 = .ok (.getfield 46, 3) := by decide +kernel
theorem dX0_perform_60 : decode cX0_perform 60 = .ok (.iconst 1, 1) := by decide +kernel
theorem dX0_perform_61 : decode cX0_perform 61 = .ok (.iadd, 1) := by decide +kernel
theorem dX0_perform_62 : decode cX0_perform 62 = .ok (.invokevirtual 51, 3) := by decide +kernel
theorem dX0_perform_65 : decode cX0_perform 65 = .ok (.aload_n 0, 1) := by decide +kernel
theorem dX0_perform_66 : decode cX0_perform 66 = .ok (.aload_n 3, 1) := by decide +kernel
theorem dX0_perform_67 : decode cX0_perform 67 = .ok (.getfield 46, 3) := by decide +kernel
theorem dX0_perform_70 : decode cX0_perform 70 = .ok (.putfield 55, 3) := by decide +kernel
theorem dX0_perform_73 : decode cX0_perform 73 = .ok (.aload_n 3, 1) := by decide +kernel
theorem dX0_perform_74 : decode cX0_perform 74 = .ok (.getfield 58, 3) := by decide +kernel
theorem dX0_perform_77 : decode cX0_perform 77 = .ok (.aload_n 0, 1) := by decide +kernel
theorem dX0_perform_78 : decode cX0_perform 78 = .ok (.aload_n 3, 1) := by decide +kernel
theorem dX0_perform_79 : decode cX0_perform 79 = .ok (.invokevirtual 62, 3) := by decide +kernel
theorem dX0_perform_82 : decode cX0_perform 82 = .ok (.putfield 66, 3) := by decide +kernel
theorem dX0_perform_85 : decode cX0_perform 85 = .ok (.iinc 2 1, 3) := by decide +kernel
theorem dX0_perform_88 : decode cX0_perform 88 = .ok (.goto (-71), 3) := by decide +kernel
theorem dX0_perform_91 : decode cX0_perform 91 = .ok (.aload_n 0, 1) := by decide +kernel
theorem dX0_perform_92 : decode cX0_perform 92 = .ok (.invokevirtual 72, 3) := by decide +kernel
theorem dX0_perform_95 : decode cX0_perform 95 = .ok (.aload_n 0, 1) := by decide +kernel
theorem dX0_perform_96 : decode cX0_perform 96 = .ok (.getfield 30, 3) := by decide +kernel
theorem dX0_perform_99 : decode cX0_perform 99 = .ok (.ifCond .ne 7, 3) := by decide +kernel
theorem dX0_perform_102 : decode cX0_perform 102 = .ok (.aload_n 0, 1) := by decide +kernel
theorem dX0_perform_103 : decode cX0_perform 103 = .ok (.invokevirtual 75, 3) := by decide +kernel
theorem dX0_perform_106 : decode cX0_perform 106 = .ok (.aload_n 0, 1) := by decide +kernel
theorem dX0_perform_107 : decode cX0_perform 107 = .ok (.getfield 30, 3) := by decide +kernel
theorem dX0_perform_110 : decode cX0_perform 110 = .ok (.ireturn, 1) := by decide +kernel
theorem dX0_mark_0 : decode cX0_mark 0 = .ok (.aload_n 0, 1) := by decide +kernel
theorem dX0_mark_1 : decode cX0_mark 1 = .ok (.getfield 23, 3) := by decide +kernel
theorem dX0_mark_4 : decode cX0_mark 4 = .ok (.aload_n 0, 1) := by decide +kernel
theorem dX0_mark_5 : decode cX0_mark 5 = .ok (.getfield 9, 3) := by decide +kernel
theorem dX0_mark_8 : decode cX0_mark 8 = .ok (.arraylength, 1) := by decide +kernel
theorem dX0_mark_9 : decode cX0_mark 9 = .ok (.if_icmp .ge 23, 3) := by decide +kernel
theorem dX0_mark_12 : decode cX0_mark 12 = .ok (.aload_n 0, 1) := by decide +kernel
theorem dX0_mark_13 : decode cX0_mark 13 = .ok (.getfield 9, 3) := by decide +kernel
theorem dX0_mark_16 : decode cX0_mark 16 = .ok (.aload_n 0, 1) := by decide +kernel
theorem dX0_mark_17 : decode cX0_mark 17 = .ok (.getfield 23, 3) := by decide +kernel
theorem dX0_mark_20 : decode cX0_mark 20 = .ok (.iload_n 1, 1) := by decide +kernel
theorem dX0_mark_21 : decode cX0_mark 21 = .ok (.iastore, 1) := by decide +kernel
theorem dX0_mark_22 : decode cX0_mark 22 = .ok (.aload_n 0, 1) := by decide +kernel
theorem dX0_mark_23 : decode cX0_mark 23 = .ok (.dup, 1) := by decide +kernel
theorem dX0_mark_24 : decode cX0_mark 24 = .ok (.getfield 23, 3) := by decide +kernel
theorem dX0_mark_27 : decode cX0_mark 27 = .ok (.iconst 1, 1) := by decide +kernel
theorem dX0_mark_28 : decode cX0_mark 28 = .ok (.iadd, 1) := by decide +kernel
theorem dX0_mark_29 : decode cX0_mark 29 = .ok (.putfield 23, 3) := by decide +kernel
theorem dX0_mark_32 : decode cX0_mark 32 = .ok (.return_, 1) := by decide +kernel
theorem dX0_closeAll_0 : decode cX0_closeAll 0 = .ok (.aload_n 0, 1) := by decide +kernel
theorem dX0_closeAll_1 : decode cX0_closeAll 1 = .ok (.getfield 23, 3) := by decide +kernel
theorem dX0_closeAll_4 : decode cX0_closeAll 4 = .ok (.iconst 1, 1) := by decide +kernel
theorem dX0_closeAll_5 : decode cX0_closeAll 5 = .ok (.isub, 1) := by decide +kernel
theorem dX0_closeAll_6 : decode cX0_closeAll 6 = .ok (.istore_n 1, 1) := by decide +kernel
theorem dX0_closeAll_7 : decode cX0_closeAll 7 = .ok (.iload_n 1, 1) := by decide +kernel
theorem dX0_closeAll_8 : decode cX0_closeAll 8 = .ok (.ifCond .lt 20, 3) := by decide +kernel
theorem dX0_closeAll_11 : decode cX0_closeAll 11 = .ok (.aload_n 0, 1) := by decide +kernel
theorem dX0_closeAll_12 : decode cX0_closeAll 12 = .ok (.aload_n 0, 1) := by decide +kernel
theorem dX0_closeAll_13 : decode cX0_closeAll 13 = .ok (.getfield 9, 3) := by decide +kernel
theorem dX0_closeAll_16 : decode cX0_closeAll 16 = .ok (.iload_n 1, 1) := by decide +kernel
theorem dX0_closeAll_17 : decode cX0_closeAll 17 = .ok (.iaload, 1) := by decide +kernel
theorem dX0_closeAll_18 : decode cX0_closeAll 18 = .ok (.ineg, 1) := by decide +kernel
theorem dX0_closeAll_19 : decode cX0_closeAll 19 = .ok (.invokevirtual 51, 3) := by decide +kernel
theorem dX0_closeAll_22 : decode cX0_closeAll 22 = .ok (.iinc 1 (-1), 3) := by decide +kernel
theorem dX0_closeAll_25 : decode cX0_closeAll 25 = .ok (.goto (-18), 3) := by decide +kernel
theorem dX0_closeAll_28 : decode cX0_closeAll 28 = .ok (.return_, 1) := by decide +kernel
theorem dX0_finish_0 : decode cX0_finish 0 = .ok (.iconst 0, 1) := by decide +kernel
theorem dX0_finish_1 : decode cX0_finish 1 = .ok (.istore_n 1, 1) := by decide +kernel
theorem dX0_finish_2 : decode cX0_finish 2 = .ok (.iload_n 1, 1) := by decide +kernel
theorem dX0_finish_3 : decode cX0_finish 3 = .ok (.aload_n 0, 1) := by decide +kernel
theorem dX0_finish_4 : decode cX0_finish 4 = .ok (.getfield 15, 3) := by decide +kernel
theorem dX0_finish_7 : decode cX0_finish 7 = .ok (.getfield 33, 3) := by decide +kernel
theorem dX0_finish_10 : decode cX0_finish 10 = .ok (.if_icmp .ge 57, 3) := by decide +kernel
theorem dX0_finish_13 : decode cX0_finish 13 = .ok (.aload_n 0, 1) := by decide +kernel
theorem dX0_finish_14 : decode cX0_finish 14 = .ok (.getfield 15, 3) := by decide +kernel
theorem dX0_finish_17 : decode cX0_finish 17 = .ok (.iload_n 1, 1) := by decide +kernel
theorem dX0_finish_18 : decode cX0_finish 18 = .ok (.invokevirtual 42, 3) := by decide +kernel
theorem dX0_finish_21 : decode cX0_finish 21 = .ok (.astore_n 2, 1) := by decide +kernel
theorem dX0_finish_22 : decode cX0_finish 22 = .ok (.aload_n 2, 1) := by decide +kernel
theorem dX0_finish_23 : decode cX0_finish 23 = .ok (.ifnull 38, 3) := by decide +kernel
theorem dX0_finish_26 : decode cX0_finish 26 = .ok (.aload_n 2, 1) := by decide +kernel
theorem dX0_finish_27 : decode cX0_finish 27 = .ok (.getfield 58, 3) := by decide +kernel
theorem dX0_finish_30 : decode cX0_finish 30 = .ok (.aload_n 2, 1) := by decide +kernel
theorem dX0_finish_31 : decode cX0_finish 31 = .ok (.getfield 78, 3) := by decide +kernel
theorem dX0_finish_34 : decode cX0_finish 34 = .ok (.iconst 0, 1) := by decide +kernel
theorem dX0_finish_35 : decode cX0_finish 35 = .ok (.iaload, 1) := by decide +kernel
theorem dX0_finish_36 : decode cX0_finish 36 = .ok (.putfield 81, 3) := by decide +kernel
theorem dX0_finish_39 : decode cX0_finish 39 = .ok (.aload_n 2, 1) := by decide +kernel
theorem dX0_finish_40 : decode cX0_finish 40 = .ok (.getfield 84, 3) := by decide +kernel
theorem dX0_finish_43 : decode cX0_finish 43 = .ok (.bipush 6, 2) := by decide +kernel
theorem dX0_finish_45 : decode cX0_finish 45 = .ok (.if_icmp .ne 16, 3) := by decide +kernel
theorem dX0_finish_48 : decode cX0_finish 48 = .ok (.aload_n 2, 1) := by decide +kernel
theorem dX0_finish_49 : decode cX0_finish 49 = .ok (.getfield 58, 3) := by decide +kernel
theorem dX0_finish_52 : decode cX0_finish 52 = .ok (.aload_n 0, 1) := by decide +kernel
theorem dX0_finish_53 : decode cX0_finish 53 = .ok (.aload_n 2, 1) := by decide +kernel
theorem dX0_finish_54 : decode cX0_finish 54 = .ok (.iconst 0, 1) := by decide +kernel
theorem dX0_finish_55 : decode cX0_finish 55 = .ok (.invokevirtual 87, 3) := by decide +kernel
theorem dX0_finish_58 : decode cX0_finish 58 = .ok (.invokevirtual 91, 3) := by decide +kernel
theorem dX0_finish_61 : decode cX0_finish 61 = .ok (.iinc 1 1, 3) := by decide +kernel
theorem dX0_finish_64 : decode cX0_finish 64 = .ok (.goto (-62), 3) := by decide +kernel
theorem dX0_finish_67 : decode cX0_finish 67 = .ok (.return_, 1) := by decide +kernel
theorem dX0_newRowOf_0 : decode cX0_newRowOf 0 = .ok (.aload_n 1, 1) := by decide +kernel
theorem dX0_newRowOf_1 : decode cX0_newRowOf 1 = .ok (.getfield 84, 3) := by decide +kernel
theorem dX0_newRowOf_4 : decode cX0_newRowOf 4 = .ok (.tableswitch 106 0 9 #[56, 62, 62, 62, 62, 68, 74, 88, 94, 100], 56) := by decide +kernel
theorem dX0_newRowOf_60 : decode cX0_newRowOf 60 = .ok (.aload_n 0, 1) := by decide +kernel
theorem dX0_newRowOf_61 : decode cX0_newRowOf 61 = .ok (.aload_n 1, 1) := by decide +kernel
theorem dX0_newRowOf_62 : decode cX0_newRowOf 62 = .ok (.invokevirtual 95, 3) := by decide +kernel
theorem dX0_newRowOf_65 : decode cX0_newRowOf 65 = .ok (.areturn, 1) := by decide +kernel
theorem dX0_newRowOf_66 : decode cX0_newRowOf 66 = .ok (.aload_n 0, 1) := by decide +kernel
theorem dX0_newRowOf_67 : decode cX0_newRowOf 67 = .ok (.aload_n 1, 1) := by decide +kernel
theorem dX0_newRowOf_68 : decode cX0_newRowOf 68 = .ok (.invokevirtual 98, 3) := by decide +kernel
theorem dX0_newRowOf_71 : decode cX0_newRowOf 71 = .ok (.areturn, 1) := by decide +kernel
theorem dX0_newRowOf_72 : decode cX0_newRowOf 72 = .ok (.aload_n 0, 1) := by decide +kernel
theorem dX0_newRowOf_73 : decode cX0_newRowOf 73 = .ok (.aload_n 1, 1) := by decide +kernel
theorem dX0_newRowOf_74 : decode cX0_newRowOf 74 = .ok (.invokevirtual 101, 3) := by decide +kernel
theorem dX0_newRowOf_77 : decode cX0_newRowOf 77 = .ok (.areturn, 1) := by decide +kernel
theorem dX0_newRowOf_78 : decode cX0_newRowOf 78 = .ok (.aload_n 1, 1) := by decide +kernel
theorem dX0_newRowOf_79 : decode cX0_newRowOf 79 = .ok (.getfield 58, 3) := by decide +kernel
theorem dX0_newRowOf_82 : decode cX0_newRowOf 82 = .ok (.aload_n 1, 1) := by decide +kernel
theorem dX0_newRowOf_83 : decode cX0_newRowOf 83 = .ok (.getfield 78, 3) := by decide +kernel
theorem dX0_newRowOf_86 : decode cX0_newRowOf 86 = .ok (.iconst 0, 1) := by decide +kernel
theorem dX0_newRowOf_87 : decode cX0_newRowOf 87 = .ok (.iaload, 1) := by decide +kernel
theorem dX0_newRowOf_88 : decode cX0_newRowOf 88 = .ok (.invokevirtual 104, 3) := by decide +kernel
theorem dX0_newRowOf_91 : decode cX0_newRowOf 91 = .ok (.areturn, 1) := by decide +kernel
theorem dX0_newRowOf_92 : decode cX0_newRowOf 92 = .ok (.aload_n 0, 1) := by decide +kernel
theorem dX0_newRowOf_93 : decode cX0_newRowOf 93 = .ok (.aload_n 1, 1) := by decide +kernel
theorem dX0_newRowOf_94 : decode cX0_newRowOf 94 = .ok (.invokevirtual 108, 3) := by decide +kernel
theorem dX0_newRowOf_97 : decode cX0_newRowOf 97 = .ok (.areturn, 1) := by decide +kernel
theorem dX0_newRowOf_98 : decode cX0_newRowOf 98 = .ok (.aload_n 0, 1) := by decide +kernel
theorem dX0_newRowOf_99 : decode cX0_newRowOf 99 = .ok (.aload_n 1, 1) := by decide +kernel
theorem dX0_newRowOf_100 : decode cX0_newRowOf 100 = .ok (.invokevirtual 111, 3) := by decide +kernel
theorem dX0_newRowOf_103 : decode cX0_newRowOf 103 = .ok (.areturn, 1) := by decide +kernel
theorem dX0_newRowOf_104 : decode cX0_newRowOf 104 = .ok (.aload_n 0, 1) := by decide +kernel
theorem dX0_newRowOf_105 : decode cX0_newRowOf 105 = .ok (.aload_n 1, 1) := by decide +kernel
theorem dX0_newRowOf_106 : decode cX0_newRowOf 106 = .ok (.invokevirtual 114, 3) := by decide +kernel
theorem dX0_newRowOf_109 : decode cX0_newRowOf 109 = .ok (.areturn, 1) := by decide +kernel
theorem dX0_newRowOf_110 : decode cX0_newRowOf 110 = .ok (.aload_n 0, 1) := by decide +kernel
theorem dX0_newRowOf_111 : decode cX0_newRowOf 111 = .ok (.aload_n 1, 1) := by decide +kernel
theorem dX0_newRowOf_112 : decode cX0_newRowOf 112 = .ok (.invokevirtual 117, 3) := by decide +kernel
theorem dX0_newRowOf_115 : decode cX0_newRowOf 115 = .ok (.areturn, 1) := by decide +kernel
theorem dX0_fail_0 : decode cX0_fail 0 = .ok (.aload_n 0, 1) := by decide +kernel
theorem dX0_fail_1 : decode cX0_fail 1 = .ok (.iload_n 1, 1) := by decide +kernel
theorem dX0_fail_2 : decode cX0_fail 2 = .ok (.putfield 30, 3) := by decide +kernel
theorem dX0_fail_5 : decode cX0_fail 5 = .ok (.aload_n 0, 1) := by decide +kernel
theorem dX0_fail_6 : decode cX0_fail 6 = .ok (.iload_n 2, 1) := by decide +kernel
theorem dX0_fail_7 : decode cX0_fail 7 = .ok (.putfield 120, 3) := by decide +kernel
theorem dX0_fail_10 : decode cX0_fail 10 = .ok (.aconst_null, 1) := by decide +kernel
theorem dX0_fail_11 : decode cX0_fail 11 = .ok (.areturn, 1) := by decide +kernel
theorem dX0_rowAt_0 : decode cX0_rowAt 0 = .ok (.aload_n 0, 1) := by decide +kernel
theorem dX0_rowAt_1 : decode cX0_rowAt 1 = .ok (.getfield 15, 3) := by decide +kernel
theorem dX0_rowAt_4 : decode cX0_rowAt 4 = .ok (.aload_n 1, 1) := by decide +kernel
theorem dX0_rowAt_5 : decode cX0_rowAt 5 = .ok (.iload_n 2, 1) := by decide +kernel
theorem dX0_rowAt_6 : decode cX0_rowAt 6 = .ok (.invokevirtual 123, 3) := by decide +kernel
theorem dX0_rowAt_9 : decode cX0_rowAt 9 = .ok (.invokevirtual 126, 3) := by decide +kernel
theorem dX0_rowAt_12 : decode cX0_rowAt 12 = .ok (.areturn, 1) := by decide +kernel
theorem dX0_wantedRow_0 : decode cX0_wantedRow 0 = .ok (.aload_n 1, 1) := by decide +kernel
theorem dX0_wantedRow_1 : decode cX0_wantedRow 1 = .ok (.iload_n 2, 1) := by decide +kernel
theorem dX0_wantedRow_2 : decode cX0_wantedRow 2 = .ok (.invokevirtual 123, 3) := by decide +kernel
theorem dX0_wantedRow_5 : decode cX0_wantedRow 5 = .ok (.iconst (-1), 1) := by decide +kernel
theorem dX0_wantedRow_6 : decode cX0_wantedRow 6 = .ok (.if_icmp .ne 10, 3) := by decide +kernel
theorem dX0_wantedRow_9 : decode cX0_wantedRow 9 = .ok (.aload_n 0, 1) := by decide +kernel
theorem dX0_wantedRow_10 : decode cX0_wantedRow 10 = .ok (.iconst 1, 1) := by decide +kernel
theorem dX0_wantedRow_11 : decode cX0_wantedRow 11 = .ok (.iconst (-1), 1) := by decide +kernel
theorem dX0_wantedRow_12 : decode cX0_wantedRow 12 = .ok (.invokevirtual 129, 3) := by decide +kernel
theorem dX0_wantedRow_15 : decode cX0_wantedRow 15 = .ok (.areturn, 1) := by decide +kernel
theorem dX0_wantedRow_16 : decode cX0_wantedRow 16 = .ok (.aload_n 0, 1) := by decide +kernel
theorem dX0_wantedRow_17 : decode cX0_wantedRow 17 = .ok (.aload_n 1, 1) := by decide +kernel
theorem dX0_wantedRow_18 : decode cX0_wantedRow 18 = .ok (.iload_n 2, 1) := by decide +kernel
theorem dX0_wantedRow_19 : decode cX0_wantedRow 19 = .ok (.invokevirtual 87, 3) := by decide +kernel
theorem dX0_wantedRow_22 : decode cX0_wantedRow 22 = .ok (.astore 4, 2) := by decide +kernel
theorem dX0_wantedRow_24 : decode cX0_wantedRow 24 = .ok (.aload 4, 2) := by decide +kernel
theorem dX0_wantedRow_26 : decode cX0_wantedRow 26 = .ok (.ifnonnull 10, 3) := by decide +kernel
theorem dX0_wantedRow_29 : decode cX0_wantedRow 29 = .ok (.aload_n 0, 1) := by decide +kernel
theorem dX0_wantedRow_30 : decode cX0_wantedRow 30 = .ok (.iconst 2, 1) := by decide +kernel
theorem dX0_wantedRow_31 : decode cX0_wantedRow 31 = .ok (.iconst (-1), 1) := by decide +kernel
theorem dX0_wantedRow_32 : decode cX0_wantedRow 32 = .ok (.invokevirtual 129, 3) := by decide +kernel
theorem dX0_wantedRow_35 : decode cX0_wantedRow 35 = .ok (.areturn, 1) := by decide +kernel
theorem dX0_wantedRow_36 : decode cX0_wantedRow 36 = .ok (.iload_n 3, 1) := by decide +kernel
theorem dX0_wantedRow_37 : decode cX0_wantedRow 37 = .ok (.iconst (-1), 1) := by decide +kernel
theorem dX0_wantedRow_38 : decode cX0_wantedRow 38 = .ok (.if_icmp .eq 19, 3) := by decide +kernel
theorem dX0_wantedRow_41 : decode cX0_wantedRow 41 = .ok (.aload 4, 2) := by decide +kernel
theorem dX0_wantedRow_43 : decode cX0_wantedRow 43 = .ok (.getfield 133, 3) := by decide +kernel
theorem dX0_wantedRow_46 : decode cX0_wantedRow 46 = .ok (.iload_n 3, 1) := by decide +kernel
theorem dX0_wantedRow_47 : decode cX0_wantedRow 47 = .ok (.if_icmp .eq 10, 3) := by decide +kernel
theorem dX0_wantedRow_50 : decode cX0_wantedRow 50 = .ok (.aload_n 0, 1) := by decide +kernel
theorem dX0_wantedRow_51 : decode cX0_wantedRow 51 = .ok (.iconst 4, 1) := by decide +kernel
theorem dX0_wantedRow_52 : decode cX0_wantedRow 52 = .ok (.iconst (-1), 1) := by decide +kernel
theorem dX0_wantedRow_53 : decode cX0_wantedRow 53 = .ok (.invokevirtual 129, 3) := by decide +kernel
theorem dX0_wantedRow_56 : decode cX0_wantedRow 56 = .ok (.areturn, 1) := by decide +kernel
theorem dX0_wantedRow_57 : decode cX0_wantedRow 57 = .ok (.aload 4, 2) := by decide +kernel
theorem dX0_wantedRow_59 : decode cX0_wantedRow 59 = .ok (.areturn, 1) := by decide +kernel
theorem dX0_endsAhead_0 : decode cX0_endsAhead 0 = .ok (.aload_n 1, 1) := by decide +kernel
theorem dX0_endsAhead_1 : decode cX0_endsAhead 1 = .ok (.iload_n 2, 1) := by decide +kernel
theorem dX0_endsAhead_2 : decode cX0_endsAhead 2 = .ok (.invokevirtual 136, 3) := by decide +kernel
theorem dX0_endsAhead_5 : decode cX0_endsAhead 5 = .ok (.ifCond .eq 5, 3) := by decide +kernel
theorem dX0_endsAhead_8 : decode cX0_endsAhead 8 = .ok (.iconst 0, 1) := by decide +kernel
theorem dX0_endsAhead_9 : decode cX0_endsAhead 9 = .ok (.ireturn, 1) := by decide +kernel
theorem dX0_endsAhead_10 : decode cX0_endsAhead 10 = .ok (.aload_n 0, 1) := by decide +kernel
theorem dX0_endsAhead_11 : decode cX0_endsAhead 11 = .ok (.iconst 3, 1) := by decide +kernel
theorem dX0_endsAhead_12 : decode cX0_endsAhead 12 = .ok (.iload_n 2, 1) := by decide +kernel
theorem dX0_endsAhead_13 : decode cX0_endsAhead 13 = .ok (.invokevirtual 129, 3) := by decide +kernel
theorem dX0_endsAhead_16 : decode cX0_endsAhead 16 = .ok (.pop, 1) := by decide +kernel
theorem dX0_endsAhead_17 : decode cX0_endsAhead 17 = .ok (.iconst 1, 1) := by decide +kernel
theorem dX0_endsAhead_18 : decode cX0_endsAhead 18 = .ok (.ireturn, 1) := by decide +kernel
theorem dX0_playTable_0 : decode cX0_playTable 0 = .ok (.aload_n 1, 1) := by decide +kernel
theorem dX0_playTable_1 : decode cX0_playTable 1 = .ok (.getfield 78, 3) := by decide +kernel
theorem dX0_playTable_4 : decode cX0_playTable 4 = .ok (.iconst 0, 1) := by decide +kernel
theorem dX0_playTable_5 : decode cX0_playTable 5 = .ok (.iaload, 1) := by decide +kernel
theorem dX0_playTable_6 : decode cX0_playTable 6 = .ok (.istore_n 2, 1) := by decide +kernel
theorem dX0_playTable_7 : decode cX0_playTable 7 = .ok (.aload_n 0, 1) := by decide +kernel
theorem dX0_playTable_8 : decode cX0_playTable 8 = .ok (.getfield 19, 3) := by decide +kernel
theorem dX0_playTable_11 : decode cX0_playTable 11 = .ok (.iload_n 2, 1) := by decide +kernel
theorem dX0_playTable_12 : decode cX0_playTable 12 = .ok (.invokevirtual 140, 3) := by decide +kernel
theorem dX0_playTable_15 : decode cX0_playTable 15 = .ok (.ifCond .eq 10, 3) := by decide +kernel
theorem dX0_playTable_18 : decode cX0_playTable 18 = .ok (.aload_n 0, 1) := by decide +kernel
theorem dX0_playTable_19 : decode cX0_playTable 19 = .ok (.iconst 2, 1) := by decide +kernel
theorem dX0_playTable_20 : decode cX0_playTable 20 = .ok (.iconst (-1), 1) := by decide +kernel
theorem dX0_playTable_21 : decode cX0_playTable 21 = .ok (.invokevirtual 129, 3) := by decide +kernel
theorem dX0_playTable_24 : decode cX0_playTable 24 = .ok (.areturn, 1) := by decide +kernel
theorem dX0_playTable_25 : decode cX0_playTable 25 = .ok (.aload_n 0, 1) := by decide +kernel
theorem dX0_playTable_26 : decode cX0_playTable 26 = .ok (.getfield 19, 3) := by decide +kernel
theorem dX0_playTable_29 : decode cX0_playTable 29 = .ok (.iload_n 2, 1) := by decide +kernel
theorem dX0_playTable_30 : decode cX0_playTable 30 = .ok (.invokevirtual 145, 3) := by decide +kernel
theorem dX0_playTable_33 : decode cX0_playTable 33 = .ok (.istore_n 3, 1) := by decide +kernel
theorem dX0_playTable_34 : decode cX0_playTable 34 = .ok (.new 134, 3) := by decide +kernel
theorem dX0_playTable_37 : decode cX0_playTable 37 = .ok (.dup, 1) := by decide +kernel
theorem dX0_playTable_38 : decode cX0_playTable 38 = .ok (.aload_n 1, 1) := by decide +kernel
theorem dX0_playTable_39 : decode cX0_playTable 39 = .ok (.getfield 148, 3) := by decide +kernel
theorem dX0_playTable_42 : decode cX0_playTable 42 = .ok (.aload_n 0, 1) := by decide +kernel
theorem dX0_playTable_43 : decode cX0_playTable 43 = .ok (.getfield 27, 3) := by decide +kernel
theorem dX0_playTable_46 : decode cX0_playTable 46 = .ok (.invokespecial 151, 3) := by decide +kernel
theorem dX0_playTable_49 : decode cX0_playTable 49 = .ok (.astore 4, 2) := by decide +kernel
theorem dX0_playTable_51 : decode cX0_playTable 51 = .ok (.iconst 0, 1) := by decide +kernel
theorem dX0_playTable_52 : decode cX0_playTable 52 = .ok (.istore 5, 2) := by decide +kernel
theorem dX0_playTable_54 : decode cX0_playTable 54 = .ok (.iload 5, 2) := by decide +kernel
theorem dX0_playTable_56 : decode cX0_playTable 56 = .ok (.aload_n 0, 1) := by decide +kernel
theorem dX0_playTable_57 : decode cX0_playTable 57 = .ok (.getfield 27, 3) := by decide +kernel
theorem dX0_playTable_60 : decode cX0_playTable 60 = .ok (.if_icmp .ge 96, 3) := by decide +kernel
theorem dX0_playTable_63 : decode cX0_playTable 63 = .ok (.iload_n 3, 1) := by decide +kernel
theorem dX0_playTable_64 : decode cX0_playTable 64 = .ok (.ifCond .gt 11, 3) := by decide +kernel
theorem dX0_playTable_67 : decode cX0_playTable 67 = .ok (.aload_n 0, 1) := by decide +kernel
theorem dX0_playTable_68 : decode cX0_playTable 68 = .ok (.iconst 5, 1) := by decide +kernel
theorem dX0_playTable_69 : decode cX0_playTable 69 = .ok (.iload 5, 2) := by decide +kernel
theorem dX0_playTable_71 : decode cX0_playTable 71 = .ok (.invokevirtual 129, 3) := by decide +kernel
theorem dX0_playTable_74 : decode cX0_playTable 74 = .ok (.areturn, 1) := by decide +kernel
theorem dX0_playTable_75 : decode cX0_playTable 75 = .ok (.aload_n 0, 1) := by decide +kernel
theorem dX0_playTable_76 : decode cX0_playTable 76 = .ok (.getfield 19, 3) := by decide +kernel
theorem dX0_playTable_79 : decode cX0_playTable 79 = .ok (.iload_n 2, 1) := by decide +kernel
theorem dX0_playTable_80 : decode cX0_playTable 80 = .ok (.aload_n 1, 1) := by decide +kernel
theorem dX0_playTable_81 : decode cX0_playTable 81 = .ok (.getfield 58, 3) := by decide +kernel
theorem dX0_playTable_84 : decode cX0_playTable 84 = .ok (.getfield 154, 3) := by decide +kernel
theorem dX0_playTable_87 : decode cX0_playTable 87 = .ok (.invokevirtual 157, 3) := by decide +kernel
theorem dX0_playTable_90 : decode cX0_playTable 90 = .ok (.ifCond .ne 11, 3) := by decide +kernel
theorem dX0_playTable_93 : decode cX0_playTable 93 = .ok (.aload_n 0, 1) := by decide +kernel
theorem dX0_playTable_94 : decode cX0_playTable 94 = .ok (.iconst 3, 1) := by decide +kernel
theorem dX0_playTable_95 : decode cX0_playTable 95 = .ok (.iload 5, 2) := by decide +kernel
theorem dX0_playTable_97 : decode cX0_playTable 97 = .ok (.invokevirtual 129, 3) := by decide +kernel
theorem dX0_playTable_100 : decode cX0_playTable 100 = .ok (.areturn, 1) := by decide +kernel
theorem dX0_playTable_101 : decode cX0_playTable 101 = .ok (.aload_n 0, 1) := by decide +kernel
theorem dX0_playTable_102 : decode cX0_playTable 102 = .ok (.aload_n 1, 1) := by decide +kernel
theorem dX0_playTable_103 : decode cX0_playTable 103 = .ok (.aload 4, 2) := by decide +kernel
theorem dX0_playTable_105 : decode cX0_playTable 105 = .ok (.iload 5, 2) := by decide +kernel
theorem dX0_playTable_107 : decode cX0_playTable 107 = .ok (.aload_n 0, 1) := by decide +kernel
theorem dX0_playTable_108 : decode cX0_playTable 108 = .ok (.getfield 19, 3) := by decide +kernel
theorem dX0_playTable_111 : decode cX0_playTable 111 = .ok (.iload_n 2, 1) := by decide +kernel
theorem dX0_playTable_112 : decode cX0_playTable 112 = .ok (.aload_n 1, 1) := by decide +kernel
theorem dX0_playTable_113 : decode cX0_playTable 113 = .ok (.getfield 58, 3) := by decide +kernel
theorem dX0_playTable_116 : decode cX0_playTable 116 = .ok (.getfield 154, 3) := by decide +kernel
theorem dX0_playTable_119 : decode cX0_playTable 119 = .ok (.invokevirtual 161, 3) := by decide +kernel
theorem dX0_playTable_122 : decode cX0_playTable 122 = .ok (.invokevirtual 164, 3) := by decide +kernel
theorem dX0_playTable_125 : decode cX0_playTable 125 = .ok (.aload_n 1, 1) := by decide +kernel
theorem dX0_playTable_126 : decode cX0_playTable 126 = .ok (.getfield 58, 3) := by decide +kernel
theorem dX0_playTable_129 : decode cX0_playTable 129 = .ok (.aload_n 1, 1) := by decide +kernel
theorem dX0_playTable_130 : decode cX0_playTable 130 = .ok (.getfield 58, 3) := by decide +kernel
theorem dX0_playTable_133 : decode cX0_playTable 133 = .ok (.getfield 154, 3) := by decide +kernel
theorem dX0_playTable_136 : decode cX0_playTable 136 = .ok (.aload_n 1, 1) := by decide +kernel
theorem dX0_playTable_137 : decode cX0_playTable 137 = .ok (.getfield 78, 3) := by decide +kernel
theorem dX0_playTable_140 : decode cX0_playTable 140 = .ok (.iconst 1, 1) := by decide +kernel
theorem dX0_playTable_141 : decode cX0_playTable 141 = .ok (.iaload, 1) := by decide +kernel
theorem dX0_playTable_142 : decode cX0_playTable 142 = .ok (.iadd, 1) := by decide +kernel
theorem dX0_playTable_143 : decode cX0_playTable 143 = .ok (.iload_n 3, 1) := by decide +kernel
theorem dX0_playTable_144 : decode cX0_playTable 144 = .ok (.invokestatic 168, 3) := by decide +kernel
theorem dX0_playTable_147 : decode cX0_playTable 147 = .ok (.putfield 154, 3) := by decide +kernel
theorem dX0_playTable_150 : decode cX0_playTable 150 = .ok (.iinc 5 1, 3) := by decide +kernel
theorem dX0_playTable_153 : decode cX0_playTable 153 = .ok (.goto (-99), 3) := by decide +kernel
theorem dX0_playTable_156 : decode cX0_playTable 156 = .ok (.aload 4, 2) := by decide +kernel
theorem dX0_playTable_158 : decode cX0_playTable 158 = .ok (.areturn, 1) := by decide +kernel
theorem dX0_putFromTable_0 : decode cX0_putFromTable 0 = .ok (.aload_n 2, 1) := by decide +kernel
theorem dX0_putFromTable_1 : decode cX0_putFromTable 1 = .ok (.invokevirtual 173, 3) := by decide +kernel
theorem dX0_putFromTable_4 : decode cX0_putFromTable 4 = .ok (.ifCond .eq 18, 3) := by decide +kernel
theorem dX0_putFromTable_7 : decode cX0_putFromTable 7 = .ok (.iload 4, 2) := by decide +kernel
theorem dX0_putFromTable_9 : decode cX0_putFromTable 9 = .ok (.ldc 177, 2) := by decide +kernel
theorem dX0_putFromTable_11 : decode cX0_putFromTable 11 = .ok (.if_icmp .ne 11, 3) := by decide +kernel
theorem dX0_putFromTable_14 : decode cX0_putFromTable 14 = .ok (.aload_n 2, 1) := by decide +kernel
theorem dX0_putFromTable_15 : decode cX0_putFromTable 15 = .ok (.iload_n 3, 1) := by decide +kernel
theorem dX0_putFromTable_16 : decode cX0_putFromTable 16 = .ok (.invokevirtual 178, 3) := by decide +kernel
theorem dX0_putFromTable_19 : decode cX0_putFromTable 19 = .ok (.goto 12, 3) := by decide +kernel
theorem dX0_putFromTable_22 : decode cX0_putFromTable 22 = .ok (.aload_n 0, 1) := by decide +kernel
theorem dX0_putFromTable_23 : decode cX0_putFromTable 23 = .ok (.aload_n 1, 1) := by decide +kernel
theorem dX0_putFromTable_24 : decode cX0_putFromTable 24 = .ok (.aload_n 2, 1) := by decide +kernel
theorem dX0_putFromTable_25 : decode cX0_putFromTable 25 = .ok (.iload_n 3, 1) := by decide +kernel
theorem dX0_putFromTable_26 : decode cX0_putFromTable 26 = .ok (.iload 4, 2) := by decide +kernel
theorem dX0_putFromTable_28 : decode cX0_putFromTable 28 = .ok (.invokevirtual 181, 3) := by decide +kernel
theorem dX0_putFromTable_31 : decode cX0_putFromTable 31 = .ok (.return_, 1) := by decide +kernel
theorem dX0_putWhole_0 : decode cX0_putWhole 0 = .ok (.aload_n 2, 1) := by decide +kernel
theorem dX0_putWhole_1 : decode cX0_putWhole 1 = .ok (.getfield 133, 3) := by decide +kernel
theorem dX0_putWhole_4 : decode cX0_putWhole 4 = .ok (.tableswitch 82 0 2 #[28, 46, 71], 28) := by decide +kernel
theorem dX0_putWhole_32 : decode cX0_putWhole 32 = .ok (.aload_n 2, 1) := by decide +kernel
theorem dX0_putWhole_33 : decode cX0_putWhole 33 = .ok (.iload_n 3, 1) := by decide +kernel
theorem dX0_putWhole_34 : decode cX0_putWhole 34 = .ok (.iload 4, 2) := by decide +kernel
theorem dX0_putWhole_36 : decode cX0_putWhole 36 = .ok (.ifCond .le 7, 3) := by decide +kernel
theorem dX0_putWhole_39 : decode cX0_putWhole 39 = .ok (.dconst 1, 1) := by decide +kernel
theorem dX0_putWhole_40 : decode cX0_putWhole 40 = .ok (.goto 4, 3) := by decide +kernel
theorem dX0_putWhole_43 : decode cX0_putWhole 43 = .ok (.dconst 0, 1) := by decide +kernel
theorem dX0_putWhole_44 : decode cX0_putWhole 44 = .ok (.invokevirtual 184, 3) := by decide +kernel
theorem dX0_putWhole_47 : decode cX0_putWhole 47 = .ok (.goto 54, 3) := by decide +kernel
theorem dX0_putWhole_50 : decode cX0_putWhole 50 = .ok (.aload_n 2, 1) := by decide +kernel
theorem dX0_putWhole_51 : decode cX0_putWhole 51 = .ok (.iload_n 3, 1) := by decide +kernel
theorem dX0_putWhole_52 : decode cX0_putWhole 52 = .ok (.aload_n 1, 1) := by decide +kernel
theorem dX0_putWhole_53 : decode cX0_putWhole 53 = .ok (.getfield 58, 3) := by decide +kernel
theorem dX0_putWhole_56 : decode cX0_putWhole 56 = .ok (.sipush (-32768), 3) := by decide +kernel
theorem dX0_putWhole_59 : decode cX0_putWhole 59 = .ok (.sipush 32767, 3) := by decide +kernel
theorem dX0_putWhole_62 : decode cX0_putWhole 62 = .ok (.iload 4, 2) := by decide +kernel
theorem dX0_putWhole_64 : decode cX0_putWhole 64 = .ok (.i2l, 1) := by decide +kernel
theorem dX0_putWhole_65 : decode cX0_putWhole 65 = .ok (.invokevirtual 188, 3) := by decide +kernel
theorem dX0_putWhole_68 : decode cX0_putWhole 68 = .ok (.i2d, 1) := by decide +kernel
theorem dX0_putWhole_69 : decode cX0_putWhole 69 = .ok (.invokevirtual 184, 3) := by decide +kernel
theorem dX0_putWhole_72 : decode cX0_putWhole 72 = .ok (.goto 29, 3) := by decide +kernel
theorem dX0_putWhole_75 : decode cX0_putWhole 75 = .ok (.aload_n 2, 1) := by decide +kernel
theorem dX0_putWhole_76 : decode cX0_putWhole 76 = .ok (.iload_n 3, 1) := by decide +kernel
theorem dX0_putWhole_77 : decode cX0_putWhole 77 = .ok (.iload 4, 2) := by decide +kernel
theorem dX0_putWhole_79 : decode cX0_putWhole 79 = .ok (.i2d, 1) := by decide +kernel
theorem dX0_putWhole_80 : decode cX0_putWhole 80 = .ok (.invokevirtual 184, 3) := by decide +kernel
theorem dX0_putWhole_83 : decode cX0_putWhole 83 = .ok (.goto 18, 3) := by decide +kernel
theorem dX0_putWhole_86 : decode cX0_putWhole 86 = .ok (.aload_n 2, 1) := by decide +kernel
theorem dX0_putWhole_87 : decode cX0_putWhole 87 = .ok (.iload_n 3, 1) := by decide +kernel
theorem dX0_putWhole_88 : decode cX0_putWhole 88 = .ok (.iload 4, 2) := by decide +kernel
theorem dX0_putWhole_90 : decode cX0_putWhole 90 = .ok (.i2d, 1) := by decide +kernel
theorem dX0_putWhole_91 : decode cX0_putWhole 91 = .ok (.ldc2_w 192, 3) := by decide +kernel
theorem dX0_putWhole_94 : decode cX0_putWhole 94 = .ok (.ddiv, 1) := by decide +kernel
theorem dX0_putWhole_95 : decode cX0_putWhole 95 = .ok (.invokestatic 194, 3) := by decide +kernel
theorem dX0_putWhole_98 : decode cX0_putWhole 98 = .ok (.invokevirtual 184, 3) := by decide +kernel
theorem dX0_putWhole_101 : decode cX0_putWhole 101 = .ok (.return_, 1) := by decide +kernel
theorem dX0_shape_0 : decode cX0_shape 0 = .ok (.aload_n 0, 1) := by decide +kernel
theorem dX0_shape_1 : decode cX0_shape 1 = .ok (.aload_n 1, 1) := by decide +kernel
theorem dX0_shape_2 : decode cX0_shape 2 = .ok (.iconst 0, 1) := by decide +kernel
theorem dX0_shape_3 : decode cX0_shape 3 = .ok (.iconst 4, 1) := by decide +kernel
theorem dX0_shape_4 : decode cX0_shape 4 = .ok (.invokevirtual 198, 3) := by decide +kernel
theorem dX0_shape_7 : decode cX0_shape 7 = .ok (.astore_n 2, 1) := by decide +kernel
theorem dX0_shape_8 : decode cX0_shape 8 = .ok (.aload_n 2, 1) := by decide +kernel
theorem dX0_shape_9 : decode cX0_shape 9 = .ok (.ifnonnull 5, 3) := by decide +kernel
theorem dX0_shape_12 : decode cX0_shape 12 = .ok (.aconst_null, 1) := by decide +kernel
theorem dX0_shape_13 : decode cX0_shape 13 = .ok (.areturn, 1) := by decide +kernel
theorem dX0_shape_14 : decode cX0_shape 14 = .ok (.new 134, 3) := by decide +kernel
theorem dX0_shape_17 : decode cX0_shape 17 = .ok (.dup, 1) := by decide +kernel
theorem dX0_shape_18 : decode cX0_shape 18 = .ok (.iconst 4, 1) := by decide +kernel
theorem dX0_shape_19 : decode cX0_shape 19 = .ok (.aload_n 0, 1) := by decide +kernel
theorem dX0_shape_20 : decode cX0_shape 20 = .ok (.getfield 27, 3) := by decide +kernel
theorem dX0_shape_23 : decode cX0_shape 23 = .ok (.invokespecial 151, 3) := by decide +kernel
theorem dX0_shape_26 : decode cX0_shape 26 = .ok (.astore_n 3, 1) := by decide +kernel
theorem dX0_shape_27 : decode cX0_shape 27 = .ok (.iconst 0, 1) := by decide +kernel
theorem dX0_shape_28 : decode cX0_shape 28 = .ok (.istore 4, 2) := by decide +kernel
theorem dX0_shape_30 : decode cX0_shape 30 = .ok (.iload 4, 2) := by decide +kernel
theorem dX0_shape_32 : decode cX0_shape 32 = .ok (.aload_n 0, 1) := by decide +kernel
theorem dX0_shape_33 : decode cX0_shape 33 = .ok (.getfield 27, 3) := by decide +kernel
theorem dX0_shape_36 : decode cX0_shape 36 = .ok (.if_icmp .ge 58, 3) := by decide +kernel
theorem dX0_shape_39 : decode cX0_shape 39 = .ok (.aload_n 0, 1) := by decide +kernel
theorem dX0_shape_40 : decode cX0_shape 40 = .ok (.aload_n 2, 1) := by decide +kernel
theorem dX0_shape_41 : decode cX0_shape 41 = .ok (.iload 4, 2) := by decide +kernel
theorem dX0_shape_43 : decode cX0_shape 43 = .ok (.invokevirtual 202, 3) := by decide +kernel
theorem dX0_shape_46 : decode cX0_shape 46 = .ok (.ifCond .eq 5, 3) := by decide +kernel
theorem dX0_shape_49 : decode cX0_shape 49 = .ok (.aconst_null, 1) := by decide +kernel
theorem dX0_shape_50 : decode cX0_shape 50 = .ok (.areturn, 1) := by decide +kernel
theorem dX0_shape_51 : decode cX0_shape 51 = .ok (.aload_n 2, 1) := by decide +kernel
theorem dX0_shape_52 : decode cX0_shape 52 = .ok (.iload 4, 2) := by decide +kernel
theorem dX0_shape_54 : decode cX0_shape 54 = .ok (.invokevirtual 206, 3) := by decide +kernel
theorem dX0_shape_57 : decode cX0_shape 57 = .ok (.ifCond .eq 12, 3) := by decide +kernel
theorem dX0_shape_60 : decode cX0_shape 60 = .ok (.aload_n 3, 1) := by decide +kernel
theorem dX0_shape_61 : decode cX0_shape 61 = .ok (.iload 4, 2) := by decide +kernel
theorem dX0_shape_63 : decode cX0_shape 63 = .ok (.invokevirtual 178, 3) := by decide +kernel
theorem dX0_shape_66 : decode cX0_shape 66 = .ok (.goto 22, 3) := by decide +kernel
theorem dX0_shape_69 : decode cX0_shape 69 = .ok (.aload_n 3, 1) := by decide +kernel
theorem dX0_shape_70 : decode cX0_shape 70 = .ok (.iload 4, 2) := by decide +kernel
theorem dX0_shape_72 : decode cX0_shape 72 = .ok (.aload_n 0, 1) := by decide +kernel
theorem dX0_shape_73 : decode cX0_shape 73 = .ok (.aload_n 1, 1) := by decide +kernel
theorem dX0_shape_74 : decode cX0_shape 74 = .ok (.iload 4, 2) := by decide +kernel
theorem dX0_shape_76 : decode cX0_shape 76 = .ok (.aload_n 2, 1) := by decide +kernel
theorem dX0_shape_77 : decode cX0_shape 77 = .ok (.iload 4, 2) := by decide +kernel
theorem dX0_shape_79 : decode cX0_shape 79 = .ok (.invokevirtual 209, 3) := by decide +kernel
theorem dX0_shape_82 : decode cX0_shape 82 = .ok (.invokevirtual 213, 3) := by decide +kernel
theorem dX0_shape_85 : decode cX0_shape 85 = .ok (.invokevirtual 184, 3) := by decide +kernel
theorem dX0_shape_88 : decode cX0_shape 88 = .ok (.iinc 4 1, 3) := by decide +kernel
theorem dX0_shape_91 : decode cX0_shape 91 = .ok (.goto (-61), 3) := by decide +kernel
theorem dX0_shape_94 : decode cX0_shape 94 = .ok (.aload_n 3, 1) := by decide +kernel
theorem dX0_shape_95 : decode cX0_shape 95 = .ok (.areturn, 1) := by decide +kernel
theorem dX0_shapedSample_0 : decode cX0_shapedSample 0 = .ok (.aload_n 1, 1) := by decide +kernel
theorem dX0_shapedSample_1 : decode cX0_shapedSample 1 = .ok (.getfield 58, 3) := by decide +kernel
theorem dX0_shapedSample_4 : decode cX0_shapedSample 4 = .ok (.astore 5, 2) := by decide +kernel
theorem dX0_shapedSample_6 : decode cX0_shapedSample 6 = .ok (.aload_n 0, 1) := by decide +kernel
theorem dX0_shapedSample_7 : decode cX0_shapedSample 7 = .ok (.aload_n 1, 1) := by decide +kernel
theorem dX0_shapedSample_8 : decode cX0_shapedSample 8 = .ok (.iload_n 2, 1) := by decide +kernel
theorem dX0_shapedSample_9 : decode cX0_shapedSample 9 = .ok (.invokevirtual 217, 3) := by decide +kernel
theorem dX0_shapedSample_12 : decode cX0_shapedSample 12 = .ok (.dload_n 3, 1) := by decide +kernel
theorem dX0_shapedSample_13 : decode cX0_shapedSample 13 = .ok (.dmul, 1) := by decide +kernel
theorem dX0_shapedSample_14 : decode cX0_shapedSample 14 = .ok (.invokestatic 194, 3) := by decide +kernel
theorem dX0_shapedSample_17 : decode cX0_shapedSample 17 = .ok (.dstore 6, 2) := by decide +kernel
theorem dX0_shapedSample_19 : decode cX0_shapedSample 19 = .ok (.aload_n 1, 1) := by decide +kernel
theorem dX0_shapedSample_20 : decode cX0_shapedSample 20 = .ok (.getfield 84, 3) := by decide +kernel
theorem dX0_shapedSample_23 : decode cX0_shapedSample 23 = .ok (.iconst 1, 1) := by decide +kernel
theorem dX0_shapedSample_24 : decode cX0_shapedSample 24 = .ok (.if_icmp .ne 6, 3) := by decide +kernel
theorem dX0_shapedSample_27 : decode cX0_shapedSample 27 = .ok (.dload 6, 2) := by decide +kernel
theorem dX0_shapedSample_29 : decode cX0_shapedSample 29 = .ok (.dreturn, 1) := by decide +kernel
theorem dX0_shapedSample_30 : decode cX0_shapedSample 30 = .ok (.dload 6, 2) := by decide +kernel
theorem dX0_shapedSample_32 : decode cX0_shapedSample 32 = .ok (.aload 5, 2) := by decide +kernel
theorem dX0_shapedSample_34 : decode cX0_shapedSample 34 = .ok (.getfield 221, 3) := by decide +kernel
theorem dX0_shapedSample_37 : decode cX0_shapedSample 37 = .ok (.aload_n 1, 1) := by decide +kernel
theorem dX0_shapedSample_38 : decode cX0_shapedSample 38 = .ok (.getfield 78, 3) := by decide +kernel
theorem dX0_shapedSample_41 : decode cX0_shapedSample 41 = .ok (.iconst 1, 1) := by decide +kernel
theorem dX0_shapedSample_42 : decode cX0_shapedSample 42 = .ok (.iaload, 1) := by decide +kernel
theorem dX0_shapedSample_43 : decode cX0_shapedSample 43 = .ok (.i2d, 1) := by decide +kernel
theorem dX0_shapedSample_44 : decode cX0_shapedSample 44 = .ok (.ldc2_w 225, 3) := by decide +kernel
theorem dX0_shapedSample_47 : decode cX0_shapedSample 47 = .ok (.ddiv, 1) := by decide +kernel
theorem dX0_shapedSample_48 : decode cX0_shapedSample 48 = .ok (.dmul, 1) := by decide +kernel
theorem dX0_shapedSample_49 : decode cX0_shapedSample 49 = .ok (.dadd, 1) := by decide +kernel
theorem dX0_shapedSample_50 : decode cX0_shapedSample 50 = .ok (.invokestatic 194, 3) := by decide +kernel
theorem dX0_shapedSample_53 : decode cX0_shapedSample 53 = .ok (.dstore 8, 2) := by decide +kernel
theorem dX0_shapedSample_55 : decode cX0_shapedSample 55 = .ok (.aload 5, 2) := by decide +kernel
theorem dX0_shapedSample_57 : decode cX0_shapedSample 57 = .ok (.dload 8, 2) := by decide +kernel
theorem dX0_shapedSample_59 : decode cX0_shapedSample 59 = .ok (.putfield 221, 3) := by decide +kernel
theorem dX0_shapedSample_62 : decode cX0_shapedSample 62 = .ok (.aload_n 1, 1) := by decide +kernel
theorem dX0_shapedSample_63 : decode cX0_shapedSample 63 = .ok (.getfield 84, 3) := by decide +kernel
theorem dX0_shapedSample_66 : decode cX0_shapedSample 66 = .ok (.iconst 4, 1) := by decide +kernel
theorem dX0_shapedSample_67 : decode cX0_shapedSample 67 = .ok (.if_icmp .eq 6, 3) := by decide +kernel
theorem dX0_shapedSample_70 : decode cX0_shapedSample 70 = .ok (.dload 8, 2) := by decide +kernel
theorem dX0_shapedSample_72 : decode cX0_shapedSample 72 = .ok (.dreturn, 1) := by decide +kernel
theorem dX0_shapedSample_73 : decode cX0_shapedSample 73 = .ok (.dload 8, 2) := by decide +kernel
theorem dX0_shapedSample_75 : decode cX0_shapedSample 75 = .ok (.aload 5, 2) := by decide +kernel
theorem dX0_shapedSample_77 : decode cX0_shapedSample 77 = .ok (.getfield 227, 3) := by decide +kernel
theorem dX0_shapedSample_80 : decode cX0_shapedSample 80 = .ok (.dadd, 1) := by decide +kernel
theorem dX0_shapedSample_81 : decode cX0_shapedSample 81 = .ok (.invokestatic 194, 3) := by decide +kernel
theorem dX0_shapedSample_84 : decode cX0_shapedSample 84 = .ok (.dstore 10, 2) := by decide +kernel
theorem dX0_shapedSample_86 : decode cX0_shapedSample 86 = .ok (.aload 5, 2) := by decide +kernel
theorem dX0_shapedSample_88 : decode cX0_shapedSample 88 = .ok (.dload 8, 2) := by decide +kernel
theorem dX0_shapedSample_90 : decode cX0_shapedSample 90 = .ok (.aload_n 1, 1) := by decide +kernel
theorem dX0_shapedSample_91 : decode cX0_shapedSample 91 = .ok (.getfield 78, 3) := by decide +kernel
theorem dX0_shapedSample_94 : decode cX0_shapedSample 94 = .ok (.iconst 2, 1) := by decide +kernel
theorem dX0_shapedSample_95 : decode cX0_shapedSample 95 = .ok (.iaload, 1) := by decide +kernel
theorem dX0_shapedSample_96 : decode cX0_shapedSample 96 = .ok (.i2d, 1) := by decide +kernel
theorem dX0_shapedSample_97 : decode cX0_shapedSample 97 = .ok (.ldc2_w 225, 3) := by decide +kernel
theorem dX0_shapedSample_100 : decode cX0_shapedSample 100 = .ok (.ddiv, 1) := by decide +kernel
theorem dX0_shapedSample_101 : decode cX0_shapedSample 101 = .ok (.dmul, 1) := by decide +kernel
theorem dX0_shapedSample_102 : decode cX0_shapedSample 102 = .ok (.invokestatic 194, 3) := by decide +kernel
theorem dX0_shapedSample_105 : decode cX0_shapedSample 105 = .ok (.putfield 227, 3) := by decide +kernel
theorem dX0_shapedSample_108 : decode cX0_shapedSample 108 = .ok (.dload 10, 2) := by decide +kernel
theorem dX0_shapedSample_110 : decode cX0_shapedSample 110 = .ok (.dreturn, 1) := by decide +kernel
theorem dX0_gainAt_0 : decode cX0_gainAt 0 = .ok (.aload_n 1, 1) := by decide +kernel
theorem dX0_gainAt_1 : decode cX0_gainAt 1 = .ok (.getfield 58, 3) := by decide +kernel
theorem dX0_gainAt_4 : decode cX0_gainAt 4 = .ok (.getfield 81, 3) := by decide +kernel
theorem dX0_gainAt_7 : decode cX0_gainAt 7 = .ok (.istore_n 3, 1) := by decide +kernel
theorem dX0_gainAt_8 : decode cX0_gainAt 8 = .ok (.aload_n 1, 1) := by decide +kernel
theorem dX0_gainAt_9 : decode cX0_gainAt 9 = .ok (.getfield 78, 3) := by decide +kernel
theorem dX0_gainAt_12 : decode cX0_gainAt 12 = .ok (.iconst 0, 1) := by decide +kernel
theorem dX0_gainAt_13 : decode cX0_gainAt 13 = .ok (.iaload, 1) := by decide +kernel
theorem dX0_gainAt_14 : decode cX0_gainAt 14 = .ok (.iload_n 3, 1) := by decide +kernel
theorem dX0_gainAt_15 : decode cX0_gainAt 15 = .ok (.isub, 1) := by decide +kernel
theorem dX0_gainAt_16 : decode cX0_gainAt 16 = .ok (.iload_n 2, 1) := by decide +kernel
theorem dX0_gainAt_17 : decode cX0_gainAt 17 = .ok (.iconst 1, 1) := by decide +kernel
theorem dX0_gainAt_18 : decode cX0_gainAt 18 = .ok (.iadd, 1) := by decide +kernel
theorem dX0_gainAt_19 : decode cX0_gainAt 19 = .ok (.imul, 1) := by decide +kernel
theorem dX0_gainAt_20 : decode cX0_gainAt 20 = .ok (.i2d, 1) := by decide +kernel
theorem dX0_gainAt_21 : decode cX0_gainAt 21 = .ok (.dstore 4, 2) := by decide +kernel
theorem dX0_gainAt_23 : decode cX0_gainAt 23 = .ok (.iload_n 3, 1) := by decide +kernel
theorem dX0_gainAt_24 : decode cX0_gainAt 24 = .ok (.i2d, 1) := by decide +kernel
theorem dX0_gainAt_25 : decode cX0_gainAt 25 = .ok (.dload 4, 2) := by decide +kernel
theorem dX0_gainAt_27 : decode cX0_gainAt 27 = .ok (.aload_n 0, 1) := by decide +kernel
theorem dX0_gainAt_28 : decode cX0_gainAt 28 = .ok (.getfield 27, 3) := by decide +kernel
theorem dX0_gainAt_31 : decode cX0_gainAt 31 = .ok (.i2d, 1) := by decide +kernel
theorem dX0_gainAt_32 : decode cX0_gainAt 32 = .ok (.ddiv, 1) := by decide +kernel
theorem dX0_gainAt_33 : decode cX0_gainAt 33 = .ok (.dadd, 1) := by decide +kernel
theorem dX0_gainAt_34 : decode cX0_gainAt 34 = .ok (.ldc2_w 225, 3) := by decide +kernel
theorem dX0_gainAt_37 : decode cX0_gainAt 37 = .ok (.ddiv, 1) := by decide +kernel
theorem dX0_gainAt_38 : decode cX0_gainAt 38 = .ok (.dreturn, 1) := by decide +kernel
theorem dX0_mix_0 : decode cX0_mix 0 = .ok (.iconst 0, 1) := by decide +kernel
theorem dX0_mix_1 : decode cX0_mix 1 = .ok (.istore_n 2, 1) := by decide +kernel
theorem dX0_mix_2 : decode cX0_mix 2 = .ok (.iconst 0, 1) := by decide +kernel
theorem dX0_mix_3 : decode cX0_mix 3 = .ok (.istore_n 3, 1) := by decide +kernel
theorem dX0_mix_4 : decode cX0_mix 4 = .ok (.iload_n 3, 1) := by decide +kernel
theorem dX0_mix_5 : decode cX0_mix 5 = .ok (.aload_n 1, 1) := by decide +kernel
theorem dX0_mix_6 : decode cX0_mix 6 = .ok (.invokevirtual 230, 3) := by decide +kernel
theorem dX0_mix_9 : decode cX0_mix 9 = .ok (.if_icmp .ge 53, 3) := by decide +kernel
theorem dX0_mix_12 : decode cX0_mix 12 = .ok (.aload_n 0, 1) := by decide +kernel
theorem dX0_mix_13 : decode cX0_mix 13 = .ok (.aload_n 1, 1) := by decide +kernel
theorem dX0_mix_14 : decode cX0_mix 14 = .ok (.iload_n 3, 1) := by decide +kernel
theorem dX0_mix_15 : decode cX0_mix 15 = .ok (.invokevirtual 87, 3) := by decide +kernel
theorem dX0_mix_18 : decode cX0_mix 18 = .ok (.astore 4, 2) := by decide +kernel
theorem dX0_mix_20 : decode cX0_mix 20 = .ok (.aload 4, 2) := by decide +kernel
theorem dX0_mix_22 : decode cX0_mix 22 = .ok (.ifnull 19, 3) := by decide +kernel
theorem dX0_mix_25 : decode cX0_mix 25 = .ok (.aload 4, 2) := by decide +kernel
theorem dX0_mix_27 : decode cX0_mix 27 = .ok (.getfield 133, 3) := by decide +kernel
theorem dX0_mix_30 : decode cX0_mix 30 = .ok (.iconst 2, 1) := by decide +kernel
theorem dX0_mix_31 : decode cX0_mix 31 = .ok (.if_icmp .eq 10, 3) := by decide +kernel
theorem dX0_mix_34 : decode cX0_mix 34 = .ok (.aload_n 0, 1) := by decide +kernel
theorem dX0_mix_35 : decode cX0_mix 35 = .ok (.iconst 4, 1) := by decide +kernel
theorem dX0_mix_36 : decode cX0_mix 36 = .ok (.iconst (-1), 1) := by decide +kernel
theorem dX0_mix_37 : decode cX0_mix 37 = .ok (.invokevirtual 129, 3) := by decide +kernel
theorem dX0_mix_40 : decode cX0_mix 40 = .ok (.areturn, 1) := by decide +kernel
theorem dX0_mix_41 : decode cX0_mix 41 = .ok (.iload_n 2, 1) := by decide +kernel
theorem dX0_mix_42 : decode cX0_mix 42 = .ok (.ifCond .ne 8, 3) := by decide +kernel
theorem dX0_mix_45 : decode cX0_mix 45 = .ok (.aload 4, 2) := by decide +kernel
theorem dX0_mix_47 : decode cX0_mix 47 = .ok (.ifnull 7, 3) := by decide +kernel
theorem dX0_mix_50 : decode cX0_mix 50 = .ok (.iconst 1, 1) := by decide +kernel
theorem dX0_mix_51 : decode cX0_mix 51 = .ok (.goto 4, 3) := by decide +kernel
theorem dX0_mix_54 : decode cX0_mix 54 = .ok (.iconst 0, 1) := by decide +kernel
theorem dX0_mix_55 : decode cX0_mix 55 = .ok (.istore_n 2, 1) := by decide +kernel
theorem dX0_mix_56 : decode cX0_mix 56 = .ok (.iinc 3 1, 3) := by decide +kernel
theorem dX0_mix_59 : decode cX0_mix 59 = .ok (.goto (-55), 3) := by decide +kernel
theorem dX0_mix_62 : decode cX0_mix 62 = .ok (.iload_n 2, 1) := by decide +kernel
theorem dX0_mix_63 : decode cX0_mix 63 = .ok (.ifCond .ne 5, 3) := by decide +kernel
theorem dX0_mix_66 : decode cX0_mix 66 = .ok (.aconst_null, 1) := by decide +kernel
theorem dX0_mix_67 : decode cX0_mix 67 = .ok (.areturn, 1) := by decide +kernel
theorem dX0_mix_68 : decode cX0_mix 68 = .ok (.new 134, 3) := by decide +kernel
theorem dX0_mix_71 : decode cX0_mix 71 = .ok (.dup, 1) := by decide +kernel
theorem dX0_mix_72 : decode cX0_mix 72 = .ok (.iconst 2, 1) := by decide +kernel
theorem dX0_mix_73 : decode cX0_mix 73 = .ok (.aload_n 0, 1) := by decide +kernel
theorem dX0_mix_74 : decode cX0_mix 74 = .ok (.getfield 27, 3) := by decide +kernel
theorem dX0_mix_77 : decode cX0_mix 77 = .ok (.invokespecial 151, 3) := by decide +kernel
theorem dX0_mix_80 : decode cX0_mix 80 = .ok (.astore_n 3, 1) := by decide +kernel
theorem dX0_mix_81 : decode cX0_mix 81 = .ok (.iconst 0, 1) := by decide +kernel
theorem dX0_mix_82 : decode cX0_mix 82 = .ok (.istore 4, 2) := by decide +kernel
theorem dX0_mix_84 : decode cX0_mix 84 = .ok (.iload 4, 2) := by decide +kernel
theorem dX0_mix_86 : decode cX0_mix 86 = .ok (.aload_n 0, 1) := by decide +kernel
theorem dX0_mix_87 : decode cX0_mix 87 = .ok (.getfield 27, 3) := by decide +kernel
theorem dX0_mix_90 : decode cX0_mix 90 = .ok (.if_icmp .ge 41, 3) := by decide +kernel
theorem dX0_mix_93 : decode cX0_mix 93 = .ok (.aload_n 0, 1) := by decide +kernel
theorem dX0_mix_94 : decode cX0_mix 94 = .ok (.getfield 30, 3) := by decide +kernel
theorem dX0_mix_97 : decode cX0_mix 97 = .ok (.ifCond .ne 34, 3) := by decide +kernel
theorem dX0_mix_100 : decode cX0_mix 100 = .ok (.aload_n 3, 1) := by decide +kernel
theorem dX0_mix_101 : decode cX0_mix 101 = .ok (.iload 4, 2) := by decide +kernel
theorem dX0_mix_103 : decode cX0_mix 103 = .ok (.aload_n 1, 1) := by decide +kernel
theorem dX0_mix_104 : decode cX0_mix 104 = .ok (.getfield 58, 3) := by decide +kernel
theorem dX0_mix_107 : decode cX0_mix 107 = .ok (.ldc 177, 2) := by decide +kernel
theorem dX0_mix_109 : decode cX0_mix 109 = .ok (.ldc 234, 2) := by decide +kernel
theorem dX0_mix_111 : decode cX0_mix 111 = .ok (.aload_n 0, 1) := by decide +kernel
theorem dX0_mix_112 : decode cX0_mix 112 = .ok (.aload_n 1, 1) := by decide +kernel
theorem dX0_mix_113 : decode cX0_mix 113 = .ok (.iload 4, 2) := by decide +kernel
theorem dX0_mix_115 : decode cX0_mix 115 = .ok (.invokevirtual 235, 3) := by decide +kernel
theorem dX0_mix_118 : decode cX0_mix 118 = .ok (.invokevirtual 188, 3) := by decide +kernel
theorem dX0_mix_121 : decode cX0_mix 121 = .ok (.i2d, 1) := by decide +kernel
theorem dX0_mix_122 : decode cX0_mix 122 = .ok (.invokevirtual 184, 3) := by decide +kernel
theorem dX0_mix_125 : decode cX0_mix 125 = .ok (.iinc 4 1, 3) := by decide +kernel
theorem dX0_mix_128 : decode cX0_mix 128 = .ok (.goto (-44), 3) := by decide +kernel
theorem dX0_mix_131 : decode cX0_mix 131 = .ok (.aload_n 3, 1) := by decide +kernel
theorem dX0_mix_132 : decode cX0_mix 132 = .ok (.areturn, 1) := by decide +kernel
theorem dX0_sumAt_0 : decode cX0_sumAt 0 = .ok (.lconst 0, 1) := by decide +kernel
theorem dX0_sumAt_1 : decode cX0_sumAt 1 = .ok (.lstore_n 3, 1) := by decide +kernel
theorem dX0_sumAt_2 : decode cX0_sumAt 2 = .ok (.iconst 0, 1) := by decide +kernel
theorem dX0_sumAt_3 : decode cX0_sumAt 3 = .ok (.istore 5, 2) := by decide +kernel
theorem dX0_sumAt_5 : decode cX0_sumAt 5 = .ok (.iload 5, 2) := by decide +kernel
theorem dX0_sumAt_7 : decode cX0_sumAt 7 = .ok (.aload_n 1, 1) := by decide +kernel
theorem dX0_sumAt_8 : decode cX0_sumAt 8 = .ok (.invokevirtual 230, 3) := by decide +kernel
theorem dX0_sumAt_11 : decode cX0_sumAt 11 = .ok (.if_icmp .ge 43, 3) := by decide +kernel
theorem dX0_sumAt_14 : decode cX0_sumAt 14 = .ok (.aload_n 0, 1) := by decide +kernel
theorem dX0_sumAt_15 : decode cX0_sumAt 15 = .ok (.aload_n 1, 1) := by decide +kernel
theorem dX0_sumAt_16 : decode cX0_sumAt 16 = .ok (.iload 5, 2) := by decide +kernel
theorem dX0_sumAt_18 : decode cX0_sumAt 18 = .ok (.invokevirtual 87, 3) := by decide +kernel
theorem dX0_sumAt_21 : decode cX0_sumAt 21 = .ok (.astore 6, 2) := by decide +kernel
theorem dX0_sumAt_23 : decode cX0_sumAt 23 = .ok (.aload 6, 2) := by decide +kernel
theorem dX0_sumAt_25 : decode cX0_sumAt 25 = .ok (.ifnull 23, 3) := by decide +kernel
theorem dX0_sumAt_28 : decode cX0_sumAt 28 = .ok (.aload_n 0, 1) := by decide +kernel
theorem dX0_sumAt_29 : decode cX0_sumAt 29 = .ok (.aload 6, 2) := by decide +kernel
theorem dX0_sumAt_31 : decode cX0_sumAt 31 = .ok (.iload_n 2, 1) := by decide +kernel
theorem dX0_sumAt_32 : decode cX0_sumAt 32 = .ok (.invokevirtual 202, 3) := by decide +kernel
theorem dX0_sumAt_35 : decode cX0_sumAt 35 = .ok (.ifCond .ne 13, 3) := by decide +kernel
theorem dX0_sumAt_38 : decode cX0_sumAt 38 = .ok (.lload_n 3, 1) := by decide +kernel
theorem dX0_sumAt_39 : decode cX0_sumAt 39 = .ok (.aload 6, 2) := by decide +kernel
theorem dX0_sumAt_41 : decode cX0_sumAt 41 = .ok (.iload_n 2, 1) := by decide +kernel
theorem dX0_sumAt_42 : decode cX0_sumAt 42 = .ok (.invokevirtual 209, 3) := by decide +kernel
theorem dX0_sumAt_45 : decode cX0_sumAt 45 = .ok (.d2l, 1) := by decide +kernel
theorem dX0_sumAt_46 : decode cX0_sumAt 46 = .ok (.ladd, 1) := by decide +kernel
theorem dX0_sumAt_47 : decode cX0_sumAt 47 = .ok (.lstore_n 3, 1) := by decide +kernel
theorem dX0_sumAt_48 : decode cX0_sumAt 48 = .ok (.iinc 5 1, 3) := by decide +kernel
theorem dX0_sumAt_51 : decode cX0_sumAt 51 = .ok (.goto (-46), 3) := by decide +kernel
theorem dX0_sumAt_54 : decode cX0_sumAt 54 = .ok (.lload_n 3, 1) := by decide +kernel
theorem dX0_sumAt_55 : decode cX0_sumAt 55 = .ok (.lreturn, 1) := by decide +kernel
theorem dX0_openGate_0 : decode cX0_openGate 0 = .ok (.aload_n 0, 1) := by decide +kernel
theorem dX0_openGate_1 : decode cX0_openGate 1 = .ok (.aload_n 1, 1) := by decide +kernel
theorem dX0_openGate_2 : decode cX0_openGate 2 = .ok (.iconst 0, 1) := by decide +kernel
theorem dX0_openGate_3 : decode cX0_openGate 3 = .ok (.iconst 4, 1) := by decide +kernel
theorem dX0_openGate_4 : decode cX0_openGate 4 = .ok (.invokevirtual 198, 3) := by decide +kernel
theorem dX0_openGate_7 : decode cX0_openGate 7 = .ok (.astore_n 2, 1) := by decide +kernel
theorem dX0_openGate_8 : decode cX0_openGate 8 = .ok (.aload_n 2, 1) := by decide +kernel
theorem dX0_openGate_9 : decode cX0_openGate 9 = .ok (.ifnonnull 5, 3) := by decide +kernel
theorem dX0_openGate_12 : decode cX0_openGate 12 = .ok (.aconst_null, 1) := by decide +kernel
theorem dX0_openGate_13 : decode cX0_openGate 13 = .ok (.areturn, 1) := by decide +kernel
theorem dX0_openGate_14 : decode cX0_openGate 14 = .ok (.new 134, 3) := by decide +kernel
theorem dX0_openGate_17 : decode cX0_openGate 17 = .ok (.dup, 1) := by decide +kernel
theorem dX0_openGate_18 : decode cX0_openGate 18 = .ok (.iconst 0, 1) := by decide +kernel
theorem dX0_openGate_19 : decode cX0_openGate 19 = .ok (.aload_n 0, 1) := by decide +kernel
theorem dX0_openGate_20 : decode cX0_openGate 20 = .ok (.getfield 27, 3) := by decide +kernel
theorem dX0_openGate_23 : decode cX0_openGate 23 = .ok (.invokespecial 151, 3) := by decide +kernel
theorem dX0_openGate_26 : decode cX0_openGate 26 = .ok (.astore_n 3, 1) := by decide +kernel
theorem dX0_openGate_27 : decode cX0_openGate 27 = .ok (.iconst 0, 1) := by decide +kernel
theorem dX0_openGate_28 : decode cX0_openGate 28 = .ok (.istore 4, 2) := by decide +kernel
theorem dX0_openGate_30 : decode cX0_openGate 30 = .ok (.iload 4, 2) := by decide +kernel
theorem dX0_openGate_32 : decode cX0_openGate 32 = .ok (.aload_n 0, 1) := by decide +kernel
theorem dX0_openGate_33 : decode cX0_openGate 33 = .ok (.getfield 27, 3) := by decide +kernel
theorem dX0_openGate_36 : decode cX0_openGate 36 = .ok (.if_icmp .ge 62, 3) := by decide +kernel
theorem dX0_openGate_39 : decode cX0_openGate 39 = .ok (.aload_n 0, 1) := by decide +kernel
theorem dX0_openGate_40 : decode cX0_openGate 40 = .ok (.aload_n 2, 1) := by decide +kernel
theorem dX0_openGate_41 : decode cX0_openGate 41 = .ok (.iload 4, 2) := by decide +kernel
theorem dX0_openGate_43 : decode cX0_openGate 43 = .ok (.invokevirtual 202, 3) := by decide +kernel
theorem dX0_openGate_46 : decode cX0_openGate 46 = .ok (.ifCond .eq 5, 3) := by decide +kernel
theorem dX0_openGate_49 : decode cX0_openGate 49 = .ok (.aconst_null, 1) := by decide +kernel
theorem dX0_openGate_50 : decode cX0_openGate 50 = .ok (.areturn, 1) := by decide +kernel
theorem dX0_openGate_51 : decode cX0_openGate 51 = .ok (.aload_n 2, 1) := by decide +kernel
theorem dX0_openGate_52 : decode cX0_openGate 52 = .ok (.iload 4, 2) := by decide +kernel
theorem dX0_openGate_54 : decode cX0_openGate 54 = .ok (.invokevirtual 206, 3) := by decide +kernel
theorem dX0_openGate_57 : decode cX0_openGate 57 = .ok (.ifCond .ne 21, 3) := by decide +kernel
theorem dX0_openGate_60 : decode cX0_openGate 60 = .ok (.aload_n 1, 1) := by decide +kernel
theorem dX0_openGate_61 : decode cX0_openGate 61 = .ok (.getfield 58, 3) := by decide +kernel
theorem dX0_openGate_64 : decode cX0_openGate 64 = .ok (.aload_n 0, 1) := by decide +kernel
theorem dX0_openGate_65 : decode cX0_openGate 65 = .ok (.aload_n 1, 1) := by decide +kernel
theorem dX0_openGate_66 : decode cX0_openGate 66 = .ok (.aload_n 2, 1) := by decide +kernel
theorem dX0_openGate_67 : decode cX0_openGate 67 = .ok (.iload 4, 2) := by decide +kernel
theorem dX0_openGate_69 : decode cX0_openGate 69 = .ok (.invokevirtual 209, 3) := by decide +kernel
theorem dX0_openGate_72 : decode cX0_openGate 72 = .ok (.invokevirtual 239, 3) := by decide +kernel
theorem dX0_openGate_75 : decode cX0_openGate 75 = .ok (.putfield 243, 3) := by decide +kernel
theorem dX0_openGate_78 : decode cX0_openGate 78 = .ok (.aload_n 3, 1) := by decide +kernel
theorem dX0_openGate_79 : decode cX0_openGate 79 = .ok (.iload 4, 2) := by decide +kernel
theorem dX0_openGate_81 : decode cX0_openGate 81 = .ok (.aload_n 1, 1) := by decide +kernel
theorem dX0_openGate_82 : decode cX0_openGate 82 = .ok (.getfield 58, 3) := by decide +kernel
theorem dX0_openGate_85 : decode cX0_openGate 85 = .ok (.getfield 243, 3) := by decide +kernel
theorem dX0_openGate_88 : decode cX0_openGate 88 = .ok (.i2d, 1) := by decide +kernel
theorem dX0_openGate_89 : decode cX0_openGate 89 = .ok (.invokevirtual 184, 3) := by decide +kernel
theorem dX0_openGate_92 : decode cX0_openGate 92 = .ok (.iinc 4 1, 3) := by decide +kernel
theorem dX0_openGate_95 : decode cX0_openGate 95 = .ok (.goto (-65), 3) := by decide +kernel
theorem dX0_openGate_98 : decode cX0_openGate 98 = .ok (.aload_n 3, 1) := by decide +kernel
theorem dX0_openGate_99 : decode cX0_openGate 99 = .ok (.areturn, 1) := by decide +kernel
theorem dX0_upAfter_0 : decode cX0_upAfter 0 = .ok (.dload_n 2, 1) := by decide +kernel
theorem dX0_upAfter_1 : decode cX0_upAfter 1 = .ok (.aload_n 1, 1) := by decide +kernel
theorem dX0_upAfter_2 : decode cX0_upAfter 2 = .ok (.getfield 78, 3) := by decide +kernel
theorem dX0_upAfter_5 : decode cX0_upAfter 5 = .ok (.iconst 0, 1) := by decide +kernel
theorem dX0_upAfter_6 : decode cX0_upAfter 6 = .ok (.iaload, 1) := by decide +kernel
theorem dX0_upAfter_7 : decode cX0_upAfter 7 = .ok (.i2d, 1) := by decide +kernel
theorem dX0_upAfter_8 : decode cX0_upAfter 8 = .ok (.ldc2_w 225, 3) := by decide +kernel
theorem dX0_upAfter_11 : decode cX0_upAfter 11 = .ok (.ddiv, 1) := by decide +kernel
theorem dX0_upAfter_12 : decode cX0_upAfter 12 = .ok (.dcmp .l, 1) := by decide +kernel
theorem dX0_upAfter_13 : decode cX0_upAfter 13 = .ok (.ifCond .lt 5, 3) := by decide +kernel
theorem dX0_upAfter_16 : decode cX0_upAfter 16 = .ok (.iconst 1, 1) := by decide +kernel
theorem dX0_upAfter_17 : decode cX0_upAfter 17 = .ok (.ireturn, 1) := by decide +kernel
theorem dX0_upAfter_18 : decode cX0_upAfter 18 = .ok (.dload_n 2, 1) := by decide +kernel
theorem dX0_upAfter_19 : decode cX0_upAfter 19 = .ok (.aload_n 1, 1) := by decide +kernel
theorem dX0_upAfter_20 : decode cX0_upAfter 20 = .ok (.getfield 78, 3) := by decide +kernel
theorem dX0_upAfter_23 : decode cX0_upAfter 23 = .ok (.iconst 1, 1) := by decide +kernel
theorem dX0_upAfter_24 : decode cX0_upAfter 24 = .ok (.iaload, 1) := by decide +kernel
theorem dX0_upAfter_25 : decode cX0_upAfter 25 = .ok (.i2d, 1) := by decide +kernel
theorem dX0_upAfter_26 : decode cX0_upAfter 26 = .ok (.ldc2_w 225, 3) := by decide +kernel
theorem dX0_upAfter_29 : decode cX0_upAfter 29 = .ok (.ddiv, 1) := by decide +kernel
theorem dX0_upAfter_30 : decode cX0_upAfter 30 = .ok (.dcmp .g, 1) := by decide +kernel
theorem dX0_upAfter_31 : decode cX0_upAfter 31 = .ok (.ifCond .gt 7, 3) := by decide +kernel
theorem dX0_upAfter_34 : decode cX0_upAfter 34 = .ok (.iconst 0, 1) := by decide +kernel
theorem dX0_upAfter_35 : decode cX0_upAfter 35 = .ok (.goto 10, 3) := by decide +kernel
theorem dX0_upAfter_38 : decode cX0_upAfter 38 = .ok (.aload_n 1, 1) := by decide +kernel
theorem dX0_upAfter_39 : decode cX0_upAfter 39 = .ok (.getfield 58, 3) := by decide +kernel
theorem dX0_upAfter_42 : decode cX0_upAfter 42 = .ok (.getfield 243, 3) := by decide +kernel
theorem dX0_upAfter_45 : decode cX0_upAfter 45 = .ok (.ireturn, 1) := by decide +kernel
theorem dX0_turn_0 : decode cX0_turn 0 = .ok (.aload_n 0, 1) := by decide +kernel
theorem dX0_turn_1 : decode cX0_turn 1 = .ok (.aload_n 1, 1) := by decide +kernel
theorem dX0_turn_2 : decode cX0_turn 2 = .ok (.iconst 0, 1) := by decide +kernel
theorem dX0_turn_3 : decode cX0_turn 3 = .ok (.iconst (-1), 1) := by decide +kernel
theorem dX0_turn_4 : decode cX0_turn 4 = .ok (.invokevirtual 198, 3) := by decide +kernel
theorem dX0_turn_7 : decode cX0_turn 7 = .ok (.astore_n 2, 1) := by decide +kernel
theorem dX0_turn_8 : decode cX0_turn 8 = .ok (.aload_n 2, 1) := by decide +kernel
theorem dX0_turn_9 : decode cX0_turn 9 = .ok (.ifnonnull 5, 3) := by decide +kernel
theorem dX0_turn_12 : decode cX0_turn 12 = .ok (.aconst_null, 1) := by decide +kernel
theorem dX0_turn_13 : decode cX0_turn 13 = .ok (.areturn, 1) := by decide +kernel
theorem dX0_turn_14 : decode cX0_turn 14 = .ok (.new 134, 3) := by decide +kernel
theorem dX0_turn_17 : decode cX0_turn 17 = .ok (.dup, 1) := by decide +kernel
theorem dX0_turn_18 : decode cX0_turn 18 = .ok (.aload_n 1, 1) := by decide +kernel
theorem dX0_turn_19 : decode cX0_turn 19 = .ok (.getfield 148, 3) := by decide +kernel
theorem dX0_turn_22 : decode cX0_turn 22 = .ok (.aload_n 0, 1) := by decide +kernel
theorem dX0_turn_23 : decode cX0_turn 23 = .ok (.getfield 27, 3) := by decide +kernel
theorem dX0_turn_26 : decode cX0_turn 26 = .ok (.invokespecial 151, 3) := by decide +kernel
theorem dX0_turn_29 : decode cX0_turn 29 = .ok (.astore_n 3, 1) := by decide +kernel
theorem dX0_turn_30 : decode cX0_turn 30 = .ok (.iconst 0, 1) := by decide +kernel
theorem dX0_turn_31 : decode cX0_turn 31 = .ok (.istore 4, 2) := by decide +kernel
theorem dX0_turn_33 : decode cX0_turn 33 = .ok (.iload 4, 2) := by decide +kernel
theorem dX0_turn_35 : decode cX0_turn 35 = .ok (.aload_n 0, 1) := by decide +kernel
theorem dX0_turn_36 : decode cX0_turn 36 = .ok (.getfield 27, 3) := by decide +kernel
theorem dX0_turn_39 : decode cX0_turn 39 = .ok (.if_icmp .ge 55, 3) := by decide +kernel
theorem dX0_turn_42 : decode cX0_turn 42 = .ok (.aload_n 0, 1) := by decide +kernel
theorem dX0_turn_43 : decode cX0_turn 43 = .ok (.aload_n 2, 1) := by decide +kernel
theorem dX0_turn_44 : decode cX0_turn 44 = .ok (.iload 4, 2) := by decide +kernel
theorem dX0_turn_46 : decode cX0_turn 46 = .ok (.invokevirtual 202, 3) := by decide +kernel
theorem dX0_turn_49 : decode cX0_turn 49 = .ok (.ifCond .eq 5, 3) := by decide +kernel
theorem dX0_turn_52 : decode cX0_turn 52 = .ok (.aconst_null, 1) := by decide +kernel
theorem dX0_turn_53 : decode cX0_turn 53 = .ok (.areturn, 1) := by decide +kernel
theorem dX0_turn_54 : decode cX0_turn 54 = .ok (.aload_n 2, 1) := by decide +kernel
theorem dX0_turn_55 : decode cX0_turn 55 = .ok (.invokevirtual 173, 3) := by decide +kernel
theorem dX0_turn_58 : decode cX0_turn 58 = .ok (.ifCond .eq 15, 3) := by decide +kernel
theorem dX0_turn_61 : decode cX0_turn 61 = .ok (.aload_n 0, 1) := by decide +kernel
theorem dX0_turn_62 : decode cX0_turn 62 = .ok (.aload_n 1, 1) := by decide +kernel
theorem dX0_turn_63 : decode cX0_turn 63 = .ok (.aload_n 3, 1) := by decide +kernel
theorem dX0_turn_64 : decode cX0_turn 64 = .ok (.iload 4, 2) := by decide +kernel
theorem dX0_turn_66 : decode cX0_turn 66 = .ok (.aload_n 2, 1) := by decide +kernel
theorem dX0_turn_67 : decode cX0_turn 67 = .ok (.invokevirtual 246, 3) := by decide +kernel
theorem dX0_turn_70 : decode cX0_turn 70 = .ok (.goto 18, 3) := by decide +kernel
theorem dX0_turn_73 : decode cX0_turn 73 = .ok (.aload_n 0, 1) := by decide +kernel
theorem dX0_turn_74 : decode cX0_turn 74 = .ok (.aload_n 1, 1) := by decide +kernel
theorem dX0_turn_75 : decode cX0_turn 75 = .ok (.aload_n 3, 1) := by decide +kernel
theorem dX0_turn_76 : decode cX0_turn 76 = .ok (.iload 4, 2) := by decide +kernel
theorem dX0_turn_78 : decode cX0_turn 78 = .ok (.aload_n 2, 1) := by decide +kernel
theorem dX0_turn_79 : decode cX0_turn 79 = .ok (.iload 4, 2) := by decide +kernel
theorem dX0_turn_81 : decode cX0_turn 81 = .ok (.invokevirtual 209, 3) := by decide +kernel
theorem dX0_turn_84 : decode cX0_turn 84 = .ok (.d2i, 1) := by decide +kernel
theorem dX0_turn_85 : decode cX0_turn 85 = .ok (.invokevirtual 181, 3) := by decide +kernel
theorem dX0_turn_88 : decode cX0_turn 88 = .ok (.iinc 4 1, 3) := by decide +kernel
theorem dX0_turn_91 : decode cX0_turn 91 = .ok (.goto (-58), 3) := by decide +kernel
theorem dX0_turn_94 : decode cX0_turn 94 = .ok (.aload_n 3, 1) := by decide +kernel
theorem dX0_turn_95 : decode cX0_turn 95 = .ok (.areturn, 1) := by decide +kernel
theorem dX0_putFloating_0 : decode cX0_putFloating 0 = .ok (.aload 4, 2) := by decide +kernel
theorem dX0_putFloating_2 : decode cX0_putFloating 2 = .ok (.iload_n 3, 1) := by decide +kernel
theorem dX0_putFloating_3 : decode cX0_putFloating 3 = .ok (.invokevirtual 209, 3) := by decide +kernel
theorem dX0_putFloating_6 : decode cX0_putFloating 6 = .ok (.dstore 5, 2) := by decide +kernel
theorem dX0_putFloating_8 : decode cX0_putFloating 8 = .ok (.aload_n 2, 1) := by decide +kernel
theorem dX0_putFloating_9 : decode cX0_putFloating 9 = .ok (.invokevirtual 173, 3) := by decide +kernel
theorem dX0_putFloating_12 : decode cX0_putFloating 12 = .ok (.ifCond .eq 20, 3) := by decide +kernel
theorem dX0_putFloating_15 : decode cX0_putFloating 15 = .ok (.aload 4, 2) := by decide +kernel
theorem dX0_putFloating_17 : decode cX0_putFloating 17 = .ok (.iload_n 3, 1) := by decide +kernel
theorem dX0_putFloating_18 : decode cX0_putFloating 18 = .ok (.invokevirtual 206, 3) := by decide +kernel
theorem dX0_putFloating_21 : decode cX0_putFloating 21 = .ok (.ifCond .eq 11, 3) := by decide +kernel
theorem dX0_putFloating_24 : decode cX0_putFloating 24 = .ok (.aload_n 2, 1) := by decide +kernel
theorem dX0_putFloating_25 : decode cX0_putFloating 25 = .ok (.iload_n 3, 1) := by decide +kernel
theorem dX0_putFloating_26 : decode cX0_putFloating 26 = .ok (.invokevirtual 178, 3) := by decide +kernel
theorem dX0_putFloating_29 : decode cX0_putFloating 29 = .ok (.goto 61, 3) := by decide +kernel
theorem dX0_putFloating_32 : decode cX0_putFloating 32 = .ok (.aload_n 2, 1) := by decide +kernel
theorem dX0_putFloating_33 : decode cX0_putFloating 33 = .ok (.invokevirtual 173, 3) := by decide +kernel
theorem dX0_putFloating_36 : decode cX0_putFloating 36 = .ok (.ifCond .eq 13, 3) := by decide +kernel
theorem dX0_putFloating_39 : decode cX0_putFloating 39 = .ok (.aload_n 2, 1) := by decide +kernel
theorem dX0_putFloating_40 : decode cX0_putFloating 40 = .ok (.iload_n 3, 1) := by decide +kernel
theorem dX0_putFloating_41 : decode cX0_putFloating 41 = .ok (.dload 5, 2) := by decide +kernel
theorem dX0_putFloating_43 : decode cX0_putFloating 43 = .ok (.invokevirtual 184, 3) := by decide +kernel
theorem dX0_putFloating_46 : decode cX0_putFloating 46 = .ok (.goto 44, 3) := by decide +kernel
theorem dX0_putFloating_49 : decode cX0_putFloating 49 = .ok (.aload_n 2, 1) := by decide +kernel
theorem dX0_putFloating_50 : decode cX0_putFloating 50 = .ok (.getfield 133, 3) := by decide +kernel
theorem dX0_putFloating_53 : decode cX0_putFloating 53 = .ok (.ifCond .ne 23, 3) := by decide +kernel
theorem dX0_putFloating_56 : decode cX0_putFloating 56 = .ok (.aload_n 2, 1) := by decide +kernel
theorem dX0_putFloating_57 : decode cX0_putFloating 57 = .ok (.iload_n 3, 1) := by decide +kernel
theorem dX0_putFloating_58 : decode cX0_putFloating 58 = .ok (.dload 5, 2) := by decide +kernel
theorem dX0_putFloating_60 : decode cX0_putFloating 60 = .ok (.dconst 0, 1) := by decide +kernel
theorem dX0_putFloating_61 : decode cX0_putFloating 61 = .ok (.dcmp .l, 1) := by decide +kernel
theorem dX0_putFloating_62 : decode cX0_putFloating 62 = .ok (.ifCond .le 7, 3) := by decide +kernel
theorem dX0_putFloating_65 : decode cX0_putFloating 65 = .ok (.dconst 1, 1) := by decide +kernel
theorem dX0_putFloating_66 : decode cX0_putFloating 66 = .ok (.goto 4, 3) := by decide +kernel
theorem dX0_putFloating_69 : decode cX0_putFloating 69 = .ok (.dconst 0, 1) := by decide +kernel
theorem dX0_putFloating_70 : decode cX0_putFloating 70 = .ok (.invokevirtual 184, 3) := by decide +kernel
theorem dX0_putFloating_73 : decode cX0_putFloating 73 = .ok (.goto 17, 3) := by decide +kernel
theorem dX0_putFloating_76 : decode cX0_putFloating 76 = .ok (.aload_n 0, 1) := by decide +kernel
theorem dX0_putFloating_77 : decode cX0_putFloating 77 = .ok (.aload_n 1, 1) := by decide +kernel
theorem dX0_putFloating_78 : decode cX0_putFloating 78 = .ok (.aload_n 2, 1) := by decide +kernel
theorem dX0_putFloating_79 : decode cX0_putFloating 79 = .ok (.iload_n 3, 1) := by decide +kernel
theorem dX0_putFloating_80 : decode cX0_putFloating 80 = .ok (.dload 5, 2) := by decide +kernel
theorem dX0_putFloating_82 : decode cX0_putFloating 82 = .ok (.ldc2_w 192, 3) := by decide +kernel
theorem dX0_putFloating_85 : decode cX0_putFloating 85 = .ok (.dmul, 1) := by decide +kernel
theorem dX0_putFloating_86 : decode cX0_putFloating 86 = .ok (.d2i, 1) := by decide +kernel
theorem dX0_putFloating_87 : decode cX0_putFloating 87 = .ok (.invokevirtual 181, 3) := by decide +kernel
theorem dX0_putFloating_90 : decode cX0_putFloating 90 = .ok (.return_, 1) := by decide +kernel
theorem dX0_passOn_0 : decode cX0_passOn 0 = .ok (.aload_n 0, 1) := by decide +kernel
theorem dX0_passOn_1 : decode cX0_passOn 1 = .ok (.aload_n 1, 1) := by decide +kernel
theorem dX0_passOn_2 : decode cX0_passOn 2 = .ok (.iconst 0, 1) := by decide +kernel
theorem dX0_passOn_3 : decode cX0_passOn 3 = .ok (.iconst (-1), 1) := by decide +kernel
theorem dX0_passOn_4 : decode cX0_passOn 4 = .ok (.invokevirtual 198, 3) := by decide +kernel
theorem dX0_passOn_7 : decode cX0_passOn 7 = .ok (.astore_n 2, 1) := by decide +kernel
theorem dX0_passOn_8 : decode cX0_passOn 8 = .ok (.aload_n 2, 1) := by decide +kernel
theorem dX0_passOn_9 : decode cX0_passOn 9 = .ok (.ifnonnull 5, 3) := by decide +kernel
theorem dX0_passOn_12 : decode cX0_passOn 12 = .ok (.aconst_null, 1) := by decide +kernel
theorem dX0_passOn_13 : decode cX0_passOn 13 = .ok (.areturn, 1) := by decide +kernel
theorem dX0_passOn_14 : decode cX0_passOn 14 = .ok (.aload_n 0, 1) := by decide +kernel
theorem dX0_passOn_15 : decode cX0_passOn 15 = .ok (.aload_n 1, 1) := by decide +kernel
theorem dX0_passOn_16 : decode cX0_passOn 16 = .ok (.iconst 1, 1) := by decide +kernel
theorem dX0_passOn_17 : decode cX0_passOn 17 = .ok (.iconst 0, 1) := by decide +kernel
theorem dX0_passOn_18 : decode cX0_passOn 18 = .ok (.invokevirtual 198, 3) := by decide +kernel
theorem dX0_passOn_21 : decode cX0_passOn 21 = .ok (.astore_n 3, 1) := by decide +kernel
theorem dX0_passOn_22 : decode cX0_passOn 22 = .ok (.aload_n 3, 1) := by decide +kernel
theorem dX0_passOn_23 : decode cX0_passOn 23 = .ok (.ifnull 17, 3) := by decide +kernel
theorem dX0_passOn_26 : decode cX0_passOn 26 = .ok (.aload_n 0, 1) := by decide +kernel
theorem dX0_passOn_27 : decode cX0_passOn 27 = .ok (.aload_n 3, 1) := by decide +kernel
theorem dX0_passOn_28 : decode cX0_passOn 28 = .ok (.aload_n 0, 1) := by decide +kernel
theorem dX0_passOn_29 : decode cX0_passOn 29 = .ok (.getfield 27, 3) := by decide +kernel
theorem dX0_passOn_32 : decode cX0_passOn 32 = .ok (.iconst 1, 1) := by decide +kernel
theorem dX0_passOn_33 : decode cX0_passOn 33 = .ok (.isub, 1) := by decide +kernel
theorem dX0_passOn_34 : decode cX0_passOn 34 = .ok (.invokevirtual 202, 3) := by decide +kernel
theorem dX0_passOn_37 : decode cX0_passOn 37 = .ok (.ifCond .eq 5, 3) := by decide +kernel
theorem dX0_passOn_40 : decode cX0_passOn 40 = .ok (.aconst_null, 1) := by decide +kernel
theorem dX0_passOn_41 : decode cX0_passOn 41 = .ok (.areturn, 1) := by decide +kernel
theorem dX0_passOn_42 : decode cX0_passOn 42 = .ok (.aload_n 3, 1) := by decide +kernel
theorem dX0_passOn_43 : decode cX0_passOn 43 = .ok (.aload_n 0, 1) := by decide +kernel
theorem dX0_passOn_44 : decode cX0_passOn 44 = .ok (.getfield 27, 3) := by decide +kernel
theorem dX0_passOn_47 : decode cX0_passOn 47 = .ok (.iconst 1, 1) := by decide +kernel
theorem dX0_passOn_48 : decode cX0_passOn 48 = .ok (.isub, 1) := by decide +kernel
theorem dX0_passOn_49 : decode cX0_passOn 49 = .ok (.invokevirtual 209, 3) := by decide +kernel
theorem dX0_passOn_52 : decode cX0_passOn 52 = .ok (.dconst 1, 1) := by decide +kernel
theorem dX0_passOn_53 : decode cX0_passOn 53 = .ok (.dcmp .l, 1) := by decide +kernel
theorem dX0_passOn_54 : decode cX0_passOn 54 = .ok (.ifCond .ne 7, 3) := by decide +kernel
theorem dX0_passOn_57 : decode cX0_passOn 57 = .ok (.aload_n 2, 1) := by decide +kernel
theorem dX0_passOn_58 : decode cX0_passOn 58 = .ok (.goto 4, 3) := by decide +kernel
theorem dX0_passOn_61 : decode cX0_passOn 61 = .ok (.aconst_null, 1) := by decide +kernel
theorem dX0_passOn_62 : decode cX0_passOn 62 = .ok (.areturn, 1) := by decide +kernel
theorem dX0_average_0 : decode cX0_average 0 = .ok (.aload_n 0, 1) := by decide +kernel
theorem dX0_average_1 : decode cX0_average 1 = .ok (.aload_n 1, 1) := by decide +kernel
theorem dX0_average_2 : decode cX0_average 2 = .ok (.iconst 0, 1) := by decide +kernel
theorem dX0_average_3 : decode cX0_average 3 = .ok (.iconst 2, 1) := by decide +kernel
theorem dX0_average_4 : decode cX0_average 4 = .ok (.invokevirtual 198, 3) := by decide +kernel
theorem dX0_average_7 : decode cX0_average 7 = .ok (.astore_n 2, 1) := by decide +kernel
theorem dX0_average_8 : decode cX0_average 8 = .ok (.aload_n 2, 1) := by decide +kernel
theorem dX0_average_9 : decode cX0_average 9 = .ok (.ifnonnull 5, 3) := by decide +kernel
theorem dX0_average_12 : decode cX0_average 12 = .ok (.aconst_null, 1) := by decide +kernel
theorem dX0_average_13 : decode cX0_average 13 = .ok (.areturn, 1) := by decide +kernel
theorem dX0_average_14 : decode cX0_average 14 = .ok (.new 134, 3) := by decide +kernel
theorem dX0_average_17 : decode cX0_average 17 = .ok (.dup, 1) := by decide +kernel
theorem dX0_average_18 : decode cX0_average 18 = .ok (.iconst 2, 1) := by decide +kernel
theorem dX0_average_19 : decode cX0_average 19 = .ok (.aload_n 0, 1) := by decide +kernel
theorem dX0_average_20 : decode cX0_average 20 = .ok (.getfield 27, 3) := by decide +kernel
theorem dX0_average_23 : decode cX0_average 23 = .ok (.invokespecial 151, 3) := by decide +kernel
theorem dX0_average_26 : decode cX0_average 26 = .ok (.astore_n 3, 1) := by decide +kernel
theorem dX0_average_27 : decode cX0_average 27 = .ok (.lconst 0, 1) := by decide +kernel
theorem dX0_average_28 : decode cX0_average 28 = .ok (.lstore 4, 2) := by decide +kernel
theorem dX0_average_30 : decode cX0_average 30 = .ok (.iconst 0, 1) := by decide +kernel
theorem dX0_average_31 : decode cX0_average 31 = .ok (.istore 6, 2) := by decide +kernel
theorem dX0_average_33 : decode cX0_average 33 = .ok (.iload 6, 2) := by decide +kernel
theorem dX0_average_35 : decode cX0_average 35 = .ok (.aload_n 0, 1) := by decide +kernel
theorem dX0_average_36 : decode cX0_average 36 = .ok (.getfield 27, 3) := by decide +kernel
theorem dX0_average_39 : decode cX0_average 39 = .ok (.if_icmp .ge 81, 3) := by decide +kernel
theorem dX0_average_42 : decode cX0_average 42 = .ok (.aload_n 0, 1) := by decide +kernel
theorem dX0_average_43 : decode cX0_average 43 = .ok (.aload_n 2, 1) := by decide +kernel
theorem dX0_average_44 : decode cX0_average 44 = .ok (.iload 6, 2) := by decide +kernel
theorem dX0_average_46 : decode cX0_average 46 = .ok (.invokevirtual 202, 3) := by decide +kernel
theorem dX0_average_49 : decode cX0_average 49 = .ok (.ifCond .eq 5, 3) := by decide +kernel
theorem dX0_average_52 : decode cX0_average 52 = .ok (.aconst_null, 1) := by decide +kernel
theorem dX0_average_53 : decode cX0_average 53 = .ok (.areturn, 1) := by decide +kernel
theorem dX0_average_54 : decode cX0_average 54 = .ok (.lload 4, 2) := by decide +kernel
theorem dX0_average_56 : decode cX0_average 56 = .ok (.aload_n 2, 1) := by decide +kernel
theorem dX0_average_57 : decode cX0_average 57 = .ok (.iload 6, 2) := by decide +kernel
theorem dX0_average_59 : decode cX0_average 59 = .ok (.invokevirtual 209, 3) := by decide +kernel
theorem dX0_average_62 : decode cX0_average 62 = .ok (.d2l, 1) := by decide +kernel
theorem dX0_average_63 : decode cX0_average 63 = .ok (.ladd, 1) := by decide +kernel
theorem dX0_average_64 : decode cX0_average 64 = .ok (.lstore 4, 2) := by decide +kernel
theorem dX0_average_66 : decode cX0_average 66 = .ok (.iload 6, 2) := by decide +kernel
theorem dX0_average_68 : decode cX0_average 68 = .ok (.aload_n 1, 1) := by decide +kernel
theorem dX0_average_69 : decode cX0_average 69 = .ok (.getfield 78, 3) := by decide +kernel
theorem dX0_average_72 : decode cX0_average 72 = .ok (.iconst 0, 1) := by decide +kernel
theorem dX0_average_73 : decode cX0_average 73 = .ok (.iaload, 1) := by decide +kernel
theorem dX0_average_74 : decode cX0_average 74 = .ok (.iadd, 1) := by decide +kernel
theorem dX0_average_75 : decode cX0_average 75 = .ok (.istore 7, 2) := by decide +kernel
theorem dX0_average_77 : decode cX0_average 77 = .ok (.iload 7, 2) := by decide +kernel
theorem dX0_average_79 : decode cX0_average 79 = .ok (.ifCond .ne 11, 3) := by decide +kernel
theorem dX0_average_82 : decode cX0_average 82 = .ok (.aload_n 0, 1) := by decide +kernel
theorem dX0_average_83 : decode cX0_average 83 = .ok (.iconst 5, 1) := by decide +kernel
theorem dX0_average_84 : decode cX0_average 84 = .ok (.iload 6, 2) := by decide +kernel
theorem dX0_average_86 : decode cX0_average 86 = .ok (.invokevirtual 129, 3) := by decide +kernel
theorem dX0_average_89 : decode cX0_average 89 = .ok (.areturn, 1) := by decide +kernel
theorem dX0_average_90 : decode cX0_average 90 = .ok (.aload_n 3, 1) := by decide +kernel
theorem dX0_average_91 : decode cX0_average 91 = .ok (.iload 6, 2) := by decide +kernel
theorem dX0_average_93 : decode cX0_average 93 = .ok (.aload_n 1, 1) := by decide +kernel
theorem dX0_average_94 : decode cX0_average 94 = .ok (.getfield 58, 3) := by decide +kernel
theorem dX0_average_97 : decode cX0_average 97 = .ok (.ldc 177, 2) := by decide +kernel
theorem dX0_average_99 : decode cX0_average 99 = .ok (.ldc 234, 2) := by decide +kernel
theorem dX0_average_101 : decode cX0_average 101 = .ok (.lload 4, 2) := by decide +kernel
theorem dX0_average_103 : decode cX0_average 103 = .ok (.iload 7, 2) := by decide +kernel
theorem dX0_average_105 : decode cX0_average 105 = .ok (.i2l, 1) := by decide +kernel
theorem dX0_average_106 : decode cX0_average 106 = .ok (.ldiv, 1) := by decide +kernel
theorem dX0_average_107 : decode cX0_average 107 = .ok (.invokevirtual 188, 3) := by decide +kernel
theorem dX0_average_110 : decode cX0_average 110 = .ok (.i2d, 1) := by decide +kernel
theorem dX0_average_111 : decode cX0_average 111 = .ok (.invokevirtual 184, 3) := by decide +kernel
theorem dX0_average_114 : decode cX0_average 114 = .ok (.iinc 6 1, 3) := by decide +kernel
theorem dX0_average_117 : decode cX0_average 117 = .ok (.goto (-84), 3) := by decide +kernel
theorem dX0_average_120 : decode cX0_average 120 = .ok (.aload_n 3, 1) := by decide +kernel
theorem dX0_average_121 : decode cX0_average 121 = .ok (.areturn, 1) := by decide +kernel
theorem dX1_init_0 : decode cX1_init 0 = .ok (.aload_n 0, 1) := by decide +kernel
theorem dX1_init_1 : decode cX1_init 1 = .ok (.invokespecial 3, 3) := by decide +kernel
theorem dX1_init_4 : decode cX1_init 4 = .ok (.aload_n 0, 1) := by decide +kernel
theorem dX1_init_5 : decode cX1_init 5 = .ok (.aload_n 1, 1) := by decide +kernel
theorem dX1_init_6 : decode cX1_init 6 = .ok (.putfield 9, 3) := by decide +kernel
theorem dX1_init_9 : decode cX1_init 9 = .ok (.return_, 1) := by decide +kernel
theorem dX1_remember_0 : decode cX1_remember 0 = .ok (.iconst 0, 1) := by decide +kernel
theorem dX1_remember_1 : decode cX1_remember 1 = .ok (.istore_n 1, 1) := by decide +kernel
theorem dX1_remember_2 : decode cX1_remember 2 = .ok (.iload_n 1, 1) := by decide +kernel
theorem dX1_remember_3 : decode cX1_remember 3 = .ok (.aload_n 0, 1) := by decide +kernel
theorem dX1_remember_4 : decode cX1_remember 4 = .ok (.getfield 9, 3) := by decide +kernel
theorem dX1_remember_7 : decode cX1_remember 7 = .ok (.getfield 15, 3) := by decide +kernel
theorem dX1_remember_10 : decode cX1_remember 10 = .ok (.if_icmp .ge 30, 3) := by decide +kernel
theorem dX1_remember_13 : decode cX1_remember 13 = .ok (.aload_n 0, 1) := by decide +kernel
theorem dX1_remember_14 : decode cX1_remember 14 = .ok (.getfield 9, 3) := by decide +kernel
theorem dX1_remember_17 : decode cX1_remember 17 = .ok (.iload_n 1, 1) := by decide +kernel
theorem dX1_remember_18 : decode cX1_remember 18 = .ok (.invokevirtual 21, 3) := by decide +kernel
theorem dX1_remember_21 : decode cX1_remember 21 = .ok (.astore_n 2, 1) := by decide +kernel
theorem dX1_remember_22 : decode cX1_remember 22 = .ok (.aload_n 2, 1) := by decide +kernel
theorem dX1_remember_23 : decode cX1_remember 23 = .ok (.ifnull 11, 3) := by decide +kernel
theorem dX1_remember_26 : decode cX1_remember 26 = .ok (.aload_n 2, 1) := by decide +kernel
theorem dX1_remember_27 : decode cX1_remember 27 = .ok (.aload_n 0, 1) := by decide +kernel
theorem dX1_remember_28 : decode cX1_remember 28 = .ok (.getfield 25, 3) := by decide +kernel
theorem dX1_remember_31 : decode cX1_remember 31 = .ok (.invokevirtual 28, 3) := by decide +kernel
theorem dX1_remember_34 : decode cX1_remember 34 = .ok (.iinc 1 1, 3) := by decide +kernel
theorem dX1_remember_37 : decode cX1_remember 37 = .ok (.goto (-35), 3) := by decide +kernel
theorem dX1_remember_40 : decode cX1_remember 40 = .ok (.return_, 1) := by decide +kernel
theorem dX1_advance_0 : decode cX1_advance 0 = .ok (.aload_n 0, 1) := by decide +kernel
theorem dX1_advance_1 : decode cX1_advance 1 = .ok (.aload_n 0, 1) := by decide +kernel
theorem dX1_advance_2 : decode cX1_advance 2 = .ok (.getfield 25, 3) := by decide +kernel
theorem dX1_advance_5 : decode cX1_advance 5 = .ok (.iconst 1, 1) := by decide +kernel
theorem dX1_advance_6 : decode cX1_advance 6 = .ok (.iadd, 1) := by decide +kernel
theorem dX1_advance_7 : decode cX1_advance 7 = .ok (.bipush 9, 2) := by decide +kernel
theorem dX1_advance_9 : decode cX1_advance 9 = .ok (.irem, 1) := by decide +kernel
theorem dX1_advance_10 : decode cX1_advance 10 = .ok (.putfield 25, 3) := by decide +kernel
theorem dX1_advance_13 : decode cX1_advance 13 = .ok (.aload_n 0, 1) := by decide +kernel
theorem dX1_advance_14 : decode cX1_advance 14 = .ok (.bipush 8, 2) := by decide +kernel
theorem dX1_advance_16 : decode cX1_advance 16 = .ok (.aload_n 0, 1) := by decide +kernel
theorem dX1_advance_17 : decode cX1_advance 17 = .ok (.getfield 34, 3) := by decide +kernel
theorem dX1_advance_20 : decode cX1_advance 20 = .ok (.iconst 1, 1) := by decide +kernel
theorem dX1_advance_21 : decode cX1_advance 21 = .ok (.iadd, 1) := by decide +kernel
theorem dX1_advance_22 : decode cX1_advance 22 = .ok (.invokestatic 37, 3) := by decide +kernel
theorem dX1_advance_25 : decode cX1_advance 25 = .ok (.putfield 34, 3) := by decide +kernel
theorem dX1_advance_28 : decode cX1_advance 28 = .ok (.aload_n 0, 1) := by decide +kernel
theorem dX1_advance_29 : decode cX1_advance 29 = .ok (.dup, 1) := by decide +kernel
theorem dX1_advance_30 : decode cX1_advance 30 = .ok (.getfield 43, 3) := by decide +kernel
theorem dX1_advance_33 : decode cX1_advance 33 = .ok (.iconst 1, 1) := by decide +kernel
theorem dX1_advance_34 : decode cX1_advance 34 = .ok (.iadd, 1) := by decide +kernel
theorem dX1_advance_35 : decode cX1_advance 35 = .ok (.putfield 43, 3) := by decide +kernel
theorem dX1_advance_38 : decode cX1_advance 38 = .ok (.return_, 1) := by decide +kernel
theorem dX1_undo_0 : decode cX1_undo 0 = .ok (.iconst 0, 1) := by decide +kernel
theorem dX1_undo_1 : decode cX1_undo 1 = .ok (.istore_n 1, 1) := by decide +kernel
theorem dX1_undo_2 : decode cX1_undo 2 = .ok (.iload_n 1, 1) := by decide +kernel
theorem dX1_undo_3 : decode cX1_undo 3 = .ok (.aload_n 0, 1) := by decide +kernel
theorem dX1_undo_4 : decode cX1_undo 4 = .ok (.getfield 9, 3) := by decide +kernel
theorem dX1_undo_7 : decode cX1_undo 7 = .ok (.getfield 15, 3) := by decide +kernel
theorem dX1_undo_10 : decode cX1_undo 10 = .ok (.if_icmp .ge 30, 3) := by decide +kernel
theorem dX1_undo_13 : decode cX1_undo 13 = .ok (.aload_n 0, 1) := by decide +kernel
theorem dX1_undo_14 : decode cX1_undo 14 = .ok (.getfield 9, 3) := by decide +kernel
theorem dX1_undo_17 : decode cX1_undo 17 = .ok (.iload_n 1, 1) := by decide +kernel
theorem dX1_undo_18 : decode cX1_undo 18 = .ok (.invokevirtual 21, 3) := by decide +kernel
theorem dX1_undo_21 : decode cX1_undo 21 = .ok (.astore_n 2, 1) := by decide +kernel
theorem dX1_undo_22 : decode cX1_undo 22 = .ok (.aload_n 2, 1) := by decide +kernel
theorem dX1_undo_23 : decode cX1_undo 23 = .ok (.ifnull 11, 3) := by decide +kernel
theorem dX1_undo_26 : decode cX1_undo 26 = .ok (.aload_n 2, 1) := by decide +kernel
theorem dX1_undo_27 : decode cX1_undo 27 = .ok (.aload_n 0, 1) := by decide +kernel
theorem dX1_undo_28 : decode cX1_undo 28 = .ok (.getfield 25, 3) := by decide +kernel
theorem dX1_undo_31 : decode cX1_undo 31 = .ok (.invokevirtual 46, 3) := by decide +kernel
theorem dX1_undo_34 : decode cX1_undo 34 = .ok (.iinc 1 1, 3) := by decide +kernel
theorem dX1_undo_37 : decode cX1_undo 37 = .ok (.goto (-35), 3) := by decide +kernel
theorem dX1_undo_40 : decode cX1_undo 40 = .ok (.return_, 1) := by decide +kernel
theorem dX1_goBack_0 : decode cX1_goBack 0 = .ok (.aload_n 0, 1) := by decide +kernel
theorem dX1_goBack_1 : decode cX1_goBack 1 = .ok (.aload_n 0, 1) := by decide +kernel
theorem dX1_goBack_2 : decode cX1_goBack 2 = .ok (.getfield 25, 3) := by decide +kernel
theorem dX1_goBack_5 : decode cX1_goBack 5 = .ok (.iload_n 1, 1) := by decide +kernel
theorem dX1_goBack_6 : decode cX1_goBack 6 = .ok (.isub, 1) := by decide +kernel
theorem dX1_goBack_7 : decode cX1_goBack 7 = .ok (.bipush 9, 2) := by decide +kernel
theorem dX1_goBack_9 : decode cX1_goBack 9 = .ok (.invokestatic 49, 3) := by decide +kernel
theorem dX1_goBack_12 : decode cX1_goBack 12 = .ok (.putfield 25, 3) := by decide +kernel
theorem dX1_goBack_15 : decode cX1_goBack 15 = .ok (.aload_n 0, 1) := by decide +kernel
theorem dX1_goBack_16 : decode cX1_goBack 16 = .ok (.dup, 1) := by decide +kernel
theorem dX1_goBack_17 : decode cX1_goBack 17 = .ok (.getfield 34, 3) := by decide +kernel
theorem dX1_goBack_20 : decode cX1_goBack 20 = .ok (.iload_n 1, 1) := by decide +kernel
theorem dX1_goBack_21 : decode cX1_goBack 21 = .ok (.isub, 1) := by decide +kernel
theorem dX1_goBack_22 : decode cX1_goBack 22 = .ok (.putfield 34, 3) := by decide +kernel
theorem dX1_goBack_25 : decode cX1_goBack 25 = .ok (.aload_n 0, 1) := by decide +kernel
theorem dX1_goBack_26 : decode cX1_goBack 26 = .ok (.dup, 1) := by decide +kernel
theorem dX1_goBack_27 : decode cX1_goBack 27 = .ok (.getfield 43, 3) := by decide +kernel
theorem dX1_goBack_30 : decode cX1_goBack 30 = .ok (.iload_n 1, 1) := by decide +kernel
theorem dX1_goBack_31 : decode cX1_goBack 31 = .ok (.isub, 1) := by decide +kernel
theorem dX1_goBack_32 : decode cX1_goBack 32 = .ok (.putfield 43, 3) := by decide +kernel
theorem dX1_goBack_35 : decode cX1_goBack 35 = .ok (.aload_n 0, 1) := by decide +kernel
theorem dX1_goBack_36 : decode cX1_goBack 36 = .ok (.invokevirtual 52, 3) := by decide +kernel
theorem dX1_goBack_39 : decode cX1_goBack 39 = .ok (.return_, 1) := by decide +kernel
theorem dX2_init_0 : decode cX2_init 0 = .ok (.aload_n 0, 1) := by decide +kernel
theorem dX2_init_1 : decode cX2_init 1 = .ok (.invokespecial 3, 3) := by decide +kernel
theorem dX2_init_4 : decode cX2_init 4 = .ok (.aload_n 0, 1) := by decide +kernel
theorem dX2_init_5 : decode cX2_init 5 = .ok (.bipush 8, 2) := by decide +kernel
theorem dX2_init_7 : decode cX2_init 7 = .ok (.bipush 72, 2) := by decide +kernel
theorem dX2_init_9 : decode cX2_init 9 = .ok (.multianewarray 9 2, 4) := by decide +kernel
theorem dX2_init_13 : decode cX2_init 13 = .ok (.putfield 11, 3) := by decide +kernel
theorem dX2_init_16 : decode cX2_init 16 = .ok (.aload_n 0, 1) := by decide +kernel
theorem dX2_init_17 : decode cX2_init 17 = .ok (.bipush 8, 2) := by decide +kernel
theorem dX2_init_19 : decode cX2_init 19 = .ok (.newarray .int, 2) := by decide +kernel
theorem dX2_init_21 : decode cX2_init 21 = .ok (.putfield 16, 3) := by decide +kernel
theorem dX2_init_24 : decode cX2_init 24 = .ok (.iconst 0, 1) := by decide +kernel
theorem dX2_init_25 : decode cX2_init 25 = .ok (.istore_n 1, 1) := by decide +kernel
theorem dX2_init_26 : decode cX2_init 26 = .ok (.iload_n 1, 1) := by decide +kernel
theorem dX2_init_27 : decode cX2_init 27 = .ok (.bipush 8, 2) := by decide +kernel
theorem dX2_init_29 : decode cX2_init 29 = .ok (.if_icmp .ge 16, 3) := by decide +kernel
theorem dX2_init_32 : decode cX2_init 32 = .ok (.aload_n 0, 1) := by decide +kernel
theorem dX2_init_33 : decode cX2_init 33 = .ok (.getfield 16, 3) := by decide +kernel
theorem dX2_init_36 : decode cX2_init 36 = .ok (.iload_n 1, 1) := by decide +kernel
theorem dX2_init_37 : decode cX2_init 37 = .ok (.iconst (-1), 1) := by decide +kernel
theorem dX2_init_38 : decode cX2_init 38 = .ok (.iastore, 1) := by decide +kernel
theorem dX2_init_39 : decode cX2_init 39 = .ok (.iinc 1 1, 3) := by decide +kernel
theorem dX2_init_42 : decode cX2_init 42 = .ok (.goto (-16), 3) := by decide +kernel
theorem dX2_init_45 : decode cX2_init 45 = .ok (.return_, 1) := by decide +kernel
theorem dX2_has_0 : decode cX2_has 0 = .ok (.iload_n 1, 1) := by decide +kernel
theorem dX2_has_1 : decode cX2_has 1 = .ok (.ifCond .lt 13, 3) := by decide +kernel
theorem dX2_has_4 : decode cX2_has 4 = .ok (.iload_n 1, 1) := by decide +kernel
theorem dX2_has_5 : decode cX2_has 5 = .ok (.bipush 8, 2) := by decide +kernel
theorem dX2_has_7 : decode cX2_has 7 = .ok (.if_icmp .ge 7, 3) := by decide +kernel
theorem dX2_has_10 : decode cX2_has 10 = .ok (.iconst 1, 1) := by decide +kernel
theorem dX2_has_11 : decode cX2_has 11 = .ok (.goto 4, 3) := by decide +kernel
theorem dX2_has_14 : decode cX2_has 14 = .ok (.iconst 0, 1) := by decide +kernel
theorem dX2_has_15 : decode cX2_has 15 = .ok (.ireturn, 1) := by decide +kernel
theorem dX2_isUnused_0 : decode cX2_isUnused 0 = .ok (.aload_n 0, 1) := by decide +kernel
theorem dX2_isUnused_1 : decode cX2_isUnused 1 = .ok (.iload_n 1, 1) := by decide +kernel
theorem dX2_isUnused_2 : decode cX2_isUnused 2 = .ok (.invokevirtual 20, 3) := by decide +kernel
theorem dX2_isUnused_5 : decode cX2_isUnused 5 = .ok (.ifCond .eq 13, 3) := by decide +kernel
theorem dX2_isUnused_8 : decode cX2_isUnused 8 = .ok (.aload_n 0, 1) := by decide +kernel
theorem dX2_isUnused_9 : decode cX2_isUnused 9 = .ok (.getfield 16, 3) := by decide +kernel
theorem dX2_isUnused_12 : decode cX2_isUnused 12 = .ok (.iload_n 1, 1) := by decide +kernel
theorem dX2_isUnused_13 : decode cX2_isUnused 13 = .ok (.iaload, 1) := by decide +kernel
theorem dX2_isUnused_14 : decode cX2_isUnused 14 = .ok (.iconst (-1), 1) := by decide +kernel
theorem dX2_isUnused_15 : decode cX2_isUnused 15 = .ok (.if_icmp .ne 7, 3) := by decide +kernel
theorem dX2_isUnused_18 : decode cX2_isUnused 18 = .ok (.iconst 1, 1) := by decide +kernel
theorem dX2_isUnused_19 : decode cX2_isUnused 19 = .ok (.goto 4, 3) := by decide +kernel
theorem dX2_isUnused_22 : decode cX2_isUnused 22 = .ok (.iconst 0, 1) := by decide +kernel
theorem dX2_isUnused_23 : decode cX2_isUnused 23 = .ok (.ireturn, 1) := by decide +kernel
theorem dX2_store_0 : decode cX2_store 0 = .ok (.aload_n 0, 1) := by decide +kernel
theorem dX2_store_1 : decode cX2_store 1 = .ok (.iload_n 1, 1) := by decide +kernel
theorem dX2_store_2 : decode cX2_store 2 = .ok (.invokevirtual 20, 3) := by decide +kernel
theorem dX2_store_5 : decode cX2_store 5 = .ok (.ifCond .ne 5, 3) := by decide +kernel
theorem dX2_store_8 : decode cX2_store 8 = .ok (.iconst (-1), 1) := by decide +kernel
theorem dX2_store_9 : decode cX2_store 9 = .ok (.ireturn, 1) := by decide +kernel
theorem dX2_store_10 : decode cX2_store 10 = .ok (.iconst 0, 1) := by decide +kernel
theorem dX2_store_11 : decode cX2_store 11 = .ok (.istore_n 3, 1) := by decide +kernel
theorem dX2_store_12 : decode cX2_store 12 = .ok (.iload_n 3, 1) := by decide +kernel
theorem dX2_store_13 : decode cX2_store 13 = .ok (.aload_n 2, 1) := by decide +kernel
theorem dX2_store_14 : decode cX2_store 14 = .ok (.getfield 24, 3) := by decide +kernel
theorem dX2_store_17 : decode cX2_store 17 = .ok (.if_icmp .ge 40, 3) := by decide +kernel
theorem dX2_store_20 : decode cX2_store 20 = .ok (.aload_n 2, 1) := by decide +kernel
theorem dX2_store_21 : decode cX2_store 21 = .ok (.iload_n 3, 1) := by decide +kernel
theorem dX2_store_22 : decode cX2_store 22 = .ok (.invokevirtual 30, 3) := by decide +kernel
theorem dX2_store_25 : decode cX2_store 25 = .ok (.astore 4, 2) := by decide +kernel
theorem dX2_store_27 : decode cX2_store 27 = .ok (.aload 4, 2) := by decide +kernel
theorem dX2_store_29 : decode cX2_store 29 = .ok (.ifnull 22, 3) := by decide +kernel
theorem dX2_store_32 : decode cX2_store 32 = .ok (.aload 4, 2) := by decide +kernel
theorem dX2_store_34 : decode cX2_store 34 = .ok (.getfield 34, 3) := by decide +kernel
theorem dX2_store_37 : decode cX2_store 37 = .ok (.iconst 0, 1) := by decide +kernel
theorem dX2_store_38 : decode cX2_store 38 = .ok (.aload_n 0, 1) := by decide +kernel
theorem dX2_store_39 : decode cX2_store 39 = .ok (.getfield 11, 3) := by decide +kernel
theorem dX2_store_42 : decode cX2_store 42 = .ok (.iload_n 1, 1) := by decide +kernel
theorem dX2_store_43 : decode cX2_store 43 = .ok (.aaload, 1) := by decide +kernel
theorem dX2_store_44 : decode cX2_store 44 = .ok (.iload_n 3, 1) := by decide +kernel
theorem dX2_store_45 : decode cX2_store 45 = .ok (.iconst 3, 1) := by decide +kernel
theorem dX2_store_46 : decode cX2_store 46 = .ok (.imul, 1) := by decide +kernel
theorem dX2_store_47 : decode cX2_store 47 = .ok (.iconst 3, 1) := by decide +kernel
theorem dX2_store_48 : decode cX2_store 48 = .ok (.invokestatic 38, 3) := by decide +kernel
theorem dX2_store_51 : decode cX2_store 51 = .ok (.iinc 3 1, 3) := by decide +kernel
theorem dX2_store_54 : decode cX2_store 54 = .ok (.goto (-42), 3) := by decide +kernel
theorem dX2_store_57 : decode cX2_store 57 = .ok (.aload_n 0, 1) := by decide +kernel
theorem dX2_store_58 : decode cX2_store 58 = .ok (.getfield 16, 3) := by decide +kernel
theorem dX2_store_61 : decode cX2_store 61 = .ok (.iload_n 1, 1) := by decide +kernel
theorem dX2_store_62 : decode cX2_store 62 = .ok (.aload_n 2, 1) := by decide +kernel
theorem dX2_store_63 : decode cX2_store 63 = .ok (.getfield 24, 3) := by decide +kernel
theorem dX2_store_66 : decode cX2_store 66 = .ok (.iastore, 1) := by decide +kernel
theorem dX2_store_67 : decode cX2_store 67 = .ok (.aload_n 2, 1) := by decide +kernel
theorem dX2_store_68 : decode cX2_store 68 = .ok (.getfield 24, 3) := by decide +kernel
theorem dX2_store_71 : decode cX2_store 71 = .ok (.ireturn, 1) := by decide +kernel
theorem dX2_restore_0 : decode cX2_restore 0 = .ok (.aload_n 0, 1) := by decide +kernel
theorem dX2_restore_1 : decode cX2_restore 1 = .ok (.iload_n 1, 1) := by decide +kernel
theorem dX2_restore_2 : decode cX2_restore 2 = .ok (.invokevirtual 44, 3) := by decide +kernel
theorem dX2_restore_5 : decode cX2_restore 5 = .ok (.ifCond .eq 6, 3) := by decide +kernel
theorem dX2_restore_8 : decode cX2_restore 8 = .ok (.bipush (-2), 2) := by decide +kernel
theorem dX2_restore_10 : decode cX2_restore 10 = .ok (.ireturn, 1) := by decide +kernel
theorem dX2_restore_11 : decode cX2_restore 11 = .ok (.iconst 0, 1) := by decide +kernel
theorem dX2_restore_12 : decode cX2_restore 12 = .ok (.istore_n 3, 1) := by decide +kernel
theorem dX2_restore_13 : decode cX2_restore 13 = .ok (.iload_n 3, 1) := by decide +kernel
theorem dX2_restore_14 : decode cX2_restore 14 = .ok (.aload_n 0, 1) := by decide +kernel
theorem dX2_restore_15 : decode cX2_restore 15 = .ok (.getfield 16, 3) := by decide +kernel
theorem dX2_restore_18 : decode cX2_restore 18 = .ok (.iload_n 1, 1) := by decide +kernel
theorem dX2_restore_19 : decode cX2_restore 19 = .ok (.iaload, 1) := by decide +kernel
theorem dX2_restore_20 : decode cX2_restore 20 = .ok (.if_icmp .ge 40, 3) := by decide +kernel
theorem dX2_restore_23 : decode cX2_restore 23 = .ok (.aload_n 2, 1) := by decide +kernel
theorem dX2_restore_24 : decode cX2_restore 24 = .ok (.iload_n 3, 1) := by decide +kernel
theorem dX2_restore_25 : decode cX2_restore 25 = .ok (.invokevirtual 30, 3) := by decide +kernel
theorem dX2_restore_28 : decode cX2_restore 28 = .ok (.astore 4, 2) := by decide +kernel
theorem dX2_restore_30 : decode cX2_restore 30 = .ok (.aload 4, 2) := by decide +kernel
theorem dX2_restore_32 : decode cX2_restore 32 = .ok (.ifnull 22, 3) := by decide +kernel
theorem dX2_restore_35 : decode cX2_restore 35 = .ok (.aload_n 0, 1) := by decide +kernel
theorem dX2_restore_36 : decode cX2_restore 36 = .ok (.getfield 11, 3) := by decide +kernel
theorem dX2_restore_39 : decode cX2_restore 39 = .ok (.iload_n 1, 1) := by decide +kernel
theorem dX2_restore_40 : decode cX2_restore 40 = .ok (.aaload, 1) := by decide +kernel
theorem dX2_restore_41 : decode cX2_restore 41 = .ok (.iload_n 3, 1) := by decide +kernel
theorem dX2_restore_42 : decode cX2_restore 42 = .ok (.iconst 3, 1) := by decide +kernel
theorem dX2_restore_43 : decode cX2_restore 43 = .ok (.imul, 1) := by decide +kernel
theorem dX2_restore_44 : decode cX2_restore 44 = .ok (.aload 4, 2) := by decide +kernel
theorem dX2_restore_46 : decode cX2_restore 46 = .ok (.getfield 34, 3) := by decide +kernel
theorem dX2_restore_49 : decode cX2_restore 49 = .ok (.iconst 0, 1) := by decide +kernel
theorem dX2_restore_50 : decode cX2_restore 50 = .ok (.iconst 3, 1) := by decide +kernel
theorem dX2_restore_51 : decode cX2_restore 51 = .ok (.invokestatic 38, 3) := by decide +kernel
theorem dX2_restore_54 : decode cX2_restore 54 = .ok (.iinc 3 1, 3) := by decide +kernel
theorem dX2_restore_57 : decode cX2_restore 57 = .ok (.goto (-44), 3) := by decide +kernel
theorem dX2_restore_60 : decode cX2_restore 60 = .ok (.aload_n 0, 1) := by decide +kernel
theorem dX2_restore_61 : decode cX2_restore 61 = .ok (.getfield 16, 3) := by decide +kernel
theorem dX2_restore_64 : decode cX2_restore 64 = .ok (.iload_n 1, 1) := by decide +kernel
theorem dX2_restore_65 : decode cX2_restore 65 = .ok (.iaload, 1) := by decide +kernel
theorem dX2_restore_66 : decode cX2_restore 66 = .ok (.ireturn, 1) := by decide +kernel
theorem dX3_init_0 : decode cX3_init 0 = .ok (.aload_n 0, 1) := by decide +kernel
theorem dX3_init_1 : decode cX3_init 1 = .ok (.invokespecial 3, 3) := by decide +kernel
theorem dX3_init_4 : decode cX3_init 4 = .ok (.aload_n 0, 1) := by decide +kernel
theorem dX3_init_5 : decode cX3_init 5 = .ok (.bipush 24, 2) := by decide +kernel
theorem dX3_init_7 : decode cX3_init 7 = .ok (.anewarray 9, 3) := by decide +kernel
theorem dX3_init_10 : decode cX3_init 10 = .ok (.putfield 11, 3) := by decide +kernel
theorem dX3_init_13 : decode cX3_init 13 = .ok (.aload_n 0, 1) := by decide +kernel
theorem dX3_init_14 : decode cX3_init 14 = .ok (.bipush 24, 2) := by decide +kernel
theorem dX3_init_16 : decode cX3_init 16 = .ok (.newarray .int, 2) := by decide +kernel
theorem dX3_init_18 : decode cX3_init 18 = .ok (.putfield 17, 3) := by decide +kernel
theorem dX3_init_21 : decode cX3_init 21 = .ok (.aload_n 0, 1) := by decide +kernel
theorem dX3_init_22 : decode cX3_init 22 = .ok (.bipush 24, 2) := by decide +kernel
theorem dX3_init_24 : decode cX3_init 24 = .ok (.newarray .boolean, 2) := by decide +kernel
theorem dX3_init_26 : decode cX3_init 26 = .ok (.putfield 21, 3) := by decide +kernel
theorem dX3_init_29 : decode cX3_init 29 = .ok (.aload_n 0, 1) := by decide +kernel
theorem dX3_init_30 : decode cX3_init 30 = .ok (.bipush 24, 2) := by decide +kernel
theorem dX3_init_32 : decode cX3_init 32 = .ok (.newarray .int, 2) := by decide +kernel
theorem dX3_init_34 : decode cX3_init 34 = .ok (.putfield 25, 3) := by decide +kernel
theorem dX3_init_37 : decode cX3_init 37 = .ok (.return_, 1) := by decide +kernel
theorem dX3_isFull_0 : decode cX3_isFull 0 = .ok (.aload_n 0, 1) := by decide +kernel
theorem dX3_isFull_1 : decode cX3_isFull 1 = .ok (.getfield 28, 3) := by decide +kernel
theorem dX3_isFull_4 : decode cX3_isFull 4 = .ok (.bipush 24, 2) := by decide +kernel
theorem dX3_isFull_6 : decode cX3_isFull 6 = .ok (.if_icmp .lt 7, 3) := by decide +kernel
theorem dX3_isFull_9 : decode cX3_isFull 9 = .ok (.iconst 1, 1) := by decide +kernel
theorem dX3_isFull_10 : decode cX3_isFull 10 = .ok (.goto 4, 3) := by decide +kernel
theorem dX3_isFull_13 : decode cX3_isFull 13 = .ok (.iconst 0, 1) := by decide +kernel
theorem dX3_isFull_14 : decode cX3_isFull 14 = .ok (.ireturn, 1) := by decide +kernel
theorem dX3_at_0 : decode cX3_at 0 = .ok (.iload_n 1, 1) := by decide +kernel
theorem dX3_at_1 : decode cX3_at 1 = .ok (.ifCond .lt 20, 3) := by decide +kernel
theorem dX3_at_4 : decode cX3_at 4 = .ok (.iload_n 1, 1) := by decide +kernel
theorem dX3_at_5 : decode cX3_at 5 = .ok (.aload_n 0, 1) := by decide +kernel
theorem dX3_at_6 : decode cX3_at 6 = .ok (.getfield 28, 3) := by decide +kernel
theorem dX3_at_9 : decode cX3_at 9 = .ok (.if_icmp .ge 12, 3) := by decide +kernel
theorem dX3_at_12 : decode cX3_at 12 = .ok (.aload_n 0, 1) := by decide +kernel
theorem dX3_at_13 : decode cX3_at 13 = .ok (.getfield 11, 3) := by decide +kernel
theorem dX3_at_16 : decode cX3_at 16 = .ok (.iload_n 1, 1) := by decide +kernel
theorem dX3_at_17 : decode cX3_at 17 = .ok (.aaload, 1) := by decide +kernel
theorem dX3_at_18 : decode cX3_at 18 = .ok (.goto 4, 3) := by decide +kernel
theorem dX3_at_21 : decode cX3_at 21 = .ok (.aconst_null, 1) := by decide +kernel
theorem dX3_at_22 : decode cX3_at 22 = .ok (.areturn, 1) := by decide +kernel
theorem dX3_givenBy_0 : decode cX3_givenBy 0 = .ok (.iload_n 1, 1) := by decide +kernel
theorem dX3_givenBy_1 : decode cX3_givenBy 1 = .ok (.ifCond .lt 26, 3) := by decide +kernel
theorem dX3_givenBy_4 : decode cX3_givenBy 4 = .ok (.iload_n 1, 1) := by decide +kernel
theorem dX3_givenBy_5 : decode cX3_givenBy 5 = .ok (.aload_n 0, 1) := by decide +kernel
theorem dX3_givenBy_6 : decode cX3_givenBy 6 = .ok (.getfield 28, 3) := by decide +kernel
theorem dX3_givenBy_9 : decode cX3_givenBy 9 = .ok (.if_icmp .ge 18, 3) := by decide +kernel
theorem dX3_givenBy_12 : decode cX3_givenBy 12 = .ok (.aload_n 0, 1) := by decide +kernel
theorem dX3_givenBy_13 : decode cX3_givenBy 13 = .ok (.getfield 11, 3) := by decide +kernel
theorem dX3_givenBy_16 : decode cX3_givenBy 16 = .ok (.iload_n 1, 1) := by decide +kernel
theorem dX3_givenBy_17 : decode cX3_givenBy 17 = .ok (.aaload, 1) := by decide +kernel
theorem dX3_givenBy_18 : decode cX3_givenBy 18 = .ok (.getfield 32, 3) := by decide +kernel
theorem dX3_givenBy_21 : decode cX3_givenBy 21 = .ok (.getfield 36, 3) := by decide +kernel
theorem dX3_givenBy_24 : decode cX3_givenBy 24 = .ok (.goto 4, 3) := by decide +kernel
theorem dX3_givenBy_27 : decode cX3_givenBy 27 = .ok (.aconst_null, 1) := by decide +kernel
theorem dX3_givenBy_28 : decode cX3_givenBy 28 = .ok (.areturn, 1) := by decide +kernel
theorem dX3_inLine_0 : decode cX3_inLine 0 = .ok (.iload_n 1, 1) := by decide +kernel
theorem dX3_inLine_1 : decode cX3_inLine 1 = .ok (.ifCond .lt 20, 3) := by decide +kernel
theorem dX3_inLine_4 : decode cX3_inLine 4 = .ok (.iload_n 1, 1) := by decide +kernel
theorem dX3_inLine_5 : decode cX3_inLine 5 = .ok (.aload_n 0, 1) := by decide +kernel
theorem dX3_inLine_6 : decode cX3_inLine 6 = .ok (.getfield 28, 3) := by decide +kernel
theorem dX3_inLine_9 : decode cX3_inLine 9 = .ok (.if_icmp .ge 12, 3) := by decide +kernel
theorem dX3_inLine_12 : decode cX3_inLine 12 = .ok (.aload_n 0, 1) := by decide +kernel
theorem dX3_inLine_13 : decode cX3_inLine 13 = .ok (.getfield 17, 3) := by decide +kernel
theorem dX3_inLine_16 : decode cX3_inLine 16 = .ok (.iload_n 1, 1) := by decide +kernel
theorem dX3_inLine_17 : decode cX3_inLine 17 = .ok (.iaload, 1) := by decide +kernel
theorem dX3_inLine_18 : decode cX3_inLine 18 = .ok (.goto 4, 3) := by decide +kernel
theorem dX3_inLine_21 : decode cX3_inLine 21 = .ok (.iconst (-1), 1) := by decide +kernel
theorem dX3_inLine_22 : decode cX3_inLine 22 = .ok (.ireturn, 1) := by decide +kernel
theorem dX3_add_0 : decode cX3_add 0 = .ok (.aload_n 0, 1) := by decide +kernel
theorem dX3_add_1 : decode cX3_add 1 = .ok (.getfield 28, 3) := by decide +kernel
theorem dX3_add_4 : decode cX3_add 4 = .ok (.istore_n 3, 1) := by decide +kernel
theorem dX3_add_5 : decode cX3_add 5 = .ok (.aload_n 0, 1) := by decide +kernel
theorem dX3_add_6 : decode cX3_add 6 = .ok (.getfield 11, 3) := by decide +kernel
theorem dX3_add_9 : decode cX3_add 9 = .ok (.iload_n 3, 1) := by decide +kernel
theorem dX3_add_10 : decode cX3_add 10 = .ok (.new 9, 3) := by decide +kernel
theorem dX3_add_13 : decode cX3_add 13 = .ok (.dup, 1) := by decide +kernel
theorem dX3_add_14 : decode cX3_add 14 = .ok (.iload_n 3, 1) := by decide +kernel
theorem dX3_add_15 : decode cX3_add 15 = .ok (.iload_n 1, 1) := by decide +kernel
theorem dX3_add_16 : decode cX3_add 16 = .ok (.iload_n 2, 1) := by decide +kernel
theorem dX3_add_17 : decode cX3_add 17 = .ok (.invokespecial 42, 3) := by decide +kernel
theorem dX3_add_20 : decode cX3_add 20 = .ok (.aastore, 1) := by decide +kernel
theorem dX3_add_21 : decode cX3_add 21 = .ok (.aload_n 0, 1) := by decide +kernel
theorem dX3_add_22 : decode cX3_add 22 = .ok (.iload_n 3, 1) := by decide +kernel
theorem dX3_add_23 : decode cX3_add 23 = .ok (.iconst 1, 1) := by decide +kernel
theorem dX3_add_24 : decode cX3_add 24 = .ok (.iadd, 1) := by decide +kernel
theorem dX3_add_25 : decode cX3_add 25 = .ok (.putfield 28, 3) := by decide +kernel
theorem dX3_add_28 : decode cX3_add 28 = .ok (.aload_n 0, 1) := by decide +kernel
theorem dX3_add_29 : decode cX3_add 29 = .ok (.invokevirtual 45, 3) := by decide +kernel
theorem dX3_add_32 : decode cX3_add 32 = .ok (.iload_n 3, 1) := by decide +kernel
theorem dX3_add_33 : decode cX3_add 33 = .ok (.ireturn, 1) := by decide +kernel
theorem dX3_join_0 : decode cX3_join 0 = .ok (.aload_n 2, 1) := by decide +kernel
theorem dX3_join_1 : decode cX3_join 1 = .ok (.iload_n 3, 1) := by decide +kernel
theorem dX3_join_2 : decode cX3_join 2 = .ok (.iload_n 1, 1) := by decide +kernel
theorem dX3_join_3 : decode cX3_join 3 = .ok (.invokevirtual 48, 3) := by decide +kernel
theorem dX3_join_6 : decode cX3_join 6 = .ok (.aload_n 0, 1) := by decide +kernel
theorem dX3_join_7 : decode cX3_join 7 = .ok (.invokevirtual 45, 3) := by decide +kernel
theorem dX3_join_10 : decode cX3_join 10 = .ok (.return_, 1) := by decide +kernel
theorem dX3_cordCount_0 : decode cX3_cordCount 0 = .ok (.iconst 0, 1) := by decide +kernel
theorem dX3_cordCount_1 : decode cX3_cordCount 1 = .ok (.istore_n 1, 1) := by decide +kernel
theorem dX3_cordCount_2 : decode cX3_cordCount 2 = .ok (.iconst 0, 1) := by decide +kernel
theorem dX3_cordCount_3 : decode cX3_cordCount 3 = .ok (.istore_n 2, 1) := by decide +kernel
theorem dX3_cordCount_4 : decode cX3_cordCount 4 = .ok (.iload_n 2, 1) := by decide +kernel
theorem dX3_cordCount_5 : decode cX3_cordCount 5 = .ok (.aload_n 0, 1) := by decide +kernel
theorem dX3_cordCount_6 : decode cX3_cordCount 6 = .ok (.getfield 28, 3) := by decide +kernel
theorem dX3_cordCount_9 : decode cX3_cordCount 9 = .ok (.if_icmp .ge 52, 3) := by decide +kernel
theorem dX3_cordCount_12 : decode cX3_cordCount 12 = .ok (.aload_n 0, 1) := by decide +kernel
theorem dX3_cordCount_13 : decode cX3_cordCount 13 = .ok (.getfield 11, 3) := by decide +kernel
theorem dX3_cordCount_16 : decode cX3_cordCount 16 = .ok (.iload_n 2, 1) := by decide +kernel
theorem dX3_cordCount_17 : decode cX3_cordCount 17 = .ok (.aaload, 1) := by decide +kernel
theorem dX3_cordCount_18 : decode cX3_cordCount 18 = .ok (.astore_n 3, 1) := by decide +kernel
theorem dX3_cordCount_19 : decode cX3_cordCount 19 = .ok (.iconst 0, 1) := by decide +kernel
theorem dX3_cordCount_20 : decode cX3_cordCount 20 = .ok (.istore 4, 2) := by decide +kernel
theorem dX3_cordCount_22 : decode cX3_cordCount 22 = .ok (.iload 4, 2) := by decide +kernel
theorem dX3_cordCount_24 : decode cX3_cordCount 24 = .ok (.aload_n 3, 1) := by decide +kernel
theorem dX3_cordCount_25 : decode cX3_cordCount 25 = .ok (.invokevirtual 52, 3) := by decide +kernel
theorem dX3_cordCount_28 : decode cX3_cordCount 28 = .ok (.if_icmp .ge 27, 3) := by decide +kernel
theorem dX3_cordCount_31 : decode cX3_cordCount 31 = .ok (.iload_n 1, 1) := by decide +kernel
theorem dX3_cordCount_32 : decode cX3_cordCount 32 = .ok (.aload_n 3, 1) := by decide +kernel
theorem dX3_cordCount_33 : decode cX3_cordCount 33 = .ok (.iload 4, 2) := by decide +kernel
theorem dX3_cordCount_35 : decode cX3_cordCount 35 = .ok (.invokevirtual 56, 3) := by decide +kernel
theorem dX3_cordCount_38 : decode cX3_cordCount 38 = .ok (.iconst (-1), 1) := by decide +kernel
theorem dX3_cordCount_39 : decode cX3_cordCount 39 = .ok (.if_icmp .ne 7, 3) := by decide +kernel
theorem dX3_cordCount_42 : decode cX3_cordCount 42 = .ok (.iconst 0, 1) := by decide +kernel
theorem dX3_cordCount_43 : decode cX3_cordCount 43 = .ok (.goto 4, 3) := by decide +kernel
theorem dX3_cordCount_46 : decode cX3_cordCount 46 = .ok (.iconst 1, 1) := by decide +kernel
theorem dX3_cordCount_47 : decode cX3_cordCount 47 = .ok (.iadd, 1) := by decide +kernel
theorem dX3_cordCount_48 : decode cX3_cordCount 48 = .ok (.istore_n 1, 1) := by decide +kernel
theorem dX3_cordCount_49 : decode cX3_cordCount 49 = .ok (.iinc 4 1, 3) := by decide +kernel
theorem dX3_cordCount_52 : decode cX3_cordCount 52 = .ok (.goto (-30), 3) := by decide +kernel
theorem dX3_cordCount_55 : decode cX3_cordCount 55 = .ok (.iinc 2 1, 3) := by decide +kernel
theorem dX3_cordCount_58 : decode cX3_cordCount 58 = .ok (.goto (-54), 3) := by decide +kernel
theorem dX3_cordCount_61 : decode cX3_cordCount 61 = .ok (.iload_n 1, 1) := by decide +kernel
theorem dX3_cordCount_62 : decode cX3_cordCount 62 = .ok (.ireturn, 1) := by decide +kernel
theorem dX3_shortestLoop_0 : decode cX3_shortestLoop 0 = .ok (.aload_n 0, 1) := by decide +kernel
theorem dX3_shortestLoop_1 : decode cX3_shortestLoop 1 = .ok (.iload_n 2, 1) := by decide +kernel
theorem dX3_shortestLoop_2 : decode cX3_shortestLoop 2 = .ok (.invokevirtual 60, 3) := by decide +kernel
theorem dX3_shortestLoop_5 : decode cX3_shortestLoop 5 = .ok (.astore_n 3, 1) := by decide +kernel
theorem dX3_shortestLoop_6 : decode cX3_shortestLoop 6 = .ok (.aload_n 0, 1) := by decide +kernel
theorem dX3_shortestLoop_7 : decode cX3_shortestLoop 7 = .ok (.iload_n 1, 1) := by decide +kernel
theorem dX3_shortestLoop_8 : decode cX3_shortestLoop 8 = .ok (.invokevirtual 60, 3) := by decide +kernel
theorem dX3_shortestLoop_11 : decode cX3_shortestLoop 11 = .ok (.astore 4, 2) := by decide +kernel
theorem dX3_shortestLoop_13 : decode cX3_shortestLoop 13 = .ok (.aload_n 3, 1) := by decide +kernel
theorem dX3_shortestLoop_14 : decode cX3_shortestLoop 14 = .ok (.ifnull 27, 3) := by decide +kernel
theorem dX3_shortestLoop_17 : decode cX3_shortestLoop 17 = .ok (.aload 4, 2) := by decide +kernel
theorem dX3_shortestLoop_19 : decode cX3_shortestLoop 19 = .ok (.ifnull 22, 3) := by decide +kernel
theorem dX3_shortestLoop_22 : decode cX3_shortestLoop 22 = .ok (.aload_n 3, 1) := by decide +kernel
theorem dX3_shortestLoop_23 : decode cX3_shortestLoop 23 = .ok (.getfield 64, 3) := by decide +kernel
theorem dX3_shortestLoop_26 : decode cX3_shortestLoop 26 = .ok (.bipush 6, 2) := by decide +kernel
theorem dX3_shortestLoop_28 : decode cX3_shortestLoop 28 = .ok (.if_icmp .eq 13, 3) := by decide +kernel
theorem dX3_shortestLoop_31 : decode cX3_shortestLoop 31 = .ok (.aload 4, 2) := by decide +kernel
theorem dX3_shortestLoop_33 : decode cX3_shortestLoop 33 = .ok (.getfield 64, 3) := by decide +kernel
theorem dX3_shortestLoop_36 : decode cX3_shortestLoop 36 = .ok (.bipush 6, 2) := by decide +kernel
theorem dX3_shortestLoop_38 : decode cX3_shortestLoop 38 = .ok (.if_icmp .ne 5, 3) := by decide +kernel
theorem dX3_shortestLoop_41 : decode cX3_shortestLoop 41 = .ok (.iconst 0, 1) := by decide +kernel
theorem dX3_shortestLoop_42 : decode cX3_shortestLoop 42 = .ok (.ireturn, 1) := by decide +kernel
theorem dX3_shortestLoop_43 : decode cX3_shortestLoop 43 = .ok (.iconst 0, 1) := by decide +kernel
theorem dX3_shortestLoop_44 : decode cX3_shortestLoop 44 = .ok (.istore 5, 2) := by decide +kernel
theorem dX3_shortestLoop_46 : decode cX3_shortestLoop 46 = .ok (.iload 5, 2) := by decide +kernel
theorem dX3_shortestLoop_48 : decode cX3_shortestLoop 48 = .ok (.aload_n 0, 1) := by decide +kernel
theorem dX3_shortestLoop_49 : decode cX3_shortestLoop 49 = .ok (.getfield 28, 3) := by decide +kernel
theorem dX3_shortestLoop_52 : decode cX3_shortestLoop 52 = .ok (.if_icmp .ge 27, 3) := by decide +kernel
theorem dX3_shortestLoop_55 : decode cX3_shortestLoop 55 = .ok (.aload_n 0, 1) := by decide +kernel
theorem dX3_shortestLoop_56 : decode cX3_shortestLoop 56 = .ok (.getfield 25, 3) := by decide +kernel
theorem dX3_shortestLoop_59 : decode cX3_shortestLoop 59 = .ok (.iload 5, 2) := by decide +kernel
theorem dX3_shortestLoop_61 : decode cX3_shortestLoop 61 = .ok (.iload 5, 2) := by decide +kernel
theorem dX3_shortestLoop_63 : decode cX3_shortestLoop 63 = .ok (.iload_n 2, 1) := by decide +kernel
theorem dX3_shortestLoop_64 : decode cX3_shortestLoop 64 = .ok (.if_icmp .ne 7, 3) := by decide +kernel
theorem dX3_shortestLoop_67 : decode cX3_shortestLoop 67 = .ok (.iconst 1, 1) := by decide +kernel
theorem dX3_shortestLoop_68 : decode cX3_shortestLoop 68 = .ok (.goto 4, 3) := by decide +kernel
theorem dX3_shortestLoop_71 : decode cX3_shortestLoop 71 = .ok (.iconst 0, 1) := by decide +kernel
theorem dX3_shortestLoop_72 : decode cX3_shortestLoop 72 = .ok (.iastore, 1) := by decide +kernel
theorem dX3_shortestLoop_73 : decode cX3_shortestLoop 73 = .ok (.iinc 5 1, 3) := by decide +kernel
theorem dX3_shortestLoop_76 : decode cX3_shortestLoop 76 = .ok (.goto (-30), 3) := by decide +kernel
theorem dX3_shortestLoop_79 : decode cX3_shortestLoop 79 = .ok (.iconst 1, 1) := by decide +kernel
theorem dX3_shortestLoop_80 : decode cX3_shortestLoop 80 = .ok (.istore 5, 2) := by decide +kernel
theorem dX3_shortestLoop_82 : decode cX3_shortestLoop 82 = .ok (.iload 5, 2) := by decide +kernel
theorem dX3_shortestLoop_84 : decode cX3_shortestLoop 84 = .ok (.aload_n 0, 1) := by decide +kernel
theorem dX3_shortestLoop_85 : decode cX3_shortestLoop 85 = .ok (.getfield 28, 3) := by decide +kernel
theorem dX3_shortestLoop_88 : decode cX3_shortestLoop 88 = .ok (.if_icmp .ge 24, 3) := by decide +kernel
theorem dX3_shortestLoop_91 : decode cX3_shortestLoop 91 = .ok (.aload_n 0, 1) := by decide +kernel
theorem dX3_shortestLoop_92 : decode cX3_shortestLoop 92 = .ok (.getfield 25, 3) := by decide +kernel
theorem dX3_shortestLoop_95 : decode cX3_shortestLoop 95 = .ok (.iload_n 1, 1) := by decide +kernel
theorem dX3_shortestLoop_96 : decode cX3_shortestLoop 96 = .ok (.iaload, 1) := by decide +kernel
theorem dX3_shortestLoop_97 : decode cX3_shortestLoop 97 = .ok (.ifCond .ne 15, 3) := by decide +kernel
theorem dX3_shortestLoop_100 : decode cX3_shortestLoop 100 = .ok (.aload_n 0, 1) := by decide +kernel
theorem dX3_shortestLoop_101 : decode cX3_shortestLoop 101 = .ok (.iload 5, 2) := by decide +kernel
theorem dX3_shortestLoop_103 : decode cX3_shortestLoop 103 = .ok (.invokevirtual 67, 3) := by decide +kernel
theorem dX3_shortestLoop_106 : decode cX3_shortestLoop 106 = .ok (.iinc 5 1, 3) := by decide +kernel
theorem dX3_shortestLoop_109 : decode cX3_shortestLoop 109 = .ok (.goto (-27), 3) := by decide +kernel
theorem dX3_shortestLoop_112 : decode cX3_shortestLoop 112 = .ok (.aload_n 0, 1) := by decide +kernel
theorem dX3_shortestLoop_113 : decode cX3_shortestLoop 113 = .ok (.getfield 25, 3) := by decide +kernel
theorem dX3_shortestLoop_116 : decode cX3_shortestLoop 116 = .ok (.iload_n 1, 1) := by decide +kernel
theorem dX3_shortestLoop_117 : decode cX3_shortestLoop 117 = .ok (.iaload, 1) := by decide +kernel
theorem dX3_shortestLoop_118 : decode cX3_shortestLoop 118 = .ok (.ireturn, 1) := by decide +kernel
theorem dX3_stepOn_0 : decode cX3_stepOn 0 = .ok (.iconst 0, 1) := by decide +kernel
theorem dX3_stepOn_1 : decode cX3_stepOn 1 = .ok (.istore_n 2, 1) := by decide +kernel
theorem dX3_stepOn_2 : decode cX3_stepOn 2 = .ok (.iload_n 2, 1) := by decide +kernel
theorem dX3_stepOn_3 : decode cX3_stepOn 3 = .ok (.aload_n 0, 1) := by decide +kernel
theorem dX3_stepOn_4 : decode cX3_stepOn 4 = .ok (.getfield 28, 3) := by decide +kernel
theorem dX3_stepOn_7 : decode cX3_stepOn 7 = .ok (.if_icmp .ge 55, 3) := by decide +kernel
theorem dX3_stepOn_10 : decode cX3_stepOn 10 = .ok (.aload_n 0, 1) := by decide +kernel
theorem dX3_stepOn_11 : decode cX3_stepOn 11 = .ok (.getfield 25, 3) := by decide +kernel
theorem dX3_stepOn_14 : decode cX3_stepOn 14 = .ok (.iload_n 2, 1) := by decide +kernel
theorem dX3_stepOn_15 : decode cX3_stepOn 15 = .ok (.iaload, 1) := by decide +kernel
theorem dX3_stepOn_16 : decode cX3_stepOn 16 = .ok (.ifCond .ne 40, 3) := by decide +kernel
theorem dX3_stepOn_19 : decode cX3_stepOn 19 = .ok (.aload_n 0, 1) := by decide +kernel
theorem dX3_stepOn_20 : decode cX3_stepOn 20 = .ok (.getfield 11, 3) := by decide +kernel
theorem dX3_stepOn_23 : decode cX3_stepOn 23 = .ok (.iload_n 2, 1) := by decide +kernel
theorem dX3_stepOn_24 : decode cX3_stepOn 24 = .ok (.aaload, 1) := by decide +kernel
theorem dX3_stepOn_25 : decode cX3_stepOn 25 = .ok (.getfield 64, 3) := by decide +kernel
theorem dX3_stepOn_28 : decode cX3_stepOn 28 = .ok (.bipush 6, 2) := by decide +kernel
theorem dX3_stepOn_30 : decode cX3_stepOn 30 = .ok (.if_icmp .eq 26, 3) := by decide +kernel
theorem dX3_stepOn_33 : decode cX3_stepOn 33 = .ok (.aload_n 0, 1) := by decide +kernel
theorem dX3_stepOn_34 : decode cX3_stepOn 34 = .ok (.aload_n 0, 1) := by decide +kernel
theorem dX3_stepOn_35 : decode cX3_stepOn 35 = .ok (.getfield 11, 3) := by decide +kernel
theorem dX3_stepOn_38 : decode cX3_stepOn 38 = .ok (.iload_n 2, 1) := by decide +kernel
theorem dX3_stepOn_39 : decode cX3_stepOn 39 = .ok (.aaload, 1) := by decide +kernel
theorem dX3_stepOn_40 : decode cX3_stepOn 40 = .ok (.iload_n 1, 1) := by decide +kernel
theorem dX3_stepOn_41 : decode cX3_stepOn 41 = .ok (.invokevirtual 71, 3) := by decide +kernel
theorem dX3_stepOn_44 : decode cX3_stepOn 44 = .ok (.ifCond .eq 12, 3) := by decide +kernel
theorem dX3_stepOn_47 : decode cX3_stepOn 47 = .ok (.aload_n 0, 1) := by decide +kernel
theorem dX3_stepOn_48 : decode cX3_stepOn 48 = .ok (.getfield 25, 3) := by decide +kernel
theorem dX3_stepOn_51 : decode cX3_stepOn 51 = .ok (.iload_n 2, 1) := by decide +kernel
theorem dX3_stepOn_52 : decode cX3_stepOn 52 = .ok (.iload_n 1, 1) := by decide +kernel
theorem dX3_stepOn_53 : decode cX3_stepOn 53 = .ok (.iconst 1, 1) := by decide +kernel
theorem dX3_stepOn_54 : decode cX3_stepOn 54 = .ok (.iadd, 1) := by decide +kernel
theorem dX3_stepOn_55 : decode cX3_stepOn 55 = .ok (.iastore, 1) := by decide +kernel
theorem dX3_stepOn_56 : decode cX3_stepOn 56 = .ok (.iinc 2 1, 3) := by decide +kernel
theorem dX3_stepOn_59 : decode cX3_stepOn 59 = .ok (.goto (-57), 3) := by decide +kernel
theorem dX3_stepOn_62 : decode cX3_stepOn 62 = .ok (.return_, 1) := by decide +kernel
theorem dX3_isFedAtStep_0 : decode cX3_isFedAtStep 0 = .ok (.iconst 0, 1) := by decide +kernel
theorem dX3_isFedAtStep_1 : decode cX3_isFedAtStep 1 = .ok (.istore_n 3, 1) := by decide +kernel
theorem dX3_isFedAtStep_2 : decode cX3_isFedAtStep 2 = .ok (.iload_n 3, 1) := by decide +kernel
theorem dX3_isFedAtStep_3 : decode cX3_isFedAtStep 3 = .ok (.aload_n 1, 1) := by decide +kernel
theorem dX3_isFedAtStep_4 : decode cX3_isFedAtStep 4 = .ok (.invokevirtual 52, 3) := by decide +kernel
theorem dX3_isFedAtStep_7 : decode cX3_isFedAtStep 7 = .ok (.if_icmp .ge 43, 3) := by decide +kernel
theorem dX3_isFedAtStep_10 : decode cX3_isFedAtStep 10 = .ok (.aload_n 1, 1) := by decide +kernel
theorem dX3_isFedAtStep_11 : decode cX3_isFedAtStep 11 = .ok (.iload_n 3, 1) := by decide +kernel
theorem dX3_isFedAtStep_12 : decode cX3_isFedAtStep 12 = .ok (.invokevirtual 56, 3) := by decide +kernel
theorem dX3_isFedAtStep_15 : decode cX3_isFedAtStep 15 = .ok (.istore 4, 2) := by decide +kernel
theorem dX3_isFedAtStep_17 : decode cX3_isFedAtStep 17 = .ok (.iload 4, 2) := by decide +kernel
theorem dX3_isFedAtStep_19 : decode cX3_isFedAtStep 19 = .ok (.ifCond .lt 25, 3) := by decide +kernel
theorem dX3_isFedAtStep_22 : decode cX3_isFedAtStep 22 = .ok (.iload 4, 2) := by decide +kernel
theorem dX3_isFedAtStep_24 : decode cX3_isFedAtStep 24 = .ok (.aload_n 0, 1) := by decide +kernel
theorem dX3_isFedAtStep_25 : decode cX3_isFedAtStep 25 = .ok (.getfield 28, 3) := by decide +kernel
theorem dX3_isFedAtStep_28 : decode cX3_isFedAtStep 28 = .ok (.if_icmp .ge 16, 3) := by decide +kernel
theorem dX3_isFedAtStep_31 : decode cX3_isFedAtStep 31 = .ok (.aload_n 0, 1) := by decide +kernel
theorem dX3_isFedAtStep_32 : decode cX3_isFedAtStep 32 = .ok (.getfield 25, 3) := by decide +kernel
theorem dX3_isFedAtStep_35 : decode cX3_isFedAtStep 35 = .ok (.iload 4, 2) := by decide +kernel
theorem dX3_isFedAtStep_37 : decode cX3_isFedAtStep 37 = .ok (.iaload, 1) := by decide +kernel
theorem dX3_isFedAtStep_38 : decode cX3_isFedAtStep 38 = .ok (.iload_n 2, 1) := by decide +kernel
theorem dX3_isFedAtStep_39 : decode cX3_isFedAtStep 39 = .ok (.if_icmp .ne 5, 3) := by decide +kernel
theorem dX3_isFedAtStep_42 : decode cX3_isFedAtStep 42 = .ok (.iconst 1, 1) := by decide +kernel
theorem dX3_isFedAtStep_43 : decode cX3_isFedAtStep 43 = .ok (.ireturn, 1) := by decide +kernel
theorem dX3_isFedAtStep_44 : decode cX3_isFedAtStep 44 = .ok (.iinc 3 1, 3) := by decide +kernel
theorem dX3_isFedAtStep_47 : decode cX3_isFedAtStep 47 = .ok (.goto (-45), 3) := by decide +kernel
theorem dX3_isFedAtStep_50 : decode cX3_isFedAtStep 50 = .ok (.iconst 0, 1) := by decide +kernel
theorem dX3_isFedAtStep_51 : decode cX3_isFedAtStep 51 = .ok (.ireturn, 1) := by decide +kernel
theorem dX3_lineUp_0 : decode cX3_lineUp 0 = .ok (.iconst 0, 1) := by decide +kernel
theorem dX3_lineUp_1 : decode cX3_lineUp 1 = .ok (.istore_n 1, 1) := by decide +kernel
theorem dX3_lineUp_2 : decode cX3_lineUp 2 = .ok (.iconst 0, 1) := by decide +kernel
theorem dX3_lineUp_3 : decode cX3_lineUp 3 = .ok (.istore_n 2, 1) := by decide +kernel
theorem dX3_lineUp_4 : decode cX3_lineUp 4 = .ok (.iload_n 2, 1) := by decide +kernel
theorem dX3_lineUp_5 : decode cX3_lineUp 5 = .ok (.aload_n 0, 1) := by decide +kernel
theorem dX3_lineUp_6 : decode cX3_lineUp 6 = .ok (.getfield 28, 3) := by decide +kernel
theorem dX3_lineUp_9 : decode cX3_lineUp 9 = .ok (.if_icmp .ge 53, 3) := by decide +kernel
theorem dX3_lineUp_12 : decode cX3_lineUp 12 = .ok (.aload_n 0, 1) := by decide +kernel
theorem dX3_lineUp_13 : decode cX3_lineUp 13 = .ok (.getfield 21, 3) := by decide +kernel
theorem dX3_lineUp_16 : decode cX3_lineUp 16 = .ok (.iload_n 2, 1) := by decide +kernel
theorem dX3_lineUp_17 : decode cX3_lineUp 17 = .ok (.aload_n 0, 1) := by decide +kernel
theorem dX3_lineUp_18 : decode cX3_lineUp 18 = .ok (.getfield 11, 3) := by decide +kernel
theorem dX3_lineUp_21 : decode cX3_lineUp 21 = .ok (.iload_n 2, 1) := by decide +kernel
theorem dX3_lineUp_22 : decode cX3_lineUp 22 = .ok (.aaload, 1) := by decide +kernel
theorem dX3_lineUp_23 : decode cX3_lineUp 23 = .ok (.getfield 64, 3) := by decide +kernel
theorem dX3_lineUp_26 : decode cX3_lineUp 26 = .ok (.bipush 6, 2) := by decide +kernel
theorem dX3_lineUp_28 : decode cX3_lineUp 28 = .ok (.if_icmp .ne 7, 3) := by decide +kernel
theorem dX3_lineUp_31 : decode cX3_lineUp 31 = .ok (.iconst 1, 1) := by decide +kernel
theorem dX3_lineUp_32 : decode cX3_lineUp 32 = .ok (.goto 4, 3) := by decide +kernel
theorem dX3_lineUp_35 : decode cX3_lineUp 35 = .ok (.iconst 0, 1) := by decide +kernel
theorem dX3_lineUp_36 : decode cX3_lineUp 36 = .ok (.bastore, 1) := by decide +kernel
theorem dX3_lineUp_37 : decode cX3_lineUp 37 = .ok (.aload_n 0, 1) := by decide +kernel
theorem dX3_lineUp_38 : decode cX3_lineUp 38 = .ok (.getfield 21, 3) := by decide +kernel
theorem dX3_lineUp_41 : decode cX3_lineUp 41 = .ok (.iload_n 2, 1) := by decide +kernel
theorem dX3_lineUp_42 : decode cX3_lineUp 42 = .ok (.baload, 1) := by decide +kernel
theorem dX3_lineUp_43 : decode cX3_lineUp 43 = .ok (.ifCond .eq 13, 3) := by decide +kernel
theorem dX3_lineUp_46 : decode cX3_lineUp 46 = .ok (.aload_n 0, 1) := by decide +kernel
theorem dX3_lineUp_47 : decode cX3_lineUp 47 = .ok (.getfield 17, 3) := by decide +kernel
theorem dX3_lineUp_50 : decode cX3_lineUp 50 = .ok (.iload_n 1, 1) := by decide +kernel
theorem dX3_lineUp_51 : decode cX3_lineUp 51 = .ok (.iload_n 2, 1) := by decide +kernel
theorem dX3_lineUp_52 : decode cX3_lineUp 52 = .ok (.iastore, 1) := by decide +kernel
theorem dX3_lineUp_53 : decode cX3_lineUp 53 = .ok (.iinc 1 1, 3) := by decide +kernel
theorem dX3_lineUp_56 : decode cX3_lineUp 56 = .ok (.iinc 2 1, 3) := by decide +kernel
theorem dX3_lineUp_59 : decode cX3_lineUp 59 = .ok (.goto (-55), 3) := by decide +kernel
theorem dX3_lineUp_62 : decode cX3_lineUp 62 = .ok (.iload_n 1, 1) := by decide +kernel
theorem dX3_lineUp_63 : decode cX3_lineUp 63 = .ok (.istore_n 2, 1) := by decide +kernel
theorem dX3_lineUp_64 : decode cX3_lineUp 64 = .ok (.iload_n 2, 1) := by decide +kernel
theorem dX3_lineUp_65 : decode cX3_lineUp 65 = .ok (.aload_n 0, 1) := by decide +kernel
theorem dX3_lineUp_66 : decode cX3_lineUp 66 = .ok (.getfield 28, 3) := by decide +kernel
theorem dX3_lineUp_69 : decode cX3_lineUp 69 = .ok (.if_icmp .ge 14, 3) := by decide +kernel
theorem dX3_lineUp_72 : decode cX3_lineUp 72 = .ok (.aload_n 0, 1) := by decide +kernel
theorem dX3_lineUp_73 : decode cX3_lineUp 73 = .ok (.iload_n 2, 1) := by decide +kernel
theorem dX3_lineUp_74 : decode cX3_lineUp 74 = .ok (.invokevirtual 75, 3) := by decide +kernel
theorem dX3_lineUp_77 : decode cX3_lineUp 77 = .ok (.iinc 2 1, 3) := by decide +kernel
theorem dX3_lineUp_80 : decode cX3_lineUp 80 = .ok (.goto (-16), 3) := by decide +kernel
theorem dX3_lineUp_83 : decode cX3_lineUp 83 = .ok (.return_, 1) := by decide +kernel
theorem dX3_placeNext_0 : decode cX3_placeNext 0 = .ok (.aload_n 0, 1) := by decide +kernel
theorem dX3_placeNext_1 : decode cX3_placeNext 1 = .ok (.invokevirtual 78, 3) := by decide +kernel
theorem dX3_placeNext_4 : decode cX3_placeNext 4 = .ok (.istore_n 2, 1) := by decide +kernel
theorem dX3_placeNext_5 : decode cX3_placeNext 5 = .ok (.iload_n 2, 1) := by decide +kernel
theorem dX3_placeNext_6 : decode cX3_placeNext 6 = .ok (.ifCond .lt 17, 3) := by decide +kernel
theorem dX3_placeNext_9 : decode cX3_placeNext 9 = .ok (.aload_n 0, 1) := by decide +kernel
theorem dX3_placeNext_10 : decode cX3_placeNext 10 = .ok (.getfield 21, 3) := by decide +kernel
theorem dX3_placeNext_13 : decode cX3_placeNext 13 = .ok (.iload_n 2, 1) := by decide +kernel
theorem dX3_placeNext_14 : decode cX3_placeNext 14 = .ok (.iconst 1, 1) := by decide +kernel
theorem dX3_placeNext_15 : decode cX3_placeNext 15 = .ok (.bastore, 1) := by decide +kernel
theorem dX3_placeNext_16 : decode cX3_placeNext 16 = .ok (.aload_n 0, 1) := by decide +kernel
theorem dX3_placeNext_17 : decode cX3_placeNext 17 = .ok (.getfield 17, 3) := by decide +kernel
theorem dX3_placeNext_20 : decode cX3_placeNext 20 = .ok (.iload_n 1, 1) := by decide +kernel
theorem dX3_placeNext_21 : decode cX3_placeNext 21 = .ok (.iload_n 2, 1) := by decide +kernel
theorem dX3_placeNext_22 : decode cX3_placeNext 22 = .ok (.iastore, 1) := by decide +kernel
theorem dX3_placeNext_23 : decode cX3_placeNext 23 = .ok (.return_, 1) := by decide +kernel
theorem dX3_leastReady_0 : decode cX3_leastReady 0 = .ok (.iconst 0, 1) := by decide +kernel
theorem dX3_leastReady_1 : decode cX3_leastReady 1 = .ok (.istore_n 1, 1) := by decide +kernel
theorem dX3_leastReady_2 : decode cX3_leastReady 2 = .ok (.iload_n 1, 1) := by decide +kernel
theorem dX3_leastReady_3 : decode cX3_leastReady 3 = .ok (.aload_n 0, 1) := by decide +kernel
theorem dX3_leastReady_4 : decode cX3_leastReady 4 = .ok (.getfield 28, 3) := by decide +kernel
theorem dX3_leastReady_7 : decode cX3_leastReady 7 = .ok (.if_icmp .ge 33, 3) := by decide +kernel
theorem dX3_leastReady_10 : decode cX3_leastReady 10 = .ok (.aload_n 0, 1) := by decide +kernel
theorem dX3_leastReady_11 : decode cX3_leastReady 11 = .ok (.getfield 21, 3) := by decide +kernel
theorem dX3_leastReady_14 : decode cX3_leastReady 14 = .ok (.iload_n 1, 1) := by decide +kernel
theorem dX3_leastReady_15 : decode cX3_leastReady 15 = .ok (.baload, 1) := by decide +kernel
theorem dX3_leastReady_16 : decode cX3_leastReady 16 = .ok (.ifCond .ne 18, 3) := by decide +kernel
theorem dX3_leastReady_19 : decode cX3_leastReady 19 = .ok (.aload_n 0, 1) := by decide +kernel
theorem dX3_leastReady_20 : decode cX3_leastReady 20 = .ok (.aload_n 0, 1) := by decide +kernel
theorem dX3_leastReady_21 : decode cX3_leastReady 21 = .ok (.getfield 11, 3) := by decide +kernel
theorem dX3_leastReady_24 : decode cX3_leastReady 24 = .ok (.iload_n 1, 1) := by decide +kernel
theorem dX3_leastReady_25 : decode cX3_leastReady 25 = .ok (.aaload, 1) := by decide +kernel
theorem dX3_leastReady_26 : decode cX3_leastReady 26 = .ok (.invokevirtual 81, 3) := by decide +kernel
theorem dX3_leastReady_29 : decode cX3_leastReady 29 = .ok (.ifCond .eq 5, 3) := by decide +kernel
theorem dX3_leastReady_32 : decode cX3_leastReady 32 = .ok (.iload_n 1, 1) := by decide +kernel
theorem dX3_leastReady_33 : decode cX3_leastReady 33 = .ok (.ireturn, 1) := by decide +kernel
theorem dX3_leastReady_34 : decode cX3_leastReady 34 = .ok (.iinc 1 1, 3) := by decide +kernel
theorem dX3_leastReady_37 : decode cX3_leastReady 37 = .ok (.goto (-35), 3) := by decide +kernel
theorem dX3_leastReady_40 : decode cX3_leastReady 40 = .ok (.iconst (-1), 1) := by decide +kernel
theorem dX3_leastReady_41 : decode cX3_leastReady 41 = .ok (.ireturn, 1) := by decide +kernel
theorem dX3_isReady_0 : decode cX3_isReady 0 = .ok (.iconst 0, 1) := by decide +kernel
theorem dX3_isReady_1 : decode cX3_isReady 1 = .ok (.istore_n 2, 1) := by decide +kernel
theorem dX3_isReady_2 : decode cX3_isReady 2 = .ok (.iload_n 2, 1) := by decide +kernel
end
section
theorem dX3_isReady_3 : decode cX3_isReady 3 = .ok (.aload_n 1, 1) := by decide +kernel
theorem dX3_isReady_4 : decode cX3_isReady 4 = .ok (.invokevirtual 52, 3) := by decide +kernel
theorem dX3_isReady_7 : decode cX3_isReady 7 = .ok (.if_icmp .ge 38, 3) := by decide +kernel
theorem dX3_isReady_10 : decode cX3_isReady 10 = .ok (.aload_n 1, 1) := by decide +kernel
theorem dX3_isReady_11 : decode cX3_isReady 11 = .ok (.iload_n 2, 1) := by decide +kernel
theorem dX3_isReady_12 : decode cX3_isReady 12 = .ok (.invokevirtual 56, 3) := by decide +kernel
theorem dX3_isReady_15 : decode cX3_isReady 15 = .ok (.istore_n 3, 1) := by decide +kernel
theorem dX3_isReady_16 : decode cX3_isReady 16 = .ok (.iload_n 3, 1) := by decide +kernel
theorem dX3_isReady_17 : decode cX3_isReady 17 = .ok (.ifCond .lt 22, 3) := by decide +kernel
theorem dX3_isReady_20 : decode cX3_isReady 20 = .ok (.iload_n 3, 1) := by decide +kernel
theorem dX3_isReady_21 : decode cX3_isReady 21 = .ok (.aload_n 0, 1) := by decide +kernel
theorem dX3_isReady_22 : decode cX3_isReady 22 = .ok (.getfield 28, 3) := by decide +kernel
theorem dX3_isReady_25 : decode cX3_isReady 25 = .ok (.if_icmp .ge 14, 3) := by decide +kernel
theorem dX3_isReady_28 : decode cX3_isReady 28 = .ok (.aload_n 0, 1) := by decide +kernel
theorem dX3_isReady_29 : decode cX3_isReady 29 = .ok (.getfield 21, 3) := by decide +kernel
theorem dX3_isReady_32 : decode cX3_isReady 32 = .ok (.iload_n 3, 1) := by decide +kernel
theorem dX3_isReady_33 : decode cX3_isReady 33 = .ok (.baload, 1) := by decide +kernel
theorem dX3_isReady_34 : decode cX3_isReady 34 = .ok (.ifCond .ne 5, 3) := by decide +kernel
theorem dX3_isReady_37 : decode cX3_isReady 37 = .ok (.iconst 0, 1) := by decide +kernel
theorem dX3_isReady_38 : decode cX3_isReady 38 = .ok (.ireturn, 1) := by decide +kernel
theorem dX3_isReady_39 : decode cX3_isReady 39 = .ok (.iinc 2 1, 3) := by decide +kernel
theorem dX3_isReady_42 : decode cX3_isReady 42 = .ok (.goto (-40), 3) := by decide +kernel
theorem dX3_isReady_45 : decode cX3_isReady 45 = .ok (.iconst 1, 1) := by decide +kernel
theorem dX3_isReady_46 : decode cX3_isReady 46 = .ok (.ireturn, 1) := by decide +kernel
theorem dX4_init_0 : decode cX4_init 0 = .ok (.aload_n 0, 1) := by decide +kernel
theorem dX4_init_1 : decode cX4_init 1 = .ok (.invokespecial 3, 3) := by decide +kernel
theorem dX4_init_4 : decode cX4_init 4 = .ok (.aload_n 0, 1) := by decide +kernel
theorem dX4_init_5 : decode cX4_init 5 = .ok (.iload_n 1, 1) := by decide +kernel
theorem dX4_init_6 : decode cX4_init 6 = .ok (.putfield 9, 3) := by decide +kernel
theorem dX4_init_9 : decode cX4_init 9 = .ok (.aload_n 0, 1) := by decide +kernel
theorem dX4_init_10 : decode cX4_init 10 = .ok (.iload_n 2, 1) := by decide +kernel
theorem dX4_init_11 : decode cX4_init 11 = .ok (.putfield 15, 3) := by decide +kernel
theorem dX4_init_14 : decode cX4_init 14 = .ok (.aload_n 0, 1) := by decide +kernel
theorem dX4_init_15 : decode cX4_init 15 = .ok (.iload_n 2, 1) := by decide +kernel
theorem dX4_init_16 : decode cX4_init 16 = .ok (.newarray .double, 2) := by decide +kernel
theorem dX4_init_18 : decode cX4_init 18 = .ok (.putfield 18, 3) := by decide +kernel
theorem dX4_init_21 : decode cX4_init 21 = .ok (.return_, 1) := by decide +kernel
theorem dX4_isFloating_0 : decode cX4_isFloating 0 = .ok (.aload_n 0, 1) := by decide +kernel
theorem dX4_isFloating_1 : decode cX4_isFloating 1 = .ok (.getfield 9, 3) := by decide +kernel
theorem dX4_isFloating_4 : decode cX4_isFloating 4 = .ok (.iconst 3, 1) := by decide +kernel
theorem dX4_isFloating_5 : decode cX4_isFloating 5 = .ok (.if_icmp .lt 7, 3) := by decide +kernel
theorem dX4_isFloating_8 : decode cX4_isFloating 8 = .ok (.iconst 1, 1) := by decide +kernel
theorem dX4_isFloating_9 : decode cX4_isFloating 9 = .ok (.goto 4, 3) := by decide +kernel
theorem dX4_isFloating_12 : decode cX4_isFloating 12 = .ok (.iconst 0, 1) := by decide +kernel
theorem dX4_isFloating_13 : decode cX4_isFloating 13 = .ok (.ireturn, 1) := by decide +kernel
theorem dX4_has_0 : decode cX4_has 0 = .ok (.iload_n 1, 1) := by decide +kernel
theorem dX4_has_1 : decode cX4_has 1 = .ok (.ifCond .lt 15, 3) := by decide +kernel
theorem dX4_has_4 : decode cX4_has 4 = .ok (.iload_n 1, 1) := by decide +kernel
theorem dX4_has_5 : decode cX4_has 5 = .ok (.aload_n 0, 1) := by decide +kernel
theorem dX4_has_6 : decode cX4_has 6 = .ok (.getfield 15, 3) := by decide +kernel
theorem dX4_has_9 : decode cX4_has 9 = .ok (.if_icmp .ge 7, 3) := by decide +kernel
theorem dX4_has_12 : decode cX4_has 12 = .ok (.iconst 1, 1) := by decide +kernel
theorem dX4_has_13 : decode cX4_has 13 = .ok (.goto 4, 3) := by decide +kernel
theorem dX4_has_16 : decode cX4_has 16 = .ok (.iconst 0, 1) := by decide +kernel
theorem dX4_has_17 : decode cX4_has 17 = .ok (.ireturn, 1) := by decide +kernel
theorem dX4_valueAt_0 : decode cX4_valueAt 0 = .ok (.aload_n 0, 1) := by decide +kernel
theorem dX4_valueAt_1 : decode cX4_valueAt 1 = .ok (.iload_n 1, 1) := by decide +kernel
theorem dX4_valueAt_2 : decode cX4_valueAt 2 = .ok (.invokevirtual 22, 3) := by decide +kernel
theorem dX4_valueAt_5 : decode cX4_valueAt 5 = .ok (.ifCond .eq 12, 3) := by decide +kernel
theorem dX4_valueAt_8 : decode cX4_valueAt 8 = .ok (.aload_n 0, 1) := by decide +kernel
theorem dX4_valueAt_9 : decode cX4_valueAt 9 = .ok (.getfield 18, 3) := by decide +kernel
theorem dX4_valueAt_12 : decode cX4_valueAt 12 = .ok (.iload_n 1, 1) := by decide +kernel
theorem dX4_valueAt_13 : decode cX4_valueAt 13 = .ok (.daload, 1) := by decide +kernel
theorem dX4_valueAt_14 : decode cX4_valueAt 14 = .ok (.goto 4, 3) := by decide +kernel
theorem dX4_valueAt_17 : decode cX4_valueAt 17 = .ok (.dconst 0, 1) := by decide +kernel
theorem dX4_valueAt_18 : decode cX4_valueAt 18 = .ok (.dreturn, 1) := by decide +kernel
theorem dX4_lacksNumberAt_0 : decode cX4_lacksNumberAt 0 = .ok (.aload_n 0, 1) := by decide +kernel
theorem dX4_lacksNumberAt_1 : decode cX4_lacksNumberAt 1 = .ok (.iload_n 1, 1) := by decide +kernel
theorem dX4_lacksNumberAt_2 : decode cX4_lacksNumberAt 2 = .ok (.invokevirtual 22, 3) := by decide +kernel
theorem dX4_lacksNumberAt_5 : decode cX4_lacksNumberAt 5 = .ok (.ifCond .eq 18, 3) := by decide +kernel
theorem dX4_lacksNumberAt_8 : decode cX4_lacksNumberAt 8 = .ok (.aload_n 0, 1) := by decide +kernel
theorem dX4_lacksNumberAt_9 : decode cX4_lacksNumberAt 9 = .ok (.getfield 26, 3) := by decide +kernel
theorem dX4_lacksNumberAt_12 : decode cX4_lacksNumberAt 12 = .ok (.iload_n 1, 1) := by decide +kernel
theorem dX4_lacksNumberAt_13 : decode cX4_lacksNumberAt 13 = .ok (.ishr, 1) := by decide +kernel
theorem dX4_lacksNumberAt_14 : decode cX4_lacksNumberAt 14 = .ok (.iconst 1, 1) := by decide +kernel
theorem dX4_lacksNumberAt_15 : decode cX4_lacksNumberAt 15 = .ok (.iand, 1) := by decide +kernel
theorem dX4_lacksNumberAt_16 : decode cX4_lacksNumberAt 16 = .ok (.ifCond .eq 7, 3) := by decide +kernel
theorem dX4_lacksNumberAt_19 : decode cX4_lacksNumberAt 19 = .ok (.iconst 1, 1) := by decide +kernel
theorem dX4_lacksNumberAt_20 : decode cX4_lacksNumberAt 20 = .ok (.goto 4, 3) := by decide +kernel
theorem dX4_lacksNumberAt_23 : decode cX4_lacksNumberAt 23 = .ok (.iconst 0, 1) := by decide +kernel
theorem dX4_lacksNumberAt_24 : decode cX4_lacksNumberAt 24 = .ok (.ireturn, 1) := by decide +kernel
theorem dX4_put_0 : decode cX4_put 0 = .ok (.iload_n 1, 1) := by decide +kernel
theorem dX4_put_1 : decode cX4_put 1 = .ok (.ifCond .lt 32, 3) := by decide +kernel
theorem dX4_put_4 : decode cX4_put 4 = .ok (.iload_n 1, 1) := by decide +kernel
theorem dX4_put_5 : decode cX4_put 5 = .ok (.aload_n 0, 1) := by decide +kernel
theorem dX4_put_6 : decode cX4_put 6 = .ok (.getfield 15, 3) := by decide +kernel
theorem dX4_put_9 : decode cX4_put 9 = .ok (.if_icmp .ge 24, 3) := by decide +kernel
theorem dX4_put_12 : decode cX4_put 12 = .ok (.aload_n 0, 1) := by decide +kernel
theorem dX4_put_13 : decode cX4_put 13 = .ok (.getfield 18, 3) := by decide +kernel
theorem dX4_put_16 : decode cX4_put 16 = .ok (.iload_n 1, 1) := by decide +kernel
theorem dX4_put_17 : decode cX4_put 17 = .ok (.aload_n 0, 1) := by decide +kernel
theorem dX4_put_18 : decode cX4_put 18 = .ok (.getfield 9, 3) := by decide +kernel
theorem dX4_put_21 : decode cX4_put 21 = .ok (.iconst 3, 1) := by decide +kernel
theorem dX4_put_22 : decode cX4_put 22 = .ok (.if_icmp .ne 9, 3) := by decide +kernel
theorem dX4_put_25 : decode cX4_put 25 = .ok (.dload_n 2, 1) := by decide +kernel
theorem dX4_put_26 : decode cX4_put 26 = .ok (.d2f, 1) := by decide +kernel
theorem dX4_put_27 : decode cX4_put 27 = .ok (.f2d, 1) := by decide +kernel
theorem dX4_put_28 : decode cX4_put 28 = .ok (.goto 4, 3) := by decide +kernel
theorem dX4_put_31 : decode cX4_put 31 = .ok (.dload_n 2, 1) := by decide +kernel
theorem dX4_put_32 : decode cX4_put 32 = .ok (.dastore, 1) := by decide +kernel
theorem dX4_put_33 : decode cX4_put 33 = .ok (.return_, 1) := by decide +kernel
theorem dX4_putNoNumber_0 : decode cX4_putNoNumber 0 = .ok (.aload_n 0, 1) := by decide +kernel
theorem dX4_putNoNumber_1 : decode cX4_putNoNumber 1 = .ok (.iload_n 1, 1) := by decide +kernel
theorem dX4_putNoNumber_2 : decode cX4_putNoNumber 2 = .ok (.invokevirtual 22, 3) := by decide +kernel
theorem dX4_putNoNumber_5 : decode cX4_putNoNumber 5 = .ok (.ifCond .eq 15, 3) := by decide +kernel
theorem dX4_putNoNumber_8 : decode cX4_putNoNumber 8 = .ok (.aload_n 0, 1) := by decide +kernel
theorem dX4_putNoNumber_9 : decode cX4_putNoNumber 9 = .ok (.dup, 1) := by decide +kernel
theorem dX4_putNoNumber_10 : decode cX4_putNoNumber 10 = .ok (.getfield 26, 3) := by decide +kernel
theorem dX4_putNoNumber_13 : decode cX4_putNoNumber 13 = .ok (.iconst 1, 1) := by decide +kernel
theorem dX4_putNoNumber_14 : decode cX4_putNoNumber 14 = .ok (.iload_n 1, 1) := by decide +kernel
theorem dX4_putNoNumber_15 : decode cX4_putNoNumber 15 = .ok (.ishl, 1) := by decide +kernel
theorem dX4_putNoNumber_16 : decode cX4_putNoNumber 16 = .ok (.ior, 1) := by decide +kernel
theorem dX4_putNoNumber_17 : decode cX4_putNoNumber 17 = .ok (.putfield 26, 3) := by decide +kernel
theorem dX4_putNoNumber_20 : decode cX4_putNoNumber 20 = .ok (.return_, 1) := by decide +kernel
theorem dX4_noneCount_0 : decode cX4_noneCount 0 = .ok (.aload_n 0, 1) := by decide +kernel
theorem dX4_noneCount_1 : decode cX4_noneCount 1 = .ok (.getfield 26, 3) := by decide +kernel
theorem dX4_noneCount_4 : decode cX4_noneCount 4 = .ok (.invokestatic 29, 3) := by decide +kernel
theorem dX4_noneCount_7 : decode cX4_noneCount 7 = .ok (.ireturn, 1) := by decide +kernel
theorem dX4_isSilent_0 : decode cX4_isSilent 0 = .ok (.aload_n 0, 1) := by decide +kernel
theorem dX4_isSilent_1 : decode cX4_isSilent 1 = .ok (.getfield 26, 3) := by decide +kernel
theorem dX4_isSilent_4 : decode cX4_isSilent 4 = .ok (.ifCond .eq 5, 3) := by decide +kernel
theorem dX4_isSilent_7 : decode cX4_isSilent 7 = .ok (.iconst 0, 1) := by decide +kernel
theorem dX4_isSilent_8 : decode cX4_isSilent 8 = .ok (.ireturn, 1) := by decide +kernel
theorem dX4_isSilent_9 : decode cX4_isSilent 9 = .ok (.iconst 0, 1) := by decide +kernel
theorem dX4_isSilent_10 : decode cX4_isSilent 10 = .ok (.istore_n 1, 1) := by decide +kernel
theorem dX4_isSilent_11 : decode cX4_isSilent 11 = .ok (.iload_n 1, 1) := by decide +kernel
theorem dX4_isSilent_12 : decode cX4_isSilent 12 = .ok (.aload_n 0, 1) := by decide +kernel
theorem dX4_isSilent_13 : decode cX4_isSilent 13 = .ok (.getfield 15, 3) := by decide +kernel
theorem dX4_isSilent_16 : decode cX4_isSilent 16 = .ok (.if_icmp .ge 22, 3) := by decide +kernel
theorem dX4_isSilent_19 : decode cX4_isSilent 19 = .ok (.aload_n 0, 1) := by decide +kernel
theorem dX4_isSilent_20 : decode cX4_isSilent 20 = .ok (.getfield 18, 3) := by decide +kernel
theorem dX4_isSilent_23 : decode cX4_isSilent 23 = .ok (.iload_n 1, 1) := by decide +kernel
theorem dX4_isSilent_24 : decode cX4_isSilent 24 = .ok (.daload, 1) := by decide +kernel
theorem dX4_isSilent_25 : decode cX4_isSilent 25 = .ok (.dconst 0, 1) := by decide +kernel
theorem dX4_isSilent_26 : decode cX4_isSilent 26 = .ok (.dcmp .l, 1) := by decide +kernel
theorem dX4_isSilent_27 : decode cX4_isSilent 27 = .ok (.ifCond .eq 5, 3) := by decide +kernel
theorem dX4_isSilent_30 : decode cX4_isSilent 30 = .ok (.iconst 0, 1) := by decide +kernel
theorem dX4_isSilent_31 : decode cX4_isSilent 31 = .ok (.ireturn, 1) := by decide +kernel
theorem dX4_isSilent_32 : decode cX4_isSilent 32 = .ok (.iinc 1 1, 3) := by decide +kernel
theorem dX4_isSilent_35 : decode cX4_isSilent 35 = .ok (.goto (-24), 3) := by decide +kernel
theorem dX4_isSilent_38 : decode cX4_isSilent 38 = .ok (.iconst 1, 1) := by decide +kernel
theorem dX4_isSilent_39 : decode cX4_isSilent 39 = .ok (.ireturn, 1) := by decide +kernel
theorem dX4_isSameAs_0 : decode cX4_isSameAs 0 = .ok (.aload_n 0, 1) := by decide +kernel
theorem dX4_isSameAs_1 : decode cX4_isSameAs 1 = .ok (.getfield 9, 3) := by decide +kernel
theorem dX4_isSameAs_4 : decode cX4_isSameAs 4 = .ok (.aload_n 1, 1) := by decide +kernel
theorem dX4_isSameAs_5 : decode cX4_isSameAs 5 = .ok (.getfield 9, 3) := by decide +kernel
theorem dX4_isSameAs_8 : decode cX4_isSameAs 8 = .ok (.if_icmp .ne 25, 3) := by decide +kernel
theorem dX4_isSameAs_11 : decode cX4_isSameAs 11 = .ok (.aload_n 0, 1) := by decide +kernel
theorem dX4_isSameAs_12 : decode cX4_isSameAs 12 = .ok (.getfield 15, 3) := by decide +kernel
theorem dX4_isSameAs_15 : decode cX4_isSameAs 15 = .ok (.aload_n 1, 1) := by decide +kernel
theorem dX4_isSameAs_16 : decode cX4_isSameAs 16 = .ok (.getfield 15, 3) := by decide +kernel
theorem dX4_isSameAs_19 : decode cX4_isSameAs 19 = .ok (.if_icmp .ne 14, 3) := by decide +kernel
theorem dX4_isSameAs_22 : decode cX4_isSameAs 22 = .ok (.aload_n 0, 1) := by decide +kernel
theorem dX4_isSameAs_23 : decode cX4_isSameAs 23 = .ok (.getfield 26, 3) := by decide +kernel
theorem dX4_isSameAs_26 : decode cX4_isSameAs 26 = .ok (.aload_n 1, 1) := by decide +kernel
theorem dX4_isSameAs_27 : decode cX4_isSameAs 27 = .ok (.getfield 26, 3) := by decide +kernel
theorem dX4_isSameAs_30 : decode cX4_isSameAs 30 = .ok (.if_icmp .eq 5, 3) := by decide +kernel
theorem dX4_isSameAs_33 : decode cX4_isSameAs 33 = .ok (.iconst 0, 1) := by decide +kernel
theorem dX4_isSameAs_34 : decode cX4_isSameAs 34 = .ok (.ireturn, 1) := by decide +kernel
theorem dX4_isSameAs_35 : decode cX4_isSameAs 35 = .ok (.iconst 0, 1) := by decide +kernel
theorem dX4_isSameAs_36 : decode cX4_isSameAs 36 = .ok (.istore_n 2, 1) := by decide +kernel
theorem dX4_isSameAs_37 : decode cX4_isSameAs 37 = .ok (.iload_n 2, 1) := by decide +kernel
theorem dX4_isSameAs_38 : decode cX4_isSameAs 38 = .ok (.aload_n 0, 1) := by decide +kernel
theorem dX4_isSameAs_39 : decode cX4_isSameAs 39 = .ok (.getfield 15, 3) := by decide +kernel
theorem dX4_isSameAs_42 : decode cX4_isSameAs 42 = .ok (.if_icmp .ge 28, 3) := by decide +kernel
theorem dX4_isSameAs_45 : decode cX4_isSameAs 45 = .ok (.aload_n 0, 1) := by decide +kernel
theorem dX4_isSameAs_46 : decode cX4_isSameAs 46 = .ok (.getfield 18, 3) := by decide +kernel
theorem dX4_isSameAs_49 : decode cX4_isSameAs 49 = .ok (.iload_n 2, 1) := by decide +kernel
theorem dX4_isSameAs_50 : decode cX4_isSameAs 50 = .ok (.daload, 1) := by decide +kernel
theorem dX4_isSameAs_51 : decode cX4_isSameAs 51 = .ok (.aload_n 1, 1) := by decide +kernel
theorem dX4_isSameAs_52 : decode cX4_isSameAs 52 = .ok (.iload_n 2, 1) := by decide +kernel
theorem dX4_isSameAs_53 : decode cX4_isSameAs 53 = .ok (.invokevirtual 35, 3) := by decide +kernel
theorem dX4_isSameAs_56 : decode cX4_isSameAs 56 = .ok (.invokestatic 39, 3) := by decide +kernel
theorem dX4_isSameAs_59 : decode cX4_isSameAs 59 = .ok (.ifCond .ne 5, 3) := by decide +kernel
theorem dX4_isSameAs_62 : decode cX4_isSameAs 62 = .ok (.iconst 0, 1) := by decide +kernel
theorem dX4_isSameAs_63 : decode cX4_isSameAs 63 = .ok (.ireturn, 1) := by decide +kernel
theorem dX4_isSameAs_64 : decode cX4_isSameAs 64 = .ok (.iinc 2 1, 3) := by decide +kernel
theorem dX4_isSameAs_67 : decode cX4_isSameAs 67 = .ok (.goto (-30), 3) := by decide +kernel
theorem dX4_isSameAs_70 : decode cX4_isSameAs 70 = .ok (.iconst 1, 1) := by decide +kernel
theorem dX4_isSameAs_71 : decode cX4_isSameAs 71 = .ok (.ireturn, 1) := by decide +kernel
theorem dX4_haveSameBits_0 : decode cX4_haveSameBits 0 = .ok (.dload_n 0, 1) := by decide +kernel
theorem dX4_haveSameBits_1 : decode cX4_haveSameBits 1 = .ok (.dload_n 2, 1) := by decide +kernel
theorem dX4_haveSameBits_2 : decode cX4_haveSameBits 2 = .ok (.dcmp .l, 1) := by decide +kernel
theorem dX4_haveSameBits_3 : decode cX4_haveSameBits 3 = .ok (.ifCond .eq 5, 3) := by decide +kernel
theorem dX4_haveSameBits_6 : decode cX4_haveSameBits 6 = .ok (.iconst 0, 1) := by decide +kernel
theorem dX4_haveSameBits_7 : decode cX4_haveSameBits 7 = .ok (.ireturn, 1) := by decide +kernel
theorem dX4_haveSameBits_8 : decode cX4_haveSameBits 8 = .ok (.dload_n 0, 1) := by decide +kernel
theorem dX4_haveSameBits_9 : decode cX4_haveSameBits 9 = .ok (.dconst 0, 1) := by decide +kernel
theorem dX4_haveSameBits_10 : decode cX4_haveSameBits 10 = .ok (.dcmp .l, 1) := by decide +kernel
theorem dX4_haveSameBits_11 : decode cX4_haveSameBits 11 = .ok (.ifCond .ne 13, 3) := by decide +kernel
theorem dX4_haveSameBits_14 : decode cX4_haveSameBits 14 = .ok (.dconst 1, 1) := by decide +kernel
theorem dX4_haveSameBits_15 : decode cX4_haveSameBits 15 = .ok (.dload_n 0, 1) := by decide +kernel
theorem dX4_haveSameBits_16 : decode cX4_haveSameBits 16 = .ok (.ddiv, 1) := by decide +kernel
theorem dX4_haveSameBits_17 : decode cX4_haveSameBits 17 = .ok (.dconst 1, 1) := by decide +kernel
theorem dX4_haveSameBits_18 : decode cX4_haveSameBits 18 = .ok (.dload_n 2, 1) := by decide +kernel
theorem dX4_haveSameBits_19 : decode cX4_haveSameBits 19 = .ok (.ddiv, 1) := by decide +kernel
theorem dX4_haveSameBits_20 : decode cX4_haveSameBits 20 = .ok (.dcmp .l, 1) := by decide +kernel
theorem dX4_haveSameBits_21 : decode cX4_haveSameBits 21 = .ok (.ifCond .ne 7, 3) := by decide +kernel
theorem dX4_haveSameBits_24 : decode cX4_haveSameBits 24 = .ok (.iconst 1, 1) := by decide +kernel
theorem dX4_haveSameBits_25 : decode cX4_haveSameBits 25 = .ok (.goto 4, 3) := by decide +kernel
theorem dX4_haveSameBits_28 : decode cX4_haveSameBits 28 = .ok (.iconst 0, 1) := by decide +kernel
theorem dX4_haveSameBits_29 : decode cX4_haveSameBits 29 = .ok (.ireturn, 1) := by decide +kernel
theorem dX5_init_0 : decode cX5_init 0 = .ok (.aload_n 0, 1) := by decide +kernel
theorem dX5_init_1 : decode cX5_init 1 = .ok (.invokespecial 3, 3) := by decide +kernel
theorem dX5_init_4 : decode cX5_init 4 = .ok (.aload_n 0, 1) := by decide +kernel
theorem dX5_init_5 : decode cX5_init 5 = .ok (.iconst 4, 1) := by decide +kernel
theorem dX5_init_6 : decode cX5_init 6 = .ok (.anewarray 9, 3) := by decide +kernel
theorem dX5_init_9 : decode cX5_init 9 = .ok (.putfield 11, 3) := by decide +kernel
theorem dX5_init_12 : decode cX5_init 12 = .ok (.return_, 1) := by decide +kernel
theorem dX5_copyFrom_0 : decode cX5_copyFrom 0 = .ok (.aload_n 0, 1) := by decide +kernel
theorem dX5_copyFrom_1 : decode cX5_copyFrom 1 = .ok (.aload_n 1, 1) := by decide +kernel
theorem dX5_copyFrom_2 : decode cX5_copyFrom 2 = .ok (.getfield 17, 3) := by decide +kernel
theorem dX5_copyFrom_5 : decode cX5_copyFrom 5 = .ok (.putfield 17, 3) := by decide +kernel
theorem dX5_copyFrom_8 : decode cX5_copyFrom 8 = .ok (.aload_n 0, 1) := by decide +kernel
theorem dX5_copyFrom_9 : decode cX5_copyFrom 9 = .ok (.aload_n 1, 1) := by decide +kernel
theorem dX5_copyFrom_10 : decode cX5_copyFrom 10 = .ok (.getfield 21, 3) := by decide +kernel
theorem dX5_copyFrom_13 : decode cX5_copyFrom 13 = .ok (.putfield 21, 3) := by decide +kernel
theorem dX5_copyFrom_16 : decode cX5_copyFrom 16 = .ok (.aload_n 0, 1) := by decide +kernel
theorem dX5_copyFrom_17 : decode cX5_copyFrom 17 = .ok (.aload_n 1, 1) := by decide +kernel
theorem dX5_copyFrom_18 : decode cX5_copyFrom 18 = .ok (.getfield 25, 3) := by decide +kernel
theorem dX5_copyFrom_21 : decode cX5_copyFrom 21 = .ok (.putfield 25, 3) := by decide +kernel
theorem dX5_copyFrom_24 : decode cX5_copyFrom 24 = .ok (.aload_n 0, 1) := by decide +kernel
theorem dX5_copyFrom_25 : decode cX5_copyFrom 25 = .ok (.aload_n 1, 1) := by decide +kernel
theorem dX5_copyFrom_26 : decode cX5_copyFrom 26 = .ok (.getfield 29, 3) := by decide +kernel
theorem dX5_copyFrom_29 : decode cX5_copyFrom 29 = .ok (.putfield 29, 3) := by decide +kernel
theorem dX5_copyFrom_32 : decode cX5_copyFrom 32 = .ok (.aload_n 0, 1) := by decide +kernel
theorem dX5_copyFrom_33 : decode cX5_copyFrom 33 = .ok (.aload_n 1, 1) := by decide +kernel
theorem dX5_copyFrom_34 : decode cX5_copyFrom 34 = .ok (.getfield 32, 3) := by decide +kernel
theorem dX5_copyFrom_37 : decode cX5_copyFrom 37 = .ok (.putfield 32, 3) := by decide +kernel
theorem dX5_copyFrom_40 : decode cX5_copyFrom 40 = .ok (.aload_n 0, 1) := by decide +kernel
theorem dX5_copyFrom_41 : decode cX5_copyFrom 41 = .ok (.aload_n 1, 1) := by decide +kernel
theorem dX5_copyFrom_42 : decode cX5_copyFrom 42 = .ok (.getfield 35, 3) := by decide +kernel
theorem dX5_copyFrom_45 : decode cX5_copyFrom 45 = .ok (.putfield 35, 3) := by decide +kernel
theorem dX5_copyFrom_48 : decode cX5_copyFrom 48 = .ok (.aload_n 0, 1) := by decide +kernel
theorem dX5_copyFrom_49 : decode cX5_copyFrom 49 = .ok (.aload_n 1, 1) := by decide +kernel
theorem dX5_copyFrom_50 : decode cX5_copyFrom 50 = .ok (.getfield 38, 3) := by decide +kernel
theorem dX5_copyFrom_53 : decode cX5_copyFrom 53 = .ok (.putfield 38, 3) := by decide +kernel
theorem dX5_copyFrom_56 : decode cX5_copyFrom 56 = .ok (.iconst 0, 1) := by decide +kernel
theorem dX5_copyFrom_57 : decode cX5_copyFrom 57 = .ok (.istore_n 2, 1) := by decide +kernel
theorem dX5_copyFrom_58 : decode cX5_copyFrom 58 = .ok (.iload_n 2, 1) := by decide +kernel
theorem dX5_copyFrom_59 : decode cX5_copyFrom 59 = .ok (.iconst 4, 1) := by decide +kernel
theorem dX5_copyFrom_60 : decode cX5_copyFrom 60 = .ok (.if_icmp .ge 21, 3) := by decide +kernel
theorem dX5_copyFrom_63 : decode cX5_copyFrom 63 = .ok (.aload_n 0, 1) := by decide +kernel
theorem dX5_copyFrom_64 : decode cX5_copyFrom 64 = .ok (.getfield 11, 3) := by decide +kernel
theorem dX5_copyFrom_67 : decode cX5_copyFrom 67 = .ok (.iload_n 2, 1) := by decide +kernel
theorem dX5_copyFrom_68 : decode cX5_copyFrom 68 = .ok (.aload_n 1, 1) := by decide +kernel
theorem dX5_copyFrom_69 : decode cX5_copyFrom 69 = .ok (.getfield 11, 3) := by decide +kernel
theorem dX5_copyFrom_72 : decode cX5_copyFrom 72 = .ok (.iload_n 2, 1) := by decide +kernel
theorem dX5_copyFrom_73 : decode cX5_copyFrom 73 = .ok (.aaload, 1) := by decide +kernel
theorem dX5_copyFrom_74 : decode cX5_copyFrom 74 = .ok (.aastore, 1) := by decide +kernel
theorem dX5_copyFrom_75 : decode cX5_copyFrom 75 = .ok (.iinc 2 1, 3) := by decide +kernel
theorem dX5_copyFrom_78 : decode cX5_copyFrom 78 = .ok (.goto (-20), 3) := by decide +kernel
theorem dX5_copyFrom_81 : decode cX5_copyFrom 81 = .ok (.return_, 1) := by decide +kernel
theorem dX5_feed_0 : decode cX5_feed 0 = .ok (.iconst 3, 1) := by decide +kernel
theorem dX5_feed_1 : decode cX5_feed 1 = .ok (.istore_n 2, 1) := by decide +kernel
theorem dX5_feed_2 : decode cX5_feed 2 = .ok (.iload_n 2, 1) := by decide +kernel
theorem dX5_feed_3 : decode cX5_feed 3 = .ok (.ifCond .le 23, 3) := by decide +kernel
theorem dX5_feed_6 : decode cX5_feed 6 = .ok (.aload_n 0, 1) := by decide +kernel
theorem dX5_feed_7 : decode cX5_feed 7 = .ok (.getfield 11, 3) := by decide +kernel
theorem dX5_feed_10 : decode cX5_feed 10 = .ok (.iload_n 2, 1) := by decide +kernel
theorem dX5_feed_11 : decode cX5_feed 11 = .ok (.aload_n 0, 1) := by decide +kernel
theorem dX5_feed_12 : decode cX5_feed 12 = .ok (.getfield 11, 3) := by decide +kernel
theorem dX5_feed_15 : decode cX5_feed 15 = .ok (.iload_n 2, 1) := by decide +kernel
theorem dX5_feed_16 : decode cX5_feed 16 = .ok (.iconst 1, 1) := by decide +kernel
theorem dX5_feed_17 : decode cX5_feed 17 = .ok (.isub, 1) := by decide +kernel
theorem dX5_feed_18 : decode cX5_feed 18 = .ok (.aaload, 1) := by decide +kernel
theorem dX5_feed_19 : decode cX5_feed 19 = .ok (.aastore, 1) := by decide +kernel
theorem dX5_feed_20 : decode cX5_feed 20 = .ok (.iinc 2 (-1), 3) := by decide +kernel
theorem dX5_feed_23 : decode cX5_feed 23 = .ok (.goto (-21), 3) := by decide +kernel
theorem dX5_feed_26 : decode cX5_feed 26 = .ok (.aload_n 0, 1) := by decide +kernel
theorem dX5_feed_27 : decode cX5_feed 27 = .ok (.getfield 11, 3) := by decide +kernel
theorem dX5_feed_30 : decode cX5_feed 30 = .ok (.iconst 0, 1) := by decide +kernel
theorem dX5_feed_31 : decode cX5_feed 31 = .ok (.aload_n 1, 1) := by decide +kernel
theorem dX5_feed_32 : decode cX5_feed 32 = .ok (.aastore, 1) := by decide +kernel
theorem dX5_feed_33 : decode cX5_feed 33 = .ok (.return_, 1) := by decide +kernel
theorem dX5_fedAgo_0 : decode cX5_fedAgo 0 = .ok (.aload_n 0, 1) := by decide +kernel
theorem dX5_fedAgo_1 : decode cX5_fedAgo 1 = .ok (.getfield 11, 3) := by decide +kernel
theorem dX5_fedAgo_4 : decode cX5_fedAgo 4 = .ok (.iconst 1, 1) := by decide +kernel
theorem dX5_fedAgo_5 : decode cX5_fedAgo 5 = .ok (.iconst 4, 1) := by decide +kernel
theorem dX5_fedAgo_6 : decode cX5_fedAgo 6 = .ok (.iload_n 1, 1) := by decide +kernel
theorem dX5_fedAgo_7 : decode cX5_fedAgo 7 = .ok (.invokestatic 41, 3) := by decide +kernel
theorem dX5_fedAgo_10 : decode cX5_fedAgo 10 = .ok (.invokestatic 47, 3) := by decide +kernel
theorem dX5_fedAgo_13 : decode cX5_fedAgo 13 = .ok (.iconst 1, 1) := by decide +kernel
theorem dX5_fedAgo_14 : decode cX5_fedAgo 14 = .ok (.isub, 1) := by decide +kernel
theorem dX5_fedAgo_15 : decode cX5_fedAgo 15 = .ok (.aaload, 1) := by decide +kernel
theorem dX5_fedAgo_16 : decode cX5_fedAgo 16 = .ok (.areturn, 1) := by decide +kernel
theorem dX5_heldWithin_0 : decode cX5_heldWithin 0 = .ok (.lload_n 3, 1) := by decide +kernel
theorem dX5_heldWithin_1 : decode cX5_heldWithin 1 = .ok (.iload_n 1, 1) := by decide +kernel
theorem dX5_heldWithin_2 : decode cX5_heldWithin 2 = .ok (.i2l, 1) := by decide +kernel
theorem dX5_heldWithin_3 : decode cX5_heldWithin 3 = .ok (.lcmp, 1) := by decide +kernel
theorem dX5_heldWithin_4 : decode cX5_heldWithin 4 = .ok (.ifCond .lt 13, 3) := by decide +kernel
theorem dX5_heldWithin_7 : decode cX5_heldWithin 7 = .ok (.lload_n 3, 1) := by decide +kernel
theorem dX5_heldWithin_8 : decode cX5_heldWithin 8 = .ok (.iload_n 2, 1) := by decide +kernel
theorem dX5_heldWithin_9 : decode cX5_heldWithin 9 = .ok (.i2l, 1) := by decide +kernel
theorem dX5_heldWithin_10 : decode cX5_heldWithin 10 = .ok (.lcmp, 1) := by decide +kernel
theorem dX5_heldWithin_11 : decode cX5_heldWithin 11 = .ok (.ifCond .gt 6, 3) := by decide +kernel
theorem dX5_heldWithin_14 : decode cX5_heldWithin 14 = .ok (.lload_n 3, 1) := by decide +kernel
theorem dX5_heldWithin_15 : decode cX5_heldWithin 15 = .ok (.l2i, 1) := by decide +kernel
theorem dX5_heldWithin_16 : decode cX5_heldWithin 16 = .ok (.ireturn, 1) := by decide +kernel
theorem dX5_heldWithin_17 : decode cX5_heldWithin 17 = .ok (.aload_n 0, 1) := by decide +kernel
theorem dX5_heldWithin_18 : decode cX5_heldWithin 18 = .ok (.dup, 1) := by decide +kernel
theorem dX5_heldWithin_19 : decode cX5_heldWithin 19 = .ok (.getfield 35, 3) := by decide +kernel
theorem dX5_heldWithin_22 : decode cX5_heldWithin 22 = .ok (.iconst 1, 1) := by decide +kernel
theorem dX5_heldWithin_23 : decode cX5_heldWithin 23 = .ok (.iadd, 1) := by decide +kernel
theorem dX5_heldWithin_24 : decode cX5_heldWithin 24 = .ok (.putfield 35, 3) := by decide +kernel
theorem dX5_heldWithin_27 : decode cX5_heldWithin 27 = .ok (.lload_n 3, 1) := by decide +kernel
theorem dX5_heldWithin_28 : decode cX5_heldWithin 28 = .ok (.iload_n 1, 1) := by decide +kernel
theorem dX5_heldWithin_29 : decode cX5_heldWithin 29 = .ok (.i2l, 1) := by decide +kernel
theorem dX5_heldWithin_30 : decode cX5_heldWithin 30 = .ok (.lcmp, 1) := by decide +kernel
theorem dX5_heldWithin_31 : decode cX5_heldWithin 31 = .ok (.ifCond .ge 7, 3) := by decide +kernel
theorem dX5_heldWithin_34 : decode cX5_heldWithin 34 = .ok (.iload_n 1, 1) := by decide +kernel
theorem dX5_heldWithin_35 : decode cX5_heldWithin 35 = .ok (.goto 4, 3) := by decide +kernel
theorem dX5_heldWithin_38 : decode cX5_heldWithin 38 = .ok (.iload_n 2, 1) := by decide +kernel
theorem dX5_heldWithin_39 : decode cX5_heldWithin 39 = .ok (.ireturn, 1) := by decide +kernel
theorem dX6_init_0 : decode cX6_init 0 = .ok (.aload_n 0, 1) := by decide +kernel
theorem dX6_init_1 : decode cX6_init 1 = .ok (.invokespecial 3, 3) := by decide +kernel
theorem dX6_init_4 : decode cX6_init 4 = .ok (.aload_n 0, 1) := by decide +kernel
theorem dX6_init_5 : decode cX6_init 5 = .ok (.bipush 8, 2) := by decide +kernel
theorem dX6_init_7 : decode cX6_init 7 = .ok (.bipush 16, 2) := by decide +kernel
theorem dX6_init_9 : decode cX6_init 9 = .ok (.multianewarray 9 2, 4) := by decide +kernel
theorem dX6_init_13 : decode cX6_init 13 = .ok (.putfield 11, 3) := by decide +kernel
theorem dX6_init_16 : decode cX6_init 16 = .ok (.aload_n 0, 1) := by decide +kernel
theorem dX6_init_17 : decode cX6_init 17 = .ok (.bipush 8, 2) := by decide +kernel
theorem dX6_init_19 : decode cX6_init 19 = .ok (.newarray .int, 2) := by decide +kernel
theorem dX6_init_21 : decode cX6_init 21 = .ok (.putfield 16, 3) := by decide +kernel
theorem dX6_init_24 : decode cX6_init 24 = .ok (.iconst 0, 1) := by decide +kernel
theorem dX6_init_25 : decode cX6_init 25 = .ok (.istore_n 1, 1) := by decide +kernel
theorem dX6_init_26 : decode cX6_init 26 = .ok (.iload_n 1, 1) := by decide +kernel
theorem dX6_init_27 : decode cX6_init 27 = .ok (.bipush 8, 2) := by decide +kernel
theorem dX6_init_29 : decode cX6_init 29 = .ok (.if_icmp .ge 16, 3) := by decide +kernel
theorem dX6_init_32 : decode cX6_init 32 = .ok (.aload_n 0, 1) := by decide +kernel
theorem dX6_init_33 : decode cX6_init 33 = .ok (.getfield 16, 3) := by decide +kernel
theorem dX6_init_36 : decode cX6_init 36 = .ok (.iload_n 1, 1) := by decide +kernel
theorem dX6_init_37 : decode cX6_init 37 = .ok (.iconst (-1), 1) := by decide +kernel
theorem dX6_init_38 : decode cX6_init 38 = .ok (.iastore, 1) := by decide +kernel
theorem dX6_init_39 : decode cX6_init 39 = .ok (.iinc 1 1, 3) := by decide +kernel
theorem dX6_init_42 : decode cX6_init 42 = .ok (.goto (-16), 3) := by decide +kernel
theorem dX6_init_45 : decode cX6_init 45 = .ok (.return_, 1) := by decide +kernel
theorem dX6_has_0 : decode cX6_has 0 = .ok (.iload_n 1, 1) := by decide +kernel
theorem dX6_has_1 : decode cX6_has 1 = .ok (.ifCond .lt 13, 3) := by decide +kernel
theorem dX6_has_4 : decode cX6_has 4 = .ok (.iload_n 1, 1) := by decide +kernel
theorem dX6_has_5 : decode cX6_has 5 = .ok (.bipush 8, 2) := by decide +kernel
theorem dX6_has_7 : decode cX6_has 7 = .ok (.if_icmp .ge 7, 3) := by decide +kernel
theorem dX6_has_10 : decode cX6_has 10 = .ok (.iconst 1, 1) := by decide +kernel
theorem dX6_has_11 : decode cX6_has 11 = .ok (.goto 4, 3) := by decide +kernel
theorem dX6_has_14 : decode cX6_has 14 = .ok (.iconst 0, 1) := by decide +kernel
theorem dX6_has_15 : decode cX6_has 15 = .ok (.ireturn, 1) := by decide +kernel
theorem dX6_lengthOf_0 : decode cX6_lengthOf 0 = .ok (.aload_n 0, 1) := by decide +kernel
theorem dX6_lengthOf_1 : decode cX6_lengthOf 1 = .ok (.iload_n 1, 1) := by decide +kernel
theorem dX6_lengthOf_2 : decode cX6_lengthOf 2 = .ok (.invokevirtual 20, 3) := by decide +kernel
theorem dX6_lengthOf_5 : decode cX6_lengthOf 5 = .ok (.ifCond .eq 12, 3) := by decide +kernel
theorem dX6_lengthOf_8 : decode cX6_lengthOf 8 = .ok (.aload_n 0, 1) := by decide +kernel
theorem dX6_lengthOf_9 : decode cX6_lengthOf 9 = .ok (.getfield 16, 3) := by decide +kernel
theorem dX6_lengthOf_12 : decode cX6_lengthOf 12 = .ok (.iload_n 1, 1) := by decide +kernel
theorem dX6_lengthOf_13 : decode cX6_lengthOf 13 = .ok (.iaload, 1) := by decide +kernel
theorem dX6_lengthOf_14 : decode cX6_lengthOf 14 = .ok (.goto 4, 3) := by decide +kernel
theorem dX6_lengthOf_17 : decode cX6_lengthOf 17 = .ok (.iconst (-1), 1) := by decide +kernel
theorem dX6_lengthOf_18 : decode cX6_lengthOf 18 = .ok (.ireturn, 1) := by decide +kernel
theorem dX6_isMissing_0 : decode cX6_isMissing 0 = .ok (.aload_n 0, 1) := by decide +kernel
theorem dX6_isMissing_1 : decode cX6_isMissing 1 = .ok (.iload_n 1, 1) := by decide +kernel
theorem dX6_isMissing_2 : decode cX6_isMissing 2 = .ok (.invokevirtual 24, 3) := by decide +kernel
theorem dX6_isMissing_5 : decode cX6_isMissing 5 = .ok (.iconst (-1), 1) := by decide +kernel
theorem dX6_isMissing_6 : decode cX6_isMissing 6 = .ok (.if_icmp .ne 7, 3) := by decide +kernel
theorem dX6_isMissing_9 : decode cX6_isMissing 9 = .ok (.iconst 1, 1) := by decide +kernel
theorem dX6_isMissing_10 : decode cX6_isMissing 10 = .ok (.goto 4, 3) := by decide +kernel
theorem dX6_isMissing_13 : decode cX6_isMissing 13 = .ok (.iconst 0, 1) := by decide +kernel
theorem dX6_isMissing_14 : decode cX6_isMissing 14 = .ok (.ireturn, 1) := by decide +kernel
theorem dX6_hasPlace_0 : decode cX6_hasPlace 0 = .ok (.iload_n 2, 1) := by decide +kernel
theorem dX6_hasPlace_1 : decode cX6_hasPlace 1 = .ok (.ifCond .lt 16, 3) := by decide +kernel
theorem dX6_hasPlace_4 : decode cX6_hasPlace 4 = .ok (.iload_n 2, 1) := by decide +kernel
theorem dX6_hasPlace_5 : decode cX6_hasPlace 5 = .ok (.aload_n 0, 1) := by decide +kernel
theorem dX6_hasPlace_6 : decode cX6_hasPlace 6 = .ok (.iload_n 1, 1) := by decide +kernel
theorem dX6_hasPlace_7 : decode cX6_hasPlace 7 = .ok (.invokevirtual 24, 3) := by decide +kernel
theorem dX6_hasPlace_10 : decode cX6_hasPlace 10 = .ok (.if_icmp .ge 7, 3) := by decide +kernel
theorem dX6_hasPlace_13 : decode cX6_hasPlace 13 = .ok (.iconst 1, 1) := by decide +kernel
theorem dX6_hasPlace_14 : decode cX6_hasPlace 14 = .ok (.goto 4, 3) := by decide +kernel
theorem dX6_hasPlace_17 : decode cX6_hasPlace 17 = .ok (.iconst 0, 1) := by decide +kernel
theorem dX6_hasPlace_18 : decode cX6_hasPlace 18 = .ok (.ireturn, 1) := by decide +kernel
theorem dX6_renew_0 : decode cX6_renew 0 = .ok (.aload_n 0, 1) := by decide +kernel
theorem dX6_renew_1 : decode cX6_renew 1 = .ok (.iload_n 1, 1) := by decide +kernel
theorem dX6_renew_2 : decode cX6_renew 2 = .ok (.invokevirtual 20, 3) := by decide +kernel
theorem dX6_renew_5 : decode cX6_renew 5 = .ok (.ifCond .eq 33, 3) := by decide +kernel
theorem dX6_renew_8 : decode cX6_renew 8 = .ok (.aload_n 0, 1) := by decide +kernel
theorem dX6_renew_9 : decode cX6_renew 9 = .ok (.getfield 16, 3) := by decide +kernel
theorem dX6_renew_12 : decode cX6_renew 12 = .ok (.iload_n 1, 1) := by decide +kernel
theorem dX6_renew_13 : decode cX6_renew 13 = .ok (.iload_n 2, 1) := by decide +kernel
theorem dX6_renew_14 : decode cX6_renew 14 = .ok (.iastore, 1) := by decide +kernel
theorem dX6_renew_15 : decode cX6_renew 15 = .ok (.iconst 0, 1) := by decide +kernel
theorem dX6_renew_16 : decode cX6_renew 16 = .ok (.istore_n 3, 1) := by decide +kernel
theorem dX6_renew_17 : decode cX6_renew 17 = .ok (.iload_n 3, 1) := by decide +kernel
theorem dX6_renew_18 : decode cX6_renew 18 = .ok (.bipush 16, 2) := by decide +kernel
theorem dX6_renew_20 : decode cX6_renew 20 = .ok (.if_icmp .ge 18, 3) := by decide +kernel
theorem dX6_renew_23 : decode cX6_renew 23 = .ok (.aload_n 0, 1) := by decide +kernel
theorem dX6_renew_24 : decode cX6_renew 24 = .ok (.getfield 11, 3) := by decide +kernel
theorem dX6_renew_27 : decode cX6_renew 27 = .ok (.iload_n 1, 1) := by decide +kernel
theorem dX6_renew_28 : decode cX6_renew 28 = .ok (.aaload, 1) := by decide +kernel
theorem dX6_renew_29 : decode cX6_renew 29 = .ok (.iload_n 3, 1) := by decide +kernel
theorem dX6_renew_30 : decode cX6_renew 30 = .ok (.iconst 0, 1) := by decide +kernel
theorem dX6_renew_31 : decode cX6_renew 31 = .ok (.iastore, 1) := by decide +kernel
theorem dX6_renew_32 : decode cX6_renew 32 = .ok (.iinc 3 1, 3) := by decide +kernel
theorem dX6_renew_35 : decode cX6_renew 35 = .ok (.goto (-18), 3) := by decide +kernel
theorem dX6_renew_38 : decode cX6_renew 38 = .ok (.return_, 1) := by decide +kernel
theorem dX6_put_0 : decode cX6_put 0 = .ok (.aload_n 0, 1) := by decide +kernel
theorem dX6_put_1 : decode cX6_put 1 = .ok (.iload_n 1, 1) := by decide +kernel
theorem dX6_put_2 : decode cX6_put 2 = .ok (.iload_n 2, 1) := by decide +kernel
theorem dX6_put_3 : decode cX6_put 3 = .ok (.invokevirtual 28, 3) := by decide +kernel
theorem dX6_put_6 : decode cX6_put 6 = .ok (.ifCond .eq 12, 3) := by decide +kernel
theorem dX6_put_9 : decode cX6_put 9 = .ok (.aload_n 0, 1) := by decide +kernel
theorem dX6_put_10 : decode cX6_put 10 = .ok (.getfield 11, 3) := by decide +kernel
theorem dX6_put_13 : decode cX6_put 13 = .ok (.iload_n 1, 1) := by decide +kernel
theorem dX6_put_14 : decode cX6_put 14 = .ok (.aaload, 1) := by decide +kernel
theorem dX6_put_15 : decode cX6_put 15 = .ok (.iload_n 2, 1) := by decide +kernel
theorem dX6_put_16 : decode cX6_put 16 = .ok (.iload_n 3, 1) := by decide +kernel
theorem dX6_put_17 : decode cX6_put 17 = .ok (.iastore, 1) := by decide +kernel
theorem dX6_put_18 : decode cX6_put 18 = .ok (.return_, 1) := by decide +kernel
theorem dX6_at_0 : decode cX6_at 0 = .ok (.aload_n 0, 1) := by decide +kernel
theorem dX6_at_1 : decode cX6_at 1 = .ok (.iload_n 1, 1) := by decide +kernel
theorem dX6_at_2 : decode cX6_at 2 = .ok (.iload_n 2, 1) := by decide +kernel
theorem dX6_at_3 : decode cX6_at 3 = .ok (.invokevirtual 28, 3) := by decide +kernel
theorem dX6_at_6 : decode cX6_at 6 = .ok (.ifCond .eq 14, 3) := by decide +kernel
theorem dX6_at_9 : decode cX6_at 9 = .ok (.aload_n 0, 1) := by decide +kernel
theorem dX6_at_10 : decode cX6_at 10 = .ok (.getfield 11, 3) := by decide +kernel
theorem dX6_at_13 : decode cX6_at 13 = .ok (.iload_n 1, 1) := by decide +kernel
theorem dX6_at_14 : decode cX6_at 14 = .ok (.aaload, 1) := by decide +kernel
theorem dX6_at_15 : decode cX6_at 15 = .ok (.iload_n 2, 1) := by decide +kernel
theorem dX6_at_16 : decode cX6_at 16 = .ok (.iaload, 1) := by decide +kernel
theorem dX6_at_17 : decode cX6_at 17 = .ok (.goto 4, 3) := by decide +kernel
theorem dX6_at_20 : decode cX6_at 20 = .ok (.iconst 0, 1) := by decide +kernel
theorem dX6_at_21 : decode cX6_at 21 = .ok (.ireturn, 1) := by decide +kernel
theorem dX7_init_0 : decode cX7_init 0 = .ok (.aload_n 0, 1) := by decide +kernel
theorem dX7_init_1 : decode cX7_init 1 = .ok (.invokespecial 3, 3) := by decide +kernel
theorem dX7_init_4 : decode cX7_init 4 = .ok (.aload_n 0, 1) := by decide +kernel
theorem dX7_init_5 : decode cX7_init 5 = .ok (.bipush 40, 2) := by decide +kernel
theorem dX7_init_7 : decode cX7_init 7 = .ok (.anewarray 9, 3) := by decide +kernel
theorem dX7_init_10 : decode cX7_init 10 = .ok (.putfield 11, 3) := by decide +kernel
theorem dX7_init_13 : decode cX7_init 13 = .ok (.return_, 1) := by decide +kernel
theorem dX7_isFull_0 : decode cX7_isFull 0 = .ok (.aload_n 0, 1) := by decide +kernel
theorem dX7_isFull_1 : decode cX7_isFull 1 = .ok (.getfield 17, 3) := by decide +kernel
theorem dX7_isFull_4 : decode cX7_isFull 4 = .ok (.bipush 40, 2) := by decide +kernel
theorem dX7_isFull_6 : decode cX7_isFull 6 = .ok (.if_icmp .lt 7, 3) := by decide +kernel
theorem dX7_isFull_9 : decode cX7_isFull 9 = .ok (.iconst 1, 1) := by decide +kernel
theorem dX7_isFull_10 : decode cX7_isFull 10 = .ok (.goto 4, 3) := by decide +kernel
theorem dX7_isFull_13 : decode cX7_isFull 13 = .ok (.iconst 0, 1) := by decide +kernel
theorem dX7_isFull_14 : decode cX7_isFull 14 = .ok (.ireturn, 1) := by decide +kernel
theorem dX7_add_0 : decode cX7_add 0 = .ok (.aload_n 0, 1) := by decide +kernel
theorem dX7_add_1 : decode cX7_add 1 = .ok (.getfield 11, 3) := by decide +kernel
theorem dX7_add_4 : decode cX7_add 4 = .ok (.aload_n 0, 1) := by decide +kernel
theorem dX7_add_5 : decode cX7_add 5 = .ok (.getfield 17, 3) := by decide +kernel
theorem dX7_add_8 : decode cX7_add 8 = .ok (.aload_n 1, 1) := by decide +kernel
theorem dX7_add_9 : decode cX7_add 9 = .ok (.aastore, 1) := by decide +kernel
theorem dX7_add_10 : decode cX7_add 10 = .ok (.aload_n 0, 1) := by decide +kernel
theorem dX7_add_11 : decode cX7_add 11 = .ok (.dup, 1) := by decide +kernel
theorem dX7_add_12 : decode cX7_add 12 = .ok (.getfield 17, 3) := by decide +kernel
theorem dX7_add_15 : decode cX7_add 15 = .ok (.iconst 1, 1) := by decide +kernel
theorem dX7_add_16 : decode cX7_add 16 = .ok (.iadd, 1) := by decide +kernel
theorem dX7_add_17 : decode cX7_add 17 = .ok (.putfield 17, 3) := by decide +kernel
theorem dX7_add_20 : decode cX7_add 20 = .ok (.aload_n 0, 1) := by decide +kernel
theorem dX7_add_21 : decode cX7_add 21 = .ok (.getfield 17, 3) := by decide +kernel
theorem dX7_add_24 : decode cX7_add 24 = .ok (.ireturn, 1) := by decide +kernel
theorem dX7_at_0 : decode cX7_at 0 = .ok (.iload_n 1, 1) := by decide +kernel
theorem dX7_at_1 : decode cX7_at 1 = .ok (.iconst 1, 1) := by decide +kernel
theorem dX7_at_2 : decode cX7_at 2 = .ok (.if_icmp .lt 22, 3) := by decide +kernel
theorem dX7_at_5 : decode cX7_at 5 = .ok (.iload_n 1, 1) := by decide +kernel
theorem dX7_at_6 : decode cX7_at 6 = .ok (.aload_n 0, 1) := by decide +kernel
theorem dX7_at_7 : decode cX7_at 7 = .ok (.getfield 17, 3) := by decide +kernel
theorem dX7_at_10 : decode cX7_at 10 = .ok (.if_icmp .gt 14, 3) := by decide +kernel
theorem dX7_at_13 : decode cX7_at 13 = .ok (.aload_n 0, 1) := by decide +kernel
theorem dX7_at_14 : decode cX7_at 14 = .ok (.getfield 11, 3) := by decide +kernel
theorem dX7_at_17 : decode cX7_at 17 = .ok (.iload_n 1, 1) := by decide +kernel
theorem dX7_at_18 : decode cX7_at 18 = .ok (.iconst 1, 1) := by decide +kernel
theorem dX7_at_19 : decode cX7_at 19 = .ok (.isub, 1) := by decide +kernel
theorem dX7_at_20 : decode cX7_at 20 = .ok (.aaload, 1) := by decide +kernel
theorem dX7_at_21 : decode cX7_at 21 = .ok (.goto 4, 3) := by decide +kernel
theorem dX7_at_24 : decode cX7_at 24 = .ok (.aconst_null, 1) := by decide +kernel
theorem dX7_at_25 : decode cX7_at 25 = .ok (.areturn, 1) := by decide +kernel
theorem dX8_init_0 : decode cX8_init 0 = .ok (.aload_n 0, 1) := by decide +kernel
theorem dX8_init_1 : decode cX8_init 1 = .ok (.invokespecial 3, 3) := by decide +kernel
theorem dX8_init_4 : decode cX8_init 4 = .ok (.aload_n 0, 1) := by decide +kernel
theorem dX8_init_5 : decode cX8_init 5 = .ok (.iconst 3, 1) := by decide +kernel
theorem dX8_init_6 : decode cX8_init 6 = .ok (.newarray .int, 2) := by decide +kernel
theorem dX8_init_8 : decode cX8_init 8 = .ok (.putfield 9, 3) := by decide +kernel
theorem dX8_init_11 : decode cX8_init 11 = .ok (.aload_n 0, 1) := by decide +kernel
theorem dX8_init_12 : decode cX8_init 12 = .ok (.new 15, 3) := by decide +kernel
theorem dX8_init_15 : decode cX8_init 15 = .ok (.dup, 1) := by decide +kernel
theorem dX8_init_16 : decode cX8_init 16 = .ok (.invokespecial 17, 3) := by decide +kernel
theorem dX8_init_19 : decode cX8_init 19 = .ok (.putfield 18, 3) := by decide +kernel
theorem dX8_init_22 : decode cX8_init 22 = .ok (.aload_n 0, 1) := by decide +kernel
theorem dX8_init_23 : decode cX8_init 23 = .ok (.bipush 9, 2) := by decide +kernel
theorem dX8_init_25 : decode cX8_init 25 = .ok (.anewarray 15, 3) := by decide +kernel
theorem dX8_init_28 : decode cX8_init 28 = .ok (.putfield 22, 3) := by decide +kernel
theorem dX8_init_31 : decode cX8_init 31 = .ok (.aload_n 0, 1) := by decide +kernel
theorem dX8_init_32 : decode cX8_init 32 = .ok (.iload_n 1, 1) := by decide +kernel
theorem dX8_init_33 : decode cX8_init 33 = .ok (.putfield 26, 3) := by decide +kernel
theorem dX8_init_36 : decode cX8_init 36 = .ok (.aload_n 0, 1) := by decide +kernel
theorem dX8_init_37 : decode cX8_init 37 = .ok (.iload_n 2, 1) := by decide +kernel
theorem dX8_init_38 : decode cX8_init 38 = .ok (.putfield 30, 3) := by decide +kernel
theorem dX8_init_41 : decode cX8_init 41 = .ok (.aload_n 0, 1) := by decide +kernel
theorem dX8_init_42 : decode cX8_init 42 = .ok (.iload_n 3, 1) := by decide +kernel
theorem dX8_init_43 : decode cX8_init 43 = .ok (.putfield 33, 3) := by decide +kernel
theorem dX8_init_46 : decode cX8_init 46 = .ok (.aload_n 0, 1) := by decide +kernel
theorem dX8_init_47 : decode cX8_init 47 = .ok (.iload_n 2, 1) := by decide +kernel
theorem dX8_init_48 : decode cX8_init 48 = .ok (.iconst 5, 1) := by decide +kernel
theorem dX8_init_49 : decode cX8_init 49 = .ok (.if_icmp .ne 7, 3) := by decide +kernel
theorem dX8_init_52 : decode cX8_init 52 = .ok (.iconst 3, 1) := by decide +kernel
theorem dX8_init_53 : decode cX8_init 53 = .ok (.goto 4, 3) := by decide +kernel
theorem dX8_init_56 : decode cX8_init 56 = .ok (.iconst 2, 1) := by decide +kernel
theorem dX8_init_57 : decode cX8_init 57 = .ok (.newarray .int, 2) := by decide +kernel
theorem dX8_init_59 : decode cX8_init 59 = .ok (.putfield 36, 3) := by decide +kernel
theorem dX8_init_62 : decode cX8_init 62 = .ok (.iconst 0, 1) := by decide +kernel
theorem dX8_init_63 : decode cX8_init 63 = .ok (.istore 4, 2) := by decide +kernel
theorem dX8_init_65 : decode cX8_init 65 = .ok (.iload 4, 2) := by decide +kernel
theorem dX8_init_67 : decode cX8_init 67 = .ok (.aload_n 0, 1) := by decide +kernel
theorem dX8_init_68 : decode cX8_init 68 = .ok (.getfield 36, 3) := by decide +kernel
theorem dX8_init_71 : decode cX8_init 71 = .ok (.arraylength, 1) := by decide +kernel
theorem dX8_init_72 : decode cX8_init 72 = .ok (.if_icmp .ge 17, 3) := by decide +kernel
theorem dX8_init_75 : decode cX8_init 75 = .ok (.aload_n 0, 1) := by decide +kernel
theorem dX8_init_76 : decode cX8_init 76 = .ok (.getfield 36, 3) := by decide +kernel
theorem dX8_init_79 : decode cX8_init 79 = .ok (.iload 4, 2) := by decide +kernel
theorem dX8_init_81 : decode cX8_init 81 = .ok (.iconst (-1), 1) := by decide +kernel
theorem dX8_init_82 : decode cX8_init 82 = .ok (.iastore, 1) := by decide +kernel
theorem dX8_init_83 : decode cX8_init 83 = .ok (.iinc 4 1, 3) := by decide +kernel
theorem dX8_init_86 : decode cX8_init 86 = .ok (.goto (-21), 3) := by decide +kernel
theorem dX8_init_89 : decode cX8_init 89 = .ok (.iconst 0, 1) := by decide +kernel
theorem dX8_init_90 : decode cX8_init 90 = .ok (.istore 4, 2) := by decide +kernel
theorem dX8_init_92 : decode cX8_init 92 = .ok (.iload 4, 2) := by decide +kernel
theorem dX8_init_94 : decode cX8_init 94 = .ok (.bipush 9, 2) := by decide +kernel
theorem dX8_init_96 : decode cX8_init 96 = .ok (.if_icmp .ge 23, 3) := by decide +kernel
theorem dX8_init_99 : decode cX8_init 99 = .ok (.aload_n 0, 1) := by decide +kernel
theorem dX8_init_100 : decode cX8_init 100 = .ok (.getfield 22, 3) := by decide +kernel
theorem dX8_init_103 : decode cX8_init 103 = .ok (.iload 4, 2) := by decide +kernel
theorem dX8_init_105 : decode cX8_init 105 = .ok (.new 15, 3) := by decide +kernel
theorem dX8_init_108 : decode cX8_init 108 = .ok (.dup, 1) := by decide +kernel
theorem dX8_init_109 : decode cX8_init 109 = .ok (.invokespecial 17, 3) := by decide +kernel
theorem dX8_init_112 : decode cX8_init 112 = .ok (.aastore, 1) := by decide +kernel
theorem dX8_init_113 : decode cX8_init 113 = .ok (.iinc 4 1, 3) := by decide +kernel
theorem dX8_init_116 : decode cX8_init 116 = .ok (.goto (-24), 3) := by decide +kernel
theorem dX8_init_119 : decode cX8_init 119 = .ok (.return_, 1) := by decide +kernel
theorem dX8_hasIn_0 : decode cX8_hasIn 0 = .ok (.iload_n 1, 1) := by decide +kernel
theorem dX8_hasIn_1 : decode cX8_hasIn 1 = .ok (.ifCond .lt 16, 3) := by decide +kernel
theorem dX8_hasIn_4 : decode cX8_hasIn 4 = .ok (.iload_n 1, 1) := by decide +kernel
theorem dX8_hasIn_5 : decode cX8_hasIn 5 = .ok (.aload_n 0, 1) := by decide +kernel
theorem dX8_hasIn_6 : decode cX8_hasIn 6 = .ok (.getfield 36, 3) := by decide +kernel
theorem dX8_hasIn_9 : decode cX8_hasIn 9 = .ok (.arraylength, 1) := by decide +kernel
theorem dX8_hasIn_10 : decode cX8_hasIn 10 = .ok (.if_icmp .ge 7, 3) := by decide +kernel
theorem dX8_hasIn_13 : decode cX8_hasIn 13 = .ok (.iconst 1, 1) := by decide +kernel
theorem dX8_hasIn_14 : decode cX8_hasIn 14 = .ok (.goto 4, 3) := by decide +kernel
theorem dX8_hasIn_17 : decode cX8_hasIn 17 = .ok (.iconst 0, 1) := by decide +kernel
theorem dX8_hasIn_18 : decode cX8_hasIn 18 = .ok (.ireturn, 1) := by decide +kernel
theorem dX8_inCount_0 : decode cX8_inCount 0 = .ok (.aload_n 0, 1) := by decide +kernel
theorem dX8_inCount_1 : decode cX8_inCount 1 = .ok (.getfield 36, 3) := by decide +kernel
theorem dX8_inCount_4 : decode cX8_inCount 4 = .ok (.arraylength, 1) := by decide +kernel
theorem dX8_inCount_5 : decode cX8_inCount 5 = .ok (.ireturn, 1) := by decide +kernel
theorem dX8_cordOf_0 : decode cX8_cordOf 0 = .ok (.aload_n 0, 1) := by decide +kernel
theorem dX8_cordOf_1 : decode cX8_cordOf 1 = .ok (.iload_n 1, 1) := by decide +kernel
theorem dX8_cordOf_2 : decode cX8_cordOf 2 = .ok (.invokevirtual 39, 3) := by decide +kernel
theorem dX8_cordOf_5 : decode cX8_cordOf 5 = .ok (.ifCond .eq 12, 3) := by decide +kernel
theorem dX8_cordOf_8 : decode cX8_cordOf 8 = .ok (.aload_n 0, 1) := by decide +kernel
theorem dX8_cordOf_9 : decode cX8_cordOf 9 = .ok (.getfield 36, 3) := by decide +kernel
theorem dX8_cordOf_12 : decode cX8_cordOf 12 = .ok (.iload_n 1, 1) := by decide +kernel
theorem dX8_cordOf_13 : decode cX8_cordOf 13 = .ok (.iaload, 1) := by decide +kernel
theorem dX8_cordOf_14 : decode cX8_cordOf 14 = .ok (.goto 4, 3) := by decide +kernel
theorem dX8_cordOf_17 : decode cX8_cordOf 17 = .ok (.iconst (-1), 1) := by decide +kernel
theorem dX8_cordOf_18 : decode cX8_cordOf 18 = .ok (.ireturn, 1) := by decide +kernel
theorem dX8_setCord_0 : decode cX8_setCord 0 = .ok (.aload_n 0, 1) := by decide +kernel
theorem dX8_setCord_1 : decode cX8_setCord 1 = .ok (.iload_n 1, 1) := by decide +kernel
theorem dX8_setCord_2 : decode cX8_setCord 2 = .ok (.invokevirtual 39, 3) := by decide +kernel
theorem dX8_setCord_5 : decode cX8_setCord 5 = .ok (.ifCond .eq 10, 3) := by decide +kernel
theorem dX8_setCord_8 : decode cX8_setCord 8 = .ok (.aload_n 0, 1) := by decide +kernel
theorem dX8_setCord_9 : decode cX8_setCord 9 = .ok (.getfield 36, 3) := by decide +kernel
theorem dX8_setCord_12 : decode cX8_setCord 12 = .ok (.iload_n 1, 1) := by decide +kernel
theorem dX8_setCord_13 : decode cX8_setCord 13 = .ok (.iload_n 2, 1) := by decide +kernel
theorem dX8_setCord_14 : decode cX8_setCord 14 = .ok (.iastore, 1) := by decide +kernel
theorem dX8_setCord_15 : decode cX8_setCord 15 = .ok (.return_, 1) := by decide +kernel
theorem dX8_remember_0 : decode cX8_remember 0 = .ok (.iload_n 1, 1) := by decide +kernel
theorem dX8_remember_1 : decode cX8_remember 1 = .ok (.ifCond .lt 22, 3) := by decide +kernel
theorem dX8_remember_4 : decode cX8_remember 4 = .ok (.iload_n 1, 1) := by decide +kernel
theorem dX8_remember_5 : decode cX8_remember 5 = .ok (.bipush 9, 2) := by decide +kernel
theorem dX8_remember_7 : decode cX8_remember 7 = .ok (.if_icmp .ge 16, 3) := by decide +kernel
theorem dX8_remember_10 : decode cX8_remember 10 = .ok (.aload_n 0, 1) := by decide +kernel
theorem dX8_remember_11 : decode cX8_remember 11 = .ok (.getfield 22, 3) := by decide +kernel
theorem dX8_remember_14 : decode cX8_remember 14 = .ok (.iload_n 1, 1) := by decide +kernel
theorem dX8_remember_15 : decode cX8_remember 15 = .ok (.aaload, 1) := by decide +kernel
theorem dX8_remember_16 : decode cX8_remember 16 = .ok (.aload_n 0, 1) := by decide +kernel
theorem dX8_remember_17 : decode cX8_remember 17 = .ok (.getfield 18, 3) := by decide +kernel
theorem dX8_remember_20 : decode cX8_remember 20 = .ok (.invokevirtual 43, 3) := by decide +kernel
theorem dX8_remember_23 : decode cX8_remember 23 = .ok (.return_, 1) := by decide +kernel
theorem dX8_becomeAsIn_0 : decode cX8_becomeAsIn 0 = .ok (.iload_n 1, 1) := by decide +kernel
theorem dX8_becomeAsIn_1 : decode cX8_becomeAsIn 1 = .ok (.ifCond .lt 22, 3) := by decide +kernel
theorem dX8_becomeAsIn_4 : decode cX8_becomeAsIn 4 = .ok (.iload_n 1, 1) := by decide +kernel
theorem dX8_becomeAsIn_5 : decode cX8_becomeAsIn 5 = .ok (.bipush 9, 2) := by decide +kernel
theorem dX8_becomeAsIn_7 : decode cX8_becomeAsIn 7 = .ok (.if_icmp .ge 16, 3) := by decide +kernel
theorem dX8_becomeAsIn_10 : decode cX8_becomeAsIn 10 = .ok (.aload_n 0, 1) := by decide +kernel
theorem dX8_becomeAsIn_11 : decode cX8_becomeAsIn 11 = .ok (.getfield 18, 3) := by decide +kernel
theorem dX8_becomeAsIn_14 : decode cX8_becomeAsIn 14 = .ok (.aload_n 0, 1) := by decide +kernel
theorem dX8_becomeAsIn_15 : decode cX8_becomeAsIn 15 = .ok (.getfield 22, 3) := by decide +kernel
theorem dX8_becomeAsIn_18 : decode cX8_becomeAsIn 18 = .ok (.iload_n 1, 1) := by decide +kernel
theorem dX8_becomeAsIn_19 : decode cX8_becomeAsIn 19 = .ok (.aaload, 1) := by decide +kernel
theorem dX8_becomeAsIn_20 : decode cX8_becomeAsIn 20 = .ok (.invokevirtual 43, 3) := by decide +kernel
theorem dX8_becomeAsIn_23 : decode cX8_becomeAsIn 23 = .ok (.return_, 1) := by decide +kernel
theorem dX9_init_0 : decode cX9_init 0 = .ok (.aload_n 0, 1) := by decide +kernel
theorem dX9_init_1 : decode cX9_init 1 = .ok (.invokespecial 3, 3) := by decide +kernel
theorem dX9_init_4 : decode cX9_init 4 = .ok (.aload_n 0, 1) := by decide +kernel
theorem dX9_init_5 : decode cX9_init 5 = .ok (.new 9, 3) := by decide +kernel
theorem dX9_init_8 : decode cX9_init 8 = .ok (.dup, 1) := by decide +kernel
theorem dX9_init_9 : decode cX9_init 9 = .ok (.invokespecial 11, 3) := by decide +kernel
theorem dX9_init_12 : decode cX9_init 12 = .ok (.putfield 12, 3) := by decide +kernel
theorem dX9_init_15 : decode cX9_init 15 = .ok (.aload_n 0, 1) := by decide +kernel
theorem dX9_init_16 : decode cX9_init 16 = .ok (.new 16, 3) := by decide +kernel
theorem dX9_init_19 : decode cX9_init 19 = .ok (.dup, 1) := by decide +kernel
theorem dX9_init_20 : decode cX9_init 20 = .ok (.invokespecial 18, 3) := by decide +kernel
theorem dX9_init_23 : decode cX9_init 23 = .ok (.putfield 19, 3) := by decide +kernel
theorem dX9_init_26 : decode cX9_init 26 = .ok (.aload_n 0, 1) := by decide +kernel
theorem dX9_init_27 : decode cX9_init 27 = .ok (.new 23, 3) := by decide +kernel
theorem dX9_init_30 : decode cX9_init 30 = .ok (.dup, 1) := by decide +kernel
theorem dX9_init_31 : decode cX9_init 31 = .ok (.invokespecial 25, 3) := by decide +kernel
theorem dX9_init_34 : decode cX9_init 34 = .ok (.putfield 26, 3) := by decide +kernel
theorem dX9_init_37 : decode cX9_init 37 = .ok (.aload_n 0, 1) := by decide +kernel
theorem dX9_init_38 : decode cX9_init 38 = .ok (.new 30, 3) := by decide +kernel
theorem dX9_init_41 : decode cX9_init 41 = .ok (.dup, 1) := by decide +kernel
theorem dX9_init_42 : decode cX9_init 42 = .ok (.invokespecial 32, 3) := by decide +kernel
theorem dX9_init_45 : decode cX9_init 45 = .ok (.putfield 33, 3) := by decide +kernel
theorem dX9_init_48 : decode cX9_init 48 = .ok (.aload_n 0, 1) := by decide +kernel
theorem dX9_init_49 : decode cX9_init 49 = .ok (.new 37, 3) := by decide +kernel
theorem dX9_init_52 : decode cX9_init 52 = .ok (.dup, 1) := by decide +kernel
theorem dX9_init_53 : decode cX9_init 53 = .ok (.aload_n 0, 1) := by decide +kernel
theorem dX9_init_54 : decode cX9_init 54 = .ok (.getfield 12, 3) := by decide +kernel
theorem dX9_init_57 : decode cX9_init 57 = .ok (.invokespecial 39, 3) := by decide +kernel
theorem dX9_init_60 : decode cX9_init 60 = .ok (.putfield 42, 3) := by decide +kernel
theorem dX9_init_63 : decode cX9_init 63 = .ok (.aload_n 0, 1) := by decide +kernel
theorem dX9_init_64 : decode cX9_init 64 = .ok (.new 46, 3) := by decide +kernel
theorem dX9_init_67 : decode cX9_init 67 = .ok (.dup, 1) := by decide +kernel
theorem dX9_init_68 : decode cX9_init 68 = .ok (.aload_n 0, 1) := by decide +kernel
theorem dX9_init_69 : decode cX9_init 69 = .ok (.getfield 12, 3) := by decide +kernel
theorem dX9_init_72 : decode cX9_init 72 = .ok (.aload_n 0, 1) := by decide +kernel
theorem dX9_init_73 : decode cX9_init 73 = .ok (.getfield 19, 3) := by decide +kernel
theorem dX9_init_76 : decode cX9_init 76 = .ok (.invokespecial 48, 3) := by decide +kernel
theorem dX9_init_79 : decode cX9_init 79 = .ok (.putfield 51, 3) := by decide +kernel
theorem dX9_init_82 : decode cX9_init 82 = .ok (.return_, 1) := by decide +kernel
theorem dX9_module_0 : decode cX9_module 0 = .ok (.iload_n 1, 1) := by decide +kernel
theorem dX9_module_1 : decode cX9_module 1 = .ok (.ifCond .lt 18, 3) := by decide +kernel
theorem dX9_module_4 : decode cX9_module 4 = .ok (.iload_n 1, 1) := by decide +kernel
theorem dX9_module_5 : decode cX9_module 5 = .ok (.bipush 10, 2) := by decide +kernel
theorem dX9_module_7 : decode cX9_module 7 = .ok (.if_icmp .gt 12, 3) := by decide +kernel
theorem dX9_module_10 : decode cX9_module 10 = .ok (.iload_n 2, 1) := by decide +kernel
theorem dX9_module_11 : decode cX9_module 11 = .ok (.ifCond .lt 8, 3) := by decide +kernel
theorem dX9_module_14 : decode cX9_module 14 = .ok (.iload_n 2, 1) := by decide +kernel
theorem dX9_module_15 : decode cX9_module 15 = .ok (.iconst 4, 1) := by decide +kernel
theorem dX9_module_16 : decode cX9_module 16 = .ok (.if_icmp .le 5, 3) := by decide +kernel
theorem dX9_module_19 : decode cX9_module 19 = .ok (.iconst (-1), 1) := by decide +kernel
theorem dX9_module_20 : decode cX9_module 20 = .ok (.ireturn, 1) := by decide +kernel
theorem dX9_module_21 : decode cX9_module 21 = .ok (.aload_n 0, 1) := by decide +kernel
theorem dX9_module_22 : decode cX9_module 22 = .ok (.getfield 12, 3) := by decide +kernel
theorem dX9_module_25 : decode cX9_module 25 = .ok (.invokevirtual 55, 3) := by decide +kernel
theorem dX9_module_28 : decode cX9_module 28 = .ok (.ifCond .eq 8, 3) := by decide +kernel
theorem dX9_module_31 : decode cX9_module 31 = .ok (.bipush (-2), 2) := by decide +kernel
theorem dX9_module_33 : decode cX9_module 33 = .ok (.goto 12, 3) := by decide +kernel
theorem dX9_module_36 : decode cX9_module 36 = .ok (.aload_n 0, 1) := by decide +kernel
theorem dX9_module_37 : decode cX9_module 37 = .ok (.getfield 12, 3) := by decide +kernel
theorem dX9_module_40 : decode cX9_module 40 = .ok (.iload_n 1, 1) := by decide +kernel
theorem dX9_module_41 : decode cX9_module 41 = .ok (.iload_n 2, 1) := by decide +kernel
theorem dX9_module_42 : decode cX9_module 42 = .ok (.invokevirtual 59, 3) := by decide +kernel
theorem dX9_module_45 : decode cX9_module 45 = .ok (.ireturn, 1) := by decide +kernel
theorem dX9_cord_0 : decode cX9_cord 0 = .ok (.aload_n 0, 1) := by decide +kernel
theorem dX9_cord_1 : decode cX9_cord 1 = .ok (.getfield 12, 3) := by decide +kernel
theorem dX9_cord_4 : decode cX9_cord 4 = .ok (.iload_n 2, 1) := by decide +kernel
theorem dX9_cord_5 : decode cX9_cord 5 = .ok (.invokevirtual 63, 3) := by decide +kernel
theorem dX9_cord_8 : decode cX9_cord 8 = .ok (.astore 4, 2) := by decide +kernel
theorem dX9_cord_10 : decode cX9_cord 10 = .ok (.aload 4, 2) := by decide +kernel
theorem dX9_cord_12 : decode cX9_cord 12 = .ok (.ifnull 28, 3) := by decide +kernel
theorem dX9_cord_15 : decode cX9_cord 15 = .ok (.aload 4, 2) := by decide +kernel
theorem dX9_cord_17 : decode cX9_cord 17 = .ok (.iload_n 3, 1) := by decide +kernel
theorem dX9_cord_18 : decode cX9_cord 18 = .ok (.invokevirtual 67, 3) := by decide +kernel
theorem dX9_cord_21 : decode cX9_cord 21 = .ok (.ifCond .eq 19, 3) := by decide +kernel
theorem dX9_cord_24 : decode cX9_cord 24 = .ok (.iload_n 1, 1) := by decide +kernel
theorem dX9_cord_25 : decode cX9_cord 25 = .ok (.iconst (-1), 1) := by decide +kernel
theorem dX9_cord_26 : decode cX9_cord 26 = .ok (.if_icmp .eq 16, 3) := by decide +kernel
theorem dX9_cord_29 : decode cX9_cord 29 = .ok (.aload_n 0, 1) := by decide +kernel
theorem dX9_cord_30 : decode cX9_cord 30 = .ok (.getfield 12, 3) := by decide +kernel
theorem dX9_cord_33 : decode cX9_cord 33 = .ok (.iload_n 1, 1) := by decide +kernel
theorem dX9_cord_34 : decode cX9_cord 34 = .ok (.invokevirtual 63, 3) := by decide +kernel
theorem dX9_cord_37 : decode cX9_cord 37 = .ok (.ifnonnull 5, 3) := by decide +kernel
theorem dX9_cord_40 : decode cX9_cord 40 = .ok (.iconst (-1), 1) := by decide +kernel
theorem dX9_cord_41 : decode cX9_cord 41 = .ok (.ireturn, 1) := by decide +kernel
theorem dX9_cord_42 : decode cX9_cord 42 = .ok (.aload_n 0, 1) := by decide +kernel
theorem dX9_cord_43 : decode cX9_cord 43 = .ok (.getfield 12, 3) := by decide +kernel
theorem dX9_cord_46 : decode cX9_cord 46 = .ok (.iload_n 1, 1) := by decide +kernel
theorem dX9_cord_47 : decode cX9_cord 47 = .ok (.iload_n 2, 1) := by decide +kernel
theorem dX9_cord_48 : decode cX9_cord 48 = .ok (.invokevirtual 73, 3) := by decide +kernel
theorem dX9_cord_51 : decode cX9_cord 51 = .ok (.istore 5, 2) := by decide +kernel
theorem dX9_cord_53 : decode cX9_cord 53 = .ok (.iload 5, 2) := by decide +kernel
theorem dX9_cord_55 : decode cX9_cord 55 = .ok (.ifCond .le 9, 3) := by decide +kernel
theorem dX9_cord_58 : decode cX9_cord 58 = .ok (.bipush (-10), 2) := by decide +kernel
theorem dX9_cord_60 : decode cX9_cord 60 = .ok (.iload 5, 2) := by decide +kernel
theorem dX9_cord_62 : decode cX9_cord 62 = .ok (.isub, 1) := by decide +kernel
theorem dX9_cord_63 : decode cX9_cord 63 = .ok (.ireturn, 1) := by decide +kernel
theorem dX9_cord_64 : decode cX9_cord 64 = .ok (.aload_n 0, 1) := by decide +kernel
theorem dX9_cord_65 : decode cX9_cord 65 = .ok (.getfield 12, 3) := by decide +kernel
theorem dX9_cord_68 : decode cX9_cord 68 = .ok (.iload_n 1, 1) := by decide +kernel
theorem dX9_cord_69 : decode cX9_cord 69 = .ok (.aload 4, 2) := by decide +kernel
theorem dX9_cord_71 : decode cX9_cord 71 = .ok (.iload_n 3, 1) := by decide +kernel
theorem dX9_cord_72 : decode cX9_cord 72 = .ok (.invokevirtual 76, 3) := by decide +kernel
theorem dX9_cord_75 : decode cX9_cord 75 = .ok (.iconst 1, 1) := by decide +kernel
theorem dX9_cord_76 : decode cX9_cord 76 = .ok (.ireturn, 1) := by decide +kernel
theorem dX9_from_0 : decode cX9_from 0 = .ok (.aload_n 0, 1) := by decide +kernel
theorem dX9_from_1 : decode cX9_from 1 = .ok (.getfield 12, 3) := by decide +kernel
theorem dX9_from_4 : decode cX9_from 4 = .ok (.iload_n 1, 1) := by decide +kernel
theorem dX9_from_5 : decode cX9_from 5 = .ok (.invokevirtual 63, 3) := by decide +kernel
theorem dX9_from_8 : decode cX9_from 8 = .ok (.astore_n 3, 1) := by decide +kernel
theorem dX9_from_9 : decode cX9_from 9 = .ok (.aload_n 3, 1) := by decide +kernel
theorem dX9_from_10 : decode cX9_from 10 = .ok (.ifnull 11, 3) := by decide +kernel
theorem dX9_from_13 : decode cX9_from 13 = .ok (.aload_n 3, 1) := by decide +kernel
theorem dX9_from_14 : decode cX9_from 14 = .ok (.iload_n 2, 1) := by decide +kernel
theorem dX9_from_15 : decode cX9_from 15 = .ok (.invokevirtual 67, 3) := by decide +kernel
theorem dX9_from_18 : decode cX9_from 18 = .ok (.ifCond .ne 8, 3) := by decide +kernel
theorem dX9_from_21 : decode cX9_from 21 = .ok (.bipush (-2), 2) := by decide +kernel
theorem dX9_from_23 : decode cX9_from 23 = .ok (.goto 8, 3) := by decide +kernel
theorem dX9_from_26 : decode cX9_from 26 = .ok (.aload_n 3, 1) := by decide +kernel
theorem dX9_from_27 : decode cX9_from 27 = .ok (.iload_n 2, 1) := by decide +kernel
theorem dX9_from_28 : decode cX9_from 28 = .ok (.invokevirtual 80, 3) := by decide +kernel
theorem dX9_from_31 : decode cX9_from 31 = .ok (.ireturn, 1) := by decide +kernel
theorem dX9_knob_0 : decode cX9_knob 0 = .ok (.aload_n 0, 1) := by decide +kernel
theorem dX9_knob_1 : decode cX9_knob 1 = .ok (.getfield 12, 3) := by decide +kernel
theorem dX9_knob_4 : decode cX9_knob 4 = .ok (.iload_n 1, 1) := by decide +kernel
theorem dX9_knob_5 : decode cX9_knob 5 = .ok (.invokevirtual 63, 3) := by decide +kernel
theorem dX9_knob_8 : decode cX9_knob 8 = .ok (.astore 4, 2) := by decide +kernel
theorem dX9_knob_10 : decode cX9_knob 10 = .ok (.aload 4, 2) := by decide +kernel
theorem dX9_knob_12 : decode cX9_knob 12 = .ok (.ifnull 26, 3) := by decide +kernel
theorem dX9_knob_15 : decode cX9_knob 15 = .ok (.iload_n 2, 1) := by decide +kernel
theorem dX9_knob_16 : decode cX9_knob 16 = .ok (.ifCond .lt 22, 3) := by decide +kernel
theorem dX9_knob_19 : decode cX9_knob 19 = .ok (.iload_n 2, 1) := by decide +kernel
theorem dX9_knob_20 : decode cX9_knob 20 = .ok (.iconst 3, 1) := by decide +kernel
theorem dX9_knob_21 : decode cX9_knob 21 = .ok (.if_icmp .ge 17, 3) := by decide +kernel
theorem dX9_knob_24 : decode cX9_knob 24 = .ok (.iload_n 3, 1) := by decide +kernel
theorem dX9_knob_25 : decode cX9_knob 25 = .ok (.sipush (-1000), 3) := by decide +kernel
theorem dX9_knob_28 : decode cX9_knob 28 = .ok (.if_icmp .lt 10, 3) := by decide +kernel
theorem dX9_knob_31 : decode cX9_knob 31 = .ok (.iload_n 3, 1) := by decide +kernel
theorem dX9_knob_32 : decode cX9_knob 32 = .ok (.sipush 1000, 3) := by decide +kernel
theorem dX9_knob_35 : decode cX9_knob 35 = .ok (.if_icmp .le 7, 3) := by decide +kernel
theorem dX9_knob_38 : decode cX9_knob 38 = .ok (.sipush (-2000), 3) := by decide +kernel
theorem dX9_knob_41 : decode cX9_knob 41 = .ok (.ireturn, 1) := by decide +kernel
theorem dX9_knob_42 : decode cX9_knob 42 = .ok (.aload 4, 2) := by decide +kernel
theorem dX9_knob_44 : decode cX9_knob 44 = .ok (.getfield 84, 3) := by decide +kernel
theorem dX9_knob_47 : decode cX9_knob 47 = .ok (.iload_n 2, 1) := by decide +kernel
theorem dX9_knob_48 : decode cX9_knob 48 = .ok (.iaload, 1) := by decide +kernel
theorem dX9_knob_49 : decode cX9_knob 49 = .ok (.istore 5, 2) := by decide +kernel
theorem dX9_knob_51 : decode cX9_knob 51 = .ok (.aload 4, 2) := by decide +kernel
theorem dX9_knob_53 : decode cX9_knob 53 = .ok (.getfield 84, 3) := by decide +kernel
theorem dX9_knob_56 : decode cX9_knob 56 = .ok (.iload_n 2, 1) := by decide +kernel
theorem dX9_knob_57 : decode cX9_knob 57 = .ok (.iload_n 3, 1) := by decide +kernel
theorem dX9_knob_58 : decode cX9_knob 58 = .ok (.iastore, 1) := by decide +kernel
theorem dX9_knob_59 : decode cX9_knob 59 = .ok (.iload 5, 2) := by decide +kernel
theorem dX9_knob_61 : decode cX9_knob 61 = .ok (.ireturn, 1) := by decide +kernel
theorem dX9_table_0 : decode cX9_table 0 = .ok (.aload_n 0, 1) := by decide +kernel
theorem dX9_table_1 : decode cX9_table 1 = .ok (.getfield 19, 3) := by decide +kernel
theorem dX9_table_4 : decode cX9_table 4 = .ok (.iload_n 1, 1) := by decide +kernel
theorem dX9_table_5 : decode cX9_table 5 = .ok (.invokevirtual 88, 3) := by decide +kernel
theorem dX9_table_8 : decode cX9_table 8 = .ok (.ifCond .eq 14, 3) := by decide +kernel
theorem dX9_table_11 : decode cX9_table 11 = .ok (.iload_n 2, 1) := by decide +kernel
theorem dX9_table_12 : decode cX9_table 12 = .ok (.iconst (-1), 1) := by decide +kernel
theorem dX9_table_13 : decode cX9_table 13 = .ok (.if_icmp .lt 9, 3) := by decide +kernel
theorem dX9_table_16 : decode cX9_table 16 = .ok (.iload_n 2, 1) := by decide +kernel
theorem dX9_table_17 : decode cX9_table 17 = .ok (.bipush 16, 2) := by decide +kernel
theorem dX9_table_19 : decode cX9_table 19 = .ok (.if_icmp .le 5, 3) := by decide +kernel
theorem dX9_table_22 : decode cX9_table 22 = .ok (.iconst (-1), 1) := by decide +kernel
theorem dX9_table_23 : decode cX9_table 23 = .ok (.ireturn, 1) := by decide +kernel
theorem dX9_table_24 : decode cX9_table 24 = .ok (.aload_n 0, 1) := by decide +kernel
theorem dX9_table_25 : decode cX9_table 25 = .ok (.getfield 19, 3) := by decide +kernel
theorem dX9_table_28 : decode cX9_table 28 = .ok (.iload_n 1, 1) := by decide +kernel
theorem dX9_table_29 : decode cX9_table 29 = .ok (.iload_n 2, 1) := by decide +kernel
theorem dX9_table_30 : decode cX9_table 30 = .ok (.invokevirtual 91, 3) := by decide +kernel
theorem dX9_table_33 : decode cX9_table 33 = .ok (.iconst 1, 1) := by decide +kernel
theorem dX9_table_34 : decode cX9_table 34 = .ok (.ireturn, 1) := by decide +kernel
theorem dX9_write_0 : decode cX9_write 0 = .ok (.aload_n 0, 1) := by decide +kernel
theorem dX9_write_1 : decode cX9_write 1 = .ok (.getfield 19, 3) := by decide +kernel
theorem dX9_write_4 : decode cX9_write 4 = .ok (.iload_n 1, 1) := by decide +kernel
theorem dX9_write_5 : decode cX9_write 5 = .ok (.invokevirtual 88, 3) := by decide +kernel
theorem dX9_write_8 : decode cX9_write 8 = .ok (.ifCond .ne 5, 3) := by decide +kernel
theorem dX9_write_11 : decode cX9_write 11 = .ok (.iconst (-1), 1) := by decide +kernel
theorem dX9_write_12 : decode cX9_write 12 = .ok (.ireturn, 1) := by decide +kernel
theorem dX9_write_13 : decode cX9_write 13 = .ok (.aload_n 0, 1) := by decide +kernel
theorem dX9_write_14 : decode cX9_write 14 = .ok (.getfield 19, 3) := by decide +kernel
theorem dX9_write_17 : decode cX9_write 17 = .ok (.iload_n 1, 1) := by decide +kernel
theorem dX9_write_18 : decode cX9_write 18 = .ok (.invokevirtual 95, 3) := by decide +kernel
theorem dX9_write_21 : decode cX9_write 21 = .ok (.ifCond .eq 6, 3) := by decide +kernel
theorem dX9_write_24 : decode cX9_write 24 = .ok (.bipush (-2), 2) := by decide +kernel
theorem dX9_write_26 : decode cX9_write 26 = .ok (.ireturn, 1) := by decide +kernel
theorem dX9_write_27 : decode cX9_write 27 = .ok (.aload_n 0, 1) := by decide +kernel
theorem dX9_write_28 : decode cX9_write 28 = .ok (.getfield 19, 3) := by decide +kernel
theorem dX9_write_31 : decode cX9_write 31 = .ok (.iload_n 1, 1) := by decide +kernel
theorem dX9_write_32 : decode cX9_write 32 = .ok (.iload_n 2, 1) := by decide +kernel
theorem dX9_write_33 : decode cX9_write 33 = .ok (.invokevirtual 98, 3) := by decide +kernel
theorem dX9_write_36 : decode cX9_write 36 = .ok (.ifCond .ne 6, 3) := by decide +kernel
theorem dX9_write_39 : decode cX9_write 39 = .ok (.bipush (-3), 2) := by decide +kernel
theorem dX9_write_41 : decode cX9_write 41 = .ok (.ireturn, 1) := by decide +kernel
theorem dX9_write_42 : decode cX9_write 42 = .ok (.aload_n 0, 1) := by decide +kernel
theorem dX9_write_43 : decode cX9_write 43 = .ok (.getfield 19, 3) := by decide +kernel
theorem dX9_write_46 : decode cX9_write 46 = .ok (.iload_n 1, 1) := by decide +kernel
theorem dX9_write_47 : decode cX9_write 47 = .ok (.iload_n 2, 1) := by decide +kernel
theorem dX9_write_48 : decode cX9_write 48 = .ok (.iload_n 3, 1) := by decide +kernel
theorem dX9_write_49 : decode cX9_write 49 = .ok (.invokevirtual 102, 3) := by decide +kernel
theorem dX9_write_52 : decode cX9_write 52 = .ok (.iconst 1, 1) := by decide +kernel
theorem dX9_write_53 : decode cX9_write 53 = .ok (.ireturn, 1) := by decide +kernel
theorem dX9_block_0 : decode cX9_block 0 = .ok (.iload_n 1, 1) := by decide +kernel
theorem dX9_block_1 : decode cX9_block 1 = .ok (.iconst 1, 1) := by decide +kernel
theorem dX9_block_2 : decode cX9_block 2 = .ok (.if_icmp .lt 9, 3) := by decide +kernel
theorem dX9_block_5 : decode cX9_block 5 = .ok (.iload_n 1, 1) := by decide +kernel
theorem dX9_block_6 : decode cX9_block 6 = .ok (.bipush 16, 2) := by decide +kernel
theorem dX9_block_8 : decode cX9_block 8 = .ok (.if_icmp .le 5, 3) := by decide +kernel
theorem dX9_block_11 : decode cX9_block 11 = .ok (.iconst (-1), 1) := by decide +kernel
theorem dX9_block_12 : decode cX9_block 12 = .ok (.ireturn, 1) := by decide +kernel
theorem dX9_block_13 : decode cX9_block 13 = .ok (.aload_n 0, 1) := by decide +kernel
theorem dX9_block_14 : decode cX9_block 14 = .ok (.getfield 42, 3) := by decide +kernel
theorem dX9_block_17 : decode cX9_block 17 = .ok (.invokevirtual 106, 3) := by decide +kernel
theorem dX9_block_20 : decode cX9_block 20 = .ok (.aload_n 0, 1) := by decide +kernel
theorem dX9_block_21 : decode cX9_block 21 = .ok (.getfield 51, 3) := by decide +kernel
theorem dX9_block_24 : decode cX9_block 24 = .ok (.iload_n 1, 1) := by decide +kernel
theorem dX9_block_25 : decode cX9_block 25 = .ok (.invokevirtual 109, 3) := by decide +kernel
theorem dX9_block_28 : decode cX9_block 28 = .ok (.istore_n 2, 1) := by decide +kernel
theorem dX9_block_29 : decode cX9_block 29 = .ok (.iload_n 2, 1) := by decide +kernel
theorem dX9_block_30 : decode cX9_block 30 = .ok (.ifCond .ne 13, 3) := by decide +kernel
theorem dX9_block_33 : decode cX9_block 33 = .ok (.aload_n 0, 1) := by decide +kernel
theorem dX9_block_34 : decode cX9_block 34 = .ok (.getfield 42, 3) := by decide +kernel
theorem dX9_block_37 : decode cX9_block 37 = .ok (.invokevirtual 112, 3) := by decide +kernel
theorem dX9_block_40 : decode cX9_block 40 = .ok (.goto 10, 3) := by decide +kernel
theorem dX9_block_43 : decode cX9_block 43 = .ok (.aload_n 0, 1) := by decide +kernel
theorem dX9_block_44 : decode cX9_block 44 = .ok (.getfield 42, 3) := by decide +kernel
theorem dX9_block_47 : decode cX9_block 47 = .ok (.invokevirtual 115, 3) := by decide +kernel
theorem dX9_block_50 : decode cX9_block 50 = .ok (.iload_n 2, 1) := by decide +kernel
theorem dX9_block_51 : decode cX9_block 51 = .ok (.ireturn, 1) := by decide +kernel
theorem dX9_back_0 : decode cX9_back 0 = .ok (.iload_n 1, 1) := by decide +kernel
theorem dX9_back_1 : decode cX9_back 1 = .ok (.iconst 1, 1) := by decide +kernel
theorem dX9_back_2 : decode cX9_back 2 = .ok (.if_icmp .lt 20, 3) := by decide +kernel
theorem dX9_back_5 : decode cX9_back 5 = .ok (.iload_n 1, 1) := by decide +kernel
theorem dX9_back_6 : decode cX9_back 6 = .ok (.bipush 8, 2) := by decide +kernel
theorem dX9_back_8 : decode cX9_back 8 = .ok (.if_icmp .gt 14, 3) := by decide +kernel
theorem dX9_back_11 : decode cX9_back 11 = .ok (.iload_n 1, 1) := by decide +kernel
theorem dX9_back_12 : decode cX9_back 12 = .ok (.aload_n 0, 1) := by decide +kernel
theorem dX9_back_13 : decode cX9_back 13 = .ok (.getfield 42, 3) := by decide +kernel
theorem dX9_back_16 : decode cX9_back 16 = .ok (.getfield 118, 3) := by decide +kernel
theorem dX9_back_19 : decode cX9_back 19 = .ok (.if_icmp .le 5, 3) := by decide +kernel
theorem dX9_back_22 : decode cX9_back 22 = .ok (.iconst (-1), 1) := by decide +kernel
theorem dX9_back_23 : decode cX9_back 23 = .ok (.ireturn, 1) := by decide +kernel
theorem dX9_back_24 : decode cX9_back 24 = .ok (.aload_n 0, 1) := by decide +kernel
theorem dX9_back_25 : decode cX9_back 25 = .ok (.getfield 42, 3) := by decide +kernel
theorem dX9_back_28 : decode cX9_back 28 = .ok (.iload_n 1, 1) := by decide +kernel
theorem dX9_back_29 : decode cX9_back 29 = .ok (.invokevirtual 122, 3) := by decide +kernel
theorem dX9_back_32 : decode cX9_back 32 = .ok (.aload_n 0, 1) := by decide +kernel
theorem dX9_back_33 : decode cX9_back 33 = .ok (.getfield 42, 3) := by decide +kernel
theorem dX9_back_36 : decode cX9_back 36 = .ok (.getfield 118, 3) := by decide +kernel
theorem dX9_back_39 : decode cX9_back 39 = .ok (.ireturn, 1) := by decide +kernel
theorem dX9_keep_0 : decode cX9_keep 0 = .ok (.aload_n 0, 1) := by decide +kernel
theorem dX9_keep_1 : decode cX9_keep 1 = .ok (.getfield 26, 3) := by decide +kernel
theorem dX9_keep_4 : decode cX9_keep 4 = .ok (.iload_n 1, 1) := by decide +kernel
theorem dX9_keep_5 : decode cX9_keep 5 = .ok (.invokevirtual 126, 3) := by decide +kernel
theorem dX9_keep_8 : decode cX9_keep 8 = .ok (.ifCond .eq 18, 3) := by decide +kernel
theorem dX9_keep_11 : decode cX9_keep 11 = .ok (.aload_n 0, 1) := by decide +kernel
theorem dX9_keep_12 : decode cX9_keep 12 = .ok (.getfield 26, 3) := by decide +kernel
theorem dX9_keep_15 : decode cX9_keep 15 = .ok (.iload_n 1, 1) := by decide +kernel
theorem dX9_keep_16 : decode cX9_keep 16 = .ok (.aload_n 0, 1) := by decide +kernel
theorem dX9_keep_17 : decode cX9_keep 17 = .ok (.getfield 12, 3) := by decide +kernel
theorem dX9_keep_20 : decode cX9_keep 20 = .ok (.invokevirtual 127, 3) := by decide +kernel
theorem dX9_keep_23 : decode cX9_keep 23 = .ok (.goto 4, 3) := by decide +kernel
theorem dX9_keep_26 : decode cX9_keep 26 = .ok (.iconst (-1), 1) := by decide +kernel
theorem dX9_keep_27 : decode cX9_keep 27 = .ok (.ireturn, 1) := by decide +kernel
theorem dX9_recall_0 : decode cX9_recall 0 = .ok (.aload_n 0, 1) := by decide +kernel
theorem dX9_recall_1 : decode cX9_recall 1 = .ok (.getfield 26, 3) := by decide +kernel
theorem dX9_recall_4 : decode cX9_recall 4 = .ok (.iload_n 1, 1) := by decide +kernel
theorem dX9_recall_5 : decode cX9_recall 5 = .ok (.invokevirtual 126, 3) := by decide +kernel
theorem dX9_recall_8 : decode cX9_recall 8 = .ok (.ifCond .ne 5, 3) := by decide +kernel
theorem dX9_recall_11 : decode cX9_recall 11 = .ok (.iconst (-1), 1) := by decide +kernel
theorem dX9_recall_12 : decode cX9_recall 12 = .ok (.ireturn, 1) := by decide +kernel
theorem dX9_recall_13 : decode cX9_recall 13 = .ok (.aload_n 0, 1) := by decide +kernel
theorem dX9_recall_14 : decode cX9_recall 14 = .ok (.getfield 26, 3) := by decide +kernel
theorem dX9_recall_17 : decode cX9_recall 17 = .ok (.iload_n 1, 1) := by decide +kernel
theorem dX9_recall_18 : decode cX9_recall 18 = .ok (.invokevirtual 131, 3) := by decide +kernel
theorem dX9_recall_21 : decode cX9_recall 21 = .ok (.ifCond .eq 8, 3) := by decide +kernel
theorem dX9_recall_24 : decode cX9_recall 24 = .ok (.bipush (-2), 2) := by decide +kernel
theorem dX9_recall_26 : decode cX9_recall 26 = .ok (.goto 15, 3) := by decide +kernel
theorem dX9_recall_29 : decode cX9_recall 29 = .ok (.aload_n 0, 1) := by decide +kernel
theorem dX9_recall_30 : decode cX9_recall 30 = .ok (.getfield 26, 3) := by decide +kernel
theorem dX9_recall_33 : decode cX9_recall 33 = .ok (.iload_n 1, 1) := by decide +kernel
theorem dX9_recall_34 : decode cX9_recall 34 = .ok (.aload_n 0, 1) := by decide +kernel
theorem dX9_recall_35 : decode cX9_recall 35 = .ok (.getfield 12, 3) := by decide +kernel
theorem dX9_recall_38 : decode cX9_recall 38 = .ok (.invokevirtual 134, 3) := by decide +kernel
theorem dX9_recall_41 : decode cX9_recall 41 = .ok (.ireturn, 1) := by decide +kernel
theorem dX9_take_0 : decode cX9_take 0 = .ok (.aload_n 0, 1) := by decide +kernel
theorem dX9_take_1 : decode cX9_take 1 = .ok (.getfield 12, 3) := by decide +kernel
theorem dX9_take_4 : decode cX9_take 4 = .ok (.iload_n 1, 1) := by decide +kernel
theorem dX9_take_5 : decode cX9_take 5 = .ok (.invokevirtual 63, 3) := by decide +kernel
theorem dX9_take_8 : decode cX9_take 8 = .ok (.ifnonnull 5, 3) := by decide +kernel
theorem dX9_take_11 : decode cX9_take 11 = .ok (.iconst (-1), 1) := by decide +kernel
theorem dX9_take_12 : decode cX9_take 12 = .ok (.ireturn, 1) := by decide +kernel
theorem dX9_take_13 : decode cX9_take 13 = .ok (.aload_n 0, 1) := by decide +kernel
theorem dX9_take_14 : decode cX9_take 14 = .ok (.getfield 12, 3) := by decide +kernel
theorem dX9_take_17 : decode cX9_take 17 = .ok (.iload_n 1, 1) := by decide +kernel
theorem dX9_take_18 : decode cX9_take 18 = .ok (.invokevirtual 137, 3) := by decide +kernel
theorem dX9_take_21 : decode cX9_take 21 = .ok (.astore_n 2, 1) := by decide +kernel
theorem dX9_take_22 : decode cX9_take 22 = .ok (.aload_n 2, 1) := by decide +kernel
theorem dX9_take_23 : decode cX9_take 23 = .ok (.ifnonnull 6, 3) := by decide +kernel
theorem dX9_take_26 : decode cX9_take 26 = .ok (.bipush (-2), 2) := by decide +kernel
theorem dX9_take_28 : decode cX9_take 28 = .ok (.ireturn, 1) := by decide +kernel
theorem dX9_take_29 : decode cX9_take 29 = .ok (.aload_n 0, 1) := by decide +kernel
theorem dX9_take_30 : decode cX9_take 30 = .ok (.getfield 33, 3) := by decide +kernel
theorem dX9_take_33 : decode cX9_take 33 = .ok (.invokevirtual 141, 3) := by decide +kernel
theorem dX9_take_36 : decode cX9_take 36 = .ok (.ifCond .eq 8, 3) := by decide +kernel
theorem dX9_take_39 : decode cX9_take 39 = .ok (.bipush (-3), 2) := by decide +kernel
theorem dX9_take_41 : decode cX9_take 41 = .ok (.goto 11, 3) := by decide +kernel
theorem dX9_take_44 : decode cX9_take 44 = .ok (.aload_n 0, 1) := by decide +kernel
theorem dX9_take_45 : decode cX9_take 45 = .ok (.getfield 33, 3) := by decide +kernel
theorem dX9_take_48 : decode cX9_take 48 = .ok (.aload_n 2, 1) := by decide +kernel
theorem dX9_take_49 : decode cX9_take 49 = .ok (.invokevirtual 142, 3) := by decide +kernel
theorem dX9_take_52 : decode cX9_take 52 = .ok (.ireturn, 1) := by decide +kernel
theorem dX9_equal_0 : decode cX9_equal 0 = .ok (.aload_n 0, 1) := by decide +kernel
theorem dX9_equal_1 : decode cX9_equal 1 = .ok (.getfield 33, 3) := by decide +kernel
theorem dX9_equal_4 : decode cX9_equal 4 = .ok (.iload_n 1, 1) := by decide +kernel
theorem dX9_equal_5 : decode cX9_equal 5 = .ok (.invokevirtual 145, 3) := by decide +kernel
theorem dX9_equal_8 : decode cX9_equal 8 = .ok (.astore_n 3, 1) := by decide +kernel
theorem dX9_equal_9 : decode cX9_equal 9 = .ok (.aload_n 0, 1) := by decide +kernel
theorem dX9_equal_10 : decode cX9_equal 10 = .ok (.getfield 33, 3) := by decide +kernel
theorem dX9_equal_13 : decode cX9_equal 13 = .ok (.iload_n 2, 1) := by decide +kernel
theorem dX9_equal_14 : decode cX9_equal 14 = .ok (.invokevirtual 145, 3) := by decide +kernel
theorem dX9_equal_17 : decode cX9_equal 17 = .ok (.astore 4, 2) := by decide +kernel
theorem dX9_equal_19 : decode cX9_equal 19 = .ok (.aload_n 3, 1) := by decide +kernel
theorem dX9_equal_20 : decode cX9_equal 20 = .ok (.ifnull 8, 3) := by decide +kernel
theorem dX9_equal_23 : decode cX9_equal 23 = .ok (.aload 4, 2) := by decide +kernel
theorem dX9_equal_25 : decode cX9_equal 25 = .ok (.ifnonnull 5, 3) := by decide +kernel
theorem dX9_equal_28 : decode cX9_equal 28 = .ok (.iconst (-1), 1) := by decide +kernel
theorem dX9_equal_29 : decode cX9_equal 29 = .ok (.ireturn, 1) := by decide +kernel
theorem dX9_equal_30 : decode cX9_equal 30 = .ok (.aload_n 3, 1) := by decide +kernel
theorem dX9_equal_31 : decode cX9_equal 31 = .ok (.aload 4, 2) := by decide +kernel
theorem dX9_equal_33 : decode cX9_equal 33 = .ok (.invokevirtual 147, 3) := by decide +kernel
theorem dX9_equal_36 : decode cX9_equal 36 = .ok (.ifCond .eq 7, 3) := by decide +kernel
theorem dX9_equal_39 : decode cX9_equal 39 = .ok (.iconst 1, 1) := by decide +kernel
theorem dX9_equal_40 : decode cX9_equal 40 = .ok (.goto 4, 3) := by decide +kernel
theorem dX9_equal_43 : decode cX9_equal 43 = .ok (.iconst 0, 1) := by decide +kernel
theorem dX9_equal_44 : decode cX9_equal 44 = .ok (.ireturn, 1) := by decide +kernel
theorem dX9_row_0 : decode cX9_row 0 = .ok (.aload_n 0, 1) := by decide +kernel
theorem dX9_row_1 : decode cX9_row 1 = .ok (.getfield 12, 3) := by decide +kernel
theorem dX9_row_4 : decode cX9_row 4 = .ok (.iload_n 1, 1) := by decide +kernel
theorem dX9_row_5 : decode cX9_row 5 = .ok (.invokevirtual 63, 3) := by decide +kernel
theorem dX9_row_8 : decode cX9_row 8 = .ok (.ifnull 12, 3) := by decide +kernel
theorem dX9_row_11 : decode cX9_row 11 = .ok (.iload_n 2, 1) := by decide +kernel
theorem dX9_row_12 : decode cX9_row 12 = .ok (.ifCond .lt 8, 3) := by decide +kernel
theorem dX9_row_15 : decode cX9_row 15 = .ok (.iload_n 2, 1) := by decide +kernel
theorem dX9_row_16 : decode cX9_row 16 = .ok (.iconst 3, 1) := by decide +kernel
theorem dX9_row_17 : decode cX9_row 17 = .ok (.if_icmp .le 6, 3) := by decide +kernel
theorem dX9_row_20 : decode cX9_row 20 = .ok (.bipush (-2), 2) := by decide +kernel
theorem dX9_row_22 : decode cX9_row 22 = .ok (.ireturn, 1) := by decide +kernel
theorem dX9_row_23 : decode cX9_row 23 = .ok (.aload_n 0, 1) := by decide +kernel
theorem dX9_row_24 : decode cX9_row 24 = .ok (.getfield 12, 3) := by decide +kernel
theorem dX9_row_27 : decode cX9_row 27 = .ok (.iload_n 1, 1) := by decide +kernel
theorem dX9_row_28 : decode cX9_row 28 = .ok (.invokevirtual 137, 3) := by decide +kernel
theorem dX9_row_31 : decode cX9_row 31 = .ok (.astore_n 3, 1) := by decide +kernel
theorem dX9_row_32 : decode cX9_row 32 = .ok (.aload_n 3, 1) := by decide +kernel
theorem dX9_row_33 : decode cX9_row 33 = .ok (.ifnonnull 5, 3) := by decide +kernel
theorem dX9_row_36 : decode cX9_row 36 = .ok (.iconst (-1), 1) := by decide +kernel
theorem dX9_row_37 : decode cX9_row 37 = .ok (.ireturn, 1) := by decide +kernel
theorem dX9_row_38 : decode cX9_row 38 = .ok (.iload_n 2, 1) := by decide +kernel
theorem dX9_row_39 : decode cX9_row 39 = .ok (.tableswitch 48 0 2 #[25, 30, 35], 25) := by decide +kernel
theorem dX9_row_64 : decode cX9_row 64 = .ok (.aload_n 3, 1) := by decide +kernel
theorem dX9_row_65 : decode cX9_row 65 = .ok (.getfield 153, 3) := by decide +kernel
theorem dX9_row_68 : decode cX9_row 68 = .ok (.ireturn, 1) := by decide +kernel
theorem dX9_row_69 : decode cX9_row 69 = .ok (.aload_n 3, 1) := by decide +kernel
theorem dX9_row_70 : decode cX9_row 70 = .ok (.getfield 156, 3) := by decide +kernel
theorem dX9_row_73 : decode cX9_row 73 = .ok (.ireturn, 1) := by decide +kernel
theorem dX9_row_74 : decode cX9_row 74 = .ok (.aload_n 3, 1) := by decide +kernel
theorem dX9_row_75 : decode cX9_row 75 = .ok (.invokevirtual 159, 3) := by decide +kernel
theorem dX9_row_78 : decode cX9_row 78 = .ok (.ifCond .eq 7, 3) := by decide +kernel
theorem dX9_row_81 : decode cX9_row 81 = .ok (.iconst 1, 1) := by decide +kernel
theorem dX9_row_82 : decode cX9_row 82 = .ok (.goto 4, 3) := by decide +kernel
theorem dX9_row_85 : decode cX9_row 85 = .ok (.iconst 0, 1) := by decide +kernel
theorem dX9_row_86 : decode cX9_row 86 = .ok (.ireturn, 1) := by decide +kernel
theorem dX9_row_87 : decode cX9_row 87 = .ok (.aload_n 3, 1) := by decide +kernel
theorem dX9_row_88 : decode cX9_row 88 = .ok (.invokevirtual 162, 3) := by decide +kernel
theorem dX9_row_91 : decode cX9_row 91 = .ok (.ireturn, 1) := by decide +kernel
theorem dX9_sample_0 : decode cX9_sample 0 = .ok (.aload_n 0, 1) := by decide +kernel
theorem dX9_sample_1 : decode cX9_sample 1 = .ok (.getfield 12, 3) := by decide +kernel
theorem dX9_sample_4 : decode cX9_sample 4 = .ok (.iload_n 1, 1) := by decide +kernel
theorem dX9_sample_5 : decode cX9_sample 5 = .ok (.invokevirtual 137, 3) := by decide +kernel
theorem dX9_sample_8 : decode cX9_sample 8 = .ok (.astore_n 3, 1) := by decide +kernel
theorem dX9_sample_9 : decode cX9_sample 9 = .ok (.aload_n 3, 1) := by decide +kernel
theorem dX9_sample_10 : decode cX9_sample 10 = .ok (.ifnonnull 7, 3) := by decide +kernel
theorem dX9_sample_13 : decode cX9_sample 13 = .ok (.dconst 0, 1) := by decide +kernel
theorem dX9_sample_14 : decode cX9_sample 14 = .ok (.goto 8, 3) := by decide +kernel
theorem dX9_sample_17 : decode cX9_sample 17 = .ok (.aload_n 3, 1) := by decide +kernel
theorem dX9_sample_18 : decode cX9_sample 18 = .ok (.iload_n 2, 1) := by decide +kernel
theorem dX9_sample_19 : decode cX9_sample 19 = .ok (.invokevirtual 166, 3) := by decide +kernel
theorem dX9_sample_22 : decode cX9_sample 22 = .ok (.dreturn, 1) := by decide +kernel
theorem dX9_isNone_0 : decode cX9_isNone 0 = .ok (.aload_n 0, 1) := by decide +kernel
theorem dX9_isNone_1 : decode cX9_isNone 1 = .ok (.getfield 12, 3) := by decide +kernel
theorem dX9_isNone_4 : decode cX9_isNone 4 = .ok (.iload_n 1, 1) := by decide +kernel
theorem dX9_isNone_5 : decode cX9_isNone 5 = .ok (.invokevirtual 137, 3) := by decide +kernel
theorem dX9_isNone_8 : decode cX9_isNone 8 = .ok (.astore_n 3, 1) := by decide +kernel
theorem dX9_isNone_9 : decode cX9_isNone 9 = .ok (.aload_n 3, 1) := by decide +kernel
theorem dX9_isNone_10 : decode cX9_isNone 10 = .ok (.ifnull 15, 3) := by decide +kernel
theorem dX9_isNone_13 : decode cX9_isNone 13 = .ok (.aload_n 3, 1) := by decide +kernel
theorem dX9_isNone_14 : decode cX9_isNone 14 = .ok (.iload_n 2, 1) := by decide +kernel
theorem dX9_isNone_15 : decode cX9_isNone 15 = .ok (.invokevirtual 170, 3) := by decide +kernel
theorem dX9_isNone_18 : decode cX9_isNone 18 = .ok (.ifCond .eq 7, 3) := by decide +kernel
theorem dX9_isNone_21 : decode cX9_isNone 21 = .ok (.iconst 1, 1) := by decide +kernel
theorem dX9_isNone_22 : decode cX9_isNone 22 = .ok (.goto 4, 3) := by decide +kernel
theorem dX9_isNone_25 : decode cX9_isNone 25 = .ok (.iconst 0, 1) := by decide +kernel
theorem dX9_isNone_26 : decode cX9_isNone 26 = .ok (.ireturn, 1) := by decide +kernel
theorem dX9_order_0 : decode cX9_order 0 = .ok (.aload_n 0, 1) := by decide +kernel
theorem dX9_order_1 : decode cX9_order 1 = .ok (.getfield 12, 3) := by decide +kernel
theorem dX9_order_4 : decode cX9_order 4 = .ok (.iload_n 1, 1) := by decide +kernel
theorem dX9_order_5 : decode cX9_order 5 = .ok (.invokevirtual 173, 3) := by decide +kernel
theorem dX9_order_8 : decode cX9_order 8 = .ok (.ireturn, 1) := by decide +kernel
theorem dX9_trace_0 : decode cX9_trace 0 = .ok (.aload_n 0, 1) := by decide +kernel
theorem dX9_trace_1 : decode cX9_trace 1 = .ok (.getfield 51, 3) := by decide +kernel
theorem dX9_trace_4 : decode cX9_trace 4 = .ok (.iload_n 1, 1) := by decide +kernel
theorem dX9_trace_5 : decode cX9_trace 5 = .ok (.invokevirtual 176, 3) := by decide +kernel
theorem dX9_trace_8 : decode cX9_trace 8 = .ok (.ireturn, 1) := by decide +kernel
theorem dX9_finding_0 : decode cX9_finding 0 = .ok (.aload_n 0, 1) := by decide +kernel
theorem dX9_finding_1 : decode cX9_finding 1 = .ok (.getfield 51, 3) := by decide +kernel
theorem dX9_finding_4 : decode cX9_finding 4 = .ok (.getfield 179, 3) := by decide +kernel
theorem dX9_finding_7 : decode cX9_finding 7 = .ok (.ifCond .ne 5, 3) := by decide +kernel
theorem dX9_finding_10 : decode cX9_finding 10 = .ok (.iconst (-1), 1) := by decide +kernel
theorem dX9_finding_11 : decode cX9_finding 11 = .ok (.ireturn, 1) := by decide +kernel
theorem dX9_finding_12 : decode cX9_finding 12 = .ok (.iload_n 1, 1) := by decide +kernel
theorem dX9_finding_13 : decode cX9_finding 13 = .ok (.tableswitch 51 0 2 #[27, 35, 43], 27) := by decide +kernel
theorem dX9_finding_40 : decode cX9_finding 40 = .ok (.aload_n 0, 1) := by decide +kernel
theorem dX9_finding_41 : decode cX9_finding 41 = .ok (.getfield 51, 3) := by decide +kernel
theorem dX9_finding_44 : decode cX9_finding 44 = .ok (.getfield 179, 3) := by decide +kernel
theorem dX9_finding_47 : decode cX9_finding 47 = .ok (.ireturn, 1) := by decide +kernel
theorem dX9_finding_48 : decode cX9_finding 48 = .ok (.aload_n 0, 1) := by decide +kernel
theorem dX9_finding_49 : decode cX9_finding 49 = .ok (.getfield 51, 3) := by decide +kernel
theorem dX9_finding_52 : decode cX9_finding 52 = .ok (.getfield 182, 3) := by decide +kernel
theorem dX9_finding_55 : decode cX9_finding 55 = .ok (.ireturn, 1) := by decide +kernel
theorem dX9_finding_56 : decode cX9_finding 56 = .ok (.aload_n 0, 1) := by decide +kernel
theorem dX9_finding_57 : decode cX9_finding 57 = .ok (.getfield 51, 3) := by decide +kernel
theorem dX9_finding_60 : decode cX9_finding 60 = .ok (.getfield 185, 3) := by decide +kernel
theorem dX9_finding_63 : decode cX9_finding 63 = .ok (.ireturn, 1) := by decide +kernel
theorem dX9_finding_64 : decode cX9_finding 64 = .ok (.iconst (-1), 1) := by decide +kernel
theorem dX9_finding_65 : decode cX9_finding 65 = .ok (.ireturn, 1) := by decide +kernel
theorem dX9_count_0 : decode cX9_count 0 = .ok (.iload_n 1, 1) := by decide +kernel
theorem dX9_count_1 : decode cX9_count 1 = .ok (.tableswitch 75 0 4 #[35, 43, 51, 59, 67], 35) := by decide +kernel
theorem dX9_count_36 : decode cX9_count 36 = .ok (.aload_n 0, 1) := by decide +kernel
theorem dX9_count_37 : decode cX9_count 37 = .ok (.getfield 12, 3) := by decide +kernel
theorem dX9_count_40 : decode cX9_count 40 = .ok (.getfield 188, 3) := by decide +kernel
theorem dX9_count_43 : decode cX9_count 43 = .ok (.ireturn, 1) := by decide +kernel
theorem dX9_count_44 : decode cX9_count 44 = .ok (.aload_n 0, 1) := by decide +kernel
theorem dX9_count_45 : decode cX9_count 45 = .ok (.getfield 12, 3) := by decide +kernel
theorem dX9_count_48 : decode cX9_count 48 = .ok (.invokevirtual 191, 3) := by decide +kernel
theorem dX9_count_51 : decode cX9_count 51 = .ok (.ireturn, 1) := by decide +kernel
theorem dX9_count_52 : decode cX9_count 52 = .ok (.aload_n 0, 1) := by decide +kernel
theorem dX9_count_53 : decode cX9_count 53 = .ok (.getfield 42, 3) := by decide +kernel
theorem dX9_count_56 : decode cX9_count 56 = .ok (.getfield 194, 3) := by decide +kernel
theorem dX9_count_59 : decode cX9_count 59 = .ok (.ireturn, 1) := by decide +kernel
theorem dX9_count_60 : decode cX9_count 60 = .ok (.aload_n 0, 1) := by decide +kernel
theorem dX9_count_61 : decode cX9_count 61 = .ok (.getfield 42, 3) := by decide +kernel
theorem dX9_count_64 : decode cX9_count 64 = .ok (.getfield 118, 3) := by decide +kernel
theorem dX9_count_67 : decode cX9_count 67 = .ok (.ireturn, 1) := by decide +kernel
theorem dX9_count_68 : decode cX9_count 68 = .ok (.aload_n 0, 1) := by decide +kernel
theorem dX9_count_69 : decode cX9_count 69 = .ok (.getfield 33, 3) := by decide +kernel
theorem dX9_count_72 : decode cX9_count 72 = .ok (.getfield 197, 3) := by decide +kernel
theorem dX9_count_75 : decode cX9_count 75 = .ok (.ireturn, 1) := by decide +kernel
theorem dX9_count_76 : decode cX9_count 76 = .ok (.aload_n 0, 1) := by decide +kernel
theorem dX9_count_77 : decode cX9_count 77 = .ok (.iload_n 1, 1) := by decide +kernel
theorem dX9_count_78 : decode cX9_count 78 = .ok (.invokevirtual 198, 3) := by decide +kernel
theorem dX9_count_81 : decode cX9_count 81 = .ok (.ireturn, 1) := by decide +kernel
theorem dX9_countOfModule_0 : decode cX9_countOfModule 0 = .ok (.iload_n 1, 1) := by decide +kernel
theorem dX9_countOfModule_1 : decode cX9_countOfModule 1 = .ok (.bipush 40, 2) := by decide +kernel
theorem dX9_countOfModule_3 : decode cX9_countOfModule 3 = .ok (.if_icmp .lt 42, 3) := by decide +kernel
theorem dX9_countOfModule_6 : decode cX9_countOfModule 6 = .ok (.iload_n 1, 1) := by decide +kernel
theorem dX9_countOfModule_7 : decode cX9_countOfModule 7 = .ok (.bipush 40, 2) := by decide +kernel
theorem dX9_countOfModule_9 : decode cX9_countOfModule 9 = .ok (.aload_n 0, 1) := by decide +kernel
theorem dX9_countOfModule_10 : decode cX9_countOfModule 10 = .ok (.getfield 12, 3) := by decide +kernel
theorem dX9_countOfModule_13 : decode cX9_countOfModule 13 = .ok (.getfield 188, 3) := by decide +kernel
theorem dX9_countOfModule_16 : decode cX9_countOfModule 16 = .ok (.iadd, 1) := by decide +kernel
theorem dX9_countOfModule_17 : decode cX9_countOfModule 17 = .ok (.if_icmp .ge 28, 3) := by decide +kernel
theorem dX9_countOfModule_20 : decode cX9_countOfModule 20 = .ok (.aload_n 0, 1) := by decide +kernel
theorem dX9_countOfModule_21 : decode cX9_countOfModule 21 = .ok (.getfield 12, 3) := by decide +kernel
theorem dX9_countOfModule_24 : decode cX9_countOfModule 24 = .ok (.iload_n 1, 1) := by decide +kernel
theorem dX9_countOfModule_25 : decode cX9_countOfModule 25 = .ok (.bipush 40, 2) := by decide +kernel
theorem dX9_countOfModule_27 : decode cX9_countOfModule 27 = .ok (.isub, 1) := by decide +kernel
theorem dX9_countOfModule_28 : decode cX9_countOfModule 28 = .ok (.invokevirtual 63, 3) := by decide +kernel
theorem dX9_countOfModule_31 : decode cX9_countOfModule 31 = .ok (.astore_n 2, 1) := by decide +kernel
theorem dX9_countOfModule_32 : decode cX9_countOfModule 32 = .ok (.aload_n 2, 1) := by decide +kernel
theorem dX9_countOfModule_33 : decode cX9_countOfModule 33 = .ok (.ifnonnull 7, 3) := by decide +kernel
theorem dX9_countOfModule_36 : decode cX9_countOfModule 36 = .ok (.iconst (-1), 1) := by decide +kernel
theorem dX9_countOfModule_37 : decode cX9_countOfModule 37 = .ok (.goto 7, 3) := by decide +kernel
theorem dX9_countOfModule_40 : decode cX9_countOfModule 40 = .ok (.aload_n 2, 1) := by decide +kernel
theorem dX9_countOfModule_41 : decode cX9_countOfModule 41 = .ok (.getfield 201, 3) := by decide +kernel
theorem dX9_countOfModule_44 : decode cX9_countOfModule 44 = .ok (.ireturn, 1) := by decide +kernel
theorem dX9_countOfModule_45 : decode cX9_countOfModule 45 = .ok (.iload_n 1, 1) := by decide +kernel
theorem dX9_countOfModule_46 : decode cX9_countOfModule 46 = .ok (.bipush 10, 2) := by decide +kernel
theorem dX9_countOfModule_48 : decode cX9_countOfModule 48 = .ok (.if_icmp .lt 45, 3) := by decide +kernel
theorem dX9_countOfModule_51 : decode cX9_countOfModule 51 = .ok (.iload_n 1, 1) := by decide +kernel
theorem dX9_countOfModule_52 : decode cX9_countOfModule 52 = .ok (.bipush 10, 2) := by decide +kernel
theorem dX9_countOfModule_54 : decode cX9_countOfModule 54 = .ok (.aload_n 0, 1) := by decide +kernel
theorem dX9_countOfModule_55 : decode cX9_countOfModule 55 = .ok (.getfield 12, 3) := by decide +kernel
theorem dX9_countOfModule_58 : decode cX9_countOfModule 58 = .ok (.getfield 188, 3) := by decide +kernel
theorem dX9_countOfModule_61 : decode cX9_countOfModule 61 = .ok (.iadd, 1) := by decide +kernel
theorem dX9_countOfModule_62 : decode cX9_countOfModule 62 = .ok (.if_icmp .ge 31, 3) := by decide +kernel
theorem dX9_countOfModule_65 : decode cX9_countOfModule 65 = .ok (.aload_n 0, 1) := by decide +kernel
theorem dX9_countOfModule_66 : decode cX9_countOfModule 66 = .ok (.getfield 12, 3) := by decide +kernel
theorem dX9_countOfModule_69 : decode cX9_countOfModule 69 = .ok (.iload_n 1, 1) := by decide +kernel
theorem dX9_countOfModule_70 : decode cX9_countOfModule 70 = .ok (.bipush 10, 2) := by decide +kernel
theorem dX9_countOfModule_72 : decode cX9_countOfModule 72 = .ok (.isub, 1) := by decide +kernel
theorem dX9_countOfModule_73 : decode cX9_countOfModule 73 = .ok (.invokevirtual 63, 3) := by decide +kernel
theorem dX9_countOfModule_76 : decode cX9_countOfModule 76 = .ok (.astore_n 2, 1) := by decide +kernel
theorem dX9_countOfModule_77 : decode cX9_countOfModule 77 = .ok (.aload_n 2, 1) := by decide +kernel
theorem dX9_countOfModule_78 : decode cX9_countOfModule 78 = .ok (.ifnonnull 7, 3) := by decide +kernel
theorem dX9_countOfModule_81 : decode cX9_countOfModule 81 = .ok (.iconst (-1), 1) := by decide +kernel
theorem dX9_countOfModule_82 : decode cX9_countOfModule 82 = .ok (.goto 10, 3) := by decide +kernel
theorem dX9_countOfModule_85 : decode cX9_countOfModule 85 = .ok (.aload_n 2, 1) := by decide +kernel
theorem dX9_countOfModule_86 : decode cX9_countOfModule 86 = .ok (.getfield 202, 3) := by decide +kernel
theorem dX9_countOfModule_89 : decode cX9_countOfModule 89 = .ok (.getfield 206, 3) := by decide +kernel
theorem dX9_countOfModule_92 : decode cX9_countOfModule 92 = .ok (.ireturn, 1) := by decide +kernel
theorem dX9_countOfModule_93 : decode cX9_countOfModule 93 = .ok (.iconst (-1), 1) := by decide +kernel
theorem dX9_countOfModule_94 : decode cX9_countOfModule 94 = .ok (.ireturn, 1) := by decide +kernel
theorem dX9_heldFloating_0 : decode cX9_heldFloating 0 = .ok (.dload_n 0, 1) := by decide +kernel
theorem dX9_heldFloating_1 : decode cX9_heldFloating 1 = .ok (.ldc2_w 211, 3) := by decide +kernel
theorem dX9_heldFloating_4 : decode cX9_heldFloating 4 = .ok (.dcmp .l, 1) := by decide +kernel
theorem dX9_heldFloating_5 : decode cX9_heldFloating 5 = .ok (.ifCond .le 7, 3) := by decide +kernel
theorem dX9_heldFloating_8 : decode cX9_heldFloating 8 = .ok (.ldc2_w 211, 3) := by decide +kernel
theorem dX9_heldFloating_11 : decode cX9_heldFloating 11 = .ok (.dreturn, 1) := by decide +kernel
theorem dX9_heldFloating_12 : decode cX9_heldFloating 12 = .ok (.dload_n 0, 1) := by decide +kernel
theorem dX9_heldFloating_13 : decode cX9_heldFloating 13 = .ok (.ldc2_w 213, 3) := by decide +kernel
theorem dX9_heldFloating_16 : decode cX9_heldFloating 16 = .ok (.dcmp .g, 1) := by decide +kernel
theorem dX9_heldFloating_17 : decode cX9_heldFloating 17 = .ok (.ifCond .ge 9, 3) := by decide +kernel
theorem dX9_heldFloating_20 : decode cX9_heldFloating 20 = .ok (.ldc2_w 213, 3) := by decide +kernel
theorem dX9_heldFloating_23 : decode cX9_heldFloating 23 = .ok (.goto 4, 3) := by decide +kernel
theorem dX9_heldFloating_26 : decode cX9_heldFloating 26 = .ok (.dload_n 0, 1) := by decide +kernel
theorem dX9_heldFloating_27 : decode cX9_heldFloating 27 = .ok (.dreturn, 1) := by decide +kernel
theorem dX10_init_0 : decode cX10_init 0 = .ok (.aload_n 0, 1) := by decide +kernel
theorem dX10_init_1 : decode cX10_init 1 = .ok (.invokespecial 1, 3) := by decide +kernel
theorem dX10_init_4 : decode cX10_init 4 = .ok (.aload_n 0, 1) := by decide +kernel
theorem dX10_init_5 : decode cX10_init 5 = .ok (.sipush 19680, 3) := by decide +kernel
theorem dX10_init_8 : decode cX10_init 8 = .ok (.newarray .double, 2) := by decide +kernel
theorem dX10_init_10 : decode cX10_init 10 = .ok (.putfield 7, 3) := by decide +kernel
theorem dX10_init_13 : decode cX10_init 13 = .ok (.aload_n 0, 1) := by decide +kernel
theorem dX10_init_14 : decode cX10_init 14 = .ok (.sipush 4800, 3) := by decide +kernel
theorem dX10_init_17 : decode cX10_init 17 = .ok (.newarray .int, 2) := by decide +kernel
theorem dX10_init_19 : decode cX10_init 19 = .ok (.putfield 13, 3) := by decide +kernel
theorem dX10_init_22 : decode cX10_init 22 = .ok (.aload_n 0, 1) := by decide +kernel
theorem dX10_init_23 : decode cX10_init 23 = .ok (.bipush 24, 2) := by decide +kernel
theorem dX10_init_25 : decode cX10_init 25 = .ok (.newarray .int, 2) := by decide +kernel
theorem dX10_init_27 : decode cX10_init 27 = .ok (.putfield 17, 3) := by decide +kernel
theorem dX10_init_30 : decode cX10_init 30 = .ok (.aload_n 0, 1) := by decide +kernel
theorem dX10_init_31 : decode cX10_init 31 = .ok (.bipush 24, 2) := by decide +kernel
theorem dX10_init_33 : decode cX10_init 33 = .ok (.newarray .int, 2) := by decide +kernel
theorem dX10_init_35 : decode cX10_init 35 = .ok (.putfield 20, 3) := by decide +kernel
theorem dX10_init_38 : decode cX10_init 38 = .ok (.aload_n 0, 1) := by decide +kernel
theorem dX10_init_39 : decode cX10_init 39 = .ok (.bipush 72, 2) := by decide +kernel
theorem dX10_init_41 : decode cX10_init 41 = .ok (.newarray .int, 2) := by decide +kernel
theorem dX10_init_43 : decode cX10_init 43 = .ok (.putfield 23, 3) := by decide +kernel
theorem dX10_init_46 : decode cX10_init 46 = .ok (.aload_n 0, 1) := by decide +kernel
theorem dX10_init_47 : decode cX10_init 47 = .ok (.bipush 72, 2) := by decide +kernel
theorem dX10_init_49 : decode cX10_init 49 = .ok (.newarray .int, 2) := by decide +kernel
theorem dX10_init_51 : decode cX10_init 51 = .ok (.putfield 26, 3) := by decide +kernel
theorem dX10_init_54 : decode cX10_init 54 = .ok (.aload_n 0, 1) := by decide +kernel
theorem dX10_init_55 : decode cX10_init 55 = .ok (.sipush 128, 3) := by decide +kernel
theorem dX10_init_58 : decode cX10_init 58 = .ok (.newarray .int, 2) := by decide +kernel
theorem dX10_init_60 : decode cX10_init 60 = .ok (.putfield 29, 3) := by decide +kernel
theorem dX10_init_63 : decode cX10_init 63 = .ok (.aload_n 0, 1) := by decide +kernel
theorem dX10_init_64 : decode cX10_init 64 = .ok (.bipush 8, 2) := by decide +kernel
theorem dX10_init_66 : decode cX10_init 66 = .ok (.newarray .int, 2) := by decide +kernel
theorem dX10_init_68 : decode cX10_init 68 = .ok (.putfield 32, 3) := by decide +kernel
theorem dX10_init_71 : decode cX10_init 71 = .ok (.aload_n 0, 1) := by decide +kernel
theorem dX10_init_72 : decode cX10_init 72 = .ok (.bipush 24, 2) := by decide +kernel
theorem dX10_init_74 : decode cX10_init 74 = .ok (.newarray .int, 2) := by decide +kernel
theorem dX10_init_76 : decode cX10_init 76 = .ok (.putfield 35, 3) := by decide +kernel
theorem dX10_init_79 : decode cX10_init 79 = .ok (.aload_n 0, 1) := by decide +kernel
theorem dX10_init_80 : decode cX10_init 80 = .ok (.bipush 48, 2) := by decide +kernel
theorem dX10_init_82 : decode cX10_init 82 = .ok (.newarray .int, 2) := by decide +kernel
theorem dX10_init_84 : decode cX10_init 84 = .ok (.putfield 38, 3) := by decide +kernel
theorem dX10_init_87 : decode cX10_init 87 = .ok (.aload_n 0, 1) := by decide +kernel
theorem dX10_init_88 : decode cX10_init 88 = .ok (.sipush 576, 3) := by decide +kernel
theorem dX10_init_91 : decode cX10_init 91 = .ok (.newarray .int, 2) := by decide +kernel
theorem dX10_init_93 : decode cX10_init 93 = .ok (.putfield 41, 3) := by decide +kernel
theorem dX10_init_96 : decode cX10_init 96 = .ok (.aload_n 0, 1) := by decide +kernel
theorem dX10_init_97 : decode cX10_init 97 = .ok (.bipush 8, 2) := by decide +kernel
theorem dX10_init_99 : decode cX10_init 99 = .ok (.newarray .int, 2) := by decide +kernel
theorem dX10_init_101 : decode cX10_init 101 = .ok (.putfield 44, 3) := by decide +kernel
theorem dX10_init_104 : decode cX10_init 104 = .ok (.aload_n 0, 1) := by decide +kernel
theorem dX10_init_105 : decode cX10_init 105 = .ok (.bipush 40, 2) := by decide +kernel
theorem dX10_init_107 : decode cX10_init 107 = .ok (.newarray .int, 2) := by decide +kernel
theorem dX10_init_109 : decode cX10_init 109 = .ok (.putfield 47, 3) := by decide +kernel
theorem dX10_init_112 : decode cX10_init 112 = .ok (.aload_n 0, 1) := by decide +kernel
theorem dX10_init_113 : decode cX10_init 113 = .ok (.bipush 40, 2) := by decide +kernel
theorem dX10_init_115 : decode cX10_init 115 = .ok (.newarray .int, 2) := by decide +kernel
theorem dX10_init_117 : decode cX10_init 117 = .ok (.putfield 50, 3) := by decide +kernel
theorem dX10_init_120 : decode cX10_init 120 = .ok (.aload_n 0, 1) := by decide +kernel
theorem dX10_init_121 : decode cX10_init 121 = .ok (.bipush 40, 2) := by decide +kernel
theorem dX10_init_123 : decode cX10_init 123 = .ok (.newarray .int, 2) := by decide +kernel
theorem dX10_init_125 : decode cX10_init 125 = .ok (.putfield 53, 3) := by decide +kernel
theorem dX10_init_128 : decode cX10_init 128 = .ok (.aload_n 0, 1) := by decide +kernel
theorem dX10_init_129 : decode cX10_init 129 = .ok (.bipush 40, 2) := by decide +kernel
theorem dX10_init_131 : decode cX10_init 131 = .ok (.newarray .int, 2) := by decide +kernel
theorem dX10_init_133 : decode cX10_init 133 = .ok (.putfield 56, 3) := by decide +kernel
theorem dX10_init_136 : decode cX10_init 136 = .ok (.aload_n 0, 1) := by decide +kernel
theorem dX10_init_137 : decode cX10_init 137 = .ok (.sipush 640, 3) := by decide +kernel
theorem dX10_init_140 : decode cX10_init 140 = .ok (.newarray .double, 2) := by decide +kernel
theorem dX10_init_142 : decode cX10_init 142 = .ok (.putfield 59, 3) := by decide +kernel
theorem dX10_init_145 : decode cX10_init 145 = .ok (.aload_n 0, 1) := by decide +kernel
theorem dX10_init_146 : decode cX10_init 146 = .ok (.bipush 16, 2) := by decide +kernel
theorem dX10_init_148 : decode cX10_init 148 = .ok (.newarray .double, 2) := by decide +kernel
theorem dX10_init_150 : decode cX10_init 150 = .ok (.putfield 62, 3) := by decide +kernel
theorem dX10_init_153 : decode cX10_init 153 = .ok (.aload_n 0, 1) := by decide +kernel
theorem dX10_init_154 : decode cX10_init 154 = .ok (.bipush 24, 2) := by decide +kernel
theorem dX10_init_156 : decode cX10_init 156 = .ok (.newarray .int, 2) := by decide +kernel
theorem dX10_init_158 : decode cX10_init 158 = .ok (.putfield 65, 3) := by decide +kernel
theorem dX10_init_161 : decode cX10_init 161 = .ok (.return_, 1) := by decide +kernel
theorem dX10_isIn_0 : decode cX10_isIn 0 = .ok (.iload_n 0, 1) := by decide +kernel
theorem dX10_isIn_1 : decode cX10_isIn 1 = .ok (.iload_n 1, 1) := by decide +kernel
theorem dX10_isIn_2 : decode cX10_isIn 2 = .ok (.if_icmp .lt 12, 3) := by decide +kernel
theorem dX10_isIn_5 : decode cX10_isIn 5 = .ok (.iload_n 0, 1) := by decide +kernel
theorem dX10_isIn_6 : decode cX10_isIn 6 = .ok (.iload_n 2, 1) := by decide +kernel
theorem dX10_isIn_7 : decode cX10_isIn 7 = .ok (.if_icmp .gt 7, 3) := by decide +kernel
theorem dX10_isIn_10 : decode cX10_isIn 10 = .ok (.iconst 1, 1) := by decide +kernel
theorem dX10_isIn_11 : decode cX10_isIn 11 = .ok (.goto 4, 3) := by decide +kernel
theorem dX10_isIn_14 : decode cX10_isIn 14 = .ok (.iconst 0, 1) := by decide +kernel
theorem dX10_isIn_15 : decode cX10_isIn 15 = .ok (.ireturn, 1) := by decide +kernel
theorem dX10_isModule_0 : decode cX10_isModule 0 = .ok (.iload_n 1, 1) := by decide +kernel
theorem dX10_isModule_1 : decode cX10_isModule 1 = .ok (.iconst 0, 1) := by decide +kernel
theorem dX10_isModule_2 : decode cX10_isModule 2 = .ok (.aload_n 0, 1) := by decide +kernel
theorem dX10_isModule_3 : decode cX10_isModule 3 = .ok (.getfield 68, 3) := by decide +kernel
theorem dX10_isModule_6 : decode cX10_isModule 6 = .ok (.iconst 1, 1) := by decide +kernel
theorem dX10_isModule_7 : decode cX10_isModule 7 = .ok (.isub, 1) := by decide +kernel
theorem dX10_isModule_8 : decode cX10_isModule 8 = .ok (.invokestatic 72, 3) := by decide +kernel
theorem dX10_isModule_11 : decode cX10_isModule 11 = .ok (.ireturn, 1) := by decide +kernel
theorem dX10_hasIn_0 : decode cX10_hasIn 0 = .ok (.aload_n 0, 1) := by decide +kernel
theorem dX10_hasIn_1 : decode cX10_hasIn 1 = .ok (.iload_n 1, 1) := by decide +kernel
theorem dX10_hasIn_2 : decode cX10_hasIn 2 = .ok (.invokevirtual 76, 3) := by decide +kernel
theorem dX10_hasIn_5 : decode cX10_hasIn 5 = .ok (.ifCond .eq 30, 3) := by decide +kernel
theorem dX10_hasIn_8 : decode cX10_hasIn 8 = .ok (.iload_n 2, 1) := by decide +kernel
theorem dX10_hasIn_9 : decode cX10_hasIn 9 = .ok (.iconst 0, 1) := by decide +kernel
theorem dX10_hasIn_10 : decode cX10_hasIn 10 = .ok (.aload_n 0, 1) := by decide +kernel
theorem dX10_hasIn_11 : decode cX10_hasIn 11 = .ok (.getfield 17, 3) := by decide +kernel
theorem dX10_hasIn_14 : decode cX10_hasIn 14 = .ok (.iload_n 1, 1) := by decide +kernel
theorem dX10_hasIn_15 : decode cX10_hasIn 15 = .ok (.iaload, 1) := by decide +kernel
theorem dX10_hasIn_16 : decode cX10_hasIn 16 = .ok (.iconst 5, 1) := by decide +kernel
theorem dX10_hasIn_17 : decode cX10_hasIn 17 = .ok (.if_icmp .ne 7, 3) := by decide +kernel
theorem dX10_hasIn_20 : decode cX10_hasIn 20 = .ok (.iconst 2, 1) := by decide +kernel
theorem dX10_hasIn_21 : decode cX10_hasIn 21 = .ok (.goto 4, 3) := by decide +kernel
theorem dX10_hasIn_24 : decode cX10_hasIn 24 = .ok (.iconst 1, 1) := by decide +kernel
theorem dX10_hasIn_25 : decode cX10_hasIn 25 = .ok (.invokestatic 72, 3) := by decide +kernel
theorem dX10_hasIn_28 : decode cX10_hasIn 28 = .ok (.ifCond .eq 7, 3) := by decide +kernel
theorem dX10_hasIn_31 : decode cX10_hasIn 31 = .ok (.iconst 1, 1) := by decide +kernel
theorem dX10_hasIn_32 : decode cX10_hasIn 32 = .ok (.goto 4, 3) := by decide +kernel
theorem dX10_hasIn_35 : decode cX10_hasIn 35 = .ok (.iconst 0, 1) := by decide +kernel
theorem dX10_hasIn_36 : decode cX10_hasIn 36 = .ok (.ireturn, 1) := by decide +kernel
theorem dX10_module_0 : decode cX10_module 0 = .ok (.iload_n 1, 1) := by decide +kernel
theorem dX10_module_1 : decode cX10_module 1 = .ok (.iconst 0, 1) := by decide +kernel
theorem dX10_module_2 : decode cX10_module 2 = .ok (.bipush 10, 2) := by decide +kernel
theorem dX10_module_4 : decode cX10_module 4 = .ok (.invokestatic 72, 3) := by decide +kernel
theorem dX10_module_7 : decode cX10_module 7 = .ok (.ifCond .eq 12, 3) := by decide +kernel
theorem dX10_module_10 : decode cX10_module 10 = .ok (.iload_n 2, 1) := by decide +kernel
theorem dX10_module_11 : decode cX10_module 11 = .ok (.iconst 0, 1) := by decide +kernel
theorem dX10_module_12 : decode cX10_module 12 = .ok (.iconst 4, 1) := by decide +kernel
theorem dX10_module_13 : decode cX10_module 13 = .ok (.invokestatic 72, 3) := by decide +kernel
theorem dX10_module_16 : decode cX10_module 16 = .ok (.ifCond .ne 5, 3) := by decide +kernel
theorem dX10_module_19 : decode cX10_module 19 = .ok (.iconst (-1), 1) := by decide +kernel
theorem dX10_module_20 : decode cX10_module 20 = .ok (.ireturn, 1) := by decide +kernel
theorem dX10_module_21 : decode cX10_module 21 = .ok (.aload_n 0, 1) := by decide +kernel
theorem dX10_module_22 : decode cX10_module 22 = .ok (.getfield 68, 3) := by decide +kernel
theorem dX10_module_25 : decode cX10_module 25 = .ok (.bipush 24, 2) := by decide +kernel
theorem dX10_module_27 : decode cX10_module 27 = .ok (.if_icmp .ne 6, 3) := by decide +kernel
theorem dX10_module_30 : decode cX10_module 30 = .ok (.bipush (-2), 2) := by decide +kernel
theorem dX10_module_32 : decode cX10_module 32 = .ok (.ireturn, 1) := by decide +kernel
theorem dX10_module_33 : decode cX10_module 33 = .ok (.aload_n 0, 1) := by decide +kernel
theorem dX10_module_34 : decode cX10_module 34 = .ok (.getfield 17, 3) := by decide +kernel
theorem dX10_module_37 : decode cX10_module 37 = .ok (.aload_n 0, 1) := by decide +kernel
theorem dX10_module_38 : decode cX10_module 38 = .ok (.getfield 68, 3) := by decide +kernel
theorem dX10_module_41 : decode cX10_module 41 = .ok (.iload_n 1, 1) := by decide +kernel
theorem dX10_module_42 : decode cX10_module 42 = .ok (.iastore, 1) := by decide +kernel
theorem dX10_module_43 : decode cX10_module 43 = .ok (.aload_n 0, 1) := by decide +kernel
theorem dX10_module_44 : decode cX10_module 44 = .ok (.getfield 20, 3) := by decide +kernel
theorem dX10_module_47 : decode cX10_module 47 = .ok (.aload_n 0, 1) := by decide +kernel
theorem dX10_module_48 : decode cX10_module 48 = .ok (.getfield 68, 3) := by decide +kernel
theorem dX10_module_51 : decode cX10_module 51 = .ok (.iload_n 2, 1) := by decide +kernel
theorem dX10_module_52 : decode cX10_module 52 = .ok (.iastore, 1) := by decide +kernel
theorem dX10_module_53 : decode cX10_module 53 = .ok (.aload_n 0, 1) := by decide +kernel
theorem dX10_module_54 : decode cX10_module 54 = .ok (.dup, 1) := by decide +kernel
theorem dX10_module_55 : decode cX10_module 55 = .ok (.getfield 68, 3) := by decide +kernel
theorem dX10_module_58 : decode cX10_module 58 = .ok (.iconst 1, 1) := by decide +kernel
theorem dX10_module_59 : decode cX10_module 59 = .ok (.iadd, 1) := by decide +kernel
theorem dX10_module_60 : decode cX10_module 60 = .ok (.putfield 68, 3) := by decide +kernel
theorem dX10_module_63 : decode cX10_module 63 = .ok (.aload_n 0, 1) := by decide +kernel
theorem dX10_module_64 : decode cX10_module 64 = .ok (.getfield 68, 3) := by decide +kernel
theorem dX10_module_67 : decode cX10_module 67 = .ok (.iconst 1, 1) := by decide +kernel
theorem dX10_module_68 : decode cX10_module 68 = .ok (.isub, 1) := by decide +kernel
theorem dX10_module_69 : decode cX10_module 69 = .ok (.ireturn, 1) := by decide +kernel
theorem dX10_leads_0 : decode cX10_leads 0 = .ok (.aload_n 0, 1) := by decide +kernel
theorem dX10_leads_1 : decode cX10_leads 1 = .ok (.getfield 26, 3) := by decide +kernel
theorem dX10_leads_4 : decode cX10_leads 4 = .ok (.iconst 3, 1) := by decide +kernel
theorem dX10_leads_5 : decode cX10_leads 5 = .ok (.iload_n 2, 1) := by decide +kernel
theorem dX10_leads_6 : decode cX10_leads 6 = .ok (.imul, 1) := by decide +kernel
theorem dX10_leads_7 : decode cX10_leads 7 = .ok (.iaload, 1) := by decide +kernel
theorem dX10_leads_8 : decode cX10_leads 8 = .ok (.iload_n 1, 1) := by decide +kernel
theorem dX10_leads_9 : decode cX10_leads 9 = .ok (.iconst 1, 1) := by decide +kernel
theorem dX10_leads_10 : decode cX10_leads 10 = .ok (.iadd, 1) := by decide +kernel
theorem dX10_leads_11 : decode cX10_leads 11 = .ok (.if_icmp .eq 35, 3) := by decide +kernel
theorem dX10_leads_14 : decode cX10_leads 14 = .ok (.aload_n 0, 1) := by decide +kernel
theorem dX10_leads_15 : decode cX10_leads 15 = .ok (.getfield 26, 3) := by decide +kernel
theorem dX10_leads_18 : decode cX10_leads 18 = .ok (.iconst 3, 1) := by decide +kernel
theorem dX10_leads_19 : decode cX10_leads 19 = .ok (.iload_n 2, 1) := by decide +kernel
theorem dX10_leads_20 : decode cX10_leads 20 = .ok (.imul, 1) := by decide +kernel
theorem dX10_leads_21 : decode cX10_leads 21 = .ok (.iconst 1, 1) := by decide +kernel
theorem dX10_leads_22 : decode cX10_leads 22 = .ok (.iadd, 1) := by decide +kernel
theorem dX10_leads_23 : decode cX10_leads 23 = .ok (.iaload, 1) := by decide +kernel
theorem dX10_leads_24 : decode cX10_leads 24 = .ok (.iload_n 1, 1) := by decide +kernel
theorem dX10_leads_25 : decode cX10_leads 25 = .ok (.iconst 1, 1) := by decide +kernel
theorem dX10_leads_26 : decode cX10_leads 26 = .ok (.iadd, 1) := by decide +kernel
theorem dX10_leads_27 : decode cX10_leads 27 = .ok (.if_icmp .eq 19, 3) := by decide +kernel
theorem dX10_leads_30 : decode cX10_leads 30 = .ok (.aload_n 0, 1) := by decide +kernel
theorem dX10_leads_31 : decode cX10_leads 31 = .ok (.getfield 26, 3) := by decide +kernel
theorem dX10_leads_34 : decode cX10_leads 34 = .ok (.iconst 3, 1) := by decide +kernel
theorem dX10_leads_35 : decode cX10_leads 35 = .ok (.iload_n 2, 1) := by decide +kernel
theorem dX10_leads_36 : decode cX10_leads 36 = .ok (.imul, 1) := by decide +kernel
theorem dX10_leads_37 : decode cX10_leads 37 = .ok (.iconst 2, 1) := by decide +kernel
theorem dX10_leads_38 : decode cX10_leads 38 = .ok (.iadd, 1) := by decide +kernel
theorem dX10_leads_39 : decode cX10_leads 39 = .ok (.iaload, 1) := by decide +kernel
theorem dX10_leads_40 : decode cX10_leads 40 = .ok (.iload_n 1, 1) := by decide +kernel
theorem dX10_leads_41 : decode cX10_leads 41 = .ok (.iconst 1, 1) := by decide +kernel
theorem dX10_leads_42 : decode cX10_leads 42 = .ok (.iadd, 1) := by decide +kernel
theorem dX10_leads_43 : decode cX10_leads 43 = .ok (.if_icmp .ne 7, 3) := by decide +kernel
theorem dX10_leads_46 : decode cX10_leads 46 = .ok (.iconst 1, 1) := by decide +kernel
theorem dX10_leads_47 : decode cX10_leads 47 = .ok (.goto 4, 3) := by decide +kernel
theorem dX10_leads_50 : decode cX10_leads 50 = .ok (.iconst 0, 1) := by decide +kernel
theorem dX10_leads_51 : decode cX10_leads 51 = .ok (.ireturn, 1) := by decide +kernel
theorem dX10_way_0 : decode cX10_way 0 = .ok (.iconst 0, 1) := by decide +kernel
theorem dX10_way_1 : decode cX10_way 1 = .ok (.istore_n 3, 1) := by decide +kernel
theorem dX10_way_2 : decode cX10_way 2 = .ok (.iload_n 3, 1) := by decide +kernel
theorem dX10_way_3 : decode cX10_way 3 = .ok (.bipush 24, 2) := by decide +kernel
theorem dX10_way_5 : decode cX10_way 5 = .ok (.if_icmp .ge 16, 3) := by decide +kernel
theorem dX10_way_8 : decode cX10_way 8 = .ok (.aload_n 0, 1) := by decide +kernel
theorem dX10_way_9 : decode cX10_way 9 = .ok (.getfield 65, 3) := by decide +kernel
theorem dX10_way_12 : decode cX10_way 12 = .ok (.iload_n 3, 1) := by decide +kernel
theorem dX10_way_13 : decode cX10_way 13 = .ok (.iconst 0, 1) := by decide +kernel
theorem dX10_way_14 : decode cX10_way 14 = .ok (.iastore, 1) := by decide +kernel
theorem dX10_way_15 : decode cX10_way 15 = .ok (.iinc 3 1, 3) := by decide +kernel
theorem dX10_way_18 : decode cX10_way 18 = .ok (.goto (-16), 3) := by decide +kernel
theorem dX10_way_21 : decode cX10_way 21 = .ok (.aload_n 0, 1) := by decide +kernel
theorem dX10_way_22 : decode cX10_way 22 = .ok (.getfield 65, 3) := by decide +kernel
theorem dX10_way_25 : decode cX10_way 25 = .ok (.iload_n 1, 1) := by decide +kernel
theorem dX10_way_26 : decode cX10_way 26 = .ok (.iconst 1, 1) := by decide +kernel
theorem dX10_way_27 : decode cX10_way 27 = .ok (.iastore, 1) := by decide +kernel
theorem dX10_way_28 : decode cX10_way 28 = .ok (.iconst 1, 1) := by decide +kernel
theorem dX10_way_29 : decode cX10_way 29 = .ok (.istore_n 3, 1) := by decide +kernel
theorem dX10_way_30 : decode cX10_way 30 = .ok (.iload_n 3, 1) := by decide +kernel
theorem dX10_way_31 : decode cX10_way 31 = .ok (.bipush 25, 2) := by decide +kernel
theorem dX10_way_33 : decode cX10_way 33 = .ok (.if_icmp .ge 108, 3) := by decide +kernel
theorem dX10_way_36 : decode cX10_way 36 = .ok (.aload_n 0, 1) := by decide +kernel
theorem dX10_way_37 : decode cX10_way 37 = .ok (.getfield 65, 3) := by decide +kernel
theorem dX10_way_40 : decode cX10_way 40 = .ok (.iload_n 2, 1) := by decide +kernel
theorem dX10_way_41 : decode cX10_way 41 = .ok (.iaload, 1) := by decide +kernel
theorem dX10_way_42 : decode cX10_way 42 = .ok (.ifCond .ne 99, 3) := by decide +kernel
theorem dX10_way_45 : decode cX10_way 45 = .ok (.iconst 0, 1) := by decide +kernel
theorem dX10_way_46 : decode cX10_way 46 = .ok (.istore 4, 2) := by decide +kernel
theorem dX10_way_48 : decode cX10_way 48 = .ok (.iload 4, 2) := by decide +kernel
theorem dX10_way_50 : decode cX10_way 50 = .ok (.aload_n 0, 1) := by decide +kernel
theorem dX10_way_51 : decode cX10_way 51 = .ok (.getfield 68, 3) := by decide +kernel
theorem dX10_way_54 : decode cX10_way 54 = .ok (.if_icmp .ge 81, 3) := by decide +kernel
theorem dX10_way_57 : decode cX10_way 57 = .ok (.iconst 0, 1) := by decide +kernel
theorem dX10_way_58 : decode cX10_way 58 = .ok (.istore 5, 2) := by decide +kernel
theorem dX10_way_60 : decode cX10_way 60 = .ok (.iload 5, 2) := by decide +kernel
theorem dX10_way_62 : decode cX10_way 62 = .ok (.aload_n 0, 1) := by decide +kernel
theorem dX10_way_63 : decode cX10_way 63 = .ok (.getfield 68, 3) := by decide +kernel
theorem dX10_way_66 : decode cX10_way 66 = .ok (.if_icmp .ge 63, 3) := by decide +kernel
theorem dX10_way_69 : decode cX10_way 69 = .ok (.aload_n 0, 1) := by decide +kernel
theorem dX10_way_70 : decode cX10_way 70 = .ok (.getfield 65, 3) := by decide +kernel
theorem dX10_way_73 : decode cX10_way 73 = .ok (.iload 4, 2) := by decide +kernel
theorem dX10_way_75 : decode cX10_way 75 = .ok (.iaload, 1) := by decide +kernel
theorem dX10_way_76 : decode cX10_way 76 = .ok (.iload_n 3, 1) := by decide +kernel
theorem dX10_way_77 : decode cX10_way 77 = .ok (.if_icmp .ne 52, 3) := by decide +kernel
theorem dX10_way_80 : decode cX10_way 80 = .ok (.aload_n 0, 1) := by decide +kernel
theorem dX10_way_81 : decode cX10_way 81 = .ok (.getfield 65, 3) := by decide +kernel
theorem dX10_way_84 : decode cX10_way 84 = .ok (.iload 5, 2) := by decide +kernel
theorem dX10_way_86 : decode cX10_way 86 = .ok (.iaload, 1) := by decide +kernel
theorem dX10_way_87 : decode cX10_way 87 = .ok (.ifCond .ne 36, 3) := by decide +kernel
theorem dX10_way_90 : decode cX10_way 90 = .ok (.aload_n 0, 1) := by decide +kernel
theorem dX10_way_91 : decode cX10_way 91 = .ok (.getfield 17, 3) := by decide +kernel
theorem dX10_way_94 : decode cX10_way 94 = .ok (.iload 5, 2) := by decide +kernel
theorem dX10_way_96 : decode cX10_way 96 = .ok (.iaload, 1) := by decide +kernel
theorem dX10_way_97 : decode cX10_way 97 = .ok (.bipush 6, 2) := by decide +kernel
theorem dX10_way_99 : decode cX10_way 99 = .ok (.if_icmp .eq 24, 3) := by decide +kernel
theorem dX10_way_102 : decode cX10_way 102 = .ok (.aload_n 0, 1) := by decide +kernel
theorem dX10_way_103 : decode cX10_way 103 = .ok (.iload 4, 2) := by decide +kernel
theorem dX10_way_105 : decode cX10_way 105 = .ok (.iload 5, 2) := by decide +kernel
theorem dX10_way_107 : decode cX10_way 107 = .ok (.invokevirtual 80, 3) := by decide +kernel
theorem dX10_way_110 : decode cX10_way 110 = .ok (.ifCond .eq 13, 3) := by decide +kernel
theorem dX10_way_113 : decode cX10_way 113 = .ok (.aload_n 0, 1) := by decide +kernel
theorem dX10_way_114 : decode cX10_way 114 = .ok (.getfield 65, 3) := by decide +kernel
theorem dX10_way_117 : decode cX10_way 117 = .ok (.iload 5, 2) := by decide +kernel
theorem dX10_way_119 : decode cX10_way 119 = .ok (.iload_n 3, 1) := by decide +kernel
theorem dX10_way_120 : decode cX10_way 120 = .ok (.iconst 1, 1) := by decide +kernel
theorem dX10_way_121 : decode cX10_way 121 = .ok (.iadd, 1) := by decide +kernel
theorem dX10_way_122 : decode cX10_way 122 = .ok (.iastore, 1) := by decide +kernel
theorem dX10_way_123 : decode cX10_way 123 = .ok (.iinc 5 1, 3) := by decide +kernel
theorem dX10_way_126 : decode cX10_way 126 = .ok (.goto (-66), 3) := by decide +kernel
theorem dX10_way_129 : decode cX10_way 129 = .ok (.iinc 4 1, 3) := by decide +kernel
theorem dX10_way_132 : decode cX10_way 132 = .ok (.goto (-84), 3) := by decide +kernel
theorem dX10_way_135 : decode cX10_way 135 = .ok (.iinc 3 1, 3) := by decide +kernel
theorem dX10_way_138 : decode cX10_way 138 = .ok (.goto (-108), 3) := by decide +kernel
theorem dX10_way_141 : decode cX10_way 141 = .ok (.aload_n 0, 1) := by decide +kernel
theorem dX10_way_142 : decode cX10_way 142 = .ok (.getfield 65, 3) := by decide +kernel
theorem dX10_way_145 : decode cX10_way 145 = .ok (.iload_n 2, 1) := by decide +kernel
theorem dX10_way_146 : decode cX10_way 146 = .ok (.iaload, 1) := by decide +kernel
theorem dX10_way_147 : decode cX10_way 147 = .ok (.ireturn, 1) := by decide +kernel
theorem dX10_cord_0 : decode cX10_cord 0 = .ok (.aload_n 0, 1) := by decide +kernel
theorem dX10_cord_1 : decode cX10_cord 1 = .ok (.iload_n 2, 1) := by decide +kernel
theorem dX10_cord_2 : decode cX10_cord 2 = .ok (.iload_n 3, 1) := by decide +kernel
theorem dX10_cord_3 : decode cX10_cord 3 = .ok (.invokevirtual 84, 3) := by decide +kernel
theorem dX10_cord_6 : decode cX10_cord 6 = .ok (.ifCond .eq 16, 3) := by decide +kernel
theorem dX10_cord_9 : decode cX10_cord 9 = .ok (.iload_n 1, 1) := by decide +kernel
theorem dX10_cord_10 : decode cX10_cord 10 = .ok (.iconst (-1), 1) := by decide +kernel
theorem dX10_cord_11 : decode cX10_cord 11 = .ok (.if_icmp .eq 13, 3) := by decide +kernel
theorem dX10_cord_14 : decode cX10_cord 14 = .ok (.aload_n 0, 1) := by decide +kernel
theorem dX10_cord_15 : decode cX10_cord 15 = .ok (.iload_n 1, 1) := by decide +kernel
theorem dX10_cord_16 : decode cX10_cord 16 = .ok (.invokevirtual 76, 3) := by decide +kernel
theorem dX10_cord_19 : decode cX10_cord 19 = .ok (.ifCond .ne 5, 3) := by decide +kernel
theorem dX10_cord_22 : decode cX10_cord 22 = .ok (.iconst (-1), 1) := by decide +kernel
theorem dX10_cord_23 : decode cX10_cord 23 = .ok (.ireturn, 1) := by decide +kernel
theorem dX10_cord_24 : decode cX10_cord 24 = .ok (.iload_n 1, 1) := by decide +kernel
theorem dX10_cord_25 : decode cX10_cord 25 = .ok (.ifCond .lt 44, 3) := by decide +kernel
theorem dX10_cord_28 : decode cX10_cord 28 = .ok (.aload_n 0, 1) := by decide +kernel
theorem dX10_cord_29 : decode cX10_cord 29 = .ok (.getfield 17, 3) := by decide +kernel
theorem dX10_cord_32 : decode cX10_cord 32 = .ok (.iload_n 2, 1) := by decide +kernel
theorem dX10_cord_33 : decode cX10_cord 33 = .ok (.iaload, 1) := by decide +kernel
theorem dX10_cord_34 : decode cX10_cord 34 = .ok (.bipush 6, 2) := by decide +kernel
theorem dX10_cord_36 : decode cX10_cord 36 = .ok (.if_icmp .eq 33, 3) := by decide +kernel
theorem dX10_cord_39 : decode cX10_cord 39 = .ok (.aload_n 0, 1) := by decide +kernel
theorem dX10_cord_40 : decode cX10_cord 40 = .ok (.getfield 17, 3) := by decide +kernel
theorem dX10_cord_43 : decode cX10_cord 43 = .ok (.iload_n 1, 1) := by decide +kernel
theorem dX10_cord_44 : decode cX10_cord 44 = .ok (.iaload, 1) := by decide +kernel
theorem dX10_cord_45 : decode cX10_cord 45 = .ok (.bipush 6, 2) := by decide +kernel
theorem dX10_cord_47 : decode cX10_cord 47 = .ok (.if_icmp .eq 22, 3) := by decide +kernel
theorem dX10_cord_50 : decode cX10_cord 50 = .ok (.aload_n 0, 1) := by decide +kernel
theorem dX10_cord_51 : decode cX10_cord 51 = .ok (.iload_n 2, 1) := by decide +kernel
theorem dX10_cord_52 : decode cX10_cord 52 = .ok (.iload_n 1, 1) := by decide +kernel
theorem dX10_cord_53 : decode cX10_cord 53 = .ok (.invokevirtual 87, 3) := by decide +kernel
theorem dX10_cord_56 : decode cX10_cord 56 = .ok (.istore 4, 2) := by decide +kernel
theorem dX10_cord_58 : decode cX10_cord 58 = .ok (.iload 4, 2) := by decide +kernel
theorem dX10_cord_60 : decode cX10_cord 60 = .ok (.ifCond .le 9, 3) := by decide +kernel
theorem dX10_cord_63 : decode cX10_cord 63 = .ok (.bipush (-10), 2) := by decide +kernel
theorem dX10_cord_65 : decode cX10_cord 65 = .ok (.iload 4, 2) := by decide +kernel
theorem dX10_cord_67 : decode cX10_cord 67 = .ok (.isub, 1) := by decide +kernel
theorem dX10_cord_68 : decode cX10_cord 68 = .ok (.ireturn, 1) := by decide +kernel
theorem dX10_cord_69 : decode cX10_cord 69 = .ok (.aload_n 0, 1) := by decide +kernel
theorem dX10_cord_70 : decode cX10_cord 70 = .ok (.getfield 26, 3) := by decide +kernel
theorem dX10_cord_73 : decode cX10_cord 73 = .ok (.iconst 3, 1) := by decide +kernel
theorem dX10_cord_74 : decode cX10_cord 74 = .ok (.iload_n 2, 1) := by decide +kernel
theorem dX10_cord_75 : decode cX10_cord 75 = .ok (.imul, 1) := by decide +kernel
theorem dX10_cord_76 : decode cX10_cord 76 = .ok (.iload_n 3, 1) := by decide +kernel
theorem dX10_cord_77 : decode cX10_cord 77 = .ok (.iadd, 1) := by decide +kernel
theorem dX10_cord_78 : decode cX10_cord 78 = .ok (.iload_n 1, 1) := by decide +kernel
theorem dX10_cord_79 : decode cX10_cord 79 = .ok (.iconst 1, 1) := by decide +kernel
theorem dX10_cord_80 : decode cX10_cord 80 = .ok (.iadd, 1) := by decide +kernel
theorem dX10_cord_81 : decode cX10_cord 81 = .ok (.iastore, 1) := by decide +kernel
theorem dX10_cord_82 : decode cX10_cord 82 = .ok (.iconst 1, 1) := by decide +kernel
theorem dX10_cord_83 : decode cX10_cord 83 = .ok (.ireturn, 1) := by decide +kernel
theorem dX10_from_0 : decode cX10_from 0 = .ok (.aload_n 0, 1) := by decide +kernel
theorem dX10_from_1 : decode cX10_from 1 = .ok (.iload_n 1, 1) := by decide +kernel
theorem dX10_from_2 : decode cX10_from 2 = .ok (.iload_n 2, 1) := by decide +kernel
theorem dX10_from_3 : decode cX10_from 3 = .ok (.invokevirtual 84, 3) := by decide +kernel
theorem dX10_from_6 : decode cX10_from 6 = .ok (.ifCond .eq 18, 3) := by decide +kernel
theorem dX10_from_9 : decode cX10_from 9 = .ok (.aload_n 0, 1) := by decide +kernel
theorem dX10_from_10 : decode cX10_from 10 = .ok (.getfield 26, 3) := by decide +kernel
theorem dX10_from_13 : decode cX10_from 13 = .ok (.iconst 3, 1) := by decide +kernel
theorem dX10_from_14 : decode cX10_from 14 = .ok (.iload_n 1, 1) := by decide +kernel
theorem dX10_from_15 : decode cX10_from 15 = .ok (.imul, 1) := by decide +kernel
theorem dX10_from_16 : decode cX10_from 16 = .ok (.iload_n 2, 1) := by decide +kernel
theorem dX10_from_17 : decode cX10_from 17 = .ok (.iadd, 1) := by decide +kernel
theorem dX10_from_18 : decode cX10_from 18 = .ok (.iaload, 1) := by decide +kernel
theorem dX10_from_19 : decode cX10_from 19 = .ok (.iconst 1, 1) := by decide +kernel
theorem dX10_from_20 : decode cX10_from 20 = .ok (.isub, 1) := by decide +kernel
theorem dX10_from_21 : decode cX10_from 21 = .ok (.goto 5, 3) := by decide +kernel
theorem dX10_from_24 : decode cX10_from 24 = .ok (.bipush (-2), 2) := by decide +kernel
theorem dX10_from_26 : decode cX10_from 26 = .ok (.ireturn, 1) := by decide +kernel
theorem dX10_knob_0 : decode cX10_knob 0 = .ok (.aload_n 0, 1) := by decide +kernel
theorem dX10_knob_1 : decode cX10_knob 1 = .ok (.iload_n 1, 1) := by decide +kernel
theorem dX10_knob_2 : decode cX10_knob 2 = .ok (.invokevirtual 76, 3) := by decide +kernel
theorem dX10_knob_5 : decode cX10_knob 5 = .ok (.ifCond .eq 25, 3) := by decide +kernel
theorem dX10_knob_8 : decode cX10_knob 8 = .ok (.iload_n 2, 1) := by decide +kernel
theorem dX10_knob_9 : decode cX10_knob 9 = .ok (.iconst 0, 1) := by decide +kernel
theorem dX10_knob_10 : decode cX10_knob 10 = .ok (.iconst 2, 1) := by decide +kernel
theorem dX10_knob_11 : decode cX10_knob 11 = .ok (.invokestatic 72, 3) := by decide +kernel
theorem dX10_knob_14 : decode cX10_knob 14 = .ok (.ifCond .eq 16, 3) := by decide +kernel
theorem dX10_knob_17 : decode cX10_knob 17 = .ok (.iload_n 3, 1) := by decide +kernel
theorem dX10_knob_18 : decode cX10_knob 18 = .ok (.sipush (-1000), 3) := by decide +kernel
theorem dX10_knob_21 : decode cX10_knob 21 = .ok (.sipush 1000, 3) := by decide +kernel
theorem dX10_knob_24 : decode cX10_knob 24 = .ok (.invokestatic 72, 3) := by decide +kernel
theorem dX10_knob_27 : decode cX10_knob 27 = .ok (.ifCond .ne 7, 3) := by decide +kernel
theorem dX10_knob_30 : decode cX10_knob 30 = .ok (.sipush (-2000), 3) := by decide +kernel
theorem dX10_knob_33 : decode cX10_knob 33 = .ok (.ireturn, 1) := by decide +kernel
theorem dX10_knob_34 : decode cX10_knob 34 = .ok (.aload_n 0, 1) := by decide +kernel
theorem dX10_knob_35 : decode cX10_knob 35 = .ok (.getfield 23, 3) := by decide +kernel
theorem dX10_knob_38 : decode cX10_knob 38 = .ok (.iconst 3, 1) := by decide +kernel
theorem dX10_knob_39 : decode cX10_knob 39 = .ok (.iload_n 1, 1) := by decide +kernel
theorem dX10_knob_40 : decode cX10_knob 40 = .ok (.imul, 1) := by decide +kernel
theorem dX10_knob_41 : decode cX10_knob 41 = .ok (.iload_n 2, 1) := by decide +kernel
theorem dX10_knob_42 : decode cX10_knob 42 = .ok (.iadd, 1) := by decide +kernel
theorem dX10_knob_43 : decode cX10_knob 43 = .ok (.iaload, 1) := by decide +kernel
theorem dX10_knob_44 : decode cX10_knob 44 = .ok (.istore 4, 2) := by decide +kernel
theorem dX10_knob_46 : decode cX10_knob 46 = .ok (.aload_n 0, 1) := by decide +kernel
theorem dX10_knob_47 : decode cX10_knob 47 = .ok (.getfield 23, 3) := by decide +kernel
theorem dX10_knob_50 : decode cX10_knob 50 = .ok (.iconst 3, 1) := by decide +kernel
end
section
theorem dX10_knob_51 : decode cX10_knob 51 = .ok (.iload_n 1, 1) := by decide +kernel
theorem dX10_knob_52 : decode cX10_knob 52 = .ok (.imul, 1) := by decide +kernel
theorem dX10_knob_53 : decode cX10_knob 53 = .ok (.iload_n 2, 1) := by decide +kernel
theorem dX10_knob_54 : decode cX10_knob 54 = .ok (.iadd, 1) := by decide +kernel
theorem dX10_knob_55 : decode cX10_knob 55 = .ok (.iload_n 3, 1) := by decide +kernel
theorem dX10_knob_56 : decode cX10_knob 56 = .ok (.iastore, 1) := by decide +kernel
theorem dX10_knob_57 : decode cX10_knob 57 = .ok (.iload 4, 2) := by decide +kernel
theorem dX10_knob_59 : decode cX10_knob 59 = .ok (.ireturn, 1) := by decide +kernel
theorem dX10_table_0 : decode cX10_table 0 = .ok (.iload_n 1, 1) := by decide +kernel
theorem dX10_table_1 : decode cX10_table 1 = .ok (.iconst 0, 1) := by decide +kernel
theorem dX10_table_2 : decode cX10_table 2 = .ok (.bipush 7, 2) := by decide +kernel
theorem dX10_table_4 : decode cX10_table 4 = .ok (.invokestatic 72, 3) := by decide +kernel
theorem dX10_table_7 : decode cX10_table 7 = .ok (.ifCond .eq 13, 3) := by decide +kernel
theorem dX10_table_10 : decode cX10_table 10 = .ok (.iload_n 2, 1) := by decide +kernel
theorem dX10_table_11 : decode cX10_table 11 = .ok (.iconst (-1), 1) := by decide +kernel
theorem dX10_table_12 : decode cX10_table 12 = .ok (.bipush 16, 2) := by decide +kernel
theorem dX10_table_14 : decode cX10_table 14 = .ok (.invokestatic 72, 3) := by decide +kernel
theorem dX10_table_17 : decode cX10_table 17 = .ok (.ifCond .ne 5, 3) := by decide +kernel
theorem dX10_table_20 : decode cX10_table 20 = .ok (.iconst (-1), 1) := by decide +kernel
theorem dX10_table_21 : decode cX10_table 21 = .ok (.ireturn, 1) := by decide +kernel
theorem dX10_table_22 : decode cX10_table 22 = .ok (.aload_n 0, 1) := by decide +kernel
theorem dX10_table_23 : decode cX10_table 23 = .ok (.getfield 32, 3) := by decide +kernel
theorem dX10_table_26 : decode cX10_table 26 = .ok (.iload_n 1, 1) := by decide +kernel
theorem dX10_table_27 : decode cX10_table 27 = .ok (.iload_n 2, 1) := by decide +kernel
theorem dX10_table_28 : decode cX10_table 28 = .ok (.iconst 1, 1) := by decide +kernel
theorem dX10_table_29 : decode cX10_table 29 = .ok (.iadd, 1) := by decide +kernel
theorem dX10_table_30 : decode cX10_table 30 = .ok (.iastore, 1) := by decide +kernel
theorem dX10_table_31 : decode cX10_table 31 = .ok (.iconst 0, 1) := by decide +kernel
theorem dX10_table_32 : decode cX10_table 32 = .ok (.istore_n 3, 1) := by decide +kernel
theorem dX10_table_33 : decode cX10_table 33 = .ok (.iload_n 3, 1) := by decide +kernel
theorem dX10_table_34 : decode cX10_table 34 = .ok (.bipush 16, 2) := by decide +kernel
theorem dX10_table_36 : decode cX10_table 36 = .ok (.if_icmp .ge 21, 3) := by decide +kernel
theorem dX10_table_39 : decode cX10_table 39 = .ok (.aload_n 0, 1) := by decide +kernel
theorem dX10_table_40 : decode cX10_table 40 = .ok (.getfield 29, 3) := by decide +kernel
theorem dX10_table_43 : decode cX10_table 43 = .ok (.bipush 16, 2) := by decide +kernel
theorem dX10_table_45 : decode cX10_table 45 = .ok (.iload_n 1, 1) := by decide +kernel
theorem dX10_table_46 : decode cX10_table 46 = .ok (.imul, 1) := by decide +kernel
theorem dX10_table_47 : decode cX10_table 47 = .ok (.iload_n 3, 1) := by decide +kernel
theorem dX10_table_48 : decode cX10_table 48 = .ok (.iadd, 1) := by decide +kernel
theorem dX10_table_49 : decode cX10_table 49 = .ok (.iconst 0, 1) := by decide +kernel
theorem dX10_table_50 : decode cX10_table 50 = .ok (.iastore, 1) := by decide +kernel
theorem dX10_table_51 : decode cX10_table 51 = .ok (.iinc 3 1, 3) := by decide +kernel
theorem dX10_table_54 : decode cX10_table 54 = .ok (.goto (-21), 3) := by decide +kernel
theorem dX10_table_57 : decode cX10_table 57 = .ok (.iconst 1, 1) := by decide +kernel
theorem dX10_table_58 : decode cX10_table 58 = .ok (.ireturn, 1) := by decide +kernel
theorem dX10_write_0 : decode cX10_write 0 = .ok (.iload_n 1, 1) := by decide +kernel
theorem dX10_write_1 : decode cX10_write 1 = .ok (.iconst 0, 1) := by decide +kernel
theorem dX10_write_2 : decode cX10_write 2 = .ok (.bipush 7, 2) := by decide +kernel
theorem dX10_write_4 : decode cX10_write 4 = .ok (.invokestatic 72, 3) := by decide +kernel
theorem dX10_write_7 : decode cX10_write 7 = .ok (.ifCond .ne 5, 3) := by decide +kernel
theorem dX10_write_10 : decode cX10_write 10 = .ok (.iconst (-1), 1) := by decide +kernel
theorem dX10_write_11 : decode cX10_write 11 = .ok (.ireturn, 1) := by decide +kernel
theorem dX10_write_12 : decode cX10_write 12 = .ok (.aload_n 0, 1) := by decide +kernel
theorem dX10_write_13 : decode cX10_write 13 = .ok (.getfield 32, 3) := by decide +kernel
theorem dX10_write_16 : decode cX10_write 16 = .ok (.iload_n 1, 1) := by decide +kernel
theorem dX10_write_17 : decode cX10_write 17 = .ok (.iaload, 1) := by decide +kernel
theorem dX10_write_18 : decode cX10_write 18 = .ok (.ifCond .ne 6, 3) := by decide +kernel
theorem dX10_write_21 : decode cX10_write 21 = .ok (.bipush (-2), 2) := by decide +kernel
theorem dX10_write_23 : decode cX10_write 23 = .ok (.ireturn, 1) := by decide +kernel
theorem dX10_write_24 : decode cX10_write 24 = .ok (.iload_n 2, 1) := by decide +kernel
theorem dX10_write_25 : decode cX10_write 25 = .ok (.iconst 0, 1) := by decide +kernel
theorem dX10_write_26 : decode cX10_write 26 = .ok (.aload_n 0, 1) := by decide +kernel
theorem dX10_write_27 : decode cX10_write 27 = .ok (.getfield 32, 3) := by decide +kernel
theorem dX10_write_30 : decode cX10_write 30 = .ok (.iload_n 1, 1) := by decide +kernel
theorem dX10_write_31 : decode cX10_write 31 = .ok (.iaload, 1) := by decide +kernel
theorem dX10_write_32 : decode cX10_write 32 = .ok (.iconst 2, 1) := by decide +kernel
theorem dX10_write_33 : decode cX10_write 33 = .ok (.isub, 1) := by decide +kernel
theorem dX10_write_34 : decode cX10_write 34 = .ok (.invokestatic 72, 3) := by decide +kernel
theorem dX10_write_37 : decode cX10_write 37 = .ok (.ifCond .ne 6, 3) := by decide +kernel
theorem dX10_write_40 : decode cX10_write 40 = .ok (.bipush (-3), 2) := by decide +kernel
theorem dX10_write_42 : decode cX10_write 42 = .ok (.ireturn, 1) := by decide +kernel
theorem dX10_write_43 : decode cX10_write 43 = .ok (.aload_n 0, 1) := by decide +kernel
theorem dX10_write_44 : decode cX10_write 44 = .ok (.getfield 29, 3) := by decide +kernel
theorem dX10_write_47 : decode cX10_write 47 = .ok (.bipush 16, 2) := by decide +kernel
theorem dX10_write_49 : decode cX10_write 49 = .ok (.iload_n 1, 1) := by decide +kernel
theorem dX10_write_50 : decode cX10_write 50 = .ok (.imul, 1) := by decide +kernel
theorem dX10_write_51 : decode cX10_write 51 = .ok (.iload_n 2, 1) := by decide +kernel
theorem dX10_write_52 : decode cX10_write 52 = .ok (.iadd, 1) := by decide +kernel
theorem dX10_write_53 : decode cX10_write 53 = .ok (.iload_n 3, 1) := by decide +kernel
theorem dX10_write_54 : decode cX10_write 54 = .ok (.iastore, 1) := by decide +kernel
theorem dX10_write_55 : decode cX10_write 55 = .ok (.iconst 1, 1) := by decide +kernel
theorem dX10_write_56 : decode cX10_write 56 = .ok (.ireturn, 1) := by decide +kernel
theorem dX10_rowAt_0 : decode cX10_rowAt 0 = .ok (.bipush 20, 2) := by decide +kernel
theorem dX10_rowAt_2 : decode cX10_rowAt 2 = .ok (.iload_n 1, 1) := by decide +kernel
theorem dX10_rowAt_3 : decode cX10_rowAt 3 = .ok (.imul, 1) := by decide +kernel
theorem dX10_rowAt_4 : decode cX10_rowAt 4 = .ok (.iconst 3, 1) := by decide +kernel
theorem dX10_rowAt_5 : decode cX10_rowAt 5 = .ok (.iload_n 2, 1) := by decide +kernel
theorem dX10_rowAt_6 : decode cX10_rowAt 6 = .ok (.imul, 1) := by decide +kernel
theorem dX10_rowAt_7 : decode cX10_rowAt 7 = .ok (.iadd, 1) := by decide +kernel
theorem dX10_rowAt_8 : decode cX10_rowAt 8 = .ok (.ireturn, 1) := by decide +kernel
theorem dX10_kindOf_0 : decode cX10_kindOf 0 = .ok (.aload_n 0, 1) := by decide +kernel
theorem dX10_kindOf_1 : decode cX10_kindOf 1 = .ok (.getfield 13, 3) := by decide +kernel
theorem dX10_kindOf_4 : decode cX10_kindOf 4 = .ok (.aload_n 0, 1) := by decide +kernel
theorem dX10_kindOf_5 : decode cX10_kindOf 5 = .ok (.iload_n 1, 1) := by decide +kernel
theorem dX10_kindOf_6 : decode cX10_kindOf 6 = .ok (.iconst 0, 1) := by decide +kernel
theorem dX10_kindOf_7 : decode cX10_kindOf 7 = .ok (.invokevirtual 91, 3) := by decide +kernel
theorem dX10_kindOf_10 : decode cX10_kindOf 10 = .ok (.iaload, 1) := by decide +kernel
theorem dX10_kindOf_11 : decode cX10_kindOf 11 = .ok (.iconst 1, 1) := by decide +kernel
theorem dX10_kindOf_12 : decode cX10_kindOf 12 = .ok (.isub, 1) := by decide +kernel
theorem dX10_kindOf_13 : decode cX10_kindOf 13 = .ok (.ireturn, 1) := by decide +kernel
theorem dX10_copyRow_0 : decode cX10_copyRow 0 = .ok (.iconst 0, 1) := by decide +kernel
theorem dX10_copyRow_1 : decode cX10_copyRow 1 = .ok (.istore 5, 2) := by decide +kernel
theorem dX10_copyRow_3 : decode cX10_copyRow 3 = .ok (.iload 5, 2) := by decide +kernel
theorem dX10_copyRow_5 : decode cX10_copyRow 5 = .ok (.iconst 3, 1) := by decide +kernel
theorem dX10_copyRow_6 : decode cX10_copyRow 6 = .ok (.if_icmp .ge 38, 3) := by decide +kernel
theorem dX10_copyRow_9 : decode cX10_copyRow 9 = .ok (.aload_n 0, 1) := by decide +kernel
theorem dX10_copyRow_10 : decode cX10_copyRow 10 = .ok (.getfield 13, 3) := by decide +kernel
theorem dX10_copyRow_13 : decode cX10_copyRow 13 = .ok (.aload_n 0, 1) := by decide +kernel
theorem dX10_copyRow_14 : decode cX10_copyRow 14 = .ok (.iload_n 3, 1) := by decide +kernel
theorem dX10_copyRow_15 : decode cX10_copyRow 15 = .ok (.iload 4, 2) := by decide +kernel
theorem dX10_copyRow_17 : decode cX10_copyRow 17 = .ok (.invokevirtual 91, 3) := by decide +kernel
theorem dX10_copyRow_20 : decode cX10_copyRow 20 = .ok (.iload 5, 2) := by decide +kernel
theorem dX10_copyRow_22 : decode cX10_copyRow 22 = .ok (.iadd, 1) := by decide +kernel
theorem dX10_copyRow_23 : decode cX10_copyRow 23 = .ok (.aload_n 0, 1) := by decide +kernel
theorem dX10_copyRow_24 : decode cX10_copyRow 24 = .ok (.getfield 13, 3) := by decide +kernel
theorem dX10_copyRow_27 : decode cX10_copyRow 27 = .ok (.aload_n 0, 1) := by decide +kernel
theorem dX10_copyRow_28 : decode cX10_copyRow 28 = .ok (.iload_n 1, 1) := by decide +kernel
theorem dX10_copyRow_29 : decode cX10_copyRow 29 = .ok (.iload_n 2, 1) := by decide +kernel
theorem dX10_copyRow_30 : decode cX10_copyRow 30 = .ok (.invokevirtual 91, 3) := by decide +kernel
theorem dX10_copyRow_33 : decode cX10_copyRow 33 = .ok (.iload 5, 2) := by decide +kernel
theorem dX10_copyRow_35 : decode cX10_copyRow 35 = .ok (.iadd, 1) := by decide +kernel
theorem dX10_copyRow_36 : decode cX10_copyRow 36 = .ok (.iaload, 1) := by decide +kernel
theorem dX10_copyRow_37 : decode cX10_copyRow 37 = .ok (.iastore, 1) := by decide +kernel
theorem dX10_copyRow_38 : decode cX10_copyRow 38 = .ok (.iinc 5 1, 3) := by decide +kernel
theorem dX10_copyRow_41 : decode cX10_copyRow 41 = .ok (.goto (-38), 3) := by decide +kernel
theorem dX10_copyRow_44 : decode cX10_copyRow 44 = .ok (.iconst 0, 1) := by decide +kernel
theorem dX10_copyRow_45 : decode cX10_copyRow 45 = .ok (.istore 5, 2) := by decide +kernel
theorem dX10_copyRow_47 : decode cX10_copyRow 47 = .ok (.iload 5, 2) := by decide +kernel
theorem dX10_copyRow_49 : decode cX10_copyRow 49 = .ok (.bipush 16, 2) := by decide +kernel
theorem dX10_copyRow_51 : decode cX10_copyRow 51 = .ok (.if_icmp .ge 44, 3) := by decide +kernel
theorem dX10_copyRow_54 : decode cX10_copyRow 54 = .ok (.aload_n 0, 1) := by decide +kernel
theorem dX10_copyRow_55 : decode cX10_copyRow 55 = .ok (.getfield 7, 3) := by decide +kernel
theorem dX10_copyRow_58 : decode cX10_copyRow 58 = .ok (.bipush 82, 2) := by decide +kernel
theorem dX10_copyRow_60 : decode cX10_copyRow 60 = .ok (.iload_n 3, 1) := by decide +kernel
theorem dX10_copyRow_61 : decode cX10_copyRow 61 = .ok (.imul, 1) := by decide +kernel
theorem dX10_copyRow_62 : decode cX10_copyRow 62 = .ok (.bipush 16, 2) := by decide +kernel
theorem dX10_copyRow_64 : decode cX10_copyRow 64 = .ok (.iload 4, 2) := by decide +kernel
theorem dX10_copyRow_66 : decode cX10_copyRow 66 = .ok (.imul, 1) := by decide +kernel
theorem dX10_copyRow_67 : decode cX10_copyRow 67 = .ok (.iadd, 1) := by decide +kernel
theorem dX10_copyRow_68 : decode cX10_copyRow 68 = .ok (.iload 5, 2) := by decide +kernel
theorem dX10_copyRow_70 : decode cX10_copyRow 70 = .ok (.iadd, 1) := by decide +kernel
theorem dX10_copyRow_71 : decode cX10_copyRow 71 = .ok (.aload_n 0, 1) := by decide +kernel
theorem dX10_copyRow_72 : decode cX10_copyRow 72 = .ok (.getfield 7, 3) := by decide +kernel
theorem dX10_copyRow_75 : decode cX10_copyRow 75 = .ok (.bipush 82, 2) := by decide +kernel
theorem dX10_copyRow_77 : decode cX10_copyRow 77 = .ok (.iload_n 1, 1) := by decide +kernel
theorem dX10_copyRow_78 : decode cX10_copyRow 78 = .ok (.imul, 1) := by decide +kernel
theorem dX10_copyRow_79 : decode cX10_copyRow 79 = .ok (.bipush 16, 2) := by decide +kernel
theorem dX10_copyRow_81 : decode cX10_copyRow 81 = .ok (.iload_n 2, 1) := by decide +kernel
theorem dX10_copyRow_82 : decode cX10_copyRow 82 = .ok (.imul, 1) := by decide +kernel
theorem dX10_copyRow_83 : decode cX10_copyRow 83 = .ok (.iadd, 1) := by decide +kernel
theorem dX10_copyRow_84 : decode cX10_copyRow 84 = .ok (.iload 5, 2) := by decide +kernel
theorem dX10_copyRow_86 : decode cX10_copyRow 86 = .ok (.iadd, 1) := by decide +kernel
theorem dX10_copyRow_87 : decode cX10_copyRow 87 = .ok (.daload, 1) := by decide +kernel
theorem dX10_copyRow_88 : decode cX10_copyRow 88 = .ok (.dastore, 1) := by decide +kernel
theorem dX10_copyRow_89 : decode cX10_copyRow 89 = .ok (.iinc 5 1, 3) := by decide +kernel
theorem dX10_copyRow_92 : decode cX10_copyRow 92 = .ok (.goto (-45), 3) := by decide +kernel
theorem dX10_copyRow_95 : decode cX10_copyRow 95 = .ok (.return_, 1) := by decide +kernel
theorem dX10_noRow_0 : decode cX10_noRow 0 = .ok (.aload_n 0, 1) := by decide +kernel
theorem dX10_noRow_1 : decode cX10_noRow 1 = .ok (.getfield 13, 3) := by decide +kernel
theorem dX10_noRow_4 : decode cX10_noRow 4 = .ok (.aload_n 0, 1) := by decide +kernel
theorem dX10_noRow_5 : decode cX10_noRow 5 = .ok (.iload_n 1, 1) := by decide +kernel
theorem dX10_noRow_6 : decode cX10_noRow 6 = .ok (.iload_n 2, 1) := by decide +kernel
theorem dX10_noRow_7 : decode cX10_noRow 7 = .ok (.invokevirtual 91, 3) := by decide +kernel
theorem dX10_noRow_10 : decode cX10_noRow 10 = .ok (.iconst 0, 1) := by decide +kernel
theorem dX10_noRow_11 : decode cX10_noRow 11 = .ok (.iastore, 1) := by decide +kernel
theorem dX10_noRow_12 : decode cX10_noRow 12 = .ok (.return_, 1) := by decide +kernel
theorem dX10_copyState_0 : decode cX10_copyState 0 = .ok (.iconst 0, 1) := by decide +kernel
theorem dX10_copyState_1 : decode cX10_copyState 1 = .ok (.istore_n 3, 1) := by decide +kernel
theorem dX10_copyState_2 : decode cX10_copyState 2 = .ok (.iload_n 3, 1) := by decide +kernel
theorem dX10_copyState_3 : decode cX10_copyState 3 = .ok (.sipush 1968, 3) := by decide +kernel
theorem dX10_copyState_6 : decode cX10_copyState 6 = .ok (.if_icmp .ge 33, 3) := by decide +kernel
theorem dX10_copyState_9 : decode cX10_copyState 9 = .ok (.aload_n 0, 1) := by decide +kernel
theorem dX10_copyState_10 : decode cX10_copyState 10 = .ok (.getfield 7, 3) := by decide +kernel
theorem dX10_copyState_13 : decode cX10_copyState 13 = .ok (.sipush 1968, 3) := by decide +kernel
theorem dX10_copyState_16 : decode cX10_copyState 16 = .ok (.iload_n 2, 1) := by decide +kernel
theorem dX10_copyState_17 : decode cX10_copyState 17 = .ok (.imul, 1) := by decide +kernel
theorem dX10_copyState_18 : decode cX10_copyState 18 = .ok (.iload_n 3, 1) := by decide +kernel
theorem dX10_copyState_19 : decode cX10_copyState 19 = .ok (.iadd, 1) := by decide +kernel
theorem dX10_copyState_20 : decode cX10_copyState 20 = .ok (.aload_n 0, 1) := by decide +kernel
theorem dX10_copyState_21 : decode cX10_copyState 21 = .ok (.getfield 7, 3) := by decide +kernel
theorem dX10_copyState_24 : decode cX10_copyState 24 = .ok (.sipush 1968, 3) := by decide +kernel
theorem dX10_copyState_27 : decode cX10_copyState 27 = .ok (.iload_n 1, 1) := by decide +kernel
theorem dX10_copyState_28 : decode cX10_copyState 28 = .ok (.imul, 1) := by decide +kernel
theorem dX10_copyState_29 : decode cX10_copyState 29 = .ok (.iload_n 3, 1) := by decide +kernel
theorem dX10_copyState_30 : decode cX10_copyState 30 = .ok (.iadd, 1) := by decide +kernel
theorem dX10_copyState_31 : decode cX10_copyState 31 = .ok (.daload, 1) := by decide +kernel
theorem dX10_copyState_32 : decode cX10_copyState 32 = .ok (.dastore, 1) := by decide +kernel
theorem dX10_copyState_33 : decode cX10_copyState 33 = .ok (.iinc 3 1, 3) := by decide +kernel
theorem dX10_copyState_36 : decode cX10_copyState 36 = .ok (.goto (-34), 3) := by decide +kernel
theorem dX10_copyState_39 : decode cX10_copyState 39 = .ok (.iconst 0, 1) := by decide +kernel
theorem dX10_copyState_40 : decode cX10_copyState 40 = .ok (.istore_n 3, 1) := by decide +kernel
theorem dX10_copyState_41 : decode cX10_copyState 41 = .ok (.iload_n 3, 1) := by decide +kernel
theorem dX10_copyState_42 : decode cX10_copyState 42 = .ok (.sipush 480, 3) := by decide +kernel
theorem dX10_copyState_45 : decode cX10_copyState 45 = .ok (.if_icmp .ge 33, 3) := by decide +kernel
theorem dX10_copyState_48 : decode cX10_copyState 48 = .ok (.aload_n 0, 1) := by decide +kernel
theorem dX10_copyState_49 : decode cX10_copyState 49 = .ok (.getfield 13, 3) := by decide +kernel
theorem dX10_copyState_52 : decode cX10_copyState 52 = .ok (.sipush 480, 3) := by decide +kernel
theorem dX10_copyState_55 : decode cX10_copyState 55 = .ok (.iload_n 2, 1) := by decide +kernel
theorem dX10_copyState_56 : decode cX10_copyState 56 = .ok (.imul, 1) := by decide +kernel
theorem dX10_copyState_57 : decode cX10_copyState 57 = .ok (.iload_n 3, 1) := by decide +kernel
theorem dX10_copyState_58 : decode cX10_copyState 58 = .ok (.iadd, 1) := by decide +kernel
theorem dX10_copyState_59 : decode cX10_copyState 59 = .ok (.aload_n 0, 1) := by decide +kernel
theorem dX10_copyState_60 : decode cX10_copyState 60 = .ok (.getfield 13, 3) := by decide +kernel
theorem dX10_copyState_63 : decode cX10_copyState 63 = .ok (.sipush 480, 3) := by decide +kernel
theorem dX10_copyState_66 : decode cX10_copyState 66 = .ok (.iload_n 1, 1) := by decide +kernel
theorem dX10_copyState_67 : decode cX10_copyState 67 = .ok (.imul, 1) := by decide +kernel
theorem dX10_copyState_68 : decode cX10_copyState 68 = .ok (.iload_n 3, 1) := by decide +kernel
theorem dX10_copyState_69 : decode cX10_copyState 69 = .ok (.iadd, 1) := by decide +kernel
theorem dX10_copyState_70 : decode cX10_copyState 70 = .ok (.iaload, 1) := by decide +kernel
theorem dX10_copyState_71 : decode cX10_copyState 71 = .ok (.iastore, 1) := by decide +kernel
theorem dX10_copyState_72 : decode cX10_copyState 72 = .ok (.iinc 3 1, 3) := by decide +kernel
theorem dX10_copyState_75 : decode cX10_copyState 75 = .ok (.goto (-34), 3) := by decide +kernel
theorem dX10_copyState_78 : decode cX10_copyState 78 = .ok (.return_, 1) := by decide +kernel
theorem dX10_fails_0 : decode cX10_fails 0 = .ok (.aload_n 0, 1) := by decide +kernel
theorem dX10_fails_1 : decode cX10_fails 1 = .ok (.iload_n 1, 1) := by decide +kernel
theorem dX10_fails_2 : decode cX10_fails 2 = .ok (.putfield 94, 3) := by decide +kernel
theorem dX10_fails_5 : decode cX10_fails 5 = .ok (.aload_n 0, 1) := by decide +kernel
theorem dX10_fails_6 : decode cX10_fails 6 = .ok (.iload_n 2, 1) := by decide +kernel
theorem dX10_fails_7 : decode cX10_fails 7 = .ok (.putfield 97, 3) := by decide +kernel
theorem dX10_fails_10 : decode cX10_fails 10 = .ok (.aload_n 0, 1) := by decide +kernel
theorem dX10_fails_11 : decode cX10_fails 11 = .ok (.iload_n 3, 1) := by decide +kernel
theorem dX10_fails_12 : decode cX10_fails 12 = .ok (.putfield 100, 3) := by decide +kernel
theorem dX10_fails_15 : decode cX10_fails 15 = .ok (.iconst 0, 1) := by decide +kernel
theorem dX10_fails_16 : decode cX10_fails 16 = .ok (.ireturn, 1) := by decide +kernel
theorem dX10_hasRow_0 : decode cX10_hasRow 0 = .ok (.aload_n 0, 1) := by decide +kernel
theorem dX10_hasRow_1 : decode cX10_hasRow 1 = .ok (.getfield 26, 3) := by decide +kernel
theorem dX10_hasRow_4 : decode cX10_hasRow 4 = .ok (.iconst 3, 1) := by decide +kernel
theorem dX10_hasRow_5 : decode cX10_hasRow 5 = .ok (.iload_n 1, 1) := by decide +kernel
theorem dX10_hasRow_6 : decode cX10_hasRow 6 = .ok (.imul, 1) := by decide +kernel
theorem dX10_hasRow_7 : decode cX10_hasRow 7 = .ok (.iload_n 2, 1) := by decide +kernel
theorem dX10_hasRow_8 : decode cX10_hasRow 8 = .ok (.iadd, 1) := by decide +kernel
theorem dX10_hasRow_9 : decode cX10_hasRow 9 = .ok (.iaload, 1) := by decide +kernel
theorem dX10_hasRow_10 : decode cX10_hasRow 10 = .ok (.iconst 1, 1) := by decide +kernel
theorem dX10_hasRow_11 : decode cX10_hasRow 11 = .ok (.isub, 1) := by decide +kernel
theorem dX10_hasRow_12 : decode cX10_hasRow 12 = .ok (.istore 4, 2) := by decide +kernel
theorem dX10_hasRow_14 : decode cX10_hasRow 14 = .ok (.iload 4, 2) := by decide +kernel
theorem dX10_hasRow_16 : decode cX10_hasRow 16 = .ok (.ifCond .ge 11, 3) := by decide +kernel
theorem dX10_hasRow_19 : decode cX10_hasRow 19 = .ok (.aload_n 0, 1) := by decide +kernel
theorem dX10_hasRow_20 : decode cX10_hasRow 20 = .ok (.iconst 1, 1) := by decide +kernel
theorem dX10_hasRow_21 : decode cX10_hasRow 21 = .ok (.iload_n 1, 1) := by decide +kernel
theorem dX10_hasRow_22 : decode cX10_hasRow 22 = .ok (.iconst (-1), 1) := by decide +kernel
theorem dX10_hasRow_23 : decode cX10_hasRow 23 = .ok (.invokevirtual 103, 3) := by decide +kernel
theorem dX10_hasRow_26 : decode cX10_hasRow 26 = .ok (.ireturn, 1) := by decide +kernel
theorem dX10_hasRow_27 : decode cX10_hasRow 27 = .ok (.aload_n 0, 1) := by decide +kernel
theorem dX10_hasRow_28 : decode cX10_hasRow 28 = .ok (.iload 4, 2) := by decide +kernel
theorem dX10_hasRow_30 : decode cX10_hasRow 30 = .ok (.invokevirtual 106, 3) := by decide +kernel
theorem dX10_hasRow_33 : decode cX10_hasRow 33 = .ok (.ifCond .ge 11, 3) := by decide +kernel
theorem dX10_hasRow_36 : decode cX10_hasRow 36 = .ok (.aload_n 0, 1) := by decide +kernel
theorem dX10_hasRow_37 : decode cX10_hasRow 37 = .ok (.iconst 2, 1) := by decide +kernel
theorem dX10_hasRow_38 : decode cX10_hasRow 38 = .ok (.iload_n 1, 1) := by decide +kernel
theorem dX10_hasRow_39 : decode cX10_hasRow 39 = .ok (.iconst (-1), 1) := by decide +kernel
theorem dX10_hasRow_40 : decode cX10_hasRow 40 = .ok (.invokevirtual 103, 3) := by decide +kernel
theorem dX10_hasRow_43 : decode cX10_hasRow 43 = .ok (.ireturn, 1) := by decide +kernel
theorem dX10_hasRow_44 : decode cX10_hasRow 44 = .ok (.iload_n 3, 1) := by decide +kernel
theorem dX10_hasRow_45 : decode cX10_hasRow 45 = .ok (.ifCond .lt 23, 3) := by decide +kernel
theorem dX10_hasRow_48 : decode cX10_hasRow 48 = .ok (.aload_n 0, 1) := by decide +kernel
theorem dX10_hasRow_49 : decode cX10_hasRow 49 = .ok (.iload 4, 2) := by decide +kernel
theorem dX10_hasRow_51 : decode cX10_hasRow 51 = .ok (.invokevirtual 106, 3) := by decide +kernel
theorem dX10_hasRow_54 : decode cX10_hasRow 54 = .ok (.iload_n 3, 1) := by decide +kernel
theorem dX10_hasRow_55 : decode cX10_hasRow 55 = .ok (.if_icmp .eq 13, 3) := by decide +kernel
theorem dX10_hasRow_58 : decode cX10_hasRow 58 = .ok (.aload_n 0, 1) := by decide +kernel
theorem dX10_hasRow_59 : decode cX10_hasRow 59 = .ok (.iconst 4, 1) := by decide +kernel
theorem dX10_hasRow_60 : decode cX10_hasRow 60 = .ok (.iload_n 1, 1) := by decide +kernel
theorem dX10_hasRow_61 : decode cX10_hasRow 61 = .ok (.iconst (-1), 1) := by decide +kernel
theorem dX10_hasRow_62 : decode cX10_hasRow 62 = .ok (.invokevirtual 103, 3) := by decide +kernel
theorem dX10_hasRow_65 : decode cX10_hasRow 65 = .ok (.ifCond .eq 7, 3) := by decide +kernel
theorem dX10_hasRow_68 : decode cX10_hasRow 68 = .ok (.iconst 1, 1) := by decide +kernel
theorem dX10_hasRow_69 : decode cX10_hasRow 69 = .ok (.goto 4, 3) := by decide +kernel
theorem dX10_hasRow_72 : decode cX10_hasRow 72 = .ok (.iconst 0, 1) := by decide +kernel
theorem dX10_hasRow_73 : decode cX10_hasRow 73 = .ok (.ireturn, 1) := by decide +kernel
theorem dX10_hasSample_0 : decode cX10_hasSample 0 = .ok (.aload_n 0, 1) := by decide +kernel
theorem dX10_hasSample_1 : decode cX10_hasSample 1 = .ok (.getfield 26, 3) := by decide +kernel
theorem dX10_hasSample_4 : decode cX10_hasSample 4 = .ok (.iconst 3, 1) := by decide +kernel
theorem dX10_hasSample_5 : decode cX10_hasSample 5 = .ok (.iload_n 1, 1) := by decide +kernel
theorem dX10_hasSample_6 : decode cX10_hasSample 6 = .ok (.imul, 1) := by decide +kernel
theorem dX10_hasSample_7 : decode cX10_hasSample 7 = .ok (.iload_n 2, 1) := by decide +kernel
theorem dX10_hasSample_8 : decode cX10_hasSample 8 = .ok (.iadd, 1) := by decide +kernel
theorem dX10_hasSample_9 : decode cX10_hasSample 9 = .ok (.iaload, 1) := by decide +kernel
theorem dX10_hasSample_10 : decode cX10_hasSample 10 = .ok (.iconst 1, 1) := by decide +kernel
theorem dX10_hasSample_11 : decode cX10_hasSample 11 = .ok (.isub, 1) := by decide +kernel
theorem dX10_hasSample_12 : decode cX10_hasSample 12 = .ok (.istore 4, 2) := by decide +kernel
theorem dX10_hasSample_14 : decode cX10_hasSample 14 = .ok (.iload_n 3, 1) := by decide +kernel
theorem dX10_hasSample_15 : decode cX10_hasSample 15 = .ok (.aload_n 0, 1) := by decide +kernel
theorem dX10_hasSample_16 : decode cX10_hasSample 16 = .ok (.getfield 13, 3) := by decide +kernel
theorem dX10_hasSample_19 : decode cX10_hasSample 19 = .ok (.aload_n 0, 1) := by decide +kernel
theorem dX10_hasSample_20 : decode cX10_hasSample 20 = .ok (.iload 4, 2) := by decide +kernel
theorem dX10_hasSample_22 : decode cX10_hasSample 22 = .ok (.iconst 0, 1) := by decide +kernel
theorem dX10_hasSample_23 : decode cX10_hasSample 23 = .ok (.invokevirtual 91, 3) := by decide +kernel
theorem dX10_hasSample_26 : decode cX10_hasSample 26 = .ok (.iconst 1, 1) := by decide +kernel
theorem dX10_hasSample_27 : decode cX10_hasSample 27 = .ok (.iadd, 1) := by decide +kernel
theorem dX10_hasSample_28 : decode cX10_hasSample 28 = .ok (.iaload, 1) := by decide +kernel
theorem dX10_hasSample_29 : decode cX10_hasSample 29 = .ok (.if_icmp .lt 13, 3) := by decide +kernel
theorem dX10_hasSample_32 : decode cX10_hasSample 32 = .ok (.aload_n 0, 1) := by decide +kernel
theorem dX10_hasSample_33 : decode cX10_hasSample 33 = .ok (.iconst 3, 1) := by decide +kernel
theorem dX10_hasSample_34 : decode cX10_hasSample 34 = .ok (.iload_n 1, 1) := by decide +kernel
theorem dX10_hasSample_35 : decode cX10_hasSample 35 = .ok (.iload_n 3, 1) := by decide +kernel
theorem dX10_hasSample_36 : decode cX10_hasSample 36 = .ok (.invokevirtual 103, 3) := by decide +kernel
theorem dX10_hasSample_39 : decode cX10_hasSample 39 = .ok (.ifCond .eq 7, 3) := by decide +kernel
theorem dX10_hasSample_42 : decode cX10_hasSample 42 = .ok (.iconst 1, 1) := by decide +kernel
theorem dX10_hasSample_43 : decode cX10_hasSample 43 = .ok (.goto 4, 3) := by decide +kernel
theorem dX10_hasSample_46 : decode cX10_hasSample 46 = .ok (.iconst 0, 1) := by decide +kernel
theorem dX10_hasSample_47 : decode cX10_hasSample 47 = .ok (.ireturn, 1) := by decide +kernel
theorem dX10_sampleOf_0 : decode cX10_sampleOf 0 = .ok (.aload_n 0, 1) := by decide +kernel
theorem dX10_sampleOf_1 : decode cX10_sampleOf 1 = .ok (.getfield 7, 3) := by decide +kernel
theorem dX10_sampleOf_4 : decode cX10_sampleOf 4 = .ok (.bipush 82, 2) := by decide +kernel
theorem dX10_sampleOf_6 : decode cX10_sampleOf 6 = .ok (.aload_n 0, 1) := by decide +kernel
theorem dX10_sampleOf_7 : decode cX10_sampleOf 7 = .ok (.getfield 26, 3) := by decide +kernel
theorem dX10_sampleOf_10 : decode cX10_sampleOf 10 = .ok (.iconst 3, 1) := by decide +kernel
theorem dX10_sampleOf_11 : decode cX10_sampleOf 11 = .ok (.iload_n 1, 1) := by decide +kernel
theorem dX10_sampleOf_12 : decode cX10_sampleOf 12 = .ok (.imul, 1) := by decide +kernel
theorem dX10_sampleOf_13 : decode cX10_sampleOf 13 = .ok (.iload_n 2, 1) := by decide +kernel
theorem dX10_sampleOf_14 : decode cX10_sampleOf 14 = .ok (.iadd, 1) := by decide +kernel
theorem dX10_sampleOf_15 : decode cX10_sampleOf 15 = .ok (.iaload, 1) := by decide +kernel
theorem dX10_sampleOf_16 : decode cX10_sampleOf 16 = .ok (.iconst 1, 1) := by decide +kernel
theorem dX10_sampleOf_17 : decode cX10_sampleOf 17 = .ok (.isub, 1) := by decide +kernel
theorem dX10_sampleOf_18 : decode cX10_sampleOf 18 = .ok (.imul, 1) := by decide +kernel
theorem dX10_sampleOf_19 : decode cX10_sampleOf 19 = .ok (.iload_n 3, 1) := by decide +kernel
theorem dX10_sampleOf_20 : decode cX10_sampleOf 20 = .ok (.iadd, 1) := by decide +kernel
theorem dX10_sampleOf_21 : decode cX10_sampleOf 21 = .ok (.daload, 1) := by decide +kernel
theorem dX10_sampleOf_22 : decode cX10_sampleOf 22 = .ok (.dreturn, 1) := by decide +kernel
theorem dX10_isNoneOf_0 : decode cX10_isNoneOf 0 = .ok (.aload_n 0, 1) := by decide +kernel
theorem dX10_isNoneOf_1 : decode cX10_isNoneOf 1 = .ok (.getfield 13, 3) := by decide +kernel
theorem dX10_isNoneOf_4 : decode cX10_isNoneOf 4 = .ok (.aload_n 0, 1) := by decide +kernel
theorem dX10_isNoneOf_5 : decode cX10_isNoneOf 5 = .ok (.aload_n 0, 1) := by decide +kernel
theorem dX10_isNoneOf_6 : decode cX10_isNoneOf 6 = .ok (.getfield 26, 3) := by decide +kernel
theorem dX10_isNoneOf_9 : decode cX10_isNoneOf 9 = .ok (.iconst 3, 1) := by decide +kernel
theorem dX10_isNoneOf_10 : decode cX10_isNoneOf 10 = .ok (.iload_n 1, 1) := by decide +kernel
theorem dX10_isNoneOf_11 : decode cX10_isNoneOf 11 = .ok (.imul, 1) := by decide +kernel
theorem dX10_isNoneOf_12 : decode cX10_isNoneOf 12 = .ok (.iload_n 2, 1) := by decide +kernel
theorem dX10_isNoneOf_13 : decode cX10_isNoneOf 13 = .ok (.iadd, 1) := by decide +kernel
theorem dX10_isNoneOf_14 : decode cX10_isNoneOf 14 = .ok (.iaload, 1) := by decide +kernel
theorem dX10_isNoneOf_15 : decode cX10_isNoneOf 15 = .ok (.iconst 1, 1) := by decide +kernel
theorem dX10_isNoneOf_16 : decode cX10_isNoneOf 16 = .ok (.isub, 1) := by decide +kernel
theorem dX10_isNoneOf_17 : decode cX10_isNoneOf 17 = .ok (.iconst 0, 1) := by decide +kernel
theorem dX10_isNoneOf_18 : decode cX10_isNoneOf 18 = .ok (.invokevirtual 91, 3) := by decide +kernel
theorem dX10_isNoneOf_21 : decode cX10_isNoneOf 21 = .ok (.iconst 2, 1) := by decide +kernel
theorem dX10_isNoneOf_22 : decode cX10_isNoneOf 22 = .ok (.iadd, 1) := by decide +kernel
theorem dX10_isNoneOf_23 : decode cX10_isNoneOf 23 = .ok (.iaload, 1) := by decide +kernel
theorem dX10_isNoneOf_24 : decode cX10_isNoneOf 24 = .ok (.iload_n 3, 1) := by decide +kernel
theorem dX10_isNoneOf_25 : decode cX10_isNoneOf 25 = .ok (.ishr, 1) := by decide +kernel
theorem dX10_isNoneOf_26 : decode cX10_isNoneOf 26 = .ok (.iconst 1, 1) := by decide +kernel
theorem dX10_isNoneOf_27 : decode cX10_isNoneOf 27 = .ok (.iand, 1) := by decide +kernel
theorem dX10_isNoneOf_28 : decode cX10_isNoneOf 28 = .ok (.iconst 1, 1) := by decide +kernel
theorem dX10_isNoneOf_29 : decode cX10_isNoneOf 29 = .ok (.if_icmp .ne 7, 3) := by decide +kernel
theorem dX10_isNoneOf_32 : decode cX10_isNoneOf 32 = .ok (.iconst 1, 1) := by decide +kernel
theorem dX10_isNoneOf_33 : decode cX10_isNoneOf 33 = .ok (.goto 4, 3) := by decide +kernel
theorem dX10_isNoneOf_36 : decode cX10_isNoneOf 36 = .ok (.iconst 0, 1) := by decide +kernel
theorem dX10_isNoneOf_37 : decode cX10_isNoneOf 37 = .ok (.ireturn, 1) := by decide +kernel
theorem dX10_held_0 : decode cX10_held 0 = .ok (.dload_n 0, 1) := by decide +kernel
theorem dX10_held_1 : decode cX10_held 1 = .ok (.ldc2_w 110, 3) := by decide +kernel
theorem dX10_held_4 : decode cX10_held 4 = .ok (.dcmp .l, 1) := by decide +kernel
theorem dX10_held_5 : decode cX10_held 5 = .ok (.ifCond .le 9, 3) := by decide +kernel
theorem dX10_held_8 : decode cX10_held 8 = .ok (.ldc2_w 110, 3) := by decide +kernel
theorem dX10_held_11 : decode cX10_held 11 = .ok (.goto 18, 3) := by decide +kernel
theorem dX10_held_14 : decode cX10_held 14 = .ok (.dload_n 0, 1) := by decide +kernel
theorem dX10_held_15 : decode cX10_held 15 = .ok (.ldc2_w 112, 3) := by decide +kernel
theorem dX10_held_18 : decode cX10_held 18 = .ok (.dcmp .g, 1) := by decide +kernel
theorem dX10_held_19 : decode cX10_held 19 = .ok (.ifCond .ge 9, 3) := by decide +kernel
theorem dX10_held_22 : decode cX10_held 22 = .ok (.ldc2_w 112, 3) := by decide +kernel
theorem dX10_held_25 : decode cX10_held 25 = .ok (.goto 4, 3) := by decide +kernel
theorem dX10_held_28 : decode cX10_held 28 = .ok (.dload_n 0, 1) := by decide +kernel
theorem dX10_held_29 : decode cX10_held 29 = .ok (.dreturn, 1) := by decide +kernel
theorem dX10_heldTo_0 : decode cX10_heldTo 0 = .ok (.iload 4, 2) := by decide +kernel
theorem dX10_heldTo_2 : decode cX10_heldTo 2 = .ok (.bipush 16, 2) := by decide +kernel
theorem dX10_heldTo_4 : decode cX10_heldTo 4 = .ok (.if_icmp .ne 9, 3) := by decide +kernel
theorem dX10_heldTo_7 : decode cX10_heldTo 7 = .ok (.ldc2_w 114, 3) := by decide +kernel
theorem dX10_heldTo_10 : decode cX10_heldTo 10 = .ok (.goto 6, 3) := by decide +kernel
theorem dX10_heldTo_13 : decode cX10_heldTo 13 = .ok (.ldc2_w 116, 3) := by decide +kernel
theorem dX10_heldTo_16 : decode cX10_heldTo 16 = .ok (.lstore 5, 2) := by decide +kernel
theorem dX10_heldTo_18 : decode cX10_heldTo 18 = .ok (.lload_n 2, 1) := by decide +kernel
theorem dX10_heldTo_19 : decode cX10_heldTo 19 = .ok (.lload 5, 2) := by decide +kernel
theorem dX10_heldTo_21 : decode cX10_heldTo 21 = .ok (.lcmp, 1) := by decide +kernel
theorem dX10_heldTo_22 : decode cX10_heldTo 22 = .ok (.ifCond .le 8, 3) := by decide +kernel
theorem dX10_heldTo_25 : decode cX10_heldTo 25 = .ok (.lload 5, 2) := by decide +kernel
theorem dX10_heldTo_27 : decode cX10_heldTo 27 = .ok (.goto 22, 3) := by decide +kernel
theorem dX10_heldTo_30 : decode cX10_heldTo 30 = .ok (.lload_n 2, 1) := by decide +kernel
theorem dX10_heldTo_31 : decode cX10_heldTo 31 = .ok (.lload 5, 2) := by decide +kernel
theorem dX10_heldTo_33 : decode cX10_heldTo 33 = .ok (.lneg, 1) := by decide +kernel
theorem dX10_heldTo_34 : decode cX10_heldTo 34 = .ok (.lconst 1, 1) := by decide +kernel
theorem dX10_heldTo_35 : decode cX10_heldTo 35 = .ok (.lsub, 1) := by decide +kernel
theorem dX10_heldTo_36 : decode cX10_heldTo 36 = .ok (.lcmp, 1) := by decide +kernel
theorem dX10_heldTo_37 : decode cX10_heldTo 37 = .ok (.ifCond .ge 11, 3) := by decide +kernel
theorem dX10_heldTo_40 : decode cX10_heldTo 40 = .ok (.lload 5, 2) := by decide +kernel
theorem dX10_heldTo_42 : decode cX10_heldTo 42 = .ok (.lneg, 1) := by decide +kernel
theorem dX10_heldTo_43 : decode cX10_heldTo 43 = .ok (.lconst 1, 1) := by decide +kernel
theorem dX10_heldTo_44 : decode cX10_heldTo 44 = .ok (.lsub, 1) := by decide +kernel
theorem dX10_heldTo_45 : decode cX10_heldTo 45 = .ok (.goto 4, 3) := by decide +kernel
theorem dX10_heldTo_48 : decode cX10_heldTo 48 = .ok (.lload_n 2, 1) := by decide +kernel
theorem dX10_heldTo_49 : decode cX10_heldTo 49 = .ok (.lstore 7, 2) := by decide +kernel
theorem dX10_heldTo_51 : decode cX10_heldTo 51 = .ok (.aload_n 0, 1) := by decide +kernel
theorem dX10_heldTo_52 : decode cX10_heldTo 52 = .ok (.getfield 13, 3) := by decide +kernel
theorem dX10_heldTo_55 : decode cX10_heldTo 55 = .ok (.bipush 20, 2) := by decide +kernel
theorem dX10_heldTo_57 : decode cX10_heldTo 57 = .ok (.iload_n 1, 1) := by decide +kernel
theorem dX10_heldTo_58 : decode cX10_heldTo 58 = .ok (.imul, 1) := by decide +kernel
theorem dX10_heldTo_59 : decode cX10_heldTo 59 = .ok (.bipush 17, 2) := by decide +kernel
theorem dX10_heldTo_61 : decode cX10_heldTo 61 = .ok (.iadd, 1) := by decide +kernel
theorem dX10_heldTo_62 : decode cX10_heldTo 62 = .ok (.dup2, 1) := by decide +kernel
theorem dX10_heldTo_63 : decode cX10_heldTo 63 = .ok (.iaload, 1) := by decide +kernel
theorem dX10_heldTo_64 : decode cX10_heldTo 64 = .ok (.lload 7, 2) := by decide +kernel
theorem dX10_heldTo_66 : decode cX10_heldTo 66 = .ok (.lload_n 2, 1) := by decide +kernel
theorem dX10_heldTo_67 : decode cX10_heldTo 67 = .ok (.lcmp, 1) := by decide +kernel
theorem dX10_heldTo_68 : decode cX10_heldTo 68 = .ok (.ifCond .eq 7, 3) := by decide +kernel
theorem dX10_heldTo_71 : decode cX10_heldTo 71 = .ok (.iconst 1, 1) := by decide +kernel
theorem dX10_heldTo_72 : decode cX10_heldTo 72 = .ok (.goto 4, 3) := by decide +kernel
theorem dX10_heldTo_75 : decode cX10_heldTo 75 = .ok (.iconst 0, 1) := by decide +kernel
theorem dX10_heldTo_76 : decode cX10_heldTo 76 = .ok (.iadd, 1) := by decide +kernel
theorem dX10_heldTo_77 : decode cX10_heldTo 77 = .ok (.iastore, 1) := by decide +kernel
theorem dX10_heldTo_78 : decode cX10_heldTo 78 = .ok (.lload 7, 2) := by decide +kernel
theorem dX10_heldTo_80 : decode cX10_heldTo 80 = .ok (.l2d, 1) := by decide +kernel
theorem dX10_heldTo_81 : decode cX10_heldTo 81 = .ok (.dreturn, 1) := by decide +kernel
theorem dX10_wholeInto_0 : decode cX10_wholeInto 0 = .ok (.iload 4, 2) := by decide +kernel
theorem dX10_wholeInto_2 : decode cX10_wholeInto 2 = .ok (.tableswitch 66 0 3 #[30, 42, 51, 54], 30) := by decide +kernel
theorem dX10_wholeInto_32 : decode cX10_wholeInto 32 = .ok (.lload_n 2, 1) := by decide +kernel
theorem dX10_wholeInto_33 : decode cX10_wholeInto 33 = .ok (.lconst 0, 1) := by decide +kernel
theorem dX10_wholeInto_34 : decode cX10_wholeInto 34 = .ok (.lcmp, 1) := by decide +kernel
theorem dX10_wholeInto_35 : decode cX10_wholeInto 35 = .ok (.ifCond .le 7, 3) := by decide +kernel
theorem dX10_wholeInto_38 : decode cX10_wholeInto 38 = .ok (.dconst 1, 1) := by decide +kernel
theorem dX10_wholeInto_39 : decode cX10_wholeInto 39 = .ok (.goto 4, 3) := by decide +kernel
theorem dX10_wholeInto_42 : decode cX10_wholeInto 42 = .ok (.dconst 0, 1) := by decide +kernel
theorem dX10_wholeInto_43 : decode cX10_wholeInto 43 = .ok (.dreturn, 1) := by decide +kernel
theorem dX10_wholeInto_44 : decode cX10_wholeInto 44 = .ok (.aload_n 0, 1) := by decide +kernel
theorem dX10_wholeInto_45 : decode cX10_wholeInto 45 = .ok (.iload_n 1, 1) := by decide +kernel
theorem dX10_wholeInto_46 : decode cX10_wholeInto 46 = .ok (.lload_n 2, 1) := by decide +kernel
theorem dX10_wholeInto_47 : decode cX10_wholeInto 47 = .ok (.bipush 16, 2) := by decide +kernel
theorem dX10_wholeInto_49 : decode cX10_wholeInto 49 = .ok (.invokevirtual 118, 3) := by decide +kernel
theorem dX10_wholeInto_52 : decode cX10_wholeInto 52 = .ok (.dreturn, 1) := by decide +kernel
theorem dX10_wholeInto_53 : decode cX10_wholeInto 53 = .ok (.lload_n 2, 1) := by decide +kernel
theorem dX10_wholeInto_54 : decode cX10_wholeInto 54 = .ok (.l2d, 1) := by decide +kernel
theorem dX10_wholeInto_55 : decode cX10_wholeInto 55 = .ok (.dreturn, 1) := by decide +kernel
theorem dX10_wholeInto_56 : decode cX10_wholeInto 56 = .ok (.lload_n 2, 1) := by decide +kernel
theorem dX10_wholeInto_57 : decode cX10_wholeInto 57 = .ok (.l2d, 1) := by decide +kernel
theorem dX10_wholeInto_58 : decode cX10_wholeInto 58 = .ok (.ldc2_w 122, 3) := by decide +kernel
theorem dX10_wholeInto_61 : decode cX10_wholeInto 61 = .ok (.ddiv, 1) := by decide +kernel
theorem dX10_wholeInto_62 : decode cX10_wholeInto 62 = .ok (.invokestatic 124, 3) := by decide +kernel
theorem dX10_wholeInto_65 : decode cX10_wholeInto 65 = .ok (.d2f, 1) := by decide +kernel
theorem dX10_wholeInto_66 : decode cX10_wholeInto 66 = .ok (.f2d, 1) := by decide +kernel
theorem dX10_wholeInto_67 : decode cX10_wholeInto 67 = .ok (.dreturn, 1) := by decide +kernel
theorem dX10_wholeInto_68 : decode cX10_wholeInto 68 = .ok (.lload_n 2, 1) := by decide +kernel
theorem dX10_wholeInto_69 : decode cX10_wholeInto 69 = .ok (.l2d, 1) := by decide +kernel
theorem dX10_wholeInto_70 : decode cX10_wholeInto 70 = .ok (.ldc2_w 122, 3) := by decide +kernel
theorem dX10_wholeInto_73 : decode cX10_wholeInto 73 = .ok (.ddiv, 1) := by decide +kernel
theorem dX10_wholeInto_74 : decode cX10_wholeInto 74 = .ok (.invokestatic 124, 3) := by decide +kernel
theorem dX10_wholeInto_77 : decode cX10_wholeInto 77 = .ok (.dreturn, 1) := by decide +kernel
theorem dX10_floatingInto_0 : decode cX10_floatingInto 0 = .ok (.iload 4, 2) := by decide +kernel
theorem dX10_floatingInto_2 : decode cX10_floatingInto 2 = .ok (.tableswitch 74 0 3 #[30, 42, 56, 70], 30) := by decide +kernel
theorem dX10_floatingInto_32 : decode cX10_floatingInto 32 = .ok (.dload_n 2, 1) := by decide +kernel
theorem dX10_floatingInto_33 : decode cX10_floatingInto 33 = .ok (.dconst 0, 1) := by decide +kernel
theorem dX10_floatingInto_34 : decode cX10_floatingInto 34 = .ok (.dcmp .l, 1) := by decide +kernel
theorem dX10_floatingInto_35 : decode cX10_floatingInto 35 = .ok (.ifCond .le 7, 3) := by decide +kernel
theorem dX10_floatingInto_38 : decode cX10_floatingInto 38 = .ok (.dconst 1, 1) := by decide +kernel
theorem dX10_floatingInto_39 : decode cX10_floatingInto 39 = .ok (.goto 4, 3) := by decide +kernel
theorem dX10_floatingInto_42 : decode cX10_floatingInto 42 = .ok (.dconst 0, 1) := by decide +kernel
theorem dX10_floatingInto_43 : decode cX10_floatingInto 43 = .ok (.dreturn, 1) := by decide +kernel
theorem dX10_floatingInto_44 : decode cX10_floatingInto 44 = .ok (.aload_n 0, 1) := by decide +kernel
theorem dX10_floatingInto_45 : decode cX10_floatingInto 45 = .ok (.iload_n 1, 1) := by decide +kernel
theorem dX10_floatingInto_46 : decode cX10_floatingInto 46 = .ok (.dload_n 2, 1) := by decide +kernel
theorem dX10_floatingInto_47 : decode cX10_floatingInto 47 = .ok (.ldc2_w 122, 3) := by decide +kernel
theorem dX10_floatingInto_50 : decode cX10_floatingInto 50 = .ok (.dmul, 1) := by decide +kernel
theorem dX10_floatingInto_51 : decode cX10_floatingInto 51 = .ok (.d2l, 1) := by decide +kernel
theorem dX10_floatingInto_52 : decode cX10_floatingInto 52 = .ok (.bipush 16, 2) := by decide +kernel
theorem dX10_floatingInto_54 : decode cX10_floatingInto 54 = .ok (.invokevirtual 118, 3) := by decide +kernel
theorem dX10_floatingInto_57 : decode cX10_floatingInto 57 = .ok (.dreturn, 1) := by decide +kernel
theorem dX10_floatingInto_58 : decode cX10_floatingInto 58 = .ok (.aload_n 0, 1) := by decide +kernel
theorem dX10_floatingInto_59 : decode cX10_floatingInto 59 = .ok (.iload_n 1, 1) := by decide +kernel
theorem dX10_floatingInto_60 : decode cX10_floatingInto 60 = .ok (.dload_n 2, 1) := by decide +kernel
theorem dX10_floatingInto_61 : decode cX10_floatingInto 61 = .ok (.ldc2_w 122, 3) := by decide +kernel
theorem dX10_floatingInto_64 : decode cX10_floatingInto 64 = .ok (.dmul, 1) := by decide +kernel
theorem dX10_floatingInto_65 : decode cX10_floatingInto 65 = .ok (.d2l, 1) := by decide +kernel
theorem dX10_floatingInto_66 : decode cX10_floatingInto 66 = .ok (.bipush 32, 2) := by decide +kernel
theorem dX10_floatingInto_68 : decode cX10_floatingInto 68 = .ok (.invokevirtual 118, 3) := by decide +kernel
theorem dX10_floatingInto_71 : decode cX10_floatingInto 71 = .ok (.dreturn, 1) := by decide +kernel
theorem dX10_floatingInto_72 : decode cX10_floatingInto 72 = .ok (.dload_n 2, 1) := by decide +kernel
theorem dX10_floatingInto_73 : decode cX10_floatingInto 73 = .ok (.d2f, 1) := by decide +kernel
theorem dX10_floatingInto_74 : decode cX10_floatingInto 74 = .ok (.f2d, 1) := by decide +kernel
theorem dX10_floatingInto_75 : decode cX10_floatingInto 75 = .ok (.dreturn, 1) := by decide +kernel
theorem dX10_floatingInto_76 : decode cX10_floatingInto 76 = .ok (.dload_n 2, 1) := by decide +kernel
theorem dX10_floatingInto_77 : decode cX10_floatingInto 77 = .ok (.dreturn, 1) := by decide +kernel
theorem dX10_source_0 : decode cX10_source 0 = .ok (.aload_n 0, 1) := by decide +kernel
theorem dX10_source_1 : decode cX10_source 1 = .ok (.getfield 23, 3) := by decide +kernel
theorem dX10_source_4 : decode cX10_source 4 = .ok (.iconst 3, 1) := by decide +kernel
theorem dX10_source_5 : decode cX10_source 5 = .ok (.iload_n 1, 1) := by decide +kernel
theorem dX10_source_6 : decode cX10_source 6 = .ok (.imul, 1) := by decide +kernel
theorem dX10_source_7 : decode cX10_source 7 = .ok (.iaload, 1) := by decide +kernel
theorem dX10_source_8 : decode cX10_source 8 = .ok (.istore_n 2, 1) := by decide +kernel
theorem dX10_source_9 : decode cX10_source 9 = .ok (.iload_n 2, 1) := by decide +kernel
theorem dX10_source_10 : decode cX10_source 10 = .ok (.iconst 0, 1) := by decide +kernel
theorem dX10_source_11 : decode cX10_source 11 = .ok (.bipush 7, 2) := by decide +kernel
theorem dX10_source_13 : decode cX10_source 13 = .ok (.invokestatic 72, 3) := by decide +kernel
theorem dX10_source_16 : decode cX10_source 16 = .ok (.ifCond .eq 12, 3) := by decide +kernel
theorem dX10_source_19 : decode cX10_source 19 = .ok (.aload_n 0, 1) := by decide +kernel
theorem dX10_source_20 : decode cX10_source 20 = .ok (.getfield 32, 3) := by decide +kernel
theorem dX10_source_23 : decode cX10_source 23 = .ok (.iload_n 2, 1) := by decide +kernel
theorem dX10_source_24 : decode cX10_source 24 = .ok (.iaload, 1) := by decide +kernel
theorem dX10_source_25 : decode cX10_source 25 = .ok (.ifCond .ne 11, 3) := by decide +kernel
theorem dX10_source_28 : decode cX10_source 28 = .ok (.aload_n 0, 1) := by decide +kernel
theorem dX10_source_29 : decode cX10_source 29 = .ok (.iconst 2, 1) := by decide +kernel
theorem dX10_source_30 : decode cX10_source 30 = .ok (.iload_n 1, 1) := by decide +kernel
theorem dX10_source_31 : decode cX10_source 31 = .ok (.iconst (-1), 1) := by decide +kernel
theorem dX10_source_32 : decode cX10_source 32 = .ok (.invokevirtual 103, 3) := by decide +kernel
theorem dX10_source_35 : decode cX10_source 35 = .ok (.ireturn, 1) := by decide +kernel
theorem dX10_source_36 : decode cX10_source 36 = .ok (.aload_n 0, 1) := by decide +kernel
theorem dX10_source_37 : decode cX10_source 37 = .ok (.getfield 32, 3) := by decide +kernel
theorem dX10_source_40 : decode cX10_source 40 = .ok (.iload_n 2, 1) := by decide +kernel
theorem dX10_source_41 : decode cX10_source 41 = .ok (.iaload, 1) := by decide +kernel
theorem dX10_source_42 : decode cX10_source 42 = .ok (.iconst 1, 1) := by decide +kernel
theorem dX10_source_43 : decode cX10_source 43 = .ok (.isub, 1) := by decide +kernel
theorem dX10_source_44 : decode cX10_source 44 = .ok (.istore_n 3, 1) := by decide +kernel
theorem dX10_source_45 : decode cX10_source 45 = .ok (.bipush 20, 2) := by decide +kernel
theorem dX10_source_47 : decode cX10_source 47 = .ok (.iload_n 1, 1) := by decide +kernel
theorem dX10_source_48 : decode cX10_source 48 = .ok (.imul, 1) := by decide +kernel
theorem dX10_source_49 : decode cX10_source 49 = .ok (.bipush 15, 2) := by decide +kernel
theorem dX10_source_51 : decode cX10_source 51 = .ok (.iadd, 1) := by decide +kernel
theorem dX10_source_52 : decode cX10_source 52 = .ok (.istore 4, 2) := by decide +kernel
theorem dX10_source_54 : decode cX10_source 54 = .ok (.iconst 0, 1) := by decide +kernel
theorem dX10_source_55 : decode cX10_source 55 = .ok (.istore 5, 2) := by decide +kernel
theorem dX10_source_57 : decode cX10_source 57 = .ok (.iload 5, 2) := by decide +kernel
theorem dX10_source_59 : decode cX10_source 59 = .ok (.aload_n 0, 1) := by decide +kernel
theorem dX10_source_60 : decode cX10_source 60 = .ok (.getfield 128, 3) := by decide +kernel
theorem dX10_source_63 : decode cX10_source 63 = .ok (.if_icmp .ge 180, 3) := by decide +kernel
theorem dX10_source_66 : decode cX10_source 66 = .ok (.iload_n 3, 1) := by decide +kernel
theorem dX10_source_67 : decode cX10_source 67 = .ok (.ifCond .ne 12, 3) := by decide +kernel
theorem dX10_source_70 : decode cX10_source 70 = .ok (.aload_n 0, 1) := by decide +kernel
theorem dX10_source_71 : decode cX10_source 71 = .ok (.iconst 5, 1) := by decide +kernel
theorem dX10_source_72 : decode cX10_source 72 = .ok (.iload_n 1, 1) := by decide +kernel
theorem dX10_source_73 : decode cX10_source 73 = .ok (.iload 5, 2) := by decide +kernel
theorem dX10_source_75 : decode cX10_source 75 = .ok (.invokevirtual 103, 3) := by decide +kernel
theorem dX10_source_78 : decode cX10_source 78 = .ok (.ireturn, 1) := by decide +kernel
theorem dX10_source_79 : decode cX10_source 79 = .ok (.aload_n 0, 1) := by decide +kernel
theorem dX10_source_80 : decode cX10_source 80 = .ok (.getfield 13, 3) := by decide +kernel
theorem dX10_source_83 : decode cX10_source 83 = .ok (.iload 4, 2) := by decide +kernel
theorem dX10_source_85 : decode cX10_source 85 = .ok (.iaload, 1) := by decide +kernel
theorem dX10_source_86 : decode cX10_source 86 = .ok (.iload_n 3, 1) := by decide +kernel
theorem dX10_source_87 : decode cX10_source 87 = .ok (.if_icmp .lt 12, 3) := by decide +kernel
theorem dX10_source_90 : decode cX10_source 90 = .ok (.aload_n 0, 1) := by decide +kernel
theorem dX10_source_91 : decode cX10_source 91 = .ok (.iconst 3, 1) := by decide +kernel
theorem dX10_source_92 : decode cX10_source 92 = .ok (.iload_n 1, 1) := by decide +kernel
theorem dX10_source_93 : decode cX10_source 93 = .ok (.iload 5, 2) := by decide +kernel
theorem dX10_source_95 : decode cX10_source 95 = .ok (.invokevirtual 103, 3) := by decide +kernel
theorem dX10_source_98 : decode cX10_source 98 = .ok (.ireturn, 1) := by decide +kernel
theorem dX10_source_99 : decode cX10_source 99 = .ok (.aload_n 0, 1) := by decide +kernel
theorem dX10_source_100 : decode cX10_source 100 = .ok (.getfield 29, 3) := by decide +kernel
theorem dX10_source_103 : decode cX10_source 103 = .ok (.bipush 16, 2) := by decide +kernel
theorem dX10_source_105 : decode cX10_source 105 = .ok (.iload_n 2, 1) := by decide +kernel
theorem dX10_source_106 : decode cX10_source 106 = .ok (.imul, 1) := by decide +kernel
theorem dX10_source_107 : decode cX10_source 107 = .ok (.aload_n 0, 1) := by decide +kernel
theorem dX10_source_108 : decode cX10_source 108 = .ok (.getfield 13, 3) := by decide +kernel
theorem dX10_source_111 : decode cX10_source 111 = .ok (.iload 4, 2) := by decide +kernel
theorem dX10_source_113 : decode cX10_source 113 = .ok (.iaload, 1) := by decide +kernel
theorem dX10_source_114 : decode cX10_source 114 = .ok (.iadd, 1) := by decide +kernel
theorem dX10_source_115 : decode cX10_source 115 = .ok (.iaload, 1) := by decide +kernel
theorem dX10_source_116 : decode cX10_source 116 = .ok (.istore 6, 2) := by decide +kernel
theorem dX10_source_118 : decode cX10_source 118 = .ok (.aload_n 0, 1) := by decide +kernel
theorem dX10_source_119 : decode cX10_source 119 = .ok (.getfield 13, 3) := by decide +kernel
theorem dX10_source_122 : decode cX10_source 122 = .ok (.iload 4, 2) := by decide +kernel
theorem dX10_source_124 : decode cX10_source 124 = .ok (.iaload, 1) := by decide +kernel
theorem dX10_source_125 : decode cX10_source 125 = .ok (.aload_n 0, 1) := by decide +kernel
theorem dX10_source_126 : decode cX10_source 126 = .ok (.getfield 23, 3) := by decide +kernel
theorem dX10_source_129 : decode cX10_source 129 = .ok (.iconst 3, 1) := by decide +kernel
theorem dX10_source_130 : decode cX10_source 130 = .ok (.iload_n 1, 1) := by decide +kernel
theorem dX10_source_131 : decode cX10_source 131 = .ok (.imul, 1) := by decide +kernel
theorem dX10_source_132 : decode cX10_source 132 = .ok (.iconst 1, 1) := by decide +kernel
theorem dX10_source_133 : decode cX10_source 133 = .ok (.iadd, 1) := by decide +kernel
theorem dX10_source_134 : decode cX10_source 134 = .ok (.iaload, 1) := by decide +kernel
theorem dX10_source_135 : decode cX10_source 135 = .ok (.iadd, 1) := by decide +kernel
theorem dX10_source_136 : decode cX10_source 136 = .ok (.iload_n 3, 1) := by decide +kernel
theorem dX10_source_137 : decode cX10_source 137 = .ok (.irem, 1) := by decide +kernel
theorem dX10_source_138 : decode cX10_source 138 = .ok (.istore 7, 2) := by decide +kernel
theorem dX10_source_140 : decode cX10_source 140 = .ok (.aload_n 0, 1) := by decide +kernel
theorem dX10_source_141 : decode cX10_source 141 = .ok (.getfield 13, 3) := by decide +kernel
theorem dX10_source_144 : decode cX10_source 144 = .ok (.iload 4, 2) := by decide +kernel
theorem dX10_source_146 : decode cX10_source 146 = .ok (.iload 7, 2) := by decide +kernel
theorem dX10_source_148 : decode cX10_source 148 = .ok (.ifCond .ge 10, 3) := by decide +kernel
theorem dX10_source_151 : decode cX10_source 151 = .ok (.iload 7, 2) := by decide +kernel
theorem dX10_source_153 : decode cX10_source 153 = .ok (.iload_n 3, 1) := by decide +kernel
theorem dX10_source_154 : decode cX10_source 154 = .ok (.iadd, 1) := by decide +kernel
theorem dX10_source_155 : decode cX10_source 155 = .ok (.goto 5, 3) := by decide +kernel
theorem dX10_source_158 : decode cX10_source 158 = .ok (.iload 7, 2) := by decide +kernel
theorem dX10_source_160 : decode cX10_source 160 = .ok (.iastore, 1) := by decide +kernel
theorem dX10_source_161 : decode cX10_source 161 = .ok (.aload_n 0, 1) := by decide +kernel
theorem dX10_source_162 : decode cX10_source 162 = .ok (.getfield 20, 3) := by decide +kernel
theorem dX10_source_165 : decode cX10_source 165 = .ok (.iload_n 1, 1) := by decide +kernel
theorem dX10_source_166 : decode cX10_source 166 = .ok (.iaload, 1) := by decide +kernel
theorem dX10_source_167 : decode cX10_source 167 = .ok (.iconst 3, 1) := by decide +kernel
theorem dX10_source_168 : decode cX10_source 168 = .ok (.if_icmp .lt 14, 3) := by decide +kernel
theorem dX10_source_171 : decode cX10_source 171 = .ok (.iload 6, 2) := by decide +kernel
theorem dX10_source_173 : decode cX10_source 173 = .ok (.ldc 131, 2) := by decide +kernel
theorem dX10_source_175 : decode cX10_source 175 = .ok (.if_icmp .ne 7, 3) := by decide +kernel
theorem dX10_source_178 : decode cX10_source 178 = .ok (.iconst 1, 1) := by decide +kernel
theorem dX10_source_179 : decode cX10_source 179 = .ok (.goto 4, 3) := by decide +kernel
theorem dX10_source_182 : decode cX10_source 182 = .ok (.iconst 0, 1) := by decide +kernel
theorem dX10_source_183 : decode cX10_source 183 = .ok (.istore 8, 2) := by decide +kernel
theorem dX10_source_185 : decode cX10_source 185 = .ok (.aload_n 0, 1) := by decide +kernel
theorem dX10_source_186 : decode cX10_source 186 = .ok (.dup, 1) := by decide +kernel
theorem dX10_source_187 : decode cX10_source 187 = .ok (.getfield 132, 3) := by decide +kernel
theorem dX10_source_190 : decode cX10_source 190 = .ok (.iload 8, 2) := by decide +kernel
theorem dX10_source_192 : decode cX10_source 192 = .ok (.ifCond .eq 10, 3) := by decide +kernel
theorem dX10_source_195 : decode cX10_source 195 = .ok (.iconst 1, 1) := by decide +kernel
theorem dX10_source_196 : decode cX10_source 196 = .ok (.iload 5, 2) := by decide +kernel
theorem dX10_source_198 : decode cX10_source 198 = .ok (.ishl, 1) := by decide +kernel
theorem dX10_source_199 : decode cX10_source 199 = .ok (.goto 4, 3) := by decide +kernel
theorem dX10_source_202 : decode cX10_source 202 = .ok (.iconst 0, 1) := by decide +kernel
theorem dX10_source_203 : decode cX10_source 203 = .ok (.iadd, 1) := by decide +kernel
theorem dX10_source_204 : decode cX10_source 204 = .ok (.putfield 132, 3) := by decide +kernel
theorem dX10_source_207 : decode cX10_source 207 = .ok (.aload_n 0, 1) := by decide +kernel
theorem dX10_source_208 : decode cX10_source 208 = .ok (.getfield 62, 3) := by decide +kernel
theorem dX10_source_211 : decode cX10_source 211 = .ok (.iload 5, 2) := by decide +kernel
theorem dX10_source_213 : decode cX10_source 213 = .ok (.iload 8, 2) := by decide +kernel
theorem dX10_source_215 : decode cX10_source 215 = .ok (.ifCond .eq 7, 3) := by decide +kernel
theorem dX10_source_218 : decode cX10_source 218 = .ok (.dconst 0, 1) := by decide +kernel
theorem dX10_source_219 : decode cX10_source 219 = .ok (.goto 17, 3) := by decide +kernel
theorem dX10_source_222 : decode cX10_source 222 = .ok (.aload_n 0, 1) := by decide +kernel
theorem dX10_source_223 : decode cX10_source 223 = .ok (.iload_n 1, 1) := by decide +kernel
theorem dX10_source_224 : decode cX10_source 224 = .ok (.iload 6, 2) := by decide +kernel
theorem dX10_source_226 : decode cX10_source 226 = .ok (.i2l, 1) := by decide +kernel
theorem dX10_source_227 : decode cX10_source 227 = .ok (.aload_n 0, 1) := by decide +kernel
theorem dX10_source_228 : decode cX10_source 228 = .ok (.getfield 20, 3) := by decide +kernel
theorem dX10_source_231 : decode cX10_source 231 = .ok (.iload_n 1, 1) := by decide +kernel
theorem dX10_source_232 : decode cX10_source 232 = .ok (.iaload, 1) := by decide +kernel
theorem dX10_source_233 : decode cX10_source 233 = .ok (.invokevirtual 135, 3) := by decide +kernel
theorem dX10_source_236 : decode cX10_source 236 = .ok (.dastore, 1) := by decide +kernel
theorem dX10_source_237 : decode cX10_source 237 = .ok (.iinc 5 1, 3) := by decide +kernel
theorem dX10_source_240 : decode cX10_source 240 = .ok (.goto (-183), 3) := by decide +kernel
theorem dX10_source_243 : decode cX10_source 243 = .ok (.iconst 1, 1) := by decide +kernel
theorem dX10_source_244 : decode cX10_source 244 = .ok (.ireturn, 1) := by decide +kernel
theorem dX10_shaped_0 : decode cX10_shaped 0 = .ok (.aload_n 0, 1) := by decide +kernel
theorem dX10_shaped_1 : decode cX10_shaped 1 = .ok (.getfield 13, 3) := by decide +kernel
theorem dX10_shaped_4 : decode cX10_shaped 4 = .ok (.bipush 20, 2) := by decide +kernel
theorem dX10_shaped_6 : decode cX10_shaped 6 = .ok (.iload_n 1, 1) := by decide +kernel
theorem dX10_shaped_7 : decode cX10_shaped 7 = .ok (.imul, 1) := by decide +kernel
theorem dX10_shaped_8 : decode cX10_shaped 8 = .ok (.bipush 18, 2) := by decide +kernel
theorem dX10_shaped_10 : decode cX10_shaped 10 = .ok (.iadd, 1) := by decide +kernel
theorem dX10_shaped_11 : decode cX10_shaped 11 = .ok (.iaload, 1) := by decide +kernel
theorem dX10_shaped_12 : decode cX10_shaped 12 = .ok (.istore 5, 2) := by decide +kernel
theorem dX10_shaped_14 : decode cX10_shaped 14 = .ok (.aload_n 0, 1) := by decide +kernel
theorem dX10_shaped_15 : decode cX10_shaped 15 = .ok (.getfield 23, 3) := by decide +kernel
theorem dX10_shaped_18 : decode cX10_shaped 18 = .ok (.iconst 3, 1) := by decide +kernel
theorem dX10_shaped_19 : decode cX10_shaped 19 = .ok (.iload_n 1, 1) := by decide +kernel
theorem dX10_shaped_20 : decode cX10_shaped 20 = .ok (.imul, 1) := by decide +kernel
theorem dX10_shaped_21 : decode cX10_shaped 21 = .ok (.iaload, 1) := by decide +kernel
theorem dX10_shaped_22 : decode cX10_shaped 22 = .ok (.iload 5, 2) := by decide +kernel
theorem dX10_shaped_24 : decode cX10_shaped 24 = .ok (.isub, 1) := by decide +kernel
theorem dX10_shaped_25 : decode cX10_shaped 25 = .ok (.iload_n 2, 1) := by decide +kernel
theorem dX10_shaped_26 : decode cX10_shaped 26 = .ok (.iconst 1, 1) := by decide +kernel
theorem dX10_shaped_27 : decode cX10_shaped 27 = .ok (.iadd, 1) := by decide +kernel
theorem dX10_shaped_28 : decode cX10_shaped 28 = .ok (.imul, 1) := by decide +kernel
theorem dX10_shaped_29 : decode cX10_shaped 29 = .ok (.i2d, 1) := by decide +kernel
theorem dX10_shaped_30 : decode cX10_shaped 30 = .ok (.dstore 6, 2) := by decide +kernel
theorem dX10_shaped_32 : decode cX10_shaped 32 = .ok (.iload 5, 2) := by decide +kernel
theorem dX10_shaped_34 : decode cX10_shaped 34 = .ok (.i2d, 1) := by decide +kernel
theorem dX10_shaped_35 : decode cX10_shaped 35 = .ok (.dload 6, 2) := by decide +kernel
theorem dX10_shaped_37 : decode cX10_shaped 37 = .ok (.aload_n 0, 1) := by decide +kernel
theorem dX10_shaped_38 : decode cX10_shaped 38 = .ok (.getfield 128, 3) := by decide +kernel
theorem dX10_shaped_41 : decode cX10_shaped 41 = .ok (.i2d, 1) := by decide +kernel
theorem dX10_shaped_42 : decode cX10_shaped 42 = .ok (.ddiv, 1) := by decide +kernel
theorem dX10_shaped_43 : decode cX10_shaped 43 = .ok (.dadd, 1) := by decide +kernel
theorem dX10_shaped_44 : decode cX10_shaped 44 = .ok (.ldc2_w 138, 3) := by decide +kernel
theorem dX10_shaped_47 : decode cX10_shaped 47 = .ok (.ddiv, 1) := by decide +kernel
theorem dX10_shaped_48 : decode cX10_shaped 48 = .ok (.dstore 8, 2) := by decide +kernel
theorem dX10_shaped_50 : decode cX10_shaped 50 = .ok (.dload 8, 2) := by decide +kernel
theorem dX10_shaped_52 : decode cX10_shaped 52 = .ok (.dload_n 3, 1) := by decide +kernel
theorem dX10_shaped_53 : decode cX10_shaped 53 = .ok (.dmul, 1) := by decide +kernel
theorem dX10_shaped_54 : decode cX10_shaped 54 = .ok (.invokestatic 124, 3) := by decide +kernel
theorem dX10_shaped_57 : decode cX10_shaped 57 = .ok (.dreturn, 1) := by decide +kernel
theorem dX10_filtered_0 : decode cX10_filtered 0 = .ok (.bipush 82, 2) := by decide +kernel
theorem dX10_filtered_2 : decode cX10_filtered 2 = .ok (.iload_n 1, 1) := by decide +kernel
theorem dX10_filtered_3 : decode cX10_filtered 3 = .ok (.imul, 1) := by decide +kernel
theorem dX10_filtered_4 : decode cX10_filtered 4 = .ok (.bipush 80, 2) := by decide +kernel
theorem dX10_filtered_6 : decode cX10_filtered 6 = .ok (.iadd, 1) := by decide +kernel
theorem dX10_filtered_7 : decode cX10_filtered 7 = .ok (.istore 4, 2) := by decide +kernel
theorem dX10_filtered_9 : decode cX10_filtered 9 = .ok (.dload_n 2, 1) := by decide +kernel
theorem dX10_filtered_10 : decode cX10_filtered 10 = .ok (.aload_n 0, 1) := by decide +kernel
theorem dX10_filtered_11 : decode cX10_filtered 11 = .ok (.getfield 7, 3) := by decide +kernel
theorem dX10_filtered_14 : decode cX10_filtered 14 = .ok (.iload 4, 2) := by decide +kernel
theorem dX10_filtered_16 : decode cX10_filtered 16 = .ok (.daload, 1) := by decide +kernel
theorem dX10_filtered_17 : decode cX10_filtered 17 = .ok (.aload_n 0, 1) := by decide +kernel
theorem dX10_filtered_18 : decode cX10_filtered 18 = .ok (.getfield 23, 3) := by decide +kernel
theorem dX10_filtered_21 : decode cX10_filtered 21 = .ok (.iconst 3, 1) := by decide +kernel
theorem dX10_filtered_22 : decode cX10_filtered 22 = .ok (.iload_n 1, 1) := by decide +kernel
theorem dX10_filtered_23 : decode cX10_filtered 23 = .ok (.imul, 1) := by decide +kernel
theorem dX10_filtered_24 : decode cX10_filtered 24 = .ok (.iconst 1, 1) := by decide +kernel
theorem dX10_filtered_25 : decode cX10_filtered 25 = .ok (.iadd, 1) := by decide +kernel
theorem dX10_filtered_26 : decode cX10_filtered 26 = .ok (.iaload, 1) := by decide +kernel
theorem dX10_filtered_27 : decode cX10_filtered 27 = .ok (.i2d, 1) := by decide +kernel
theorem dX10_filtered_28 : decode cX10_filtered 28 = .ok (.ldc2_w 138, 3) := by decide +kernel
theorem dX10_filtered_31 : decode cX10_filtered 31 = .ok (.ddiv, 1) := by decide +kernel
theorem dX10_filtered_32 : decode cX10_filtered 32 = .ok (.dmul, 1) := by decide +kernel
theorem dX10_filtered_33 : decode cX10_filtered 33 = .ok (.dadd, 1) := by decide +kernel
theorem dX10_filtered_34 : decode cX10_filtered 34 = .ok (.invokestatic 124, 3) := by decide +kernel
theorem dX10_filtered_37 : decode cX10_filtered 37 = .ok (.dstore 5, 2) := by decide +kernel
theorem dX10_filtered_39 : decode cX10_filtered 39 = .ok (.aload_n 0, 1) := by decide +kernel
theorem dX10_filtered_40 : decode cX10_filtered 40 = .ok (.getfield 7, 3) := by decide +kernel
theorem dX10_filtered_43 : decode cX10_filtered 43 = .ok (.iload 4, 2) := by decide +kernel
theorem dX10_filtered_45 : decode cX10_filtered 45 = .ok (.dload 5, 2) := by decide +kernel
theorem dX10_filtered_47 : decode cX10_filtered 47 = .ok (.dastore, 1) := by decide +kernel
theorem dX10_filtered_48 : decode cX10_filtered 48 = .ok (.dload 5, 2) := by decide +kernel
theorem dX10_filtered_50 : decode cX10_filtered 50 = .ok (.dreturn, 1) := by decide +kernel
theorem dX10_late_0 : decode cX10_late 0 = .ok (.bipush 82, 2) := by decide +kernel
theorem dX10_late_2 : decode cX10_late 2 = .ok (.iload_n 1, 1) := by decide +kernel
theorem dX10_late_3 : decode cX10_late 3 = .ok (.imul, 1) := by decide +kernel
theorem dX10_late_4 : decode cX10_late 4 = .ok (.bipush 81, 2) := by decide +kernel
theorem dX10_late_6 : decode cX10_late 6 = .ok (.iadd, 1) := by decide +kernel
theorem dX10_late_7 : decode cX10_late 7 = .ok (.istore 4, 2) := by decide +kernel
theorem dX10_late_9 : decode cX10_late 9 = .ok (.dload_n 2, 1) := by decide +kernel
theorem dX10_late_10 : decode cX10_late 10 = .ok (.aload_n 0, 1) := by decide +kernel
theorem dX10_late_11 : decode cX10_late 11 = .ok (.getfield 7, 3) := by decide +kernel
theorem dX10_late_14 : decode cX10_late 14 = .ok (.iload 4, 2) := by decide +kernel
theorem dX10_late_16 : decode cX10_late 16 = .ok (.daload, 1) := by decide +kernel
theorem dX10_late_17 : decode cX10_late 17 = .ok (.dadd, 1) := by decide +kernel
theorem dX10_late_18 : decode cX10_late 18 = .ok (.invokestatic 124, 3) := by decide +kernel
theorem dX10_late_21 : decode cX10_late 21 = .ok (.dstore 5, 2) := by decide +kernel
theorem dX10_late_23 : decode cX10_late 23 = .ok (.aload_n 0, 1) := by decide +kernel
theorem dX10_late_24 : decode cX10_late 24 = .ok (.getfield 7, 3) := by decide +kernel
theorem dX10_late_27 : decode cX10_late 27 = .ok (.iload 4, 2) := by decide +kernel
theorem dX10_late_29 : decode cX10_late 29 = .ok (.dload_n 2, 1) := by decide +kernel
theorem dX10_late_30 : decode cX10_late 30 = .ok (.aload_n 0, 1) := by decide +kernel
theorem dX10_late_31 : decode cX10_late 31 = .ok (.getfield 23, 3) := by decide +kernel
theorem dX10_late_34 : decode cX10_late 34 = .ok (.iconst 3, 1) := by decide +kernel
theorem dX10_late_35 : decode cX10_late 35 = .ok (.iload_n 1, 1) := by decide +kernel
theorem dX10_late_36 : decode cX10_late 36 = .ok (.imul, 1) := by decide +kernel
theorem dX10_late_37 : decode cX10_late 37 = .ok (.iconst 2, 1) := by decide +kernel
theorem dX10_late_38 : decode cX10_late 38 = .ok (.iadd, 1) := by decide +kernel
theorem dX10_late_39 : decode cX10_late 39 = .ok (.iaload, 1) := by decide +kernel
theorem dX10_late_40 : decode cX10_late 40 = .ok (.i2d, 1) := by decide +kernel
theorem dX10_late_41 : decode cX10_late 41 = .ok (.ldc2_w 138, 3) := by decide +kernel
theorem dX10_late_44 : decode cX10_late 44 = .ok (.ddiv, 1) := by decide +kernel
theorem dX10_late_45 : decode cX10_late 45 = .ok (.dmul, 1) := by decide +kernel
theorem dX10_late_46 : decode cX10_late 46 = .ok (.invokestatic 124, 3) := by decide +kernel
theorem dX10_late_49 : decode cX10_late 49 = .ok (.dastore, 1) := by decide +kernel
theorem dX10_late_50 : decode cX10_late 50 = .ok (.dload 5, 2) := by decide +kernel
theorem dX10_late_52 : decode cX10_late 52 = .ok (.dreturn, 1) := by decide +kernel
theorem dX10_shape_0 : decode cX10_shape 0 = .ok (.aload_n 0, 1) := by decide +kernel
theorem dX10_shape_1 : decode cX10_shape 1 = .ok (.iload_n 1, 1) := by decide +kernel
theorem dX10_shape_2 : decode cX10_shape 2 = .ok (.iconst 0, 1) := by decide +kernel
theorem dX10_shape_3 : decode cX10_shape 3 = .ok (.iconst 4, 1) := by decide +kernel
theorem dX10_shape_4 : decode cX10_shape 4 = .ok (.invokevirtual 140, 3) := by decide +kernel
theorem dX10_shape_7 : decode cX10_shape 7 = .ok (.ifCond .ne 5, 3) := by decide +kernel
theorem dX10_shape_10 : decode cX10_shape 10 = .ok (.iconst 0, 1) := by decide +kernel
theorem dX10_shape_11 : decode cX10_shape 11 = .ok (.ireturn, 1) := by decide +kernel
theorem dX10_shape_12 : decode cX10_shape 12 = .ok (.iconst 0, 1) := by decide +kernel
theorem dX10_shape_13 : decode cX10_shape 13 = .ok (.istore_n 2, 1) := by decide +kernel
theorem dX10_shape_14 : decode cX10_shape 14 = .ok (.iload_n 2, 1) := by decide +kernel
theorem dX10_shape_15 : decode cX10_shape 15 = .ok (.aload_n 0, 1) := by decide +kernel
theorem dX10_shape_16 : decode cX10_shape 16 = .ok (.getfield 128, 3) := by decide +kernel
theorem dX10_shape_19 : decode cX10_shape 19 = .ok (.if_icmp .ge 114, 3) := by decide +kernel
theorem dX10_shape_22 : decode cX10_shape 22 = .ok (.aload_n 0, 1) := by decide +kernel
theorem dX10_shape_23 : decode cX10_shape 23 = .ok (.iload_n 1, 1) := by decide +kernel
theorem dX10_shape_24 : decode cX10_shape 24 = .ok (.iconst 0, 1) := by decide +kernel
theorem dX10_shape_25 : decode cX10_shape 25 = .ok (.iload_n 2, 1) := by decide +kernel
theorem dX10_shape_26 : decode cX10_shape 26 = .ok (.invokevirtual 143, 3) := by decide +kernel
theorem dX10_shape_29 : decode cX10_shape 29 = .ok (.ifCond .ne 5, 3) := by decide +kernel
theorem dX10_shape_32 : decode cX10_shape 32 = .ok (.iconst 0, 1) := by decide +kernel
theorem dX10_shape_33 : decode cX10_shape 33 = .ok (.ireturn, 1) := by decide +kernel
theorem dX10_shape_34 : decode cX10_shape 34 = .ok (.aload_n 0, 1) := by decide +kernel
theorem dX10_shape_35 : decode cX10_shape 35 = .ok (.iload_n 1, 1) := by decide +kernel
theorem dX10_shape_36 : decode cX10_shape 36 = .ok (.iconst 0, 1) := by decide +kernel
theorem dX10_shape_37 : decode cX10_shape 37 = .ok (.iload_n 2, 1) := by decide +kernel
theorem dX10_shape_38 : decode cX10_shape 38 = .ok (.invokevirtual 146, 3) := by decide +kernel
theorem dX10_shape_41 : decode cX10_shape 41 = .ok (.ifCond .eq 25, 3) := by decide +kernel
theorem dX10_shape_44 : decode cX10_shape 44 = .ok (.aload_n 0, 1) := by decide +kernel
theorem dX10_shape_45 : decode cX10_shape 45 = .ok (.dup, 1) := by decide +kernel
theorem dX10_shape_46 : decode cX10_shape 46 = .ok (.getfield 132, 3) := by decide +kernel
theorem dX10_shape_49 : decode cX10_shape 49 = .ok (.iconst 1, 1) := by decide +kernel
theorem dX10_shape_50 : decode cX10_shape 50 = .ok (.iload_n 2, 1) := by decide +kernel
theorem dX10_shape_51 : decode cX10_shape 51 = .ok (.ishl, 1) := by decide +kernel
theorem dX10_shape_52 : decode cX10_shape 52 = .ok (.iadd, 1) := by decide +kernel
theorem dX10_shape_53 : decode cX10_shape 53 = .ok (.putfield 132, 3) := by decide +kernel
theorem dX10_shape_56 : decode cX10_shape 56 = .ok (.aload_n 0, 1) := by decide +kernel
theorem dX10_shape_57 : decode cX10_shape 57 = .ok (.getfield 62, 3) := by decide +kernel
theorem dX10_shape_60 : decode cX10_shape 60 = .ok (.iload_n 2, 1) := by decide +kernel
theorem dX10_shape_61 : decode cX10_shape 61 = .ok (.dconst 0, 1) := by decide +kernel
theorem dX10_shape_62 : decode cX10_shape 62 = .ok (.dastore, 1) := by decide +kernel
theorem dX10_shape_63 : decode cX10_shape 63 = .ok (.goto 64, 3) := by decide +kernel
theorem dX10_shape_66 : decode cX10_shape 66 = .ok (.aload_n 0, 1) := by decide +kernel
theorem dX10_shape_67 : decode cX10_shape 67 = .ok (.iload_n 1, 1) := by decide +kernel
theorem dX10_shape_68 : decode cX10_shape 68 = .ok (.iload_n 2, 1) := by decide +kernel
theorem dX10_shape_69 : decode cX10_shape 69 = .ok (.aload_n 0, 1) := by decide +kernel
theorem dX10_shape_70 : decode cX10_shape 70 = .ok (.iload_n 1, 1) := by decide +kernel
theorem dX10_shape_71 : decode cX10_shape 71 = .ok (.iconst 0, 1) := by decide +kernel
theorem dX10_shape_72 : decode cX10_shape 72 = .ok (.iload_n 2, 1) := by decide +kernel
theorem dX10_shape_73 : decode cX10_shape 73 = .ok (.invokevirtual 149, 3) := by decide +kernel
theorem dX10_shape_76 : decode cX10_shape 76 = .ok (.invokevirtual 153, 3) := by decide +kernel
theorem dX10_shape_79 : decode cX10_shape 79 = .ok (.dstore_n 3, 1) := by decide +kernel
theorem dX10_shape_80 : decode cX10_shape 80 = .ok (.aload_n 0, 1) := by decide +kernel
theorem dX10_shape_81 : decode cX10_shape 81 = .ok (.getfield 17, 3) := by decide +kernel
theorem dX10_shape_84 : decode cX10_shape 84 = .ok (.iload_n 1, 1) := by decide +kernel
theorem dX10_shape_85 : decode cX10_shape 85 = .ok (.iaload, 1) := by decide +kernel
theorem dX10_shape_86 : decode cX10_shape 86 = .ok (.iconst 1, 1) := by decide +kernel
theorem dX10_shape_87 : decode cX10_shape 87 = .ok (.if_icmp .ne 7, 3) := by decide +kernel
theorem dX10_shape_90 : decode cX10_shape 90 = .ok (.dload_n 3, 1) := by decide +kernel
theorem dX10_shape_91 : decode cX10_shape 91 = .ok (.goto 9, 3) := by decide +kernel
theorem dX10_shape_94 : decode cX10_shape 94 = .ok (.aload_n 0, 1) := by decide +kernel
theorem dX10_shape_95 : decode cX10_shape 95 = .ok (.iload_n 1, 1) := by decide +kernel
theorem dX10_shape_96 : decode cX10_shape 96 = .ok (.dload_n 3, 1) := by decide +kernel
theorem dX10_shape_97 : decode cX10_shape 97 = .ok (.invokevirtual 157, 3) := by decide +kernel
theorem dX10_shape_100 : decode cX10_shape 100 = .ok (.dstore_n 3, 1) := by decide +kernel
theorem dX10_shape_101 : decode cX10_shape 101 = .ok (.aload_n 0, 1) := by decide +kernel
theorem dX10_shape_102 : decode cX10_shape 102 = .ok (.getfield 62, 3) := by decide +kernel
theorem dX10_shape_105 : decode cX10_shape 105 = .ok (.iload_n 2, 1) := by decide +kernel
theorem dX10_shape_106 : decode cX10_shape 106 = .ok (.aload_n 0, 1) := by decide +kernel
theorem dX10_shape_107 : decode cX10_shape 107 = .ok (.getfield 17, 3) := by decide +kernel
theorem dX10_shape_110 : decode cX10_shape 110 = .ok (.iload_n 1, 1) := by decide +kernel
theorem dX10_shape_111 : decode cX10_shape 111 = .ok (.iaload, 1) := by decide +kernel
theorem dX10_shape_112 : decode cX10_shape 112 = .ok (.iconst 4, 1) := by decide +kernel
theorem dX10_shape_113 : decode cX10_shape 113 = .ok (.if_icmp .ne 12, 3) := by decide +kernel
theorem dX10_shape_116 : decode cX10_shape 116 = .ok (.aload_n 0, 1) := by decide +kernel
theorem dX10_shape_117 : decode cX10_shape 117 = .ok (.iload_n 1, 1) := by decide +kernel
theorem dX10_shape_118 : decode cX10_shape 118 = .ok (.dload_n 3, 1) := by decide +kernel
theorem dX10_shape_119 : decode cX10_shape 119 = .ok (.invokevirtual 161, 3) := by decide +kernel
theorem dX10_shape_122 : decode cX10_shape 122 = .ok (.goto 4, 3) := by decide +kernel
theorem dX10_shape_125 : decode cX10_shape 125 = .ok (.dload_n 3, 1) := by decide +kernel
theorem dX10_shape_126 : decode cX10_shape 126 = .ok (.dastore, 1) := by decide +kernel
theorem dX10_shape_127 : decode cX10_shape 127 = .ok (.iinc 2 1, 3) := by decide +kernel
theorem dX10_shape_130 : decode cX10_shape 130 = .ok (.goto (-116), 3) := by decide +kernel
theorem dX10_shape_133 : decode cX10_shape 133 = .ok (.iconst 1, 1) := by decide +kernel
theorem dX10_shape_134 : decode cX10_shape 134 = .ok (.ireturn, 1) := by decide +kernel
theorem dX10_counts_0 : decode cX10_counts 0 = .ok (.aload_n 0, 1) := by decide +kernel
theorem dX10_counts_1 : decode cX10_counts 1 = .ok (.getfield 26, 3) := by decide +kernel
theorem dX10_counts_4 : decode cX10_counts 4 = .ok (.iconst 3, 1) := by decide +kernel
theorem dX10_counts_5 : decode cX10_counts 5 = .ok (.iload_n 1, 1) := by decide +kernel
theorem dX10_counts_6 : decode cX10_counts 6 = .ok (.imul, 1) := by decide +kernel
theorem dX10_counts_7 : decode cX10_counts 7 = .ok (.iload_n 2, 1) := by decide +kernel
theorem dX10_counts_8 : decode cX10_counts 8 = .ok (.iadd, 1) := by decide +kernel
theorem dX10_counts_9 : decode cX10_counts 9 = .ok (.iaload, 1) := by decide +kernel
theorem dX10_counts_10 : decode cX10_counts 10 = .ok (.ifCond .le 26, 3) := by decide +kernel
theorem dX10_counts_13 : decode cX10_counts 13 = .ok (.aload_n 0, 1) := by decide +kernel
theorem dX10_counts_14 : decode cX10_counts 14 = .ok (.aload_n 0, 1) := by decide +kernel
theorem dX10_counts_15 : decode cX10_counts 15 = .ok (.getfield 26, 3) := by decide +kernel
theorem dX10_counts_18 : decode cX10_counts 18 = .ok (.iconst 3, 1) := by decide +kernel
theorem dX10_counts_19 : decode cX10_counts 19 = .ok (.iload_n 1, 1) := by decide +kernel
theorem dX10_counts_20 : decode cX10_counts 20 = .ok (.imul, 1) := by decide +kernel
theorem dX10_counts_21 : decode cX10_counts 21 = .ok (.iload_n 2, 1) := by decide +kernel
theorem dX10_counts_22 : decode cX10_counts 22 = .ok (.iadd, 1) := by decide +kernel
theorem dX10_counts_23 : decode cX10_counts 23 = .ok (.iaload, 1) := by decide +kernel
theorem dX10_counts_24 : decode cX10_counts 24 = .ok (.iconst 1, 1) := by decide +kernel
theorem dX10_counts_25 : decode cX10_counts 25 = .ok (.isub, 1) := by decide +kernel
theorem dX10_counts_26 : decode cX10_counts 26 = .ok (.invokevirtual 106, 3) := by decide +kernel
theorem dX10_counts_29 : decode cX10_counts 29 = .ok (.ifCond .lt 7, 3) := by decide +kernel
theorem dX10_counts_32 : decode cX10_counts 32 = .ok (.iconst 1, 1) := by decide +kernel
theorem dX10_counts_33 : decode cX10_counts 33 = .ok (.goto 4, 3) := by decide +kernel
theorem dX10_counts_36 : decode cX10_counts 36 = .ok (.iconst 0, 1) := by decide +kernel
theorem dX10_counts_37 : decode cX10_counts 37 = .ok (.ireturn, 1) := by decide +kernel
theorem dX10_mix_0 : decode cX10_mix 0 = .ok (.iconst 0, 1) := by decide +kernel
theorem dX10_mix_1 : decode cX10_mix 1 = .ok (.istore_n 2, 1) := by decide +kernel
theorem dX10_mix_2 : decode cX10_mix 2 = .ok (.iload_n 2, 1) := by decide +kernel
theorem dX10_mix_3 : decode cX10_mix 3 = .ok (.iconst 3, 1) := by decide +kernel
theorem dX10_mix_4 : decode cX10_mix 4 = .ok (.if_icmp .ge 46, 3) := by decide +kernel
theorem dX10_mix_7 : decode cX10_mix 7 = .ok (.aload_n 0, 1) := by decide +kernel
theorem dX10_mix_8 : decode cX10_mix 8 = .ok (.iload_n 1, 1) := by decide +kernel
theorem dX10_mix_9 : decode cX10_mix 9 = .ok (.iload_n 2, 1) := by decide +kernel
theorem dX10_mix_10 : decode cX10_mix 10 = .ok (.invokevirtual 164, 3) := by decide +kernel
theorem dX10_mix_13 : decode cX10_mix 13 = .ok (.ifCond .eq 31, 3) := by decide +kernel
theorem dX10_mix_16 : decode cX10_mix 16 = .ok (.aload_n 0, 1) := by decide +kernel
theorem dX10_mix_17 : decode cX10_mix 17 = .ok (.aload_n 0, 1) := by decide +kernel
theorem dX10_mix_18 : decode cX10_mix 18 = .ok (.getfield 26, 3) := by decide +kernel
theorem dX10_mix_21 : decode cX10_mix 21 = .ok (.iconst 3, 1) := by decide +kernel
theorem dX10_mix_22 : decode cX10_mix 22 = .ok (.iload_n 1, 1) := by decide +kernel
theorem dX10_mix_23 : decode cX10_mix 23 = .ok (.imul, 1) := by decide +kernel
theorem dX10_mix_24 : decode cX10_mix 24 = .ok (.iload_n 2, 1) := by decide +kernel
theorem dX10_mix_25 : decode cX10_mix 25 = .ok (.iadd, 1) := by decide +kernel
theorem dX10_mix_26 : decode cX10_mix 26 = .ok (.iaload, 1) := by decide +kernel
theorem dX10_mix_27 : decode cX10_mix 27 = .ok (.iconst 1, 1) := by decide +kernel
theorem dX10_mix_28 : decode cX10_mix 28 = .ok (.isub, 1) := by decide +kernel
theorem dX10_mix_29 : decode cX10_mix 29 = .ok (.invokevirtual 106, 3) := by decide +kernel
theorem dX10_mix_32 : decode cX10_mix 32 = .ok (.iconst 2, 1) := by decide +kernel
theorem dX10_mix_33 : decode cX10_mix 33 = .ok (.if_icmp .eq 11, 3) := by decide +kernel
theorem dX10_mix_36 : decode cX10_mix 36 = .ok (.aload_n 0, 1) := by decide +kernel
theorem dX10_mix_37 : decode cX10_mix 37 = .ok (.iconst 4, 1) := by decide +kernel
theorem dX10_mix_38 : decode cX10_mix 38 = .ok (.iload_n 1, 1) := by decide +kernel
theorem dX10_mix_39 : decode cX10_mix 39 = .ok (.iconst (-1), 1) := by decide +kernel
theorem dX10_mix_40 : decode cX10_mix 40 = .ok (.invokevirtual 103, 3) := by decide +kernel
theorem dX10_mix_43 : decode cX10_mix 43 = .ok (.ireturn, 1) := by decide +kernel
theorem dX10_mix_44 : decode cX10_mix 44 = .ok (.iinc 2 1, 3) := by decide +kernel
theorem dX10_mix_47 : decode cX10_mix 47 = .ok (.goto (-45), 3) := by decide +kernel
theorem dX10_mix_50 : decode cX10_mix 50 = .ok (.iconst 0, 1) := by decide +kernel
theorem dX10_mix_51 : decode cX10_mix 51 = .ok (.istore_n 2, 1) := by decide +kernel
theorem dX10_mix_52 : decode cX10_mix 52 = .ok (.iload_n 2, 1) := by decide +kernel
theorem dX10_mix_53 : decode cX10_mix 53 = .ok (.aload_n 0, 1) := by decide +kernel
theorem dX10_mix_54 : decode cX10_mix 54 = .ok (.getfield 128, 3) := by decide +kernel
theorem dX10_mix_57 : decode cX10_mix 57 = .ok (.if_icmp .ge 75, 3) := by decide +kernel
theorem dX10_mix_60 : decode cX10_mix 60 = .ok (.lconst 0, 1) := by decide +kernel
theorem dX10_mix_61 : decode cX10_mix 61 = .ok (.lstore_n 3, 1) := by decide +kernel
theorem dX10_mix_62 : decode cX10_mix 62 = .ok (.iconst 0, 1) := by decide +kernel
theorem dX10_mix_63 : decode cX10_mix 63 = .ok (.istore 5, 2) := by decide +kernel
theorem dX10_mix_65 : decode cX10_mix 65 = .ok (.iload 5, 2) := by decide +kernel
theorem dX10_mix_67 : decode cX10_mix 67 = .ok (.iconst 3, 1) := by decide +kernel
theorem dX10_mix_68 : decode cX10_mix 68 = .ok (.if_icmp .ge 44, 3) := by decide +kernel
theorem dX10_mix_71 : decode cX10_mix 71 = .ok (.aload_n 0, 1) := by decide +kernel
theorem dX10_mix_72 : decode cX10_mix 72 = .ok (.iload_n 1, 1) := by decide +kernel
theorem dX10_mix_73 : decode cX10_mix 73 = .ok (.iload 5, 2) := by decide +kernel
theorem dX10_mix_75 : decode cX10_mix 75 = .ok (.invokevirtual 164, 3) := by decide +kernel
theorem dX10_mix_78 : decode cX10_mix 78 = .ok (.ifCond .eq 28, 3) := by decide +kernel
theorem dX10_mix_81 : decode cX10_mix 81 = .ok (.aload_n 0, 1) := by decide +kernel
theorem dX10_mix_82 : decode cX10_mix 82 = .ok (.iload_n 1, 1) := by decide +kernel
theorem dX10_mix_83 : decode cX10_mix 83 = .ok (.iload 5, 2) := by decide +kernel
theorem dX10_mix_85 : decode cX10_mix 85 = .ok (.iload_n 2, 1) := by decide +kernel
theorem dX10_mix_86 : decode cX10_mix 86 = .ok (.invokevirtual 143, 3) := by decide +kernel
theorem dX10_mix_89 : decode cX10_mix 89 = .ok (.ifCond .ne 5, 3) := by decide +kernel
theorem dX10_mix_92 : decode cX10_mix 92 = .ok (.iconst 0, 1) := by decide +kernel
theorem dX10_mix_93 : decode cX10_mix 93 = .ok (.ireturn, 1) := by decide +kernel
theorem dX10_mix_94 : decode cX10_mix 94 = .ok (.lload_n 3, 1) := by decide +kernel
theorem dX10_mix_95 : decode cX10_mix 95 = .ok (.aload_n 0, 1) := by decide +kernel
theorem dX10_mix_96 : decode cX10_mix 96 = .ok (.iload_n 1, 1) := by decide +kernel
theorem dX10_mix_97 : decode cX10_mix 97 = .ok (.iload 5, 2) := by decide +kernel
theorem dX10_mix_99 : decode cX10_mix 99 = .ok (.iload_n 2, 1) := by decide +kernel
theorem dX10_mix_100 : decode cX10_mix 100 = .ok (.invokevirtual 149, 3) := by decide +kernel
theorem dX10_mix_103 : decode cX10_mix 103 = .ok (.d2l, 1) := by decide +kernel
theorem dX10_mix_104 : decode cX10_mix 104 = .ok (.ladd, 1) := by decide +kernel
theorem dX10_mix_105 : decode cX10_mix 105 = .ok (.lstore_n 3, 1) := by decide +kernel
theorem dX10_mix_106 : decode cX10_mix 106 = .ok (.iinc 5 1, 3) := by decide +kernel
theorem dX10_mix_109 : decode cX10_mix 109 = .ok (.goto (-44), 3) := by decide +kernel
theorem dX10_mix_112 : decode cX10_mix 112 = .ok (.aload_n 0, 1) := by decide +kernel
theorem dX10_mix_113 : decode cX10_mix 113 = .ok (.getfield 62, 3) := by decide +kernel
theorem dX10_mix_116 : decode cX10_mix 116 = .ok (.iload_n 2, 1) := by decide +kernel
theorem dX10_mix_117 : decode cX10_mix 117 = .ok (.aload_n 0, 1) := by decide +kernel
theorem dX10_mix_118 : decode cX10_mix 118 = .ok (.iload_n 1, 1) := by decide +kernel
theorem dX10_mix_119 : decode cX10_mix 119 = .ok (.lload_n 3, 1) := by decide +kernel
theorem dX10_mix_120 : decode cX10_mix 120 = .ok (.bipush 32, 2) := by decide +kernel
theorem dX10_mix_122 : decode cX10_mix 122 = .ok (.invokevirtual 118, 3) := by decide +kernel
theorem dX10_mix_125 : decode cX10_mix 125 = .ok (.dastore, 1) := by decide +kernel
theorem dX10_mix_126 : decode cX10_mix 126 = .ok (.iinc 2 1, 3) := by decide +kernel
theorem dX10_mix_129 : decode cX10_mix 129 = .ok (.goto (-77), 3) := by decide +kernel
theorem dX10_mix_132 : decode cX10_mix 132 = .ok (.iconst 1, 1) := by decide +kernel
theorem dX10_mix_133 : decode cX10_mix 133 = .ok (.ireturn, 1) := by decide +kernel
theorem dX10_gate_0 : decode cX10_gate 0 = .ok (.aload_n 0, 1) := by decide +kernel
theorem dX10_gate_1 : decode cX10_gate 1 = .ok (.iload_n 1, 1) := by decide +kernel
theorem dX10_gate_2 : decode cX10_gate 2 = .ok (.iconst 0, 1) := by decide +kernel
theorem dX10_gate_3 : decode cX10_gate 3 = .ok (.iconst 4, 1) := by decide +kernel
theorem dX10_gate_4 : decode cX10_gate 4 = .ok (.invokevirtual 140, 3) := by decide +kernel
theorem dX10_gate_7 : decode cX10_gate 7 = .ok (.ifCond .ne 5, 3) := by decide +kernel
theorem dX10_gate_10 : decode cX10_gate 10 = .ok (.iconst 0, 1) := by decide +kernel
theorem dX10_gate_11 : decode cX10_gate 11 = .ok (.ireturn, 1) := by decide +kernel
theorem dX10_gate_12 : decode cX10_gate 12 = .ok (.bipush 20, 2) := by decide +kernel
theorem dX10_gate_14 : decode cX10_gate 14 = .ok (.iload_n 1, 1) := by decide +kernel
theorem dX10_gate_15 : decode cX10_gate 15 = .ok (.imul, 1) := by decide +kernel
theorem dX10_gate_16 : decode cX10_gate 16 = .ok (.bipush 16, 2) := by decide +kernel
theorem dX10_gate_18 : decode cX10_gate 18 = .ok (.iadd, 1) := by decide +kernel
theorem dX10_gate_19 : decode cX10_gate 19 = .ok (.istore_n 2, 1) := by decide +kernel
theorem dX10_gate_20 : decode cX10_gate 20 = .ok (.iconst 0, 1) := by decide +kernel
theorem dX10_gate_21 : decode cX10_gate 21 = .ok (.istore_n 3, 1) := by decide +kernel
theorem dX10_gate_22 : decode cX10_gate 22 = .ok (.iload_n 3, 1) := by decide +kernel
theorem dX10_gate_23 : decode cX10_gate 23 = .ok (.aload_n 0, 1) := by decide +kernel
theorem dX10_gate_24 : decode cX10_gate 24 = .ok (.getfield 128, 3) := by decide +kernel
theorem dX10_gate_27 : decode cX10_gate 27 = .ok (.if_icmp .ge 113, 3) := by decide +kernel
theorem dX10_gate_30 : decode cX10_gate 30 = .ok (.aload_n 0, 1) := by decide +kernel
theorem dX10_gate_31 : decode cX10_gate 31 = .ok (.iload_n 1, 1) := by decide +kernel
theorem dX10_gate_32 : decode cX10_gate 32 = .ok (.iconst 0, 1) := by decide +kernel
theorem dX10_gate_33 : decode cX10_gate 33 = .ok (.iload_n 3, 1) := by decide +kernel
theorem dX10_gate_34 : decode cX10_gate 34 = .ok (.invokevirtual 143, 3) := by decide +kernel
theorem dX10_gate_37 : decode cX10_gate 37 = .ok (.ifCond .ne 5, 3) := by decide +kernel
theorem dX10_gate_40 : decode cX10_gate 40 = .ok (.iconst 0, 1) := by decide +kernel
theorem dX10_gate_41 : decode cX10_gate 41 = .ok (.ireturn, 1) := by decide +kernel
theorem dX10_gate_42 : decode cX10_gate 42 = .ok (.aload_n 0, 1) := by decide +kernel
theorem dX10_gate_43 : decode cX10_gate 43 = .ok (.iload_n 1, 1) := by decide +kernel
theorem dX10_gate_44 : decode cX10_gate 44 = .ok (.iconst 0, 1) := by decide +kernel
theorem dX10_gate_45 : decode cX10_gate 45 = .ok (.iload_n 3, 1) := by decide +kernel
theorem dX10_gate_46 : decode cX10_gate 46 = .ok (.invokevirtual 146, 3) := by decide +kernel
theorem dX10_gate_49 : decode cX10_gate 49 = .ok (.ifCond .ne 72, 3) := by decide +kernel
theorem dX10_gate_52 : decode cX10_gate 52 = .ok (.aload_n 0, 1) := by decide +kernel
theorem dX10_gate_53 : decode cX10_gate 53 = .ok (.iload_n 1, 1) := by decide +kernel
theorem dX10_gate_54 : decode cX10_gate 54 = .ok (.iconst 0, 1) := by decide +kernel
theorem dX10_gate_55 : decode cX10_gate 55 = .ok (.iload_n 3, 1) := by decide +kernel
theorem dX10_gate_56 : decode cX10_gate 56 = .ok (.invokevirtual 149, 3) := by decide +kernel
theorem dX10_gate_59 : decode cX10_gate 59 = .ok (.dstore 4, 2) := by decide +kernel
theorem dX10_gate_61 : decode cX10_gate 61 = .ok (.aload_n 0, 1) := by decide +kernel
theorem dX10_gate_62 : decode cX10_gate 62 = .ok (.getfield 13, 3) := by decide +kernel
theorem dX10_gate_65 : decode cX10_gate 65 = .ok (.iload_n 2, 1) := by decide +kernel
theorem dX10_gate_66 : decode cX10_gate 66 = .ok (.dload 4, 2) := by decide +kernel
theorem dX10_gate_68 : decode cX10_gate 68 = .ok (.aload_n 0, 1) := by decide +kernel
theorem dX10_gate_69 : decode cX10_gate 69 = .ok (.getfield 23, 3) := by decide +kernel
theorem dX10_gate_72 : decode cX10_gate 72 = .ok (.iconst 3, 1) := by decide +kernel
theorem dX10_gate_73 : decode cX10_gate 73 = .ok (.iload_n 1, 1) := by decide +kernel
theorem dX10_gate_74 : decode cX10_gate 74 = .ok (.imul, 1) := by decide +kernel
theorem dX10_gate_75 : decode cX10_gate 75 = .ok (.iaload, 1) := by decide +kernel
theorem dX10_gate_76 : decode cX10_gate 76 = .ok (.i2d, 1) := by decide +kernel
theorem dX10_gate_77 : decode cX10_gate 77 = .ok (.ldc2_w 138, 3) := by decide +kernel
theorem dX10_gate_80 : decode cX10_gate 80 = .ok (.ddiv, 1) := by decide +kernel
theorem dX10_gate_81 : decode cX10_gate 81 = .ok (.dcmp .l, 1) := by decide +kernel
theorem dX10_gate_82 : decode cX10_gate 82 = .ok (.ifCond .lt 7, 3) := by decide +kernel
theorem dX10_gate_85 : decode cX10_gate 85 = .ok (.iconst 1, 1) := by decide +kernel
theorem dX10_gate_86 : decode cX10_gate 86 = .ok (.goto 34, 3) := by decide +kernel
theorem dX10_gate_89 : decode cX10_gate 89 = .ok (.dload 4, 2) := by decide +kernel
theorem dX10_gate_91 : decode cX10_gate 91 = .ok (.aload_n 0, 1) := by decide +kernel
theorem dX10_gate_92 : decode cX10_gate 92 = .ok (.getfield 23, 3) := by decide +kernel
theorem dX10_gate_95 : decode cX10_gate 95 = .ok (.iconst 3, 1) := by decide +kernel
theorem dX10_gate_96 : decode cX10_gate 96 = .ok (.iload_n 1, 1) := by decide +kernel
theorem dX10_gate_97 : decode cX10_gate 97 = .ok (.imul, 1) := by decide +kernel
theorem dX10_gate_98 : decode cX10_gate 98 = .ok (.iconst 1, 1) := by decide +kernel
theorem dX10_gate_99 : decode cX10_gate 99 = .ok (.iadd, 1) := by decide +kernel
theorem dX10_gate_100 : decode cX10_gate 100 = .ok (.iaload, 1) := by decide +kernel
theorem dX10_gate_101 : decode cX10_gate 101 = .ok (.i2d, 1) := by decide +kernel
theorem dX10_gate_102 : decode cX10_gate 102 = .ok (.ldc2_w 138, 3) := by decide +kernel
theorem dX10_gate_105 : decode cX10_gate 105 = .ok (.ddiv, 1) := by decide +kernel
theorem dX10_gate_106 : decode cX10_gate 106 = .ok (.dcmp .g, 1) := by decide +kernel
theorem dX10_gate_107 : decode cX10_gate 107 = .ok (.ifCond .gt 7, 3) := by decide +kernel
theorem dX10_gate_110 : decode cX10_gate 110 = .ok (.iconst 0, 1) := by decide +kernel
theorem dX10_gate_111 : decode cX10_gate 111 = .ok (.goto 9, 3) := by decide +kernel
theorem dX10_gate_114 : decode cX10_gate 114 = .ok (.aload_n 0, 1) := by decide +kernel
theorem dX10_gate_115 : decode cX10_gate 115 = .ok (.getfield 13, 3) := by decide +kernel
theorem dX10_gate_118 : decode cX10_gate 118 = .ok (.iload_n 2, 1) := by decide +kernel
theorem dX10_gate_119 : decode cX10_gate 119 = .ok (.iaload, 1) := by decide +kernel
theorem dX10_gate_120 : decode cX10_gate 120 = .ok (.iastore, 1) := by decide +kernel
theorem dX10_gate_121 : decode cX10_gate 121 = .ok (.aload_n 0, 1) := by decide +kernel
theorem dX10_gate_122 : decode cX10_gate 122 = .ok (.getfield 62, 3) := by decide +kernel
theorem dX10_gate_125 : decode cX10_gate 125 = .ok (.iload_n 3, 1) := by decide +kernel
theorem dX10_gate_126 : decode cX10_gate 126 = .ok (.aload_n 0, 1) := by decide +kernel
theorem dX10_gate_127 : decode cX10_gate 127 = .ok (.getfield 13, 3) := by decide +kernel
theorem dX10_gate_130 : decode cX10_gate 130 = .ok (.iload_n 2, 1) := by decide +kernel
theorem dX10_gate_131 : decode cX10_gate 131 = .ok (.iaload, 1) := by decide +kernel
theorem dX10_gate_132 : decode cX10_gate 132 = .ok (.i2d, 1) := by decide +kernel
theorem dX10_gate_133 : decode cX10_gate 133 = .ok (.dastore, 1) := by decide +kernel
theorem dX10_gate_134 : decode cX10_gate 134 = .ok (.iinc 3 1, 3) := by decide +kernel
theorem dX10_gate_137 : decode cX10_gate 137 = .ok (.goto (-115), 3) := by decide +kernel
theorem dX10_gate_140 : decode cX10_gate 140 = .ok (.iconst 1, 1) := by decide +kernel
theorem dX10_gate_141 : decode cX10_gate 141 = .ok (.ireturn, 1) := by decide +kernel
theorem dX10_turn_0 : decode cX10_turn 0 = .ok (.aload_n 0, 1) := by decide +kernel
theorem dX10_turn_1 : decode cX10_turn 1 = .ok (.iload_n 1, 1) := by decide +kernel
theorem dX10_turn_2 : decode cX10_turn 2 = .ok (.iconst 0, 1) := by decide +kernel
theorem dX10_turn_3 : decode cX10_turn 3 = .ok (.iconst (-1), 1) := by decide +kernel
theorem dX10_turn_4 : decode cX10_turn 4 = .ok (.invokevirtual 140, 3) := by decide +kernel
theorem dX10_turn_7 : decode cX10_turn 7 = .ok (.ifCond .ne 5, 3) := by decide +kernel
theorem dX10_turn_10 : decode cX10_turn 10 = .ok (.iconst 0, 1) := by decide +kernel
theorem dX10_turn_11 : decode cX10_turn 11 = .ok (.ireturn, 1) := by decide +kernel
theorem dX10_turn_12 : decode cX10_turn 12 = .ok (.aload_n 0, 1) := by decide +kernel
theorem dX10_turn_13 : decode cX10_turn 13 = .ok (.aload_n 0, 1) := by decide +kernel
theorem dX10_turn_14 : decode cX10_turn 14 = .ok (.getfield 26, 3) := by decide +kernel
theorem dX10_turn_17 : decode cX10_turn 17 = .ok (.iconst 3, 1) := by decide +kernel
theorem dX10_turn_18 : decode cX10_turn 18 = .ok (.iload_n 1, 1) := by decide +kernel
theorem dX10_turn_19 : decode cX10_turn 19 = .ok (.imul, 1) := by decide +kernel
theorem dX10_turn_20 : decode cX10_turn 20 = .ok (.iaload, 1) := by decide +kernel
theorem dX10_turn_21 : decode cX10_turn 21 = .ok (.iconst 1, 1) := by decide +kernel
theorem dX10_turn_22 : decode cX10_turn 22 = .ok (.isub, 1) := by decide +kernel
theorem dX10_turn_23 : decode cX10_turn 23 = .ok (.invokevirtual 106, 3) := by decide +kernel
theorem dX10_turn_26 : decode cX10_turn 26 = .ok (.iconst 3, 1) := by decide +kernel
theorem dX10_turn_27 : decode cX10_turn 27 = .ok (.if_icmp .lt 7, 3) := by decide +kernel
theorem dX10_turn_30 : decode cX10_turn 30 = .ok (.iconst 1, 1) := by decide +kernel
theorem dX10_turn_31 : decode cX10_turn 31 = .ok (.goto 4, 3) := by decide +kernel
theorem dX10_turn_34 : decode cX10_turn 34 = .ok (.iconst 0, 1) := by decide +kernel
theorem dX10_turn_35 : decode cX10_turn 35 = .ok (.istore_n 2, 1) := by decide +kernel
theorem dX10_turn_36 : decode cX10_turn 36 = .ok (.aload_n 0, 1) := by decide +kernel
theorem dX10_turn_37 : decode cX10_turn 37 = .ok (.getfield 20, 3) := by decide +kernel
theorem dX10_turn_40 : decode cX10_turn 40 = .ok (.iload_n 1, 1) := by decide +kernel
theorem dX10_turn_41 : decode cX10_turn 41 = .ok (.iaload, 1) := by decide +kernel
theorem dX10_turn_42 : decode cX10_turn 42 = .ok (.istore_n 3, 1) := by decide +kernel
theorem dX10_turn_43 : decode cX10_turn 43 = .ok (.iconst 0, 1) := by decide +kernel
theorem dX10_turn_44 : decode cX10_turn 44 = .ok (.istore 4, 2) := by decide +kernel
theorem dX10_turn_46 : decode cX10_turn 46 = .ok (.iload 4, 2) := by decide +kernel
theorem dX10_turn_48 : decode cX10_turn 48 = .ok (.aload_n 0, 1) := by decide +kernel
theorem dX10_turn_49 : decode cX10_turn 49 = .ok (.getfield 128, 3) := by decide +kernel
theorem dX10_turn_52 : decode cX10_turn 52 = .ok (.if_icmp .ge 107, 3) := by decide +kernel
theorem dX10_turn_55 : decode cX10_turn 55 = .ok (.aload_n 0, 1) := by decide +kernel
theorem dX10_turn_56 : decode cX10_turn 56 = .ok (.iload_n 1, 1) := by decide +kernel
theorem dX10_turn_57 : decode cX10_turn 57 = .ok (.iconst 0, 1) := by decide +kernel
theorem dX10_turn_58 : decode cX10_turn 58 = .ok (.iload 4, 2) := by decide +kernel
theorem dX10_turn_60 : decode cX10_turn 60 = .ok (.invokevirtual 143, 3) := by decide +kernel
theorem dX10_turn_63 : decode cX10_turn 63 = .ok (.ifCond .ne 5, 3) := by decide +kernel
theorem dX10_turn_66 : decode cX10_turn 66 = .ok (.iconst 0, 1) := by decide +kernel
theorem dX10_turn_67 : decode cX10_turn 67 = .ok (.ireturn, 1) := by decide +kernel
theorem dX10_turn_68 : decode cX10_turn 68 = .ok (.aload_n 0, 1) := by decide +kernel
theorem dX10_turn_69 : decode cX10_turn 69 = .ok (.iload_n 1, 1) := by decide +kernel
theorem dX10_turn_70 : decode cX10_turn 70 = .ok (.iconst 0, 1) := by decide +kernel
theorem dX10_turn_71 : decode cX10_turn 71 = .ok (.iload 4, 2) := by decide +kernel
theorem dX10_turn_73 : decode cX10_turn 73 = .ok (.invokevirtual 149, 3) := by decide +kernel
theorem dX10_turn_76 : decode cX10_turn 76 = .ok (.dstore 5, 2) := by decide +kernel
theorem dX10_turn_78 : decode cX10_turn 78 = .ok (.aload_n 0, 1) := by decide +kernel
theorem dX10_turn_79 : decode cX10_turn 79 = .ok (.iload_n 1, 1) := by decide +kernel
theorem dX10_turn_80 : decode cX10_turn 80 = .ok (.iconst 0, 1) := by decide +kernel
theorem dX10_turn_81 : decode cX10_turn 81 = .ok (.iload 4, 2) := by decide +kernel
theorem dX10_turn_83 : decode cX10_turn 83 = .ok (.invokevirtual 146, 3) := by decide +kernel
theorem dX10_turn_86 : decode cX10_turn 86 = .ok (.ifCond .eq 36, 3) := by decide +kernel
theorem dX10_turn_89 : decode cX10_turn 89 = .ok (.aload_n 0, 1) := by decide +kernel
theorem dX10_turn_90 : decode cX10_turn 90 = .ok (.dup, 1) := by decide +kernel
theorem dX10_turn_91 : decode cX10_turn 91 = .ok (.getfield 132, 3) := by decide +kernel
theorem dX10_turn_94 : decode cX10_turn 94 = .ok (.iload_n 3, 1) := by decide +kernel
theorem dX10_turn_95 : decode cX10_turn 95 = .ok (.iconst 3, 1) := by decide +kernel
theorem dX10_turn_96 : decode cX10_turn 96 = .ok (.if_icmp .lt 10, 3) := by decide +kernel
theorem dX10_turn_99 : decode cX10_turn 99 = .ok (.iconst 1, 1) := by decide +kernel
theorem dX10_turn_100 : decode cX10_turn 100 = .ok (.iload 4, 2) := by decide +kernel
theorem dX10_turn_102 : decode cX10_turn 102 = .ok (.ishl, 1) := by decide +kernel
theorem dX10_turn_103 : decode cX10_turn 103 = .ok (.goto 4, 3) := by decide +kernel
theorem dX10_turn_106 : decode cX10_turn 106 = .ok (.iconst 0, 1) := by decide +kernel
theorem dX10_turn_107 : decode cX10_turn 107 = .ok (.iadd, 1) := by decide +kernel
theorem dX10_turn_108 : decode cX10_turn 108 = .ok (.putfield 132, 3) := by decide +kernel
theorem dX10_turn_111 : decode cX10_turn 111 = .ok (.aload_n 0, 1) := by decide +kernel
theorem dX10_turn_112 : decode cX10_turn 112 = .ok (.getfield 62, 3) := by decide +kernel
theorem dX10_turn_115 : decode cX10_turn 115 = .ok (.iload 4, 2) := by decide +kernel
theorem dX10_turn_117 : decode cX10_turn 117 = .ok (.dconst 0, 1) := by decide +kernel
theorem dX10_turn_118 : decode cX10_turn 118 = .ok (.dastore, 1) := by decide +kernel
theorem dX10_turn_119 : decode cX10_turn 119 = .ok (.goto 34, 3) := by decide +kernel
theorem dX10_turn_122 : decode cX10_turn 122 = .ok (.aload_n 0, 1) := by decide +kernel
theorem dX10_turn_123 : decode cX10_turn 123 = .ok (.getfield 62, 3) := by decide +kernel
theorem dX10_turn_126 : decode cX10_turn 126 = .ok (.iload 4, 2) := by decide +kernel
theorem dX10_turn_128 : decode cX10_turn 128 = .ok (.iload_n 2, 1) := by decide +kernel
theorem dX10_turn_129 : decode cX10_turn 129 = .ok (.ifCond .eq 14, 3) := by decide +kernel
theorem dX10_turn_132 : decode cX10_turn 132 = .ok (.aload_n 0, 1) := by decide +kernel
theorem dX10_turn_133 : decode cX10_turn 133 = .ok (.iload_n 1, 1) := by decide +kernel
theorem dX10_turn_134 : decode cX10_turn 134 = .ok (.dload 5, 2) := by decide +kernel
theorem dX10_turn_136 : decode cX10_turn 136 = .ok (.iload_n 3, 1) := by decide +kernel
theorem dX10_turn_137 : decode cX10_turn 137 = .ok (.invokevirtual 167, 3) := by decide +kernel
theorem dX10_turn_140 : decode cX10_turn 140 = .ok (.goto 12, 3) := by decide +kernel
theorem dX10_turn_143 : decode cX10_turn 143 = .ok (.aload_n 0, 1) := by decide +kernel
theorem dX10_turn_144 : decode cX10_turn 144 = .ok (.iload_n 1, 1) := by decide +kernel
theorem dX10_turn_145 : decode cX10_turn 145 = .ok (.dload 5, 2) := by decide +kernel
theorem dX10_turn_147 : decode cX10_turn 147 = .ok (.d2l, 1) := by decide +kernel
theorem dX10_turn_148 : decode cX10_turn 148 = .ok (.iload_n 3, 1) := by decide +kernel
theorem dX10_turn_149 : decode cX10_turn 149 = .ok (.invokevirtual 135, 3) := by decide +kernel
theorem dX10_turn_152 : decode cX10_turn 152 = .ok (.dastore, 1) := by decide +kernel
theorem dX10_turn_153 : decode cX10_turn 153 = .ok (.iinc 4 1, 3) := by decide +kernel
theorem dX10_turn_156 : decode cX10_turn 156 = .ok (.goto (-110), 3) := by decide +kernel
theorem dX10_turn_159 : decode cX10_turn 159 = .ok (.iconst 1, 1) := by decide +kernel
theorem dX10_turn_160 : decode cX10_turn 160 = .ok (.ireturn, 1) := by decide +kernel
theorem dX10_mean_0 : decode cX10_mean 0 = .ok (.aload_n 0, 1) := by decide +kernel
theorem dX10_mean_1 : decode cX10_mean 1 = .ok (.iload_n 1, 1) := by decide +kernel
theorem dX10_mean_2 : decode cX10_mean 2 = .ok (.iconst 0, 1) := by decide +kernel
theorem dX10_mean_3 : decode cX10_mean 3 = .ok (.iconst 2, 1) := by decide +kernel
theorem dX10_mean_4 : decode cX10_mean 4 = .ok (.invokevirtual 140, 3) := by decide +kernel
theorem dX10_mean_7 : decode cX10_mean 7 = .ok (.ifCond .ne 5, 3) := by decide +kernel
theorem dX10_mean_10 : decode cX10_mean 10 = .ok (.iconst 0, 1) := by decide +kernel
theorem dX10_mean_11 : decode cX10_mean 11 = .ok (.ireturn, 1) := by decide +kernel
theorem dX10_mean_12 : decode cX10_mean 12 = .ok (.lconst 0, 1) := by decide +kernel
theorem dX10_mean_13 : decode cX10_mean 13 = .ok (.lstore_n 2, 1) := by decide +kernel
theorem dX10_mean_14 : decode cX10_mean 14 = .ok (.iconst 0, 1) := by decide +kernel
theorem dX10_mean_15 : decode cX10_mean 15 = .ok (.istore 4, 2) := by decide +kernel
theorem dX10_mean_17 : decode cX10_mean 17 = .ok (.iload 4, 2) := by decide +kernel
theorem dX10_mean_19 : decode cX10_mean 19 = .ok (.aload_n 0, 1) := by decide +kernel
theorem dX10_mean_20 : decode cX10_mean 20 = .ok (.getfield 128, 3) := by decide +kernel
theorem dX10_mean_23 : decode cX10_mean 23 = .ok (.if_icmp .ge 82, 3) := by decide +kernel
theorem dX10_mean_26 : decode cX10_mean 26 = .ok (.aload_n 0, 1) := by decide +kernel
theorem dX10_mean_27 : decode cX10_mean 27 = .ok (.iload_n 1, 1) := by decide +kernel
theorem dX10_mean_28 : decode cX10_mean 28 = .ok (.iconst 0, 1) := by decide +kernel
theorem dX10_mean_29 : decode cX10_mean 29 = .ok (.iload 4, 2) := by decide +kernel
theorem dX10_mean_31 : decode cX10_mean 31 = .ok (.invokevirtual 143, 3) := by decide +kernel
theorem dX10_mean_34 : decode cX10_mean 34 = .ok (.ifCond .ne 5, 3) := by decide +kernel
theorem dX10_mean_37 : decode cX10_mean 37 = .ok (.iconst 0, 1) := by decide +kernel
theorem dX10_mean_38 : decode cX10_mean 38 = .ok (.ireturn, 1) := by decide +kernel
theorem dX10_mean_39 : decode cX10_mean 39 = .ok (.lload_n 2, 1) := by decide +kernel
theorem dX10_mean_40 : decode cX10_mean 40 = .ok (.aload_n 0, 1) := by decide +kernel
theorem dX10_mean_41 : decode cX10_mean 41 = .ok (.iload_n 1, 1) := by decide +kernel
theorem dX10_mean_42 : decode cX10_mean 42 = .ok (.iconst 0, 1) := by decide +kernel
theorem dX10_mean_43 : decode cX10_mean 43 = .ok (.iload 4, 2) := by decide +kernel
theorem dX10_mean_45 : decode cX10_mean 45 = .ok (.invokevirtual 149, 3) := by decide +kernel
theorem dX10_mean_48 : decode cX10_mean 48 = .ok (.d2l, 1) := by decide +kernel
theorem dX10_mean_49 : decode cX10_mean 49 = .ok (.ladd, 1) := by decide +kernel
theorem dX10_mean_50 : decode cX10_mean 50 = .ok (.lstore_n 2, 1) := by decide +kernel
theorem dX10_mean_51 : decode cX10_mean 51 = .ok (.iload 4, 2) := by decide +kernel
theorem dX10_mean_53 : decode cX10_mean 53 = .ok (.aload_n 0, 1) := by decide +kernel
theorem dX10_mean_54 : decode cX10_mean 54 = .ok (.getfield 23, 3) := by decide +kernel
theorem dX10_mean_57 : decode cX10_mean 57 = .ok (.iconst 3, 1) := by decide +kernel
theorem dX10_mean_58 : decode cX10_mean 58 = .ok (.iload_n 1, 1) := by decide +kernel
theorem dX10_mean_59 : decode cX10_mean 59 = .ok (.imul, 1) := by decide +kernel
theorem dX10_mean_60 : decode cX10_mean 60 = .ok (.iaload, 1) := by decide +kernel
theorem dX10_mean_61 : decode cX10_mean 61 = .ok (.iadd, 1) := by decide +kernel
theorem dX10_mean_62 : decode cX10_mean 62 = .ok (.i2l, 1) := by decide +kernel
theorem dX10_mean_63 : decode cX10_mean 63 = .ok (.lstore 5, 2) := by decide +kernel
theorem dX10_mean_65 : decode cX10_mean 65 = .ok (.lload 5, 2) := by decide +kernel
theorem dX10_mean_67 : decode cX10_mean 67 = .ok (.lconst 0, 1) := by decide +kernel
theorem dX10_mean_68 : decode cX10_mean 68 = .ok (.lcmp, 1) := by decide +kernel
theorem dX10_mean_69 : decode cX10_mean 69 = .ok (.ifCond .ne 12, 3) := by decide +kernel
theorem dX10_mean_72 : decode cX10_mean 72 = .ok (.aload_n 0, 1) := by decide +kernel
theorem dX10_mean_73 : decode cX10_mean 73 = .ok (.iconst 5, 1) := by decide +kernel
theorem dX10_mean_74 : decode cX10_mean 74 = .ok (.iload_n 1, 1) := by decide +kernel
theorem dX10_mean_75 : decode cX10_mean 75 = .ok (.iload 4, 2) := by decide +kernel
theorem dX10_mean_77 : decode cX10_mean 77 = .ok (.invokevirtual 103, 3) := by decide +kernel
theorem dX10_mean_80 : decode cX10_mean 80 = .ok (.ireturn, 1) := by decide +kernel
theorem dX10_mean_81 : decode cX10_mean 81 = .ok (.aload_n 0, 1) := by decide +kernel
theorem dX10_mean_82 : decode cX10_mean 82 = .ok (.getfield 62, 3) := by decide +kernel
theorem dX10_mean_85 : decode cX10_mean 85 = .ok (.iload 4, 2) := by decide +kernel
theorem dX10_mean_87 : decode cX10_mean 87 = .ok (.aload_n 0, 1) := by decide +kernel
theorem dX10_mean_88 : decode cX10_mean 88 = .ok (.iload_n 1, 1) := by decide +kernel
theorem dX10_mean_89 : decode cX10_mean 89 = .ok (.lload_n 2, 1) := by decide +kernel
theorem dX10_mean_90 : decode cX10_mean 90 = .ok (.lload 5, 2) := by decide +kernel
theorem dX10_mean_92 : decode cX10_mean 92 = .ok (.ldiv, 1) := by decide +kernel
theorem dX10_mean_93 : decode cX10_mean 93 = .ok (.bipush 32, 2) := by decide +kernel
theorem dX10_mean_95 : decode cX10_mean 95 = .ok (.invokevirtual 118, 3) := by decide +kernel
theorem dX10_mean_98 : decode cX10_mean 98 = .ok (.dastore, 1) := by decide +kernel
theorem dX10_mean_99 : decode cX10_mean 99 = .ok (.iinc 4 1, 3) := by decide +kernel
theorem dX10_mean_102 : decode cX10_mean 102 = .ok (.goto (-85), 3) := by decide +kernel
theorem dX10_mean_105 : decode cX10_mean 105 = .ok (.iconst 1, 1) := by decide +kernel
theorem dX10_mean_106 : decode cX10_mean 106 = .ok (.ireturn, 1) := by decide +kernel
theorem dX10_give_0 : decode cX10_give 0 = .ok (.aload_n 0, 1) := by decide +kernel
theorem dX10_give_1 : decode cX10_give 1 = .ok (.iload_n 1, 1) := by decide +kernel
theorem dX10_give_2 : decode cX10_give 2 = .ok (.iconst 0, 1) := by decide +kernel
theorem dX10_give_3 : decode cX10_give 3 = .ok (.invokevirtual 91, 3) := by decide +kernel
theorem dX10_give_6 : decode cX10_give 6 = .ok (.istore_n 3, 1) := by decide +kernel
theorem dX10_give_7 : decode cX10_give 7 = .ok (.aload_n 0, 1) := by decide +kernel
theorem dX10_give_8 : decode cX10_give 8 = .ok (.getfield 13, 3) := by decide +kernel
theorem dX10_give_11 : decode cX10_give 11 = .ok (.iload_n 3, 1) := by decide +kernel
theorem dX10_give_12 : decode cX10_give 12 = .ok (.iload_n 2, 1) := by decide +kernel
theorem dX10_give_13 : decode cX10_give 13 = .ok (.iconst 1, 1) := by decide +kernel
theorem dX10_give_14 : decode cX10_give 14 = .ok (.iadd, 1) := by decide +kernel
theorem dX10_give_15 : decode cX10_give 15 = .ok (.iastore, 1) := by decide +kernel
theorem dX10_give_16 : decode cX10_give 16 = .ok (.aload_n 0, 1) := by decide +kernel
theorem dX10_give_17 : decode cX10_give 17 = .ok (.getfield 13, 3) := by decide +kernel
theorem dX10_give_20 : decode cX10_give 20 = .ok (.iload_n 3, 1) := by decide +kernel
theorem dX10_give_21 : decode cX10_give 21 = .ok (.iconst 1, 1) := by decide +kernel
theorem dX10_give_22 : decode cX10_give 22 = .ok (.iadd, 1) := by decide +kernel
theorem dX10_give_23 : decode cX10_give 23 = .ok (.aload_n 0, 1) := by decide +kernel
theorem dX10_give_24 : decode cX10_give 24 = .ok (.getfield 128, 3) := by decide +kernel
theorem dX10_give_27 : decode cX10_give 27 = .ok (.iastore, 1) := by decide +kernel
theorem dX10_give_28 : decode cX10_give 28 = .ok (.aload_n 0, 1) := by decide +kernel
theorem dX10_give_29 : decode cX10_give 29 = .ok (.getfield 13, 3) := by decide +kernel
theorem dX10_give_32 : decode cX10_give 32 = .ok (.iload_n 3, 1) := by decide +kernel
theorem dX10_give_33 : decode cX10_give 33 = .ok (.iconst 2, 1) := by decide +kernel
theorem dX10_give_34 : decode cX10_give 34 = .ok (.iadd, 1) := by decide +kernel
theorem dX10_give_35 : decode cX10_give 35 = .ok (.aload_n 0, 1) := by decide +kernel
theorem dX10_give_36 : decode cX10_give 36 = .ok (.getfield 132, 3) := by decide +kernel
theorem dX10_give_39 : decode cX10_give 39 = .ok (.iastore, 1) := by decide +kernel
theorem dX10_give_40 : decode cX10_give 40 = .ok (.iconst 0, 1) := by decide +kernel
theorem dX10_give_41 : decode cX10_give 41 = .ok (.istore 4, 2) := by decide +kernel
theorem dX10_give_43 : decode cX10_give 43 = .ok (.iload 4, 2) := by decide +kernel
theorem dX10_give_45 : decode cX10_give 45 = .ok (.bipush 16, 2) := by decide +kernel
theorem dX10_give_47 : decode cX10_give 47 = .ok (.if_icmp .ge 41, 3) := by decide +kernel
theorem dX10_give_50 : decode cX10_give 50 = .ok (.aload_n 0, 1) := by decide +kernel
theorem dX10_give_51 : decode cX10_give 51 = .ok (.getfield 7, 3) := by decide +kernel
theorem dX10_give_54 : decode cX10_give 54 = .ok (.bipush 82, 2) := by decide +kernel
theorem dX10_give_56 : decode cX10_give 56 = .ok (.iload_n 1, 1) := by decide +kernel
theorem dX10_give_57 : decode cX10_give 57 = .ok (.imul, 1) := by decide +kernel
theorem dX10_give_58 : decode cX10_give 58 = .ok (.iload 4, 2) := by decide +kernel
theorem dX10_give_60 : decode cX10_give 60 = .ok (.iadd, 1) := by decide +kernel
theorem dX10_give_61 : decode cX10_give 61 = .ok (.iload 4, 2) := by decide +kernel
theorem dX10_give_63 : decode cX10_give 63 = .ok (.aload_n 0, 1) := by decide +kernel
theorem dX10_give_64 : decode cX10_give 64 = .ok (.getfield 128, 3) := by decide +kernel
theorem dX10_give_67 : decode cX10_give 67 = .ok (.if_icmp .ge 13, 3) := by decide +kernel
theorem dX10_give_70 : decode cX10_give 70 = .ok (.aload_n 0, 1) := by decide +kernel
theorem dX10_give_71 : decode cX10_give 71 = .ok (.getfield 62, 3) := by decide +kernel
theorem dX10_give_74 : decode cX10_give 74 = .ok (.iload 4, 2) := by decide +kernel
theorem dX10_give_76 : decode cX10_give 76 = .ok (.daload, 1) := by decide +kernel
theorem dX10_give_77 : decode cX10_give 77 = .ok (.goto 4, 3) := by decide +kernel
theorem dX10_give_80 : decode cX10_give 80 = .ok (.dconst 0, 1) := by decide +kernel
theorem dX10_give_81 : decode cX10_give 81 = .ok (.dastore, 1) := by decide +kernel
theorem dX10_give_82 : decode cX10_give 82 = .ok (.iinc 4 1, 3) := by decide +kernel
theorem dX10_give_85 : decode cX10_give 85 = .ok (.goto (-42), 3) := by decide +kernel
theorem dX10_give_88 : decode cX10_give 88 = .ok (.return_, 1) := by decide +kernel
theorem dX10_doesSwitch_0 : decode cX10_doesSwitch 0 = .ok (.aload_n 0, 1) := by decide +kernel
theorem dX10_doesSwitch_1 : decode cX10_doesSwitch 1 = .ok (.iload_n 1, 1) := by decide +kernel
theorem dX10_doesSwitch_2 : decode cX10_doesSwitch 2 = .ok (.iconst 0, 1) := by decide +kernel
theorem dX10_doesSwitch_3 : decode cX10_doesSwitch 3 = .ok (.iconst (-1), 1) := by decide +kernel
theorem dX10_doesSwitch_4 : decode cX10_doesSwitch 4 = .ok (.invokevirtual 140, 3) := by decide +kernel
theorem dX10_doesSwitch_7 : decode cX10_doesSwitch 7 = .ok (.ifCond .eq 28, 3) := by decide +kernel
theorem dX10_doesSwitch_10 : decode cX10_doesSwitch 10 = .ok (.aload_n 0, 1) := by decide +kernel
theorem dX10_doesSwitch_11 : decode cX10_doesSwitch 11 = .ok (.iload_n 1, 1) := by decide +kernel
theorem dX10_doesSwitch_12 : decode cX10_doesSwitch 12 = .ok (.iconst 1, 1) := by decide +kernel
theorem dX10_doesSwitch_13 : decode cX10_doesSwitch 13 = .ok (.iconst 0, 1) := by decide +kernel
theorem dX10_doesSwitch_14 : decode cX10_doesSwitch 14 = .ok (.invokevirtual 140, 3) := by decide +kernel
theorem dX10_doesSwitch_17 : decode cX10_doesSwitch 17 = .ok (.ifCond .eq 18, 3) := by decide +kernel
theorem dX10_doesSwitch_20 : decode cX10_doesSwitch 20 = .ok (.aload_n 0, 1) := by decide +kernel
theorem dX10_doesSwitch_21 : decode cX10_doesSwitch 21 = .ok (.iload_n 1, 1) := by decide +kernel
theorem dX10_doesSwitch_22 : decode cX10_doesSwitch 22 = .ok (.iconst 1, 1) := by decide +kernel
theorem dX10_doesSwitch_23 : decode cX10_doesSwitch 23 = .ok (.aload_n 0, 1) := by decide +kernel
theorem dX10_doesSwitch_24 : decode cX10_doesSwitch 24 = .ok (.getfield 128, 3) := by decide +kernel
theorem dX10_doesSwitch_27 : decode cX10_doesSwitch 27 = .ok (.iconst 1, 1) := by decide +kernel
theorem dX10_doesSwitch_28 : decode cX10_doesSwitch 28 = .ok (.isub, 1) := by decide +kernel
theorem dX10_doesSwitch_29 : decode cX10_doesSwitch 29 = .ok (.invokevirtual 143, 3) := by decide +kernel
theorem dX10_doesSwitch_32 : decode cX10_doesSwitch 32 = .ok (.ifCond .ne 5, 3) := by decide +kernel
theorem dX10_doesSwitch_35 : decode cX10_doesSwitch 35 = .ok (.iconst 0, 1) := by decide +kernel
theorem dX10_doesSwitch_36 : decode cX10_doesSwitch 36 = .ok (.ireturn, 1) := by decide +kernel
theorem dX10_doesSwitch_37 : decode cX10_doesSwitch 37 = .ok (.aload_n 0, 1) := by decide +kernel
theorem dX10_doesSwitch_38 : decode cX10_doesSwitch 38 = .ok (.iload_n 1, 1) := by decide +kernel
theorem dX10_doesSwitch_39 : decode cX10_doesSwitch 39 = .ok (.iconst 1, 1) := by decide +kernel
theorem dX10_doesSwitch_40 : decode cX10_doesSwitch 40 = .ok (.aload_n 0, 1) := by decide +kernel
theorem dX10_doesSwitch_41 : decode cX10_doesSwitch 41 = .ok (.getfield 128, 3) := by decide +kernel
theorem dX10_doesSwitch_44 : decode cX10_doesSwitch 44 = .ok (.iconst 1, 1) := by decide +kernel
theorem dX10_doesSwitch_45 : decode cX10_doesSwitch 45 = .ok (.isub, 1) := by decide +kernel
theorem dX10_doesSwitch_46 : decode cX10_doesSwitch 46 = .ok (.invokevirtual 149, 3) := by decide +kernel
theorem dX10_doesSwitch_49 : decode cX10_doesSwitch 49 = .ok (.dconst 1, 1) := by decide +kernel
theorem dX10_doesSwitch_50 : decode cX10_doesSwitch 50 = .ok (.dcmp .l, 1) := by decide +kernel
theorem dX10_doesSwitch_51 : decode cX10_doesSwitch 51 = .ok (.ifCond .ne 23, 3) := by decide +kernel
theorem dX10_doesSwitch_54 : decode cX10_doesSwitch 54 = .ok (.aload_n 0, 1) := by decide +kernel
theorem dX10_doesSwitch_55 : decode cX10_doesSwitch 55 = .ok (.aload_n 0, 1) := by decide +kernel
theorem dX10_doesSwitch_56 : decode cX10_doesSwitch 56 = .ok (.getfield 26, 3) := by decide +kernel
theorem dX10_doesSwitch_59 : decode cX10_doesSwitch 59 = .ok (.iconst 3, 1) := by decide +kernel
theorem dX10_doesSwitch_60 : decode cX10_doesSwitch 60 = .ok (.iload_n 1, 1) := by decide +kernel
theorem dX10_doesSwitch_61 : decode cX10_doesSwitch 61 = .ok (.imul, 1) := by decide +kernel
theorem dX10_doesSwitch_62 : decode cX10_doesSwitch 62 = .ok (.iaload, 1) := by decide +kernel
theorem dX10_doesSwitch_63 : decode cX10_doesSwitch 63 = .ok (.iconst 1, 1) := by decide +kernel
theorem dX10_doesSwitch_64 : decode cX10_doesSwitch 64 = .ok (.isub, 1) := by decide +kernel
theorem dX10_doesSwitch_65 : decode cX10_doesSwitch 65 = .ok (.iconst 0, 1) := by decide +kernel
theorem dX10_doesSwitch_66 : decode cX10_doesSwitch 66 = .ok (.iload_n 1, 1) := by decide +kernel
theorem dX10_doesSwitch_67 : decode cX10_doesSwitch 67 = .ok (.iconst 0, 1) := by decide +kernel
theorem dX10_doesSwitch_68 : decode cX10_doesSwitch 68 = .ok (.invokevirtual 171, 3) := by decide +kernel
theorem dX10_doesSwitch_71 : decode cX10_doesSwitch 71 = .ok (.goto 9, 3) := by decide +kernel
theorem dX10_doesSwitch_74 : decode cX10_doesSwitch 74 = .ok (.aload_n 0, 1) := by decide +kernel
theorem dX10_doesSwitch_75 : decode cX10_doesSwitch 75 = .ok (.iload_n 1, 1) := by decide +kernel
theorem dX10_doesSwitch_76 : decode cX10_doesSwitch 76 = .ok (.iconst 0, 1) := by decide +kernel
theorem dX10_doesSwitch_77 : decode cX10_doesSwitch 77 = .ok (.invokevirtual 175, 3) := by decide +kernel
theorem dX10_doesSwitch_80 : decode cX10_doesSwitch 80 = .ok (.iconst 1, 1) := by decide +kernel
theorem dX10_doesSwitch_81 : decode cX10_doesSwitch 81 = .ok (.ireturn, 1) := by decide +kernel
theorem dX10_delay_0 : decode cX10_delay 0 = .ok (.aload_n 0, 1) := by decide +kernel
theorem dX10_delay_1 : decode cX10_delay 1 = .ok (.getfield 23, 3) := by decide +kernel
theorem dX10_delay_4 : decode cX10_delay 4 = .ok (.iconst 3, 1) := by decide +kernel
theorem dX10_delay_5 : decode cX10_delay 5 = .ok (.iload_n 1, 1) := by decide +kernel
theorem dX10_delay_6 : decode cX10_delay 6 = .ok (.imul, 1) := by decide +kernel
theorem dX10_delay_7 : decode cX10_delay 7 = .ok (.iaload, 1) := by decide +kernel
theorem dX10_delay_8 : decode cX10_delay 8 = .ok (.iconst 1, 1) := by decide +kernel
theorem dX10_delay_9 : decode cX10_delay 9 = .ok (.if_icmp .ge 7, 3) := by decide +kernel
theorem dX10_delay_12 : decode cX10_delay 12 = .ok (.iconst 1, 1) := by decide +kernel
theorem dX10_delay_13 : decode cX10_delay 13 = .ok (.goto 27, 3) := by decide +kernel
theorem dX10_delay_16 : decode cX10_delay 16 = .ok (.aload_n 0, 1) := by decide +kernel
theorem dX10_delay_17 : decode cX10_delay 17 = .ok (.getfield 23, 3) := by decide +kernel
theorem dX10_delay_20 : decode cX10_delay 20 = .ok (.iconst 3, 1) := by decide +kernel
theorem dX10_delay_21 : decode cX10_delay 21 = .ok (.iload_n 1, 1) := by decide +kernel
theorem dX10_delay_22 : decode cX10_delay 22 = .ok (.imul, 1) := by decide +kernel
theorem dX10_delay_23 : decode cX10_delay 23 = .ok (.iaload, 1) := by decide +kernel
theorem dX10_delay_24 : decode cX10_delay 24 = .ok (.iconst 4, 1) := by decide +kernel
theorem dX10_delay_25 : decode cX10_delay 25 = .ok (.if_icmp .le 7, 3) := by decide +kernel
theorem dX10_delay_28 : decode cX10_delay 28 = .ok (.iconst 4, 1) := by decide +kernel
theorem dX10_delay_29 : decode cX10_delay 29 = .ok (.goto 11, 3) := by decide +kernel
theorem dX10_delay_32 : decode cX10_delay 32 = .ok (.aload_n 0, 1) := by decide +kernel
theorem dX10_delay_33 : decode cX10_delay 33 = .ok (.getfield 23, 3) := by decide +kernel
theorem dX10_delay_36 : decode cX10_delay 36 = .ok (.iconst 3, 1) := by decide +kernel
theorem dX10_delay_37 : decode cX10_delay 37 = .ok (.iload_n 1, 1) := by decide +kernel
theorem dX10_delay_38 : decode cX10_delay 38 = .ok (.imul, 1) := by decide +kernel
theorem dX10_delay_39 : decode cX10_delay 39 = .ok (.iaload, 1) := by decide +kernel
theorem dX10_delay_40 : decode cX10_delay 40 = .ok (.istore_n 2, 1) := by decide +kernel
theorem dX10_delay_41 : decode cX10_delay 41 = .ok (.aload_n 0, 1) := by decide +kernel
theorem dX10_delay_42 : decode cX10_delay 42 = .ok (.iload_n 1, 1) := by decide +kernel
theorem dX10_delay_43 : decode cX10_delay 43 = .ok (.iload_n 2, 1) := by decide +kernel
theorem dX10_delay_44 : decode cX10_delay 44 = .ok (.iload_n 1, 1) := by decide +kernel
theorem dX10_delay_45 : decode cX10_delay 45 = .ok (.iconst 0, 1) := by decide +kernel
theorem dX10_delay_46 : decode cX10_delay 46 = .ok (.invokevirtual 171, 3) := by decide +kernel
theorem dX10_delay_49 : decode cX10_delay 49 = .ok (.return_, 1) := by decide +kernel
theorem dX10_acts_0 : decode cX10_acts 0 = .ok (.aload_n 0, 1) := by decide +kernel
theorem dX10_acts_1 : decode cX10_acts 1 = .ok (.iconst 0, 1) := by decide +kernel
theorem dX10_acts_2 : decode cX10_acts 2 = .ok (.putfield 132, 3) := by decide +kernel
theorem dX10_acts_5 : decode cX10_acts 5 = .ok (.iconst 1, 1) := by decide +kernel
theorem dX10_acts_6 : decode cX10_acts 6 = .ok (.istore_n 2, 1) := by decide +kernel
theorem dX10_acts_7 : decode cX10_acts 7 = .ok (.aload_n 0, 1) := by decide +kernel
theorem dX10_acts_8 : decode cX10_acts 8 = .ok (.getfield 17, 3) := by decide +kernel
theorem dX10_acts_11 : decode cX10_acts 11 = .ok (.iload_n 1, 1) := by decide +kernel
theorem dX10_acts_12 : decode cX10_acts 12 = .ok (.iaload, 1) := by decide +kernel
theorem dX10_acts_13 : decode cX10_acts 13 = .ok (.tableswitch 231 0 10 #[59, 231, 231, 231, 231, 83, 152, 160, 179, 203, 212], 59) := by decide +kernel
theorem dX10_acts_72 : decode cX10_acts 72 = .ok (.aload_n 0, 1) := by decide +kernel
theorem dX10_acts_73 : decode cX10_acts 73 = .ok (.iload_n 1, 1) := by decide +kernel
theorem dX10_acts_74 : decode cX10_acts 74 = .ok (.invokevirtual 179, 3) := by decide +kernel
theorem dX10_acts_77 : decode cX10_acts 77 = .ok (.istore_n 2, 1) := by decide +kernel
theorem dX10_acts_78 : decode cX10_acts 78 = .ok (.iload_n 2, 1) := by decide +kernel
theorem dX10_acts_79 : decode cX10_acts 79 = .ok (.ifCond .eq 181, 3) := by decide +kernel
theorem dX10_acts_82 : decode cX10_acts 82 = .ok (.aload_n 0, 1) := by decide +kernel
theorem dX10_acts_83 : decode cX10_acts 83 = .ok (.iload_n 1, 1) := by decide +kernel
theorem dX10_acts_84 : decode cX10_acts 84 = .ok (.aload_n 0, 1) := by decide +kernel
theorem dX10_acts_85 : decode cX10_acts 85 = .ok (.getfield 20, 3) := by decide +kernel
theorem dX10_acts_88 : decode cX10_acts 88 = .ok (.iload_n 1, 1) := by decide +kernel
theorem dX10_acts_89 : decode cX10_acts 89 = .ok (.iaload, 1) := by decide +kernel
theorem dX10_acts_90 : decode cX10_acts 90 = .ok (.invokevirtual 182, 3) := by decide +kernel
theorem dX10_acts_93 : decode cX10_acts 93 = .ok (.goto 167, 3) := by decide +kernel
theorem dX10_acts_96 : decode cX10_acts 96 = .ok (.aload_n 0, 1) := by decide +kernel
theorem dX10_acts_97 : decode cX10_acts 97 = .ok (.iload_n 1, 1) := by decide +kernel
theorem dX10_acts_98 : decode cX10_acts 98 = .ok (.iconst 0, 1) := by decide +kernel
theorem dX10_acts_99 : decode cX10_acts 99 = .ok (.invokevirtual 164, 3) := by decide +kernel
theorem dX10_acts_102 : decode cX10_acts 102 = .ok (.ifCond .ne 21, 3) := by decide +kernel
theorem dX10_acts_105 : decode cX10_acts 105 = .ok (.aload_n 0, 1) := by decide +kernel
theorem dX10_acts_106 : decode cX10_acts 106 = .ok (.iload_n 1, 1) := by decide +kernel
theorem dX10_acts_107 : decode cX10_acts 107 = .ok (.iconst 1, 1) := by decide +kernel
theorem dX10_acts_108 : decode cX10_acts 108 = .ok (.invokevirtual 164, 3) := by decide +kernel
theorem dX10_acts_111 : decode cX10_acts 111 = .ok (.ifCond .ne 12, 3) := by decide +kernel
theorem dX10_acts_114 : decode cX10_acts 114 = .ok (.aload_n 0, 1) := by decide +kernel
theorem dX10_acts_115 : decode cX10_acts 115 = .ok (.iload_n 1, 1) := by decide +kernel
theorem dX10_acts_116 : decode cX10_acts 116 = .ok (.iconst 2, 1) := by decide +kernel
theorem dX10_acts_117 : decode cX10_acts 117 = .ok (.invokevirtual 164, 3) := by decide +kernel
theorem dX10_acts_120 : decode cX10_acts 120 = .ok (.ifCond .eq 7, 3) := by decide +kernel
theorem dX10_acts_123 : decode cX10_acts 123 = .ok (.iconst 1, 1) := by decide +kernel
theorem dX10_acts_124 : decode cX10_acts 124 = .ok (.goto 4, 3) := by decide +kernel
theorem dX10_acts_127 : decode cX10_acts 127 = .ok (.iconst 0, 1) := by decide +kernel
theorem dX10_acts_128 : decode cX10_acts 128 = .ok (.istore_n 3, 1) := by decide +kernel
theorem dX10_acts_129 : decode cX10_acts 129 = .ok (.aload_n 0, 1) := by decide +kernel
theorem dX10_acts_130 : decode cX10_acts 130 = .ok (.iload_n 1, 1) := by decide +kernel
theorem dX10_acts_131 : decode cX10_acts 131 = .ok (.invokevirtual 185, 3) := by decide +kernel
theorem dX10_acts_134 : decode cX10_acts 134 = .ok (.istore_n 2, 1) := by decide +kernel
theorem dX10_acts_135 : decode cX10_acts 135 = .ok (.iload_n 2, 1) := by decide +kernel
theorem dX10_acts_136 : decode cX10_acts 136 = .ok (.ifCond .eq 16, 3) := by decide +kernel
theorem dX10_acts_139 : decode cX10_acts 139 = .ok (.iload_n 3, 1) := by decide +kernel
theorem dX10_acts_140 : decode cX10_acts 140 = .ok (.ifCond .eq 12, 3) := by decide +kernel
theorem dX10_acts_143 : decode cX10_acts 143 = .ok (.aload_n 0, 1) := by decide +kernel
theorem dX10_acts_144 : decode cX10_acts 144 = .ok (.iload_n 1, 1) := by decide +kernel
theorem dX10_acts_145 : decode cX10_acts 145 = .ok (.iconst 2, 1) := by decide +kernel
theorem dX10_acts_146 : decode cX10_acts 146 = .ok (.invokevirtual 182, 3) := by decide +kernel
theorem dX10_acts_149 : decode cX10_acts 149 = .ok (.goto 111, 3) := by decide +kernel
theorem dX10_acts_152 : decode cX10_acts 152 = .ok (.iload_n 2, 1) := by decide +kernel
theorem dX10_acts_153 : decode cX10_acts 153 = .ok (.ifCond .eq 107, 3) := by decide +kernel
theorem dX10_acts_156 : decode cX10_acts 156 = .ok (.aload_n 0, 1) := by decide +kernel
theorem dX10_acts_157 : decode cX10_acts 157 = .ok (.iload_n 1, 1) := by decide +kernel
theorem dX10_acts_158 : decode cX10_acts 158 = .ok (.iconst 0, 1) := by decide +kernel
theorem dX10_acts_159 : decode cX10_acts 159 = .ok (.invokevirtual 175, 3) := by decide +kernel
theorem dX10_acts_162 : decode cX10_acts 162 = .ok (.goto 98, 3) := by decide +kernel
theorem dX10_acts_165 : decode cX10_acts 165 = .ok (.aload_n 0, 1) := by decide +kernel
theorem dX10_acts_166 : decode cX10_acts 166 = .ok (.iload_n 1, 1) := by decide +kernel
theorem dX10_acts_167 : decode cX10_acts 167 = .ok (.invokevirtual 188, 3) := by decide +kernel
theorem dX10_acts_170 : decode cX10_acts 170 = .ok (.goto 90, 3) := by decide +kernel
theorem dX10_acts_173 : decode cX10_acts 173 = .ok (.aload_n 0, 1) := by decide +kernel
theorem dX10_acts_174 : decode cX10_acts 174 = .ok (.iload_n 1, 1) := by decide +kernel
theorem dX10_acts_175 : decode cX10_acts 175 = .ok (.invokevirtual 192, 3) := by decide +kernel
theorem dX10_acts_178 : decode cX10_acts 178 = .ok (.istore_n 2, 1) := by decide +kernel
theorem dX10_acts_179 : decode cX10_acts 179 = .ok (.iload_n 2, 1) := by decide +kernel
theorem dX10_acts_180 : decode cX10_acts 180 = .ok (.ifCond .eq 80, 3) := by decide +kernel
theorem dX10_acts_183 : decode cX10_acts 183 = .ok (.aload_n 0, 1) := by decide +kernel
theorem dX10_acts_184 : decode cX10_acts 184 = .ok (.iload_n 1, 1) := by decide +kernel
theorem dX10_acts_185 : decode cX10_acts 185 = .ok (.iconst 0, 1) := by decide +kernel
theorem dX10_acts_186 : decode cX10_acts 186 = .ok (.invokevirtual 182, 3) := by decide +kernel
theorem dX10_acts_189 : decode cX10_acts 189 = .ok (.goto 71, 3) := by decide +kernel
theorem dX10_acts_192 : decode cX10_acts 192 = .ok (.aload_n 0, 1) := by decide +kernel
theorem dX10_acts_193 : decode cX10_acts 193 = .ok (.iload_n 1, 1) := by decide +kernel
theorem dX10_acts_194 : decode cX10_acts 194 = .ok (.invokevirtual 195, 3) := by decide +kernel
theorem dX10_acts_197 : decode cX10_acts 197 = .ok (.istore_n 2, 1) := by decide +kernel
theorem dX10_acts_198 : decode cX10_acts 198 = .ok (.iload_n 2, 1) := by decide +kernel
theorem dX10_acts_199 : decode cX10_acts 199 = .ok (.ifCond .eq 61, 3) := by decide +kernel
theorem dX10_acts_202 : decode cX10_acts 202 = .ok (.aload_n 0, 1) := by decide +kernel
theorem dX10_acts_203 : decode cX10_acts 203 = .ok (.iload_n 1, 1) := by decide +kernel
theorem dX10_acts_204 : decode cX10_acts 204 = .ok (.aload_n 0, 1) := by decide +kernel
theorem dX10_acts_205 : decode cX10_acts 205 = .ok (.getfield 20, 3) := by decide +kernel
theorem dX10_acts_208 : decode cX10_acts 208 = .ok (.iload_n 1, 1) := by decide +kernel
theorem dX10_acts_209 : decode cX10_acts 209 = .ok (.iaload, 1) := by decide +kernel
theorem dX10_acts_210 : decode cX10_acts 210 = .ok (.invokevirtual 182, 3) := by decide +kernel
theorem dX10_acts_213 : decode cX10_acts 213 = .ok (.goto 47, 3) := by decide +kernel
theorem dX10_acts_216 : decode cX10_acts 216 = .ok (.aload_n 0, 1) := by decide +kernel
theorem dX10_acts_217 : decode cX10_acts 217 = .ok (.iload_n 1, 1) := by decide +kernel
theorem dX10_acts_218 : decode cX10_acts 218 = .ok (.invokevirtual 198, 3) := by decide +kernel
theorem dX10_acts_221 : decode cX10_acts 221 = .ok (.istore_n 2, 1) := by decide +kernel
theorem dX10_acts_222 : decode cX10_acts 222 = .ok (.goto 38, 3) := by decide +kernel
theorem dX10_acts_225 : decode cX10_acts 225 = .ok (.aload_n 0, 1) := by decide +kernel
theorem dX10_acts_226 : decode cX10_acts 226 = .ok (.iload_n 1, 1) := by decide +kernel
theorem dX10_acts_227 : decode cX10_acts 227 = .ok (.invokevirtual 201, 3) := by decide +kernel
theorem dX10_acts_230 : decode cX10_acts 230 = .ok (.istore_n 2, 1) := by decide +kernel
theorem dX10_acts_231 : decode cX10_acts 231 = .ok (.iload_n 2, 1) := by decide +kernel
theorem dX10_acts_232 : decode cX10_acts 232 = .ok (.ifCond .eq 28, 3) := by decide +kernel
theorem dX10_acts_235 : decode cX10_acts 235 = .ok (.aload_n 0, 1) := by decide +kernel
theorem dX10_acts_236 : decode cX10_acts 236 = .ok (.iload_n 1, 1) := by decide +kernel
theorem dX10_acts_237 : decode cX10_acts 237 = .ok (.iconst 2, 1) := by decide +kernel
theorem dX10_acts_238 : decode cX10_acts 238 = .ok (.invokevirtual 182, 3) := by decide +kernel
theorem dX10_acts_241 : decode cX10_acts 241 = .ok (.goto 19, 3) := by decide +kernel
theorem dX10_acts_244 : decode cX10_acts 244 = .ok (.aload_n 0, 1) := by decide +kernel
theorem dX10_acts_245 : decode cX10_acts 245 = .ok (.iload_n 1, 1) := by decide +kernel
theorem dX10_acts_246 : decode cX10_acts 246 = .ok (.invokevirtual 204, 3) := by decide +kernel
theorem dX10_acts_249 : decode cX10_acts 249 = .ok (.istore_n 2, 1) := by decide +kernel
theorem dX10_acts_250 : decode cX10_acts 250 = .ok (.iload_n 2, 1) := by decide +kernel
theorem dX10_acts_251 : decode cX10_acts 251 = .ok (.ifCond .eq 9, 3) := by decide +kernel
theorem dX10_acts_254 : decode cX10_acts 254 = .ok (.aload_n 0, 1) := by decide +kernel
theorem dX10_acts_255 : decode cX10_acts 255 = .ok (.iload_n 1, 1) := by decide +kernel
theorem dX10_acts_256 : decode cX10_acts 256 = .ok (.iconst 4, 1) := by decide +kernel
theorem dX10_acts_257 : decode cX10_acts 257 = .ok (.invokevirtual 182, 3) := by decide +kernel
theorem dX10_acts_260 : decode cX10_acts 260 = .ok (.iload_n 2, 1) := by decide +kernel
theorem dX10_acts_261 : decode cX10_acts 261 = .ok (.ireturn, 1) := by decide +kernel
theorem dX10_feed_0 : decode cX10_feed 0 = .ok (.iconst 0, 1) := by decide +kernel
theorem dX10_feed_1 : decode cX10_feed 1 = .ok (.istore_n 1, 1) := by decide +kernel
theorem dX10_feed_2 : decode cX10_feed 2 = .ok (.iload_n 1, 1) := by decide +kernel
theorem dX10_feed_3 : decode cX10_feed 3 = .ok (.aload_n 0, 1) := by decide +kernel
theorem dX10_feed_4 : decode cX10_feed 4 = .ok (.getfield 68, 3) := by decide +kernel
theorem dX10_feed_7 : decode cX10_feed 7 = .ok (.if_icmp .ge 75, 3) := by decide +kernel
theorem dX10_feed_10 : decode cX10_feed 10 = .ok (.aload_n 0, 1) := by decide +kernel
theorem dX10_feed_11 : decode cX10_feed 11 = .ok (.getfield 17, 3) := by decide +kernel
theorem dX10_feed_14 : decode cX10_feed 14 = .ok (.iload_n 1, 1) := by decide +kernel
theorem dX10_feed_15 : decode cX10_feed 15 = .ok (.iaload, 1) := by decide +kernel
theorem dX10_feed_16 : decode cX10_feed 16 = .ok (.bipush 6, 2) := by decide +kernel
theorem dX10_feed_18 : decode cX10_feed 18 = .ok (.if_icmp .ne 58, 3) := by decide +kernel
theorem dX10_feed_21 : decode cX10_feed 21 = .ok (.iconst 4, 1) := by decide +kernel
theorem dX10_feed_22 : decode cX10_feed 22 = .ok (.istore_n 2, 1) := by decide +kernel
theorem dX10_feed_23 : decode cX10_feed 23 = .ok (.iload_n 2, 1) := by decide +kernel
theorem dX10_feed_24 : decode cX10_feed 24 = .ok (.iconst 1, 1) := by decide +kernel
theorem dX10_feed_25 : decode cX10_feed 25 = .ok (.if_icmp .le 19, 3) := by decide +kernel
theorem dX10_feed_28 : decode cX10_feed 28 = .ok (.aload_n 0, 1) := by decide +kernel
theorem dX10_feed_29 : decode cX10_feed 29 = .ok (.iload_n 1, 1) := by decide +kernel
theorem dX10_feed_30 : decode cX10_feed 30 = .ok (.iload_n 2, 1) := by decide +kernel
theorem dX10_feed_31 : decode cX10_feed 31 = .ok (.iconst 1, 1) := by decide +kernel
theorem dX10_feed_32 : decode cX10_feed 32 = .ok (.isub, 1) := by decide +kernel
theorem dX10_feed_33 : decode cX10_feed 33 = .ok (.iload_n 1, 1) := by decide +kernel
theorem dX10_feed_34 : decode cX10_feed 34 = .ok (.iload_n 2, 1) := by decide +kernel
theorem dX10_feed_35 : decode cX10_feed 35 = .ok (.invokevirtual 171, 3) := by decide +kernel
theorem dX10_feed_38 : decode cX10_feed 38 = .ok (.iinc 2 (-1), 3) := by decide +kernel
theorem dX10_feed_41 : decode cX10_feed 41 = .ok (.goto (-18), 3) := by decide +kernel
theorem dX10_feed_44 : decode cX10_feed 44 = .ok (.aload_n 0, 1) := by decide +kernel
theorem dX10_feed_45 : decode cX10_feed 45 = .ok (.getfield 26, 3) := by decide +kernel
theorem dX10_feed_48 : decode cX10_feed 48 = .ok (.iconst 3, 1) := by decide +kernel
theorem dX10_feed_49 : decode cX10_feed 49 = .ok (.iload_n 1, 1) := by decide +kernel
theorem dX10_feed_50 : decode cX10_feed 50 = .ok (.imul, 1) := by decide +kernel
theorem dX10_feed_51 : decode cX10_feed 51 = .ok (.iaload, 1) := by decide +kernel
theorem dX10_feed_52 : decode cX10_feed 52 = .ok (.iconst 1, 1) := by decide +kernel
theorem dX10_feed_53 : decode cX10_feed 53 = .ok (.isub, 1) := by decide +kernel
theorem dX10_feed_54 : decode cX10_feed 54 = .ok (.istore_n 2, 1) := by decide +kernel
theorem dX10_feed_55 : decode cX10_feed 55 = .ok (.iload_n 2, 1) := by decide +kernel
theorem dX10_feed_56 : decode cX10_feed 56 = .ok (.ifCond .ge 12, 3) := by decide +kernel
theorem dX10_feed_59 : decode cX10_feed 59 = .ok (.aload_n 0, 1) := by decide +kernel
theorem dX10_feed_60 : decode cX10_feed 60 = .ok (.iload_n 1, 1) := by decide +kernel
theorem dX10_feed_61 : decode cX10_feed 61 = .ok (.iconst 1, 1) := by decide +kernel
theorem dX10_feed_62 : decode cX10_feed 62 = .ok (.invokevirtual 175, 3) := by decide +kernel
theorem dX10_feed_65 : decode cX10_feed 65 = .ok (.goto 11, 3) := by decide +kernel
theorem dX10_feed_68 : decode cX10_feed 68 = .ok (.aload_n 0, 1) := by decide +kernel
theorem dX10_feed_69 : decode cX10_feed 69 = .ok (.iload_n 2, 1) := by decide +kernel
theorem dX10_feed_70 : decode cX10_feed 70 = .ok (.iconst 0, 1) := by decide +kernel
theorem dX10_feed_71 : decode cX10_feed 71 = .ok (.iload_n 1, 1) := by decide +kernel
theorem dX10_feed_72 : decode cX10_feed 72 = .ok (.iconst 1, 1) := by decide +kernel
theorem dX10_feed_73 : decode cX10_feed 73 = .ok (.invokevirtual 171, 3) := by decide +kernel
theorem dX10_feed_76 : decode cX10_feed 76 = .ok (.iinc 1 1, 3) := by decide +kernel
theorem dX10_feed_79 : decode cX10_feed 79 = .ok (.goto (-77), 3) := by decide +kernel
theorem dX10_feed_82 : decode cX10_feed 82 = .ok (.return_, 1) := by decide +kernel
theorem dX10_hasActed_0 : decode cX10_hasActed 0 = .ok (.iload_n 1, 1) := by decide +kernel
theorem dX10_hasActed_1 : decode cX10_hasActed 1 = .ok (.ifCond .ge 7, 3) := by decide +kernel
theorem dX10_hasActed_4 : decode cX10_hasActed 4 = .ok (.iconst 1, 1) := by decide +kernel
theorem dX10_hasActed_5 : decode cX10_hasActed 5 = .ok (.goto 4, 3) := by decide +kernel
theorem dX10_hasActed_8 : decode cX10_hasActed 8 = .ok (.iconst 0, 1) := by decide +kernel
theorem dX10_hasActed_9 : decode cX10_hasActed 9 = .ok (.istore_n 3, 1) := by decide +kernel
theorem dX10_hasActed_10 : decode cX10_hasActed 10 = .ok (.iconst 0, 1) := by decide +kernel
theorem dX10_hasActed_11 : decode cX10_hasActed 11 = .ok (.istore 4, 2) := by decide +kernel
end
section
theorem dX10_hasActed_13 : decode cX10_hasActed 13 = .ok (.iload 4, 2) := by decide +kernel
theorem dX10_hasActed_15 : decode cX10_hasActed 15 = .ok (.iload_n 2, 1) := by decide +kernel
theorem dX10_hasActed_16 : decode cX10_hasActed 16 = .ok (.if_icmp .ge 30, 3) := by decide +kernel
theorem dX10_hasActed_19 : decode cX10_hasActed 19 = .ok (.iload_n 3, 1) := by decide +kernel
theorem dX10_hasActed_20 : decode cX10_hasActed 20 = .ok (.ifCond .ne 14, 3) := by decide +kernel
theorem dX10_hasActed_23 : decode cX10_hasActed 23 = .ok (.aload_n 0, 1) := by decide +kernel
theorem dX10_hasActed_24 : decode cX10_hasActed 24 = .ok (.getfield 35, 3) := by decide +kernel
theorem dX10_hasActed_27 : decode cX10_hasActed 27 = .ok (.iload 4, 2) := by decide +kernel
theorem dX10_hasActed_29 : decode cX10_hasActed 29 = .ok (.iaload, 1) := by decide +kernel
theorem dX10_hasActed_30 : decode cX10_hasActed 30 = .ok (.iload_n 1, 1) := by decide +kernel
theorem dX10_hasActed_31 : decode cX10_hasActed 31 = .ok (.if_icmp .ne 7, 3) := by decide +kernel
theorem dX10_hasActed_34 : decode cX10_hasActed 34 = .ok (.iconst 1, 1) := by decide +kernel
theorem dX10_hasActed_35 : decode cX10_hasActed 35 = .ok (.goto 4, 3) := by decide +kernel
theorem dX10_hasActed_38 : decode cX10_hasActed 38 = .ok (.iconst 0, 1) := by decide +kernel
theorem dX10_hasActed_39 : decode cX10_hasActed 39 = .ok (.istore_n 3, 1) := by decide +kernel
theorem dX10_hasActed_40 : decode cX10_hasActed 40 = .ok (.iinc 4 1, 3) := by decide +kernel
theorem dX10_hasActed_43 : decode cX10_hasActed 43 = .ok (.goto (-30), 3) := by decide +kernel
theorem dX10_hasActed_46 : decode cX10_hasActed 46 = .ok (.iload_n 3, 1) := by decide +kernel
theorem dX10_hasActed_47 : decode cX10_hasActed 47 = .ok (.ireturn, 1) := by decide +kernel
theorem dX10_setOrder_0 : decode cX10_setOrder 0 = .ok (.iconst 0, 1) := by decide +kernel
theorem dX10_setOrder_1 : decode cX10_setOrder 1 = .ok (.istore_n 1, 1) := by decide +kernel
theorem dX10_setOrder_2 : decode cX10_setOrder 2 = .ok (.iconst 0, 1) := by decide +kernel
theorem dX10_setOrder_3 : decode cX10_setOrder 3 = .ok (.istore_n 2, 1) := by decide +kernel
theorem dX10_setOrder_4 : decode cX10_setOrder 4 = .ok (.iload_n 2, 1) := by decide +kernel
theorem dX10_setOrder_5 : decode cX10_setOrder 5 = .ok (.aload_n 0, 1) := by decide +kernel
theorem dX10_setOrder_6 : decode cX10_setOrder 6 = .ok (.getfield 68, 3) := by decide +kernel
theorem dX10_setOrder_9 : decode cX10_setOrder 9 = .ok (.if_icmp .ge 30, 3) := by decide +kernel
theorem dX10_setOrder_12 : decode cX10_setOrder 12 = .ok (.aload_n 0, 1) := by decide +kernel
theorem dX10_setOrder_13 : decode cX10_setOrder 13 = .ok (.getfield 17, 3) := by decide +kernel
theorem dX10_setOrder_16 : decode cX10_setOrder 16 = .ok (.iload_n 2, 1) := by decide +kernel
theorem dX10_setOrder_17 : decode cX10_setOrder 17 = .ok (.iaload, 1) := by decide +kernel
theorem dX10_setOrder_18 : decode cX10_setOrder 18 = .ok (.bipush 6, 2) := by decide +kernel
theorem dX10_setOrder_20 : decode cX10_setOrder 20 = .ok (.if_icmp .ne 13, 3) := by decide +kernel
theorem dX10_setOrder_23 : decode cX10_setOrder 23 = .ok (.aload_n 0, 1) := by decide +kernel
theorem dX10_setOrder_24 : decode cX10_setOrder 24 = .ok (.getfield 35, 3) := by decide +kernel
theorem dX10_setOrder_27 : decode cX10_setOrder 27 = .ok (.iload_n 1, 1) := by decide +kernel
theorem dX10_setOrder_28 : decode cX10_setOrder 28 = .ok (.iload_n 2, 1) := by decide +kernel
theorem dX10_setOrder_29 : decode cX10_setOrder 29 = .ok (.iastore, 1) := by decide +kernel
theorem dX10_setOrder_30 : decode cX10_setOrder 30 = .ok (.iinc 1 1, 3) := by decide +kernel
theorem dX10_setOrder_33 : decode cX10_setOrder 33 = .ok (.iinc 2 1, 3) := by decide +kernel
theorem dX10_setOrder_36 : decode cX10_setOrder 36 = .ok (.goto (-32), 3) := by decide +kernel
theorem dX10_setOrder_39 : decode cX10_setOrder 39 = .ok (.iload_n 1, 1) := by decide +kernel
theorem dX10_setOrder_40 : decode cX10_setOrder 40 = .ok (.aload_n 0, 1) := by decide +kernel
theorem dX10_setOrder_41 : decode cX10_setOrder 41 = .ok (.getfield 68, 3) := by decide +kernel
theorem dX10_setOrder_44 : decode cX10_setOrder 44 = .ok (.if_icmp .ge 120, 3) := by decide +kernel
theorem dX10_setOrder_47 : decode cX10_setOrder 47 = .ok (.iconst (-1), 1) := by decide +kernel
theorem dX10_setOrder_48 : decode cX10_setOrder 48 = .ok (.istore_n 2, 1) := by decide +kernel
theorem dX10_setOrder_49 : decode cX10_setOrder 49 = .ok (.aload_n 0, 1) := by decide +kernel
theorem dX10_setOrder_50 : decode cX10_setOrder 50 = .ok (.getfield 68, 3) := by decide +kernel
theorem dX10_setOrder_53 : decode cX10_setOrder 53 = .ok (.iconst 1, 1) := by decide +kernel
theorem dX10_setOrder_54 : decode cX10_setOrder 54 = .ok (.isub, 1) := by decide +kernel
theorem dX10_setOrder_55 : decode cX10_setOrder 55 = .ok (.istore_n 3, 1) := by decide +kernel
theorem dX10_setOrder_56 : decode cX10_setOrder 56 = .ok (.iload_n 3, 1) := by decide +kernel
theorem dX10_setOrder_57 : decode cX10_setOrder 57 = .ok (.ifCond .lt 94, 3) := by decide +kernel
theorem dX10_setOrder_60 : decode cX10_setOrder 60 = .ok (.aload_n 0, 1) := by decide +kernel
theorem dX10_setOrder_61 : decode cX10_setOrder 61 = .ok (.aload_n 0, 1) := by decide +kernel
theorem dX10_setOrder_62 : decode cX10_setOrder 62 = .ok (.getfield 26, 3) := by decide +kernel
theorem dX10_setOrder_65 : decode cX10_setOrder 65 = .ok (.iconst 3, 1) := by decide +kernel
theorem dX10_setOrder_66 : decode cX10_setOrder 66 = .ok (.iload_n 3, 1) := by decide +kernel
theorem dX10_setOrder_67 : decode cX10_setOrder 67 = .ok (.imul, 1) := by decide +kernel
theorem dX10_setOrder_68 : decode cX10_setOrder 68 = .ok (.iaload, 1) := by decide +kernel
theorem dX10_setOrder_69 : decode cX10_setOrder 69 = .ok (.iconst 1, 1) := by decide +kernel
theorem dX10_setOrder_70 : decode cX10_setOrder 70 = .ok (.isub, 1) := by decide +kernel
theorem dX10_setOrder_71 : decode cX10_setOrder 71 = .ok (.iload_n 1, 1) := by decide +kernel
theorem dX10_setOrder_72 : decode cX10_setOrder 72 = .ok (.invokevirtual 207, 3) := by decide +kernel
theorem dX10_setOrder_75 : decode cX10_setOrder 75 = .ok (.ifCond .eq 47, 3) := by decide +kernel
theorem dX10_setOrder_78 : decode cX10_setOrder 78 = .ok (.aload_n 0, 1) := by decide +kernel
theorem dX10_setOrder_79 : decode cX10_setOrder 79 = .ok (.aload_n 0, 1) := by decide +kernel
theorem dX10_setOrder_80 : decode cX10_setOrder 80 = .ok (.getfield 26, 3) := by decide +kernel
theorem dX10_setOrder_83 : decode cX10_setOrder 83 = .ok (.iconst 3, 1) := by decide +kernel
theorem dX10_setOrder_84 : decode cX10_setOrder 84 = .ok (.iload_n 3, 1) := by decide +kernel
theorem dX10_setOrder_85 : decode cX10_setOrder 85 = .ok (.imul, 1) := by decide +kernel
theorem dX10_setOrder_86 : decode cX10_setOrder 86 = .ok (.iconst 1, 1) := by decide +kernel
theorem dX10_setOrder_87 : decode cX10_setOrder 87 = .ok (.iadd, 1) := by decide +kernel
theorem dX10_setOrder_88 : decode cX10_setOrder 88 = .ok (.iaload, 1) := by decide +kernel
theorem dX10_setOrder_89 : decode cX10_setOrder 89 = .ok (.iconst 1, 1) := by decide +kernel
theorem dX10_setOrder_90 : decode cX10_setOrder 90 = .ok (.isub, 1) := by decide +kernel
theorem dX10_setOrder_91 : decode cX10_setOrder 91 = .ok (.iload_n 1, 1) := by decide +kernel
theorem dX10_setOrder_92 : decode cX10_setOrder 92 = .ok (.invokevirtual 207, 3) := by decide +kernel
theorem dX10_setOrder_95 : decode cX10_setOrder 95 = .ok (.ifCond .eq 27, 3) := by decide +kernel
theorem dX10_setOrder_98 : decode cX10_setOrder 98 = .ok (.aload_n 0, 1) := by decide +kernel
theorem dX10_setOrder_99 : decode cX10_setOrder 99 = .ok (.aload_n 0, 1) := by decide +kernel
theorem dX10_setOrder_100 : decode cX10_setOrder 100 = .ok (.getfield 26, 3) := by decide +kernel
theorem dX10_setOrder_103 : decode cX10_setOrder 103 = .ok (.iconst 3, 1) := by decide +kernel
theorem dX10_setOrder_104 : decode cX10_setOrder 104 = .ok (.iload_n 3, 1) := by decide +kernel
theorem dX10_setOrder_105 : decode cX10_setOrder 105 = .ok (.imul, 1) := by decide +kernel
theorem dX10_setOrder_106 : decode cX10_setOrder 106 = .ok (.iconst 2, 1) := by decide +kernel
theorem dX10_setOrder_107 : decode cX10_setOrder 107 = .ok (.iadd, 1) := by decide +kernel
theorem dX10_setOrder_108 : decode cX10_setOrder 108 = .ok (.iaload, 1) := by decide +kernel
theorem dX10_setOrder_109 : decode cX10_setOrder 109 = .ok (.iconst 1, 1) := by decide +kernel
theorem dX10_setOrder_110 : decode cX10_setOrder 110 = .ok (.isub, 1) := by decide +kernel
theorem dX10_setOrder_111 : decode cX10_setOrder 111 = .ok (.iload_n 1, 1) := by decide +kernel
theorem dX10_setOrder_112 : decode cX10_setOrder 112 = .ok (.invokevirtual 207, 3) := by decide +kernel
theorem dX10_setOrder_115 : decode cX10_setOrder 115 = .ok (.ifCond .eq 7, 3) := by decide +kernel
theorem dX10_setOrder_118 : decode cX10_setOrder 118 = .ok (.iconst 1, 1) := by decide +kernel
theorem dX10_setOrder_119 : decode cX10_setOrder 119 = .ok (.goto 4, 3) := by decide +kernel
theorem dX10_setOrder_122 : decode cX10_setOrder 122 = .ok (.iconst 0, 1) := by decide +kernel
theorem dX10_setOrder_123 : decode cX10_setOrder 123 = .ok (.istore 4, 2) := by decide +kernel
theorem dX10_setOrder_125 : decode cX10_setOrder 125 = .ok (.iload 4, 2) := by decide +kernel
theorem dX10_setOrder_127 : decode cX10_setOrder 127 = .ok (.ifCond .eq 16, 3) := by decide +kernel
theorem dX10_setOrder_130 : decode cX10_setOrder 130 = .ok (.aload_n 0, 1) := by decide +kernel
theorem dX10_setOrder_131 : decode cX10_setOrder 131 = .ok (.iload_n 3, 1) := by decide +kernel
theorem dX10_setOrder_132 : decode cX10_setOrder 132 = .ok (.iload_n 1, 1) := by decide +kernel
theorem dX10_setOrder_133 : decode cX10_setOrder 133 = .ok (.invokevirtual 207, 3) := by decide +kernel
theorem dX10_setOrder_136 : decode cX10_setOrder 136 = .ok (.ifCond .ne 7, 3) := by decide +kernel
theorem dX10_setOrder_139 : decode cX10_setOrder 139 = .ok (.iload_n 3, 1) := by decide +kernel
theorem dX10_setOrder_140 : decode cX10_setOrder 140 = .ok (.goto 4, 3) := by decide +kernel
theorem dX10_setOrder_143 : decode cX10_setOrder 143 = .ok (.iload_n 2, 1) := by decide +kernel
theorem dX10_setOrder_144 : decode cX10_setOrder 144 = .ok (.istore_n 2, 1) := by decide +kernel
theorem dX10_setOrder_145 : decode cX10_setOrder 145 = .ok (.iinc 3 (-1), 3) := by decide +kernel
theorem dX10_setOrder_148 : decode cX10_setOrder 148 = .ok (.goto (-92), 3) := by decide +kernel
theorem dX10_setOrder_151 : decode cX10_setOrder 151 = .ok (.aload_n 0, 1) := by decide +kernel
theorem dX10_setOrder_152 : decode cX10_setOrder 152 = .ok (.getfield 35, 3) := by decide +kernel
theorem dX10_setOrder_155 : decode cX10_setOrder 155 = .ok (.iload_n 1, 1) := by decide +kernel
theorem dX10_setOrder_156 : decode cX10_setOrder 156 = .ok (.iload_n 2, 1) := by decide +kernel
theorem dX10_setOrder_157 : decode cX10_setOrder 157 = .ok (.iastore, 1) := by decide +kernel
theorem dX10_setOrder_158 : decode cX10_setOrder 158 = .ok (.iinc 1 1, 3) := by decide +kernel
theorem dX10_setOrder_161 : decode cX10_setOrder 161 = .ok (.goto (-122), 3) := by decide +kernel
theorem dX10_setOrder_164 : decode cX10_setOrder 164 = .ok (.return_, 1) := by decide +kernel
theorem dX10_block_0 : decode cX10_block 0 = .ok (.iload_n 1, 1) := by decide +kernel
theorem dX10_block_1 : decode cX10_block 1 = .ok (.iconst 1, 1) := by decide +kernel
theorem dX10_block_2 : decode cX10_block 2 = .ok (.bipush 16, 2) := by decide +kernel
theorem dX10_block_4 : decode cX10_block 4 = .ok (.invokestatic 72, 3) := by decide +kernel
theorem dX10_block_7 : decode cX10_block 7 = .ok (.ifCond .ne 5, 3) := by decide +kernel
theorem dX10_block_10 : decode cX10_block 10 = .ok (.iconst (-1), 1) := by decide +kernel
theorem dX10_block_11 : decode cX10_block 11 = .ok (.ireturn, 1) := by decide +kernel
theorem dX10_block_12 : decode cX10_block 12 = .ok (.aload_n 0, 1) := by decide +kernel
theorem dX10_block_13 : decode cX10_block 13 = .ok (.iload_n 1, 1) := by decide +kernel
theorem dX10_block_14 : decode cX10_block 14 = .ok (.putfield 128, 3) := by decide +kernel
theorem dX10_block_17 : decode cX10_block 17 = .ok (.aload_n 0, 1) := by decide +kernel
theorem dX10_block_18 : decode cX10_block 18 = .ok (.iconst 0, 1) := by decide +kernel
theorem dX10_block_19 : decode cX10_block 19 = .ok (.putfield 94, 3) := by decide +kernel
theorem dX10_block_22 : decode cX10_block 22 = .ok (.aload_n 0, 1) := by decide +kernel
theorem dX10_block_23 : decode cX10_block 23 = .ok (.iconst 0, 1) := by decide +kernel
theorem dX10_block_24 : decode cX10_block 24 = .ok (.putfield 210, 3) := by decide +kernel
theorem dX10_block_27 : decode cX10_block 27 = .ok (.aload_n 0, 1) := by decide +kernel
theorem dX10_block_28 : decode cX10_block 28 = .ok (.iconst 0, 1) := by decide +kernel
theorem dX10_block_29 : decode cX10_block 29 = .ok (.bipush 9, 2) := by decide +kernel
theorem dX10_block_31 : decode cX10_block 31 = .ok (.invokevirtual 213, 3) := by decide +kernel
theorem dX10_block_34 : decode cX10_block 34 = .ok (.aload_n 0, 1) := by decide +kernel
theorem dX10_block_35 : decode cX10_block 35 = .ok (.invokevirtual 216, 3) := by decide +kernel
theorem dX10_block_38 : decode cX10_block 38 = .ok (.iconst 1, 1) := by decide +kernel
theorem dX10_block_39 : decode cX10_block 39 = .ok (.istore_n 2, 1) := by decide +kernel
theorem dX10_block_40 : decode cX10_block 40 = .ok (.iconst 0, 1) := by decide +kernel
theorem dX10_block_41 : decode cX10_block 41 = .ok (.istore_n 3, 1) := by decide +kernel
theorem dX10_block_42 : decode cX10_block 42 = .ok (.iload_n 3, 1) := by decide +kernel
theorem dX10_block_43 : decode cX10_block 43 = .ok (.aload_n 0, 1) := by decide +kernel
theorem dX10_block_44 : decode cX10_block 44 = .ok (.getfield 68, 3) := by decide +kernel
theorem dX10_block_47 : decode cX10_block 47 = .ok (.if_icmp .ge 51, 3) := by decide +kernel
theorem dX10_block_50 : decode cX10_block 50 = .ok (.iload_n 2, 1) := by decide +kernel
theorem dX10_block_51 : decode cX10_block 51 = .ok (.ifCond .eq 47, 3) := by decide +kernel
theorem dX10_block_54 : decode cX10_block 54 = .ok (.aload_n 0, 1) := by decide +kernel
theorem dX10_block_55 : decode cX10_block 55 = .ok (.getfield 38, 3) := by decide +kernel
theorem dX10_block_58 : decode cX10_block 58 = .ok (.aload_n 0, 1) := by decide +kernel
theorem dX10_block_59 : decode cX10_block 59 = .ok (.getfield 210, 3) := by decide +kernel
theorem dX10_block_62 : decode cX10_block 62 = .ok (.aload_n 0, 1) := by decide +kernel
theorem dX10_block_63 : decode cX10_block 63 = .ok (.getfield 35, 3) := by decide +kernel
theorem dX10_block_66 : decode cX10_block 66 = .ok (.iload_n 3, 1) := by decide +kernel
theorem dX10_block_67 : decode cX10_block 67 = .ok (.iaload, 1) := by decide +kernel
theorem dX10_block_68 : decode cX10_block 68 = .ok (.iconst 1, 1) := by decide +kernel
theorem dX10_block_69 : decode cX10_block 69 = .ok (.iadd, 1) := by decide +kernel
theorem dX10_block_70 : decode cX10_block 70 = .ok (.iastore, 1) := by decide +kernel
theorem dX10_block_71 : decode cX10_block 71 = .ok (.aload_n 0, 1) := by decide +kernel
theorem dX10_block_72 : decode cX10_block 72 = .ok (.dup, 1) := by decide +kernel
theorem dX10_block_73 : decode cX10_block 73 = .ok (.getfield 210, 3) := by decide +kernel
theorem dX10_block_76 : decode cX10_block 76 = .ok (.iconst 1, 1) := by decide +kernel
theorem dX10_block_77 : decode cX10_block 77 = .ok (.iadd, 1) := by decide +kernel
theorem dX10_block_78 : decode cX10_block 78 = .ok (.putfield 210, 3) := by decide +kernel
theorem dX10_block_81 : decode cX10_block 81 = .ok (.aload_n 0, 1) := by decide +kernel
theorem dX10_block_82 : decode cX10_block 82 = .ok (.aload_n 0, 1) := by decide +kernel
theorem dX10_block_83 : decode cX10_block 83 = .ok (.getfield 35, 3) := by decide +kernel
theorem dX10_block_86 : decode cX10_block 86 = .ok (.iload_n 3, 1) := by decide +kernel
theorem dX10_block_87 : decode cX10_block 87 = .ok (.iaload, 1) := by decide +kernel
theorem dX10_block_88 : decode cX10_block 88 = .ok (.invokevirtual 219, 3) := by decide +kernel
theorem dX10_block_91 : decode cX10_block 91 = .ok (.istore_n 2, 1) := by decide +kernel
theorem dX10_block_92 : decode cX10_block 92 = .ok (.iinc 3 1, 3) := by decide +kernel
theorem dX10_block_95 : decode cX10_block 95 = .ok (.goto (-53), 3) := by decide +kernel
theorem dX10_block_98 : decode cX10_block 98 = .ok (.aload_n 0, 1) := by decide +kernel
theorem dX10_block_99 : decode cX10_block 99 = .ok (.getfield 210, 3) := by decide +kernel
theorem dX10_block_102 : decode cX10_block 102 = .ok (.iconst 1, 1) := by decide +kernel
theorem dX10_block_103 : decode cX10_block 103 = .ok (.isub, 1) := by decide +kernel
theorem dX10_block_104 : decode cX10_block 104 = .ok (.istore_n 3, 1) := by decide +kernel
theorem dX10_block_105 : decode cX10_block 105 = .ok (.iload_n 3, 1) := by decide +kernel
theorem dX10_block_106 : decode cX10_block 106 = .ok (.ifCond .lt 35, 3) := by decide +kernel
theorem dX10_block_109 : decode cX10_block 109 = .ok (.aload_n 0, 1) := by decide +kernel
theorem dX10_block_110 : decode cX10_block 110 = .ok (.getfield 38, 3) := by decide +kernel
theorem dX10_block_113 : decode cX10_block 113 = .ok (.aload_n 0, 1) := by decide +kernel
theorem dX10_block_114 : decode cX10_block 114 = .ok (.getfield 210, 3) := by decide +kernel
theorem dX10_block_117 : decode cX10_block 117 = .ok (.aload_n 0, 1) := by decide +kernel
theorem dX10_block_118 : decode cX10_block 118 = .ok (.getfield 38, 3) := by decide +kernel
theorem dX10_block_121 : decode cX10_block 121 = .ok (.iload_n 3, 1) := by decide +kernel
theorem dX10_block_122 : decode cX10_block 122 = .ok (.iaload, 1) := by decide +kernel
theorem dX10_block_123 : decode cX10_block 123 = .ok (.ineg, 1) := by decide +kernel
theorem dX10_block_124 : decode cX10_block 124 = .ok (.iastore, 1) := by decide +kernel
theorem dX10_block_125 : decode cX10_block 125 = .ok (.aload_n 0, 1) := by decide +kernel
theorem dX10_block_126 : decode cX10_block 126 = .ok (.dup, 1) := by decide +kernel
theorem dX10_block_127 : decode cX10_block 127 = .ok (.getfield 210, 3) := by decide +kernel
theorem dX10_block_130 : decode cX10_block 130 = .ok (.iconst 1, 1) := by decide +kernel
theorem dX10_block_131 : decode cX10_block 131 = .ok (.iadd, 1) := by decide +kernel
theorem dX10_block_132 : decode cX10_block 132 = .ok (.putfield 210, 3) := by decide +kernel
theorem dX10_block_135 : decode cX10_block 135 = .ok (.iinc 3 (-1), 3) := by decide +kernel
theorem dX10_block_138 : decode cX10_block 138 = .ok (.goto (-33), 3) := by decide +kernel
theorem dX10_block_141 : decode cX10_block 141 = .ok (.iload_n 2, 1) := by decide +kernel
theorem dX10_block_142 : decode cX10_block 142 = .ok (.ifCond .ne 15, 3) := by decide +kernel
theorem dX10_block_145 : decode cX10_block 145 = .ok (.aload_n 0, 1) := by decide +kernel
theorem dX10_block_146 : decode cX10_block 146 = .ok (.bipush 9, 2) := by decide +kernel
theorem dX10_block_148 : decode cX10_block 148 = .ok (.iconst 0, 1) := by decide +kernel
theorem dX10_block_149 : decode cX10_block 149 = .ok (.invokevirtual 213, 3) := by decide +kernel
theorem dX10_block_152 : decode cX10_block 152 = .ok (.aload_n 0, 1) := by decide +kernel
theorem dX10_block_153 : decode cX10_block 153 = .ok (.getfield 94, 3) := by decide +kernel
theorem dX10_block_156 : decode cX10_block 156 = .ok (.ireturn, 1) := by decide +kernel
theorem dX10_block_157 : decode cX10_block 157 = .ok (.aload_n 0, 1) := by decide +kernel
theorem dX10_block_158 : decode cX10_block 158 = .ok (.invokevirtual 222, 3) := by decide +kernel
theorem dX10_block_161 : decode cX10_block 161 = .ok (.iconst 0, 1) := by decide +kernel
theorem dX10_block_162 : decode cX10_block 162 = .ok (.istore_n 3, 1) := by decide +kernel
theorem dX10_block_163 : decode cX10_block 163 = .ok (.iload_n 3, 1) := by decide +kernel
theorem dX10_block_164 : decode cX10_block 164 = .ok (.aload_n 0, 1) := by decide +kernel
theorem dX10_block_165 : decode cX10_block 165 = .ok (.getfield 68, 3) := by decide +kernel
theorem dX10_block_168 : decode cX10_block 168 = .ok (.if_icmp .ge 29, 3) := by decide +kernel
theorem dX10_block_171 : decode cX10_block 171 = .ok (.aload_n 0, 1) := by decide +kernel
theorem dX10_block_172 : decode cX10_block 172 = .ok (.getfield 13, 3) := by decide +kernel
theorem dX10_block_175 : decode cX10_block 175 = .ok (.bipush 20, 2) := by decide +kernel
theorem dX10_block_177 : decode cX10_block 177 = .ok (.iload_n 3, 1) := by decide +kernel
theorem dX10_block_178 : decode cX10_block 178 = .ok (.imul, 1) := by decide +kernel
theorem dX10_block_179 : decode cX10_block 179 = .ok (.bipush 18, 2) := by decide +kernel
theorem dX10_block_181 : decode cX10_block 181 = .ok (.iadd, 1) := by decide +kernel
theorem dX10_block_182 : decode cX10_block 182 = .ok (.aload_n 0, 1) := by decide +kernel
theorem dX10_block_183 : decode cX10_block 183 = .ok (.getfield 23, 3) := by decide +kernel
theorem dX10_block_186 : decode cX10_block 186 = .ok (.iconst 3, 1) := by decide +kernel
theorem dX10_block_187 : decode cX10_block 187 = .ok (.iload_n 3, 1) := by decide +kernel
theorem dX10_block_188 : decode cX10_block 188 = .ok (.imul, 1) := by decide +kernel
theorem dX10_block_189 : decode cX10_block 189 = .ok (.iaload, 1) := by decide +kernel
theorem dX10_block_190 : decode cX10_block 190 = .ok (.iastore, 1) := by decide +kernel
theorem dX10_block_191 : decode cX10_block 191 = .ok (.iinc 3 1, 3) := by decide +kernel
theorem dX10_block_194 : decode cX10_block 194 = .ok (.goto (-31), 3) := by decide +kernel
theorem dX10_block_197 : decode cX10_block 197 = .ok (.aload_n 0, 1) := by decide +kernel
theorem dX10_block_198 : decode cX10_block 198 = .ok (.bipush 9, 2) := by decide +kernel
theorem dX10_block_200 : decode cX10_block 200 = .ok (.iconst 1, 1) := by decide +kernel
theorem dX10_block_201 : decode cX10_block 201 = .ok (.aload_n 0, 1) := by decide +kernel
theorem dX10_block_202 : decode cX10_block 202 = .ok (.getfield 225, 3) := by decide +kernel
theorem dX10_block_205 : decode cX10_block 205 = .ok (.bipush 8, 2) := by decide +kernel
theorem dX10_block_207 : decode cX10_block 207 = .ok (.irem, 1) := by decide +kernel
theorem dX10_block_208 : decode cX10_block 208 = .ok (.iadd, 1) := by decide +kernel
theorem dX10_block_209 : decode cX10_block 209 = .ok (.invokevirtual 213, 3) := by decide +kernel
theorem dX10_block_212 : decode cX10_block 212 = .ok (.aload_n 0, 1) := by decide +kernel
theorem dX10_block_213 : decode cX10_block 213 = .ok (.dup, 1) := by decide +kernel
theorem dX10_block_214 : decode cX10_block 214 = .ok (.getfield 225, 3) := by decide +kernel
theorem dX10_block_217 : decode cX10_block 217 = .ok (.iconst 1, 1) := by decide +kernel
theorem dX10_block_218 : decode cX10_block 218 = .ok (.iadd, 1) := by decide +kernel
theorem dX10_block_219 : decode cX10_block 219 = .ok (.putfield 225, 3) := by decide +kernel
theorem dX10_block_222 : decode cX10_block 222 = .ok (.aload_n 0, 1) := by decide +kernel
theorem dX10_block_223 : decode cX10_block 223 = .ok (.dup, 1) := by decide +kernel
theorem dX10_block_224 : decode cX10_block 224 = .ok (.getfield 228, 3) := by decide +kernel
theorem dX10_block_227 : decode cX10_block 227 = .ok (.aload_n 0, 1) := by decide +kernel
theorem dX10_block_228 : decode cX10_block 228 = .ok (.getfield 228, 3) := by decide +kernel
theorem dX10_block_231 : decode cX10_block 231 = .ok (.bipush 8, 2) := by decide +kernel
theorem dX10_block_233 : decode cX10_block 233 = .ok (.if_icmp .ge 7, 3) := by decide +kernel
theorem dX10_block_236 : decode cX10_block 236 = .ok (.iconst 1, 1) := by decide +kernel
theorem dX10_block_237 : decode cX10_block 237 = .ok (.goto 4, 3) := by decide +kernel
theorem dX10_block_240 : decode cX10_block 240 = .ok (.iconst 0, 1) := by decide +kernel
theorem dX10_block_241 : decode cX10_block 241 = .ok (.iadd, 1) := by decide +kernel
theorem dX10_block_242 : decode cX10_block 242 = .ok (.putfield 228, 3) := by decide +kernel
theorem dX10_block_245 : decode cX10_block 245 = .ok (.aload_n 0, 1) := by decide +kernel
theorem dX10_block_246 : decode cX10_block 246 = .ok (.dup, 1) := by decide +kernel
theorem dX10_block_247 : decode cX10_block 247 = .ok (.getfield 231, 3) := by decide +kernel
theorem dX10_block_250 : decode cX10_block 250 = .ok (.iconst 1, 1) := by decide +kernel
theorem dX10_block_251 : decode cX10_block 251 = .ok (.iadd, 1) := by decide +kernel
theorem dX10_block_252 : decode cX10_block 252 = .ok (.putfield 231, 3) := by decide +kernel
theorem dX10_block_255 : decode cX10_block 255 = .ok (.iconst 0, 1) := by decide +kernel
theorem dX10_block_256 : decode cX10_block 256 = .ok (.ireturn, 1) := by decide +kernel
theorem dX10_back_0 : decode cX10_back 0 = .ok (.iload_n 1, 1) := by decide +kernel
theorem dX10_back_1 : decode cX10_back 1 = .ok (.iconst 1, 1) := by decide +kernel
theorem dX10_back_2 : decode cX10_back 2 = .ok (.bipush 8, 2) := by decide +kernel
theorem dX10_back_4 : decode cX10_back 4 = .ok (.invokestatic 72, 3) := by decide +kernel
theorem dX10_back_7 : decode cX10_back 7 = .ok (.ifCond .eq 11, 3) := by decide +kernel
theorem dX10_back_10 : decode cX10_back 10 = .ok (.iload_n 1, 1) := by decide +kernel
theorem dX10_back_11 : decode cX10_back 11 = .ok (.aload_n 0, 1) := by decide +kernel
theorem dX10_back_12 : decode cX10_back 12 = .ok (.getfield 228, 3) := by decide +kernel
theorem dX10_back_15 : decode cX10_back 15 = .ok (.if_icmp .le 5, 3) := by decide +kernel
theorem dX10_back_18 : decode cX10_back 18 = .ok (.iconst (-1), 1) := by decide +kernel
theorem dX10_back_19 : decode cX10_back 19 = .ok (.ireturn, 1) := by decide +kernel
theorem dX10_back_20 : decode cX10_back 20 = .ok (.aload_n 0, 1) := by decide +kernel
theorem dX10_back_21 : decode cX10_back 21 = .ok (.dup, 1) := by decide +kernel
theorem dX10_back_22 : decode cX10_back 22 = .ok (.getfield 225, 3) := by decide +kernel
theorem dX10_back_25 : decode cX10_back 25 = .ok (.iload_n 1, 1) := by decide +kernel
theorem dX10_back_26 : decode cX10_back 26 = .ok (.isub, 1) := by decide +kernel
theorem dX10_back_27 : decode cX10_back 27 = .ok (.putfield 225, 3) := by decide +kernel
theorem dX10_back_30 : decode cX10_back 30 = .ok (.aload_n 0, 1) := by decide +kernel
theorem dX10_back_31 : decode cX10_back 31 = .ok (.dup, 1) := by decide +kernel
theorem dX10_back_32 : decode cX10_back 32 = .ok (.getfield 228, 3) := by decide +kernel
theorem dX10_back_35 : decode cX10_back 35 = .ok (.iload_n 1, 1) := by decide +kernel
theorem dX10_back_36 : decode cX10_back 36 = .ok (.isub, 1) := by decide +kernel
theorem dX10_back_37 : decode cX10_back 37 = .ok (.putfield 228, 3) := by decide +kernel
theorem dX10_back_40 : decode cX10_back 40 = .ok (.aload_n 0, 1) := by decide +kernel
theorem dX10_back_41 : decode cX10_back 41 = .ok (.dup, 1) := by decide +kernel
theorem dX10_back_42 : decode cX10_back 42 = .ok (.getfield 231, 3) := by decide +kernel
theorem dX10_back_45 : decode cX10_back 45 = .ok (.iload_n 1, 1) := by decide +kernel
theorem dX10_back_46 : decode cX10_back 46 = .ok (.isub, 1) := by decide +kernel
theorem dX10_back_47 : decode cX10_back 47 = .ok (.putfield 231, 3) := by decide +kernel
theorem dX10_back_50 : decode cX10_back 50 = .ok (.aload_n 0, 1) := by decide +kernel
theorem dX10_back_51 : decode cX10_back 51 = .ok (.iconst 1, 1) := by decide +kernel
theorem dX10_back_52 : decode cX10_back 52 = .ok (.aload_n 0, 1) := by decide +kernel
theorem dX10_back_53 : decode cX10_back 53 = .ok (.getfield 225, 3) := by decide +kernel
theorem dX10_back_56 : decode cX10_back 56 = .ok (.bipush 8, 2) := by decide +kernel
theorem dX10_back_58 : decode cX10_back 58 = .ok (.irem, 1) := by decide +kernel
theorem dX10_back_59 : decode cX10_back 59 = .ok (.iadd, 1) := by decide +kernel
theorem dX10_back_60 : decode cX10_back 60 = .ok (.iconst 0, 1) := by decide +kernel
theorem dX10_back_61 : decode cX10_back 61 = .ok (.invokevirtual 213, 3) := by decide +kernel
theorem dX10_back_64 : decode cX10_back 64 = .ok (.aload_n 0, 1) := by decide +kernel
theorem dX10_back_65 : decode cX10_back 65 = .ok (.getfield 228, 3) := by decide +kernel
theorem dX10_back_68 : decode cX10_back 68 = .ok (.ireturn, 1) := by decide +kernel
theorem dX10_keep_0 : decode cX10_keep 0 = .ok (.iload_n 1, 1) := by decide +kernel
theorem dX10_keep_1 : decode cX10_keep 1 = .ok (.iconst 0, 1) := by decide +kernel
theorem dX10_keep_2 : decode cX10_keep 2 = .ok (.bipush 7, 2) := by decide +kernel
theorem dX10_keep_4 : decode cX10_keep 4 = .ok (.invokestatic 72, 3) := by decide +kernel
theorem dX10_keep_7 : decode cX10_keep 7 = .ok (.ifCond .ne 5, 3) := by decide +kernel
theorem dX10_keep_10 : decode cX10_keep 10 = .ok (.iconst (-1), 1) := by decide +kernel
theorem dX10_keep_11 : decode cX10_keep 11 = .ok (.ireturn, 1) := by decide +kernel
theorem dX10_keep_12 : decode cX10_keep 12 = .ok (.iconst 0, 1) := by decide +kernel
theorem dX10_keep_13 : decode cX10_keep 13 = .ok (.istore_n 2, 1) := by decide +kernel
theorem dX10_keep_14 : decode cX10_keep 14 = .ok (.iload_n 2, 1) := by decide +kernel
theorem dX10_keep_15 : decode cX10_keep 15 = .ok (.bipush 72, 2) := by decide +kernel
theorem dX10_keep_17 : decode cX10_keep 17 = .ok (.if_icmp .ge 26, 3) := by decide +kernel
theorem dX10_keep_20 : decode cX10_keep 20 = .ok (.aload_n 0, 1) := by decide +kernel
theorem dX10_keep_21 : decode cX10_keep 21 = .ok (.getfield 41, 3) := by decide +kernel
theorem dX10_keep_24 : decode cX10_keep 24 = .ok (.bipush 72, 2) := by decide +kernel
theorem dX10_keep_26 : decode cX10_keep 26 = .ok (.iload_n 1, 1) := by decide +kernel
theorem dX10_keep_27 : decode cX10_keep 27 = .ok (.imul, 1) := by decide +kernel
theorem dX10_keep_28 : decode cX10_keep 28 = .ok (.iload_n 2, 1) := by decide +kernel
theorem dX10_keep_29 : decode cX10_keep 29 = .ok (.iadd, 1) := by decide +kernel
theorem dX10_keep_30 : decode cX10_keep 30 = .ok (.aload_n 0, 1) := by decide +kernel
theorem dX10_keep_31 : decode cX10_keep 31 = .ok (.getfield 23, 3) := by decide +kernel
theorem dX10_keep_34 : decode cX10_keep 34 = .ok (.iload_n 2, 1) := by decide +kernel
theorem dX10_keep_35 : decode cX10_keep 35 = .ok (.iaload, 1) := by decide +kernel
theorem dX10_keep_36 : decode cX10_keep 36 = .ok (.iastore, 1) := by decide +kernel
theorem dX10_keep_37 : decode cX10_keep 37 = .ok (.iinc 2 1, 3) := by decide +kernel
theorem dX10_keep_40 : decode cX10_keep 40 = .ok (.goto (-26), 3) := by decide +kernel
theorem dX10_keep_43 : decode cX10_keep 43 = .ok (.aload_n 0, 1) := by decide +kernel
theorem dX10_keep_44 : decode cX10_keep 44 = .ok (.getfield 44, 3) := by decide +kernel
theorem dX10_keep_47 : decode cX10_keep 47 = .ok (.iload_n 1, 1) := by decide +kernel
theorem dX10_keep_48 : decode cX10_keep 48 = .ok (.aload_n 0, 1) := by decide +kernel
theorem dX10_keep_49 : decode cX10_keep 49 = .ok (.getfield 68, 3) := by decide +kernel
theorem dX10_keep_52 : decode cX10_keep 52 = .ok (.iconst 1, 1) := by decide +kernel
theorem dX10_keep_53 : decode cX10_keep 53 = .ok (.iadd, 1) := by decide +kernel
theorem dX10_keep_54 : decode cX10_keep 54 = .ok (.iastore, 1) := by decide +kernel
theorem dX10_keep_55 : decode cX10_keep 55 = .ok (.aload_n 0, 1) := by decide +kernel
theorem dX10_keep_56 : decode cX10_keep 56 = .ok (.getfield 68, 3) := by decide +kernel
theorem dX10_keep_59 : decode cX10_keep 59 = .ok (.ireturn, 1) := by decide +kernel
theorem dX10_recall_0 : decode cX10_recall 0 = .ok (.iload_n 1, 1) := by decide +kernel
theorem dX10_recall_1 : decode cX10_recall 1 = .ok (.iconst 0, 1) := by decide +kernel
theorem dX10_recall_2 : decode cX10_recall 2 = .ok (.bipush 7, 2) := by decide +kernel
theorem dX10_recall_4 : decode cX10_recall 4 = .ok (.invokestatic 72, 3) := by decide +kernel
theorem dX10_recall_7 : decode cX10_recall 7 = .ok (.ifCond .ne 5, 3) := by decide +kernel
theorem dX10_recall_10 : decode cX10_recall 10 = .ok (.iconst (-1), 1) := by decide +kernel
theorem dX10_recall_11 : decode cX10_recall 11 = .ok (.ireturn, 1) := by decide +kernel
theorem dX10_recall_12 : decode cX10_recall 12 = .ok (.aload_n 0, 1) := by decide +kernel
theorem dX10_recall_13 : decode cX10_recall 13 = .ok (.getfield 44, 3) := by decide +kernel
theorem dX10_recall_16 : decode cX10_recall 16 = .ok (.iload_n 1, 1) := by decide +kernel
theorem dX10_recall_17 : decode cX10_recall 17 = .ok (.iaload, 1) := by decide +kernel
theorem dX10_recall_18 : decode cX10_recall 18 = .ok (.ifCond .ne 6, 3) := by decide +kernel
theorem dX10_recall_21 : decode cX10_recall 21 = .ok (.bipush (-2), 2) := by decide +kernel
theorem dX10_recall_23 : decode cX10_recall 23 = .ok (.ireturn, 1) := by decide +kernel
theorem dX10_recall_24 : decode cX10_recall 24 = .ok (.aload_n 0, 1) := by decide +kernel
theorem dX10_recall_25 : decode cX10_recall 25 = .ok (.getfield 44, 3) := by decide +kernel
theorem dX10_recall_28 : decode cX10_recall 28 = .ok (.iload_n 1, 1) := by decide +kernel
theorem dX10_recall_29 : decode cX10_recall 29 = .ok (.iaload, 1) := by decide +kernel
theorem dX10_recall_30 : decode cX10_recall 30 = .ok (.iconst 1, 1) := by decide +kernel
theorem dX10_recall_31 : decode cX10_recall 31 = .ok (.isub, 1) := by decide +kernel
theorem dX10_recall_32 : decode cX10_recall 32 = .ok (.istore_n 2, 1) := by decide +kernel
theorem dX10_recall_33 : decode cX10_recall 33 = .ok (.iconst 0, 1) := by decide +kernel
theorem dX10_recall_34 : decode cX10_recall 34 = .ok (.istore_n 3, 1) := by decide +kernel
theorem dX10_recall_35 : decode cX10_recall 35 = .ok (.iload_n 3, 1) := by decide +kernel
theorem dX10_recall_36 : decode cX10_recall 36 = .ok (.iconst 3, 1) := by decide +kernel
theorem dX10_recall_37 : decode cX10_recall 37 = .ok (.iload_n 2, 1) := by decide +kernel
theorem dX10_recall_38 : decode cX10_recall 38 = .ok (.imul, 1) := by decide +kernel
theorem dX10_recall_39 : decode cX10_recall 39 = .ok (.if_icmp .ge 26, 3) := by decide +kernel
theorem dX10_recall_42 : decode cX10_recall 42 = .ok (.aload_n 0, 1) := by decide +kernel
theorem dX10_recall_43 : decode cX10_recall 43 = .ok (.getfield 23, 3) := by decide +kernel
theorem dX10_recall_46 : decode cX10_recall 46 = .ok (.iload_n 3, 1) := by decide +kernel
theorem dX10_recall_47 : decode cX10_recall 47 = .ok (.aload_n 0, 1) := by decide +kernel
theorem dX10_recall_48 : decode cX10_recall 48 = .ok (.getfield 41, 3) := by decide +kernel
theorem dX10_recall_51 : decode cX10_recall 51 = .ok (.bipush 72, 2) := by decide +kernel
theorem dX10_recall_53 : decode cX10_recall 53 = .ok (.iload_n 1, 1) := by decide +kernel
theorem dX10_recall_54 : decode cX10_recall 54 = .ok (.imul, 1) := by decide +kernel
theorem dX10_recall_55 : decode cX10_recall 55 = .ok (.iload_n 3, 1) := by decide +kernel
theorem dX10_recall_56 : decode cX10_recall 56 = .ok (.iadd, 1) := by decide +kernel
theorem dX10_recall_57 : decode cX10_recall 57 = .ok (.iaload, 1) := by decide +kernel
theorem dX10_recall_58 : decode cX10_recall 58 = .ok (.iastore, 1) := by decide +kernel
theorem dX10_recall_59 : decode cX10_recall 59 = .ok (.iinc 3 1, 3) := by decide +kernel
theorem dX10_recall_62 : decode cX10_recall 62 = .ok (.goto (-27), 3) := by decide +kernel
theorem dX10_recall_65 : decode cX10_recall 65 = .ok (.iload_n 2, 1) := by decide +kernel
theorem dX10_recall_66 : decode cX10_recall 66 = .ok (.ireturn, 1) := by decide +kernel
theorem dX10_take_0 : decode cX10_take 0 = .ok (.aload_n 0, 1) := by decide +kernel
theorem dX10_take_1 : decode cX10_take 1 = .ok (.iload_n 1, 1) := by decide +kernel
theorem dX10_take_2 : decode cX10_take 2 = .ok (.invokevirtual 76, 3) := by decide +kernel
theorem dX10_take_5 : decode cX10_take 5 = .ok (.ifCond .ne 5, 3) := by decide +kernel
theorem dX10_take_8 : decode cX10_take 8 = .ok (.iconst (-1), 1) := by decide +kernel
theorem dX10_take_9 : decode cX10_take 9 = .ok (.ireturn, 1) := by decide +kernel
theorem dX10_take_10 : decode cX10_take 10 = .ok (.aload_n 0, 1) := by decide +kernel
theorem dX10_take_11 : decode cX10_take 11 = .ok (.iload_n 1, 1) := by decide +kernel
theorem dX10_take_12 : decode cX10_take 12 = .ok (.invokevirtual 106, 3) := by decide +kernel
theorem dX10_take_15 : decode cX10_take 15 = .ok (.ifCond .ge 6, 3) := by decide +kernel
theorem dX10_take_18 : decode cX10_take 18 = .ok (.bipush (-2), 2) := by decide +kernel
theorem dX10_take_20 : decode cX10_take 20 = .ok (.ireturn, 1) := by decide +kernel
theorem dX10_take_21 : decode cX10_take 21 = .ok (.aload_n 0, 1) := by decide +kernel
theorem dX10_take_22 : decode cX10_take 22 = .ok (.getfield 234, 3) := by decide +kernel
theorem dX10_take_25 : decode cX10_take 25 = .ok (.bipush 40, 2) := by decide +kernel
theorem dX10_take_27 : decode cX10_take 27 = .ok (.if_icmp .ne 6, 3) := by decide +kernel
theorem dX10_take_30 : decode cX10_take 30 = .ok (.bipush (-3), 2) := by decide +kernel
theorem dX10_take_32 : decode cX10_take 32 = .ok (.ireturn, 1) := by decide +kernel
theorem dX10_take_33 : decode cX10_take 33 = .ok (.aload_n 0, 1) := by decide +kernel
theorem dX10_take_34 : decode cX10_take 34 = .ok (.dup, 1) := by decide +kernel
theorem dX10_take_35 : decode cX10_take 35 = .ok (.getfield 237, 3) := by decide +kernel
theorem dX10_take_38 : decode cX10_take 38 = .ok (.iconst 1, 1) := by decide +kernel
theorem dX10_take_39 : decode cX10_take 39 = .ok (.iadd, 1) := by decide +kernel
theorem dX10_take_40 : decode cX10_take 40 = .ok (.putfield 237, 3) := by decide +kernel
theorem dX10_take_43 : decode cX10_take 43 = .ok (.aload_n 0, 1) := by decide +kernel
theorem dX10_take_44 : decode cX10_take 44 = .ok (.getfield 47, 3) := by decide +kernel
theorem dX10_take_47 : decode cX10_take 47 = .ok (.aload_n 0, 1) := by decide +kernel
theorem dX10_take_48 : decode cX10_take 48 = .ok (.getfield 234, 3) := by decide +kernel
theorem dX10_take_51 : decode cX10_take 51 = .ok (.aload_n 0, 1) := by decide +kernel
theorem dX10_take_52 : decode cX10_take 52 = .ok (.getfield 237, 3) := by decide +kernel
theorem dX10_take_55 : decode cX10_take 55 = .ok (.iastore, 1) := by decide +kernel
theorem dX10_take_56 : decode cX10_take 56 = .ok (.aload_n 0, 1) := by decide +kernel
theorem dX10_take_57 : decode cX10_take 57 = .ok (.getfield 50, 3) := by decide +kernel
theorem dX10_take_60 : decode cX10_take 60 = .ok (.aload_n 0, 1) := by decide +kernel
theorem dX10_take_61 : decode cX10_take 61 = .ok (.getfield 234, 3) := by decide +kernel
theorem dX10_take_64 : decode cX10_take 64 = .ok (.aload_n 0, 1) := by decide +kernel
theorem dX10_take_65 : decode cX10_take 65 = .ok (.iload_n 1, 1) := by decide +kernel
theorem dX10_take_66 : decode cX10_take 66 = .ok (.invokevirtual 106, 3) := by decide +kernel
theorem dX10_take_69 : decode cX10_take 69 = .ok (.iastore, 1) := by decide +kernel
theorem dX10_take_70 : decode cX10_take 70 = .ok (.aload_n 0, 1) := by decide +kernel
theorem dX10_take_71 : decode cX10_take 71 = .ok (.getfield 53, 3) := by decide +kernel
theorem dX10_take_74 : decode cX10_take 74 = .ok (.aload_n 0, 1) := by decide +kernel
theorem dX10_take_75 : decode cX10_take 75 = .ok (.getfield 234, 3) := by decide +kernel
theorem dX10_take_78 : decode cX10_take 78 = .ok (.aload_n 0, 1) := by decide +kernel
theorem dX10_take_79 : decode cX10_take 79 = .ok (.getfield 13, 3) := by decide +kernel
theorem dX10_take_82 : decode cX10_take 82 = .ok (.aload_n 0, 1) := by decide +kernel
theorem dX10_take_83 : decode cX10_take 83 = .ok (.iload_n 1, 1) := by decide +kernel
theorem dX10_take_84 : decode cX10_take 84 = .ok (.iconst 0, 1) := by decide +kernel
theorem dX10_take_85 : decode cX10_take 85 = .ok (.invokevirtual 91, 3) := by decide +kernel
theorem dX10_take_88 : decode cX10_take 88 = .ok (.iconst 1, 1) := by decide +kernel
theorem dX10_take_89 : decode cX10_take 89 = .ok (.iadd, 1) := by decide +kernel
theorem dX10_take_90 : decode cX10_take 90 = .ok (.iaload, 1) := by decide +kernel
theorem dX10_take_91 : decode cX10_take 91 = .ok (.iastore, 1) := by decide +kernel
theorem dX10_take_92 : decode cX10_take 92 = .ok (.aload_n 0, 1) := by decide +kernel
theorem dX10_take_93 : decode cX10_take 93 = .ok (.getfield 56, 3) := by decide +kernel
theorem dX10_take_96 : decode cX10_take 96 = .ok (.aload_n 0, 1) := by decide +kernel
theorem dX10_take_97 : decode cX10_take 97 = .ok (.getfield 234, 3) := by decide +kernel
theorem dX10_take_100 : decode cX10_take 100 = .ok (.aload_n 0, 1) := by decide +kernel
theorem dX10_take_101 : decode cX10_take 101 = .ok (.getfield 13, 3) := by decide +kernel
theorem dX10_take_104 : decode cX10_take 104 = .ok (.aload_n 0, 1) := by decide +kernel
theorem dX10_take_105 : decode cX10_take 105 = .ok (.iload_n 1, 1) := by decide +kernel
theorem dX10_take_106 : decode cX10_take 106 = .ok (.iconst 0, 1) := by decide +kernel
theorem dX10_take_107 : decode cX10_take 107 = .ok (.invokevirtual 91, 3) := by decide +kernel
theorem dX10_take_110 : decode cX10_take 110 = .ok (.iconst 2, 1) := by decide +kernel
theorem dX10_take_111 : decode cX10_take 111 = .ok (.iadd, 1) := by decide +kernel
theorem dX10_take_112 : decode cX10_take 112 = .ok (.iaload, 1) := by decide +kernel
theorem dX10_take_113 : decode cX10_take 113 = .ok (.iastore, 1) := by decide +kernel
theorem dX10_take_114 : decode cX10_take 114 = .ok (.iconst 0, 1) := by decide +kernel
theorem dX10_take_115 : decode cX10_take 115 = .ok (.istore_n 2, 1) := by decide +kernel
theorem dX10_take_116 : decode cX10_take 116 = .ok (.iload_n 2, 1) := by decide +kernel
theorem dX10_take_117 : decode cX10_take 117 = .ok (.bipush 16, 2) := by decide +kernel
theorem dX10_take_119 : decode cX10_take 119 = .ok (.if_icmp .ge 34, 3) := by decide +kernel
theorem dX10_take_122 : decode cX10_take 122 = .ok (.aload_n 0, 1) := by decide +kernel
theorem dX10_take_123 : decode cX10_take 123 = .ok (.getfield 59, 3) := by decide +kernel
theorem dX10_take_126 : decode cX10_take 126 = .ok (.bipush 16, 2) := by decide +kernel
theorem dX10_take_128 : decode cX10_take 128 = .ok (.aload_n 0, 1) := by decide +kernel
theorem dX10_take_129 : decode cX10_take 129 = .ok (.getfield 234, 3) := by decide +kernel
theorem dX10_take_132 : decode cX10_take 132 = .ok (.imul, 1) := by decide +kernel
theorem dX10_take_133 : decode cX10_take 133 = .ok (.iload_n 2, 1) := by decide +kernel
theorem dX10_take_134 : decode cX10_take 134 = .ok (.iadd, 1) := by decide +kernel
theorem dX10_take_135 : decode cX10_take 135 = .ok (.aload_n 0, 1) := by decide +kernel
theorem dX10_take_136 : decode cX10_take 136 = .ok (.getfield 7, 3) := by decide +kernel
theorem dX10_take_139 : decode cX10_take 139 = .ok (.bipush 82, 2) := by decide +kernel
theorem dX10_take_141 : decode cX10_take 141 = .ok (.iload_n 1, 1) := by decide +kernel
theorem dX10_take_142 : decode cX10_take 142 = .ok (.imul, 1) := by decide +kernel
theorem dX10_take_143 : decode cX10_take 143 = .ok (.iload_n 2, 1) := by decide +kernel
theorem dX10_take_144 : decode cX10_take 144 = .ok (.iadd, 1) := by decide +kernel
theorem dX10_take_145 : decode cX10_take 145 = .ok (.daload, 1) := by decide +kernel
theorem dX10_take_146 : decode cX10_take 146 = .ok (.dastore, 1) := by decide +kernel
theorem dX10_take_147 : decode cX10_take 147 = .ok (.iinc 2 1, 3) := by decide +kernel
theorem dX10_take_150 : decode cX10_take 150 = .ok (.goto (-34), 3) := by decide +kernel
theorem dX10_take_153 : decode cX10_take 153 = .ok (.aload_n 0, 1) := by decide +kernel
theorem dX10_take_154 : decode cX10_take 154 = .ok (.dup, 1) := by decide +kernel
theorem dX10_take_155 : decode cX10_take 155 = .ok (.getfield 234, 3) := by decide +kernel
theorem dX10_take_158 : decode cX10_take 158 = .ok (.iconst 1, 1) := by decide +kernel
theorem dX10_take_159 : decode cX10_take 159 = .ok (.iadd, 1) := by decide +kernel
theorem dX10_take_160 : decode cX10_take 160 = .ok (.putfield 234, 3) := by decide +kernel
theorem dX10_take_163 : decode cX10_take 163 = .ok (.aload_n 0, 1) := by decide +kernel
theorem dX10_take_164 : decode cX10_take 164 = .ok (.getfield 237, 3) := by decide +kernel
theorem dX10_take_167 : decode cX10_take 167 = .ok (.ireturn, 1) := by decide +kernel
theorem dX10_takeOf_0 : decode cX10_takeOf 0 = .ok (.iconst (-1), 1) := by decide +kernel
theorem dX10_takeOf_1 : decode cX10_takeOf 1 = .ok (.istore_n 2, 1) := by decide +kernel
theorem dX10_takeOf_2 : decode cX10_takeOf 2 = .ok (.iconst 0, 1) := by decide +kernel
theorem dX10_takeOf_3 : decode cX10_takeOf 3 = .ok (.istore_n 3, 1) := by decide +kernel
theorem dX10_takeOf_4 : decode cX10_takeOf 4 = .ok (.iload_n 3, 1) := by decide +kernel
theorem dX10_takeOf_5 : decode cX10_takeOf 5 = .ok (.aload_n 0, 1) := by decide +kernel
theorem dX10_takeOf_6 : decode cX10_takeOf 6 = .ok (.getfield 234, 3) := by decide +kernel
theorem dX10_takeOf_9 : decode cX10_takeOf 9 = .ok (.if_icmp .ge 25, 3) := by decide +kernel
theorem dX10_takeOf_12 : decode cX10_takeOf 12 = .ok (.aload_n 0, 1) := by decide +kernel
theorem dX10_takeOf_13 : decode cX10_takeOf 13 = .ok (.getfield 47, 3) := by decide +kernel
theorem dX10_takeOf_16 : decode cX10_takeOf 16 = .ok (.iload_n 3, 1) := by decide +kernel
theorem dX10_takeOf_17 : decode cX10_takeOf 17 = .ok (.iaload, 1) := by decide +kernel
theorem dX10_takeOf_18 : decode cX10_takeOf 18 = .ok (.iload_n 1, 1) := by decide +kernel
theorem dX10_takeOf_19 : decode cX10_takeOf 19 = .ok (.if_icmp .ne 7, 3) := by decide +kernel
theorem dX10_takeOf_22 : decode cX10_takeOf 22 = .ok (.iload_n 3, 1) := by decide +kernel
theorem dX10_takeOf_23 : decode cX10_takeOf 23 = .ok (.goto 4, 3) := by decide +kernel
theorem dX10_takeOf_26 : decode cX10_takeOf 26 = .ok (.iload_n 2, 1) := by decide +kernel
theorem dX10_takeOf_27 : decode cX10_takeOf 27 = .ok (.istore_n 2, 1) := by decide +kernel
theorem dX10_takeOf_28 : decode cX10_takeOf 28 = .ok (.iinc 3 1, 3) := by decide +kernel
theorem dX10_takeOf_31 : decode cX10_takeOf 31 = .ok (.goto (-27), 3) := by decide +kernel
theorem dX10_takeOf_34 : decode cX10_takeOf 34 = .ok (.iload_n 2, 1) := by decide +kernel
theorem dX10_takeOf_35 : decode cX10_takeOf 35 = .ok (.ireturn, 1) := by decide +kernel
theorem dX10_hasMinus_0 : decode cX10_hasMinus 0 = .ok (.dload_n 0, 1) := by decide +kernel
theorem dX10_hasMinus_1 : decode cX10_hasMinus 1 = .ok (.dconst 0, 1) := by decide +kernel
theorem dX10_hasMinus_2 : decode cX10_hasMinus 2 = .ok (.dcmp .g, 1) := by decide +kernel
theorem dX10_hasMinus_3 : decode cX10_hasMinus 3 = .ok (.ifCond .lt 17, 3) := by decide +kernel
theorem dX10_hasMinus_6 : decode cX10_hasMinus 6 = .ok (.dload_n 0, 1) := by decide +kernel
theorem dX10_hasMinus_7 : decode cX10_hasMinus 7 = .ok (.dconst 0, 1) := by decide +kernel
theorem dX10_hasMinus_8 : decode cX10_hasMinus 8 = .ok (.dcmp .l, 1) := by decide +kernel
theorem dX10_hasMinus_9 : decode cX10_hasMinus 9 = .ok (.ifCond .ne 15, 3) := by decide +kernel
theorem dX10_hasMinus_12 : decode cX10_hasMinus 12 = .ok (.dconst 1, 1) := by decide +kernel
theorem dX10_hasMinus_13 : decode cX10_hasMinus 13 = .ok (.dload_n 0, 1) := by decide +kernel
theorem dX10_hasMinus_14 : decode cX10_hasMinus 14 = .ok (.ddiv, 1) := by decide +kernel
theorem dX10_hasMinus_15 : decode cX10_hasMinus 15 = .ok (.dconst 0, 1) := by decide +kernel
theorem dX10_hasMinus_16 : decode cX10_hasMinus 16 = .ok (.dcmp .g, 1) := by decide +kernel
theorem dX10_hasMinus_17 : decode cX10_hasMinus 17 = .ok (.ifCond .ge 7, 3) := by decide +kernel
theorem dX10_hasMinus_20 : decode cX10_hasMinus 20 = .ok (.iconst 1, 1) := by decide +kernel
theorem dX10_hasMinus_21 : decode cX10_hasMinus 21 = .ok (.goto 4, 3) := by decide +kernel
theorem dX10_hasMinus_24 : decode cX10_hasMinus 24 = .ok (.iconst 0, 1) := by decide +kernel
theorem dX10_hasMinus_25 : decode cX10_hasMinus 25 = .ok (.ireturn, 1) := by decide +kernel
theorem dX10_equal_0 : decode cX10_equal 0 = .ok (.aload_n 0, 1) := by decide +kernel
theorem dX10_equal_1 : decode cX10_equal 1 = .ok (.iload_n 1, 1) := by decide +kernel
theorem dX10_equal_2 : decode cX10_equal 2 = .ok (.invokevirtual 240, 3) := by decide +kernel
theorem dX10_equal_5 : decode cX10_equal 5 = .ok (.istore_n 3, 1) := by decide +kernel
theorem dX10_equal_6 : decode cX10_equal 6 = .ok (.aload_n 0, 1) := by decide +kernel
theorem dX10_equal_7 : decode cX10_equal 7 = .ok (.iload_n 2, 1) := by decide +kernel
theorem dX10_equal_8 : decode cX10_equal 8 = .ok (.invokevirtual 240, 3) := by decide +kernel
theorem dX10_equal_11 : decode cX10_equal 11 = .ok (.istore 4, 2) := by decide +kernel
theorem dX10_equal_13 : decode cX10_equal 13 = .ok (.iload_n 3, 1) := by decide +kernel
theorem dX10_equal_14 : decode cX10_equal 14 = .ok (.ifCond .lt 8, 3) := by decide +kernel
theorem dX10_equal_17 : decode cX10_equal 17 = .ok (.iload 4, 2) := by decide +kernel
theorem dX10_equal_19 : decode cX10_equal 19 = .ok (.ifCond .ge 5, 3) := by decide +kernel
theorem dX10_equal_22 : decode cX10_equal 22 = .ok (.iconst (-1), 1) := by decide +kernel
theorem dX10_equal_23 : decode cX10_equal 23 = .ok (.ireturn, 1) := by decide +kernel
theorem dX10_equal_24 : decode cX10_equal 24 = .ok (.aload_n 0, 1) := by decide +kernel
theorem dX10_equal_25 : decode cX10_equal 25 = .ok (.getfield 50, 3) := by decide +kernel
theorem dX10_equal_28 : decode cX10_equal 28 = .ok (.iload_n 3, 1) := by decide +kernel
theorem dX10_equal_29 : decode cX10_equal 29 = .ok (.iaload, 1) := by decide +kernel
theorem dX10_equal_30 : decode cX10_equal 30 = .ok (.aload_n 0, 1) := by decide +kernel
theorem dX10_equal_31 : decode cX10_equal 31 = .ok (.getfield 50, 3) := by decide +kernel
theorem dX10_equal_34 : decode cX10_equal 34 = .ok (.iload 4, 2) := by decide +kernel
theorem dX10_equal_36 : decode cX10_equal 36 = .ok (.iaload, 1) := by decide +kernel
theorem dX10_equal_37 : decode cX10_equal 37 = .ok (.if_icmp .ne 39, 3) := by decide +kernel
theorem dX10_equal_40 : decode cX10_equal 40 = .ok (.aload_n 0, 1) := by decide +kernel
theorem dX10_equal_41 : decode cX10_equal 41 = .ok (.getfield 53, 3) := by decide +kernel
theorem dX10_equal_44 : decode cX10_equal 44 = .ok (.iload_n 3, 1) := by decide +kernel
theorem dX10_equal_45 : decode cX10_equal 45 = .ok (.iaload, 1) := by decide +kernel
theorem dX10_equal_46 : decode cX10_equal 46 = .ok (.aload_n 0, 1) := by decide +kernel
theorem dX10_equal_47 : decode cX10_equal 47 = .ok (.getfield 53, 3) := by decide +kernel
theorem dX10_equal_50 : decode cX10_equal 50 = .ok (.iload 4, 2) := by decide +kernel
theorem dX10_equal_52 : decode cX10_equal 52 = .ok (.iaload, 1) := by decide +kernel
theorem dX10_equal_53 : decode cX10_equal 53 = .ok (.if_icmp .ne 23, 3) := by decide +kernel
theorem dX10_equal_56 : decode cX10_equal 56 = .ok (.aload_n 0, 1) := by decide +kernel
theorem dX10_equal_57 : decode cX10_equal 57 = .ok (.getfield 56, 3) := by decide +kernel
theorem dX10_equal_60 : decode cX10_equal 60 = .ok (.iload_n 3, 1) := by decide +kernel
theorem dX10_equal_61 : decode cX10_equal 61 = .ok (.iaload, 1) := by decide +kernel
theorem dX10_equal_62 : decode cX10_equal 62 = .ok (.aload_n 0, 1) := by decide +kernel
theorem dX10_equal_63 : decode cX10_equal 63 = .ok (.getfield 56, 3) := by decide +kernel
theorem dX10_equal_66 : decode cX10_equal 66 = .ok (.iload 4, 2) := by decide +kernel
theorem dX10_equal_68 : decode cX10_equal 68 = .ok (.iaload, 1) := by decide +kernel
theorem dX10_equal_69 : decode cX10_equal 69 = .ok (.if_icmp .ne 7, 3) := by decide +kernel
theorem dX10_equal_72 : decode cX10_equal 72 = .ok (.iconst 1, 1) := by decide +kernel
theorem dX10_equal_73 : decode cX10_equal 73 = .ok (.goto 4, 3) := by decide +kernel
theorem dX10_equal_76 : decode cX10_equal 76 = .ok (.iconst 0, 1) := by decide +kernel
theorem dX10_equal_77 : decode cX10_equal 77 = .ok (.istore 5, 2) := by decide +kernel
theorem dX10_equal_79 : decode cX10_equal 79 = .ok (.iconst 0, 1) := by decide +kernel
theorem dX10_equal_80 : decode cX10_equal 80 = .ok (.istore 6, 2) := by decide +kernel
theorem dX10_equal_82 : decode cX10_equal 82 = .ok (.iload 6, 2) := by decide +kernel
theorem dX10_equal_84 : decode cX10_equal 84 = .ok (.aload_n 0, 1) := by decide +kernel
theorem dX10_equal_85 : decode cX10_equal 85 = .ok (.getfield 53, 3) := by decide +kernel
theorem dX10_equal_88 : decode cX10_equal 88 = .ok (.iload_n 3, 1) := by decide +kernel
theorem dX10_equal_89 : decode cX10_equal 89 = .ok (.iaload, 1) := by decide +kernel
theorem dX10_equal_90 : decode cX10_equal 90 = .ok (.if_icmp .ge 86, 3) := by decide +kernel
theorem dX10_equal_93 : decode cX10_equal 93 = .ok (.iload 5, 2) := by decide +kernel
theorem dX10_equal_95 : decode cX10_equal 95 = .ok (.ifCond .eq 81, 3) := by decide +kernel
theorem dX10_equal_98 : decode cX10_equal 98 = .ok (.aload_n 0, 1) := by decide +kernel
theorem dX10_equal_99 : decode cX10_equal 99 = .ok (.getfield 59, 3) := by decide +kernel
theorem dX10_equal_102 : decode cX10_equal 102 = .ok (.bipush 16, 2) := by decide +kernel
theorem dX10_equal_104 : decode cX10_equal 104 = .ok (.iload_n 3, 1) := by decide +kernel
theorem dX10_equal_105 : decode cX10_equal 105 = .ok (.imul, 1) := by decide +kernel
theorem dX10_equal_106 : decode cX10_equal 106 = .ok (.iload 6, 2) := by decide +kernel
theorem dX10_equal_108 : decode cX10_equal 108 = .ok (.iadd, 1) := by decide +kernel
theorem dX10_equal_109 : decode cX10_equal 109 = .ok (.daload, 1) := by decide +kernel
theorem dX10_equal_110 : decode cX10_equal 110 = .ok (.dstore 7, 2) := by decide +kernel
theorem dX10_equal_112 : decode cX10_equal 112 = .ok (.aload_n 0, 1) := by decide +kernel
theorem dX10_equal_113 : decode cX10_equal 113 = .ok (.getfield 59, 3) := by decide +kernel
theorem dX10_equal_116 : decode cX10_equal 116 = .ok (.bipush 16, 2) := by decide +kernel
theorem dX10_equal_118 : decode cX10_equal 118 = .ok (.iload 4, 2) := by decide +kernel
theorem dX10_equal_120 : decode cX10_equal 120 = .ok (.imul, 1) := by decide +kernel
theorem dX10_equal_121 : decode cX10_equal 121 = .ok (.iload 6, 2) := by decide +kernel
theorem dX10_equal_123 : decode cX10_equal 123 = .ok (.iadd, 1) := by decide +kernel
theorem dX10_equal_124 : decode cX10_equal 124 = .ok (.daload, 1) := by decide +kernel
theorem dX10_equal_125 : decode cX10_equal 125 = .ok (.dstore 9, 2) := by decide +kernel
theorem dX10_equal_127 : decode cX10_equal 127 = .ok (.aload_n 0, 1) := by decide +kernel
theorem dX10_equal_128 : decode cX10_equal 128 = .ok (.getfield 56, 3) := by decide +kernel
theorem dX10_equal_131 : decode cX10_equal 131 = .ok (.iload_n 3, 1) := by decide +kernel
theorem dX10_equal_132 : decode cX10_equal 132 = .ok (.iaload, 1) := by decide +kernel
theorem dX10_equal_133 : decode cX10_equal 133 = .ok (.iload 6, 2) := by decide +kernel
theorem dX10_equal_135 : decode cX10_equal 135 = .ok (.ishr, 1) := by decide +kernel
theorem dX10_equal_136 : decode cX10_equal 136 = .ok (.iconst 1, 1) := by decide +kernel
theorem dX10_equal_137 : decode cX10_equal 137 = .ok (.iand, 1) := by decide +kernel
theorem dX10_equal_138 : decode cX10_equal 138 = .ok (.iconst 1, 1) := by decide +kernel
theorem dX10_equal_139 : decode cX10_equal 139 = .ok (.if_icmp .eq 24, 3) := by decide +kernel
theorem dX10_equal_142 : decode cX10_equal 142 = .ok (.dload 7, 2) := by decide +kernel
theorem dX10_equal_144 : decode cX10_equal 144 = .ok (.dload 9, 2) := by decide +kernel
theorem dX10_equal_146 : decode cX10_equal 146 = .ok (.dcmp .l, 1) := by decide +kernel
theorem dX10_equal_147 : decode cX10_equal 147 = .ok (.ifCond .ne 20, 3) := by decide +kernel
theorem dX10_equal_150 : decode cX10_equal 150 = .ok (.dload 7, 2) := by decide +kernel
theorem dX10_equal_152 : decode cX10_equal 152 = .ok (.invokestatic 243, 3) := by decide +kernel
theorem dX10_equal_155 : decode cX10_equal 155 = .ok (.dload 9, 2) := by decide +kernel
theorem dX10_equal_157 : decode cX10_equal 157 = .ok (.invokestatic 243, 3) := by decide +kernel
theorem dX10_equal_160 : decode cX10_equal 160 = .ok (.if_icmp .ne 7, 3) := by decide +kernel
theorem dX10_equal_163 : decode cX10_equal 163 = .ok (.iconst 1, 1) := by decide +kernel
theorem dX10_equal_164 : decode cX10_equal 164 = .ok (.goto 4, 3) := by decide +kernel
theorem dX10_equal_167 : decode cX10_equal 167 = .ok (.iconst 0, 1) := by decide +kernel
theorem dX10_equal_168 : decode cX10_equal 168 = .ok (.istore 5, 2) := by decide +kernel
theorem dX10_equal_170 : decode cX10_equal 170 = .ok (.iinc 6 1, 3) := by decide +kernel
theorem dX10_equal_173 : decode cX10_equal 173 = .ok (.goto (-91), 3) := by decide +kernel
theorem dX10_equal_176 : decode cX10_equal 176 = .ok (.iload 5, 2) := by decide +kernel
theorem dX10_equal_178 : decode cX10_equal 178 = .ok (.ifCond .eq 7, 3) := by decide +kernel
theorem dX10_equal_181 : decode cX10_equal 181 = .ok (.iconst 1, 1) := by decide +kernel
theorem dX10_equal_182 : decode cX10_equal 182 = .ok (.goto 4, 3) := by decide +kernel
theorem dX10_equal_185 : decode cX10_equal 185 = .ok (.iconst 0, 1) := by decide +kernel
theorem dX10_equal_186 : decode cX10_equal 186 = .ok (.ireturn, 1) := by decide +kernel
theorem dX10_row_0 : decode cX10_row 0 = .ok (.aload_n 0, 1) := by decide +kernel
theorem dX10_row_1 : decode cX10_row 1 = .ok (.iload_n 1, 1) := by decide +kernel
theorem dX10_row_2 : decode cX10_row 2 = .ok (.invokevirtual 76, 3) := by decide +kernel
theorem dX10_row_5 : decode cX10_row 5 = .ok (.ifCond .eq 12, 3) := by decide +kernel
theorem dX10_row_8 : decode cX10_row 8 = .ok (.iload_n 2, 1) := by decide +kernel
theorem dX10_row_9 : decode cX10_row 9 = .ok (.iconst 0, 1) := by decide +kernel
theorem dX10_row_10 : decode cX10_row 10 = .ok (.iconst 3, 1) := by decide +kernel
theorem dX10_row_11 : decode cX10_row 11 = .ok (.invokestatic 72, 3) := by decide +kernel
theorem dX10_row_14 : decode cX10_row 14 = .ok (.ifCond .ne 6, 3) := by decide +kernel
theorem dX10_row_17 : decode cX10_row 17 = .ok (.bipush (-2), 2) := by decide +kernel
theorem dX10_row_19 : decode cX10_row 19 = .ok (.ireturn, 1) := by decide +kernel
theorem dX10_row_20 : decode cX10_row 20 = .ok (.aload_n 0, 1) := by decide +kernel
theorem dX10_row_21 : decode cX10_row 21 = .ok (.iload_n 1, 1) := by decide +kernel
theorem dX10_row_22 : decode cX10_row 22 = .ok (.invokevirtual 106, 3) := by decide +kernel
theorem dX10_row_25 : decode cX10_row 25 = .ok (.ifCond .ge 5, 3) := by decide +kernel
theorem dX10_row_28 : decode cX10_row 28 = .ok (.iconst (-1), 1) := by decide +kernel
theorem dX10_row_29 : decode cX10_row 29 = .ok (.ireturn, 1) := by decide +kernel
theorem dX10_row_30 : decode cX10_row 30 = .ok (.aload_n 0, 1) := by decide +kernel
theorem dX10_row_31 : decode cX10_row 31 = .ok (.getfield 13, 3) := by decide +kernel
theorem dX10_row_34 : decode cX10_row 34 = .ok (.aload_n 0, 1) := by decide +kernel
theorem dX10_row_35 : decode cX10_row 35 = .ok (.iload_n 1, 1) := by decide +kernel
theorem dX10_row_36 : decode cX10_row 36 = .ok (.iconst 0, 1) := by decide +kernel
theorem dX10_row_37 : decode cX10_row 37 = .ok (.invokevirtual 91, 3) := by decide +kernel
theorem dX10_row_40 : decode cX10_row 40 = .ok (.iconst 1, 1) := by decide +kernel
theorem dX10_row_41 : decode cX10_row 41 = .ok (.iadd, 1) := by decide +kernel
theorem dX10_row_42 : decode cX10_row 42 = .ok (.iaload, 1) := by decide +kernel
theorem dX10_row_43 : decode cX10_row 43 = .ok (.istore_n 3, 1) := by decide +kernel
theorem dX10_row_44 : decode cX10_row 44 = .ok (.iconst 0, 1) := by decide +kernel
theorem dX10_row_45 : decode cX10_row 45 = .ok (.istore 4, 2) := by decide +kernel
theorem dX10_row_47 : decode cX10_row 47 = .ok (.iconst 1, 1) := by decide +kernel
theorem dX10_row_48 : decode cX10_row 48 = .ok (.istore 5, 2) := by decide +kernel
theorem dX10_row_50 : decode cX10_row 50 = .ok (.iconst 0, 1) := by decide +kernel
theorem dX10_row_51 : decode cX10_row 51 = .ok (.istore 6, 2) := by decide +kernel
theorem dX10_row_53 : decode cX10_row 53 = .ok (.iload 6, 2) := by decide +kernel
theorem dX10_row_55 : decode cX10_row 55 = .ok (.iload_n 3, 1) := by decide +kernel
theorem dX10_row_56 : decode cX10_row 56 = .ok (.if_icmp .ge 67, 3) := by decide +kernel
theorem dX10_row_59 : decode cX10_row 59 = .ok (.aload_n 0, 1) := by decide +kernel
theorem dX10_row_60 : decode cX10_row 60 = .ok (.iload_n 1, 1) := by decide +kernel
theorem dX10_row_61 : decode cX10_row 61 = .ok (.iload 6, 2) := by decide +kernel
theorem dX10_row_63 : decode cX10_row 63 = .ok (.invokevirtual 247, 3) := by decide +kernel
theorem dX10_row_66 : decode cX10_row 66 = .ok (.istore 7, 2) := by decide +kernel
theorem dX10_row_68 : decode cX10_row 68 = .ok (.iload 4, 2) := by decide +kernel
theorem dX10_row_70 : decode cX10_row 70 = .ok (.iload 7, 2) := by decide +kernel
theorem dX10_row_72 : decode cX10_row 72 = .ok (.ifCond .eq 7, 3) := by decide +kernel
theorem dX10_row_75 : decode cX10_row 75 = .ok (.iconst 1, 1) := by decide +kernel
theorem dX10_row_76 : decode cX10_row 76 = .ok (.goto 4, 3) := by decide +kernel
theorem dX10_row_79 : decode cX10_row 79 = .ok (.iconst 0, 1) := by decide +kernel
theorem dX10_row_80 : decode cX10_row 80 = .ok (.iadd, 1) := by decide +kernel
theorem dX10_row_81 : decode cX10_row 81 = .ok (.istore 4, 2) := by decide +kernel
theorem dX10_row_83 : decode cX10_row 83 = .ok (.iload 5, 2) := by decide +kernel
theorem dX10_row_85 : decode cX10_row 85 = .ok (.ifCond .eq 29, 3) := by decide +kernel
theorem dX10_row_88 : decode cX10_row 88 = .ok (.iload 7, 2) := by decide +kernel
theorem dX10_row_90 : decode cX10_row 90 = .ok (.ifCond .ne 24, 3) := by decide +kernel
theorem dX10_row_93 : decode cX10_row 93 = .ok (.aload_n 0, 1) := by decide +kernel
theorem dX10_row_94 : decode cX10_row 94 = .ok (.getfield 7, 3) := by decide +kernel
theorem dX10_row_97 : decode cX10_row 97 = .ok (.bipush 82, 2) := by decide +kernel
theorem dX10_row_99 : decode cX10_row 99 = .ok (.iload_n 1, 1) := by decide +kernel
theorem dX10_row_100 : decode cX10_row 100 = .ok (.imul, 1) := by decide +kernel
theorem dX10_row_101 : decode cX10_row 101 = .ok (.iload 6, 2) := by decide +kernel
theorem dX10_row_103 : decode cX10_row 103 = .ok (.iadd, 1) := by decide +kernel
theorem dX10_row_104 : decode cX10_row 104 = .ok (.daload, 1) := by decide +kernel
theorem dX10_row_105 : decode cX10_row 105 = .ok (.dconst 0, 1) := by decide +kernel
theorem dX10_row_106 : decode cX10_row 106 = .ok (.dcmp .l, 1) := by decide +kernel
theorem dX10_row_107 : decode cX10_row 107 = .ok (.ifCond .ne 7, 3) := by decide +kernel
theorem dX10_row_110 : decode cX10_row 110 = .ok (.iconst 1, 1) := by decide +kernel
theorem dX10_row_111 : decode cX10_row 111 = .ok (.goto 4, 3) := by decide +kernel
theorem dX10_row_114 : decode cX10_row 114 = .ok (.iconst 0, 1) := by decide +kernel
theorem dX10_row_115 : decode cX10_row 115 = .ok (.istore 5, 2) := by decide +kernel
theorem dX10_row_117 : decode cX10_row 117 = .ok (.iinc 6 1, 3) := by decide +kernel
theorem dX10_row_120 : decode cX10_row 120 = .ok (.goto (-67), 3) := by decide +kernel
theorem dX10_row_123 : decode cX10_row 123 = .ok (.iload_n 2, 1) := by decide +kernel
theorem dX10_row_124 : decode cX10_row 124 = .ok (.ifCond .ne 11, 3) := by decide +kernel
theorem dX10_row_127 : decode cX10_row 127 = .ok (.aload_n 0, 1) := by decide +kernel
theorem dX10_row_128 : decode cX10_row 128 = .ok (.iload_n 1, 1) := by decide +kernel
theorem dX10_row_129 : decode cX10_row 129 = .ok (.invokevirtual 106, 3) := by decide +kernel
theorem dX10_row_132 : decode cX10_row 132 = .ok (.goto 32, 3) := by decide +kernel
theorem dX10_row_135 : decode cX10_row 135 = .ok (.iload_n 2, 1) := by decide +kernel
theorem dX10_row_136 : decode cX10_row 136 = .ok (.iconst 1, 1) := by decide +kernel
theorem dX10_row_137 : decode cX10_row 137 = .ok (.if_icmp .ne 7, 3) := by decide +kernel
theorem dX10_row_140 : decode cX10_row 140 = .ok (.iload_n 3, 1) := by decide +kernel
theorem dX10_row_141 : decode cX10_row 141 = .ok (.goto 23, 3) := by decide +kernel
theorem dX10_row_144 : decode cX10_row 144 = .ok (.iload_n 2, 1) := by decide +kernel
theorem dX10_row_145 : decode cX10_row 145 = .ok (.iconst 2, 1) := by decide +kernel
theorem dX10_row_146 : decode cX10_row 146 = .ok (.if_icmp .ne 16, 3) := by decide +kernel
theorem dX10_row_149 : decode cX10_row 149 = .ok (.iload 5, 2) := by decide +kernel
theorem dX10_row_151 : decode cX10_row 151 = .ok (.ifCond .eq 7, 3) := by decide +kernel
theorem dX10_row_154 : decode cX10_row 154 = .ok (.iconst 1, 1) := by decide +kernel
theorem dX10_row_155 : decode cX10_row 155 = .ok (.goto 9, 3) := by decide +kernel
theorem dX10_row_158 : decode cX10_row 158 = .ok (.iconst 0, 1) := by decide +kernel
theorem dX10_row_159 : decode cX10_row 159 = .ok (.goto 5, 3) := by decide +kernel
theorem dX10_row_162 : decode cX10_row 162 = .ok (.iload 4, 2) := by decide +kernel
theorem dX10_row_164 : decode cX10_row 164 = .ok (.ireturn, 1) := by decide +kernel
theorem dX10_hasGiven_0 : decode cX10_hasGiven 0 = .ok (.aload_n 0, 1) := by decide +kernel
theorem dX10_hasGiven_1 : decode cX10_hasGiven 1 = .ok (.iload_n 1, 1) := by decide +kernel
theorem dX10_hasGiven_2 : decode cX10_hasGiven 2 = .ok (.invokevirtual 76, 3) := by decide +kernel
theorem dX10_hasGiven_5 : decode cX10_hasGiven 5 = .ok (.ifCond .eq 38, 3) := by decide +kernel
theorem dX10_hasGiven_8 : decode cX10_hasGiven 8 = .ok (.aload_n 0, 1) := by decide +kernel
theorem dX10_hasGiven_9 : decode cX10_hasGiven 9 = .ok (.iload_n 1, 1) := by decide +kernel
theorem dX10_hasGiven_10 : decode cX10_hasGiven 10 = .ok (.invokevirtual 106, 3) := by decide +kernel
theorem dX10_hasGiven_13 : decode cX10_hasGiven 13 = .ok (.ifCond .lt 30, 3) := by decide +kernel
theorem dX10_hasGiven_16 : decode cX10_hasGiven 16 = .ok (.iload_n 2, 1) := by decide +kernel
theorem dX10_hasGiven_17 : decode cX10_hasGiven 17 = .ok (.iconst 0, 1) := by decide +kernel
theorem dX10_hasGiven_18 : decode cX10_hasGiven 18 = .ok (.aload_n 0, 1) := by decide +kernel
theorem dX10_hasGiven_19 : decode cX10_hasGiven 19 = .ok (.getfield 13, 3) := by decide +kernel
theorem dX10_hasGiven_22 : decode cX10_hasGiven 22 = .ok (.aload_n 0, 1) := by decide +kernel
theorem dX10_hasGiven_23 : decode cX10_hasGiven 23 = .ok (.iload_n 1, 1) := by decide +kernel
theorem dX10_hasGiven_24 : decode cX10_hasGiven 24 = .ok (.iconst 0, 1) := by decide +kernel
theorem dX10_hasGiven_25 : decode cX10_hasGiven 25 = .ok (.invokevirtual 91, 3) := by decide +kernel
theorem dX10_hasGiven_28 : decode cX10_hasGiven 28 = .ok (.iconst 1, 1) := by decide +kernel
theorem dX10_hasGiven_29 : decode cX10_hasGiven 29 = .ok (.iadd, 1) := by decide +kernel
theorem dX10_hasGiven_30 : decode cX10_hasGiven 30 = .ok (.iaload, 1) := by decide +kernel
theorem dX10_hasGiven_31 : decode cX10_hasGiven 31 = .ok (.iconst 1, 1) := by decide +kernel
theorem dX10_hasGiven_32 : decode cX10_hasGiven 32 = .ok (.isub, 1) := by decide +kernel
theorem dX10_hasGiven_33 : decode cX10_hasGiven 33 = .ok (.invokestatic 72, 3) := by decide +kernel
theorem dX10_hasGiven_36 : decode cX10_hasGiven 36 = .ok (.ifCond .eq 7, 3) := by decide +kernel
theorem dX10_hasGiven_39 : decode cX10_hasGiven 39 = .ok (.iconst 1, 1) := by decide +kernel
theorem dX10_hasGiven_40 : decode cX10_hasGiven 40 = .ok (.goto 4, 3) := by decide +kernel
theorem dX10_hasGiven_43 : decode cX10_hasGiven 43 = .ok (.iconst 0, 1) := by decide +kernel
theorem dX10_hasGiven_44 : decode cX10_hasGiven 44 = .ok (.ireturn, 1) := by decide +kernel
theorem dX10_sample_0 : decode cX10_sample 0 = .ok (.aload_n 0, 1) := by decide +kernel
theorem dX10_sample_1 : decode cX10_sample 1 = .ok (.iload_n 1, 1) := by decide +kernel
theorem dX10_sample_2 : decode cX10_sample 2 = .ok (.iload_n 2, 1) := by decide +kernel
theorem dX10_sample_3 : decode cX10_sample 3 = .ok (.invokevirtual 250, 3) := by decide +kernel
theorem dX10_sample_6 : decode cX10_sample 6 = .ok (.ifCond .eq 26, 3) := by decide +kernel
theorem dX10_sample_9 : decode cX10_sample 9 = .ok (.aload_n 0, 1) := by decide +kernel
theorem dX10_sample_10 : decode cX10_sample 10 = .ok (.iload_n 1, 1) := by decide +kernel
theorem dX10_sample_11 : decode cX10_sample 11 = .ok (.iload_n 2, 1) := by decide +kernel
theorem dX10_sample_12 : decode cX10_sample 12 = .ok (.invokevirtual 247, 3) := by decide +kernel
theorem dX10_sample_15 : decode cX10_sample 15 = .ok (.ifCond .ne 17, 3) := by decide +kernel
theorem dX10_sample_18 : decode cX10_sample 18 = .ok (.aload_n 0, 1) := by decide +kernel
theorem dX10_sample_19 : decode cX10_sample 19 = .ok (.getfield 7, 3) := by decide +kernel
theorem dX10_sample_22 : decode cX10_sample 22 = .ok (.bipush 82, 2) := by decide +kernel
theorem dX10_sample_24 : decode cX10_sample 24 = .ok (.iload_n 1, 1) := by decide +kernel
theorem dX10_sample_25 : decode cX10_sample 25 = .ok (.imul, 1) := by decide +kernel
theorem dX10_sample_26 : decode cX10_sample 26 = .ok (.iload_n 2, 1) := by decide +kernel
theorem dX10_sample_27 : decode cX10_sample 27 = .ok (.iadd, 1) := by decide +kernel
theorem dX10_sample_28 : decode cX10_sample 28 = .ok (.daload, 1) := by decide +kernel
theorem dX10_sample_29 : decode cX10_sample 29 = .ok (.goto 4, 3) := by decide +kernel
theorem dX10_sample_32 : decode cX10_sample 32 = .ok (.dconst 0, 1) := by decide +kernel
theorem dX10_sample_33 : decode cX10_sample 33 = .ok (.dreturn, 1) := by decide +kernel
theorem dX10_isNone_0 : decode cX10_isNone 0 = .ok (.aload_n 0, 1) := by decide +kernel
theorem dX10_isNone_1 : decode cX10_isNone 1 = .ok (.iload_n 1, 1) := by decide +kernel
theorem dX10_isNone_2 : decode cX10_isNone 2 = .ok (.iload_n 2, 1) := by decide +kernel
theorem dX10_isNone_3 : decode cX10_isNone 3 = .ok (.invokevirtual 250, 3) := by decide +kernel
theorem dX10_isNone_6 : decode cX10_isNone 6 = .ok (.ifCond .eq 28, 3) := by decide +kernel
theorem dX10_isNone_9 : decode cX10_isNone 9 = .ok (.aload_n 0, 1) := by decide +kernel
theorem dX10_isNone_10 : decode cX10_isNone 10 = .ok (.getfield 13, 3) := by decide +kernel
theorem dX10_isNone_13 : decode cX10_isNone 13 = .ok (.aload_n 0, 1) := by decide +kernel
theorem dX10_isNone_14 : decode cX10_isNone 14 = .ok (.iload_n 1, 1) := by decide +kernel
theorem dX10_isNone_15 : decode cX10_isNone 15 = .ok (.iconst 0, 1) := by decide +kernel
theorem dX10_isNone_16 : decode cX10_isNone 16 = .ok (.invokevirtual 91, 3) := by decide +kernel
theorem dX10_isNone_19 : decode cX10_isNone 19 = .ok (.iconst 2, 1) := by decide +kernel
theorem dX10_isNone_20 : decode cX10_isNone 20 = .ok (.iadd, 1) := by decide +kernel
theorem dX10_isNone_21 : decode cX10_isNone 21 = .ok (.iaload, 1) := by decide +kernel
theorem dX10_isNone_22 : decode cX10_isNone 22 = .ok (.iload_n 2, 1) := by decide +kernel
theorem dX10_isNone_23 : decode cX10_isNone 23 = .ok (.ishr, 1) := by decide +kernel
theorem dX10_isNone_24 : decode cX10_isNone 24 = .ok (.iconst 1, 1) := by decide +kernel
theorem dX10_isNone_25 : decode cX10_isNone 25 = .ok (.iand, 1) := by decide +kernel
theorem dX10_isNone_26 : decode cX10_isNone 26 = .ok (.iconst 1, 1) := by decide +kernel
theorem dX10_isNone_27 : decode cX10_isNone 27 = .ok (.if_icmp .ne 7, 3) := by decide +kernel
theorem dX10_isNone_30 : decode cX10_isNone 30 = .ok (.iconst 1, 1) := by decide +kernel
theorem dX10_isNone_31 : decode cX10_isNone 31 = .ok (.goto 4, 3) := by decide +kernel
theorem dX10_isNone_34 : decode cX10_isNone 34 = .ok (.iconst 0, 1) := by decide +kernel
theorem dX10_isNone_35 : decode cX10_isNone 35 = .ok (.ireturn, 1) := by decide +kernel
theorem dX10_order_0 : decode cX10_order 0 = .ok (.iload_n 1, 1) := by decide +kernel
theorem dX10_order_1 : decode cX10_order 1 = .ok (.iconst 0, 1) := by decide +kernel
theorem dX10_order_2 : decode cX10_order 2 = .ok (.aload_n 0, 1) := by decide +kernel
theorem dX10_order_3 : decode cX10_order 3 = .ok (.getfield 68, 3) := by decide +kernel
theorem dX10_order_6 : decode cX10_order 6 = .ok (.iconst 1, 1) := by decide +kernel
theorem dX10_order_7 : decode cX10_order 7 = .ok (.isub, 1) := by decide +kernel
theorem dX10_order_8 : decode cX10_order 8 = .ok (.invokestatic 72, 3) := by decide +kernel
theorem dX10_order_11 : decode cX10_order 11 = .ok (.ifCond .ne 5, 3) := by decide +kernel
theorem dX10_order_14 : decode cX10_order 14 = .ok (.iconst (-1), 1) := by decide +kernel
theorem dX10_order_15 : decode cX10_order 15 = .ok (.ireturn, 1) := by decide +kernel
theorem dX10_order_16 : decode cX10_order 16 = .ok (.aload_n 0, 1) := by decide +kernel
theorem dX10_order_17 : decode cX10_order 17 = .ok (.invokevirtual 216, 3) := by decide +kernel
theorem dX10_order_20 : decode cX10_order 20 = .ok (.aload_n 0, 1) := by decide +kernel
theorem dX10_order_21 : decode cX10_order 21 = .ok (.getfield 35, 3) := by decide +kernel
theorem dX10_order_24 : decode cX10_order 24 = .ok (.iload_n 1, 1) := by decide +kernel
theorem dX10_order_25 : decode cX10_order 25 = .ok (.iaload, 1) := by decide +kernel
theorem dX10_order_26 : decode cX10_order 26 = .ok (.ireturn, 1) := by decide +kernel
theorem dX10_trace_0 : decode cX10_trace 0 = .ok (.iload_n 1, 1) := by decide +kernel
theorem dX10_trace_1 : decode cX10_trace 1 = .ok (.iconst 0, 1) := by decide +kernel
theorem dX10_trace_2 : decode cX10_trace 2 = .ok (.aload_n 0, 1) := by decide +kernel
theorem dX10_trace_3 : decode cX10_trace 3 = .ok (.getfield 210, 3) := by decide +kernel
theorem dX10_trace_6 : decode cX10_trace 6 = .ok (.iconst 1, 1) := by decide +kernel
theorem dX10_trace_7 : decode cX10_trace 7 = .ok (.isub, 1) := by decide +kernel
theorem dX10_trace_8 : decode cX10_trace 8 = .ok (.invokestatic 72, 3) := by decide +kernel
theorem dX10_trace_11 : decode cX10_trace 11 = .ok (.ifCond .eq 12, 3) := by decide +kernel
theorem dX10_trace_14 : decode cX10_trace 14 = .ok (.aload_n 0, 1) := by decide +kernel
theorem dX10_trace_15 : decode cX10_trace 15 = .ok (.getfield 38, 3) := by decide +kernel
theorem dX10_trace_18 : decode cX10_trace 18 = .ok (.iload_n 1, 1) := by decide +kernel
theorem dX10_trace_19 : decode cX10_trace 19 = .ok (.iaload, 1) := by decide +kernel
theorem dX10_trace_20 : decode cX10_trace 20 = .ok (.goto 4, 3) := by decide +kernel
theorem dX10_trace_23 : decode cX10_trace 23 = .ok (.iconst 0, 1) := by decide +kernel
theorem dX10_trace_24 : decode cX10_trace 24 = .ok (.ireturn, 1) := by decide +kernel
theorem dX10_finding_0 : decode cX10_finding 0 = .ok (.aload_n 0, 1) := by decide +kernel
theorem dX10_finding_1 : decode cX10_finding 1 = .ok (.getfield 94, 3) := by decide +kernel
theorem dX10_finding_4 : decode cX10_finding 4 = .ok (.ifCond .eq 12, 3) := by decide +kernel
theorem dX10_finding_7 : decode cX10_finding 7 = .ok (.iload_n 1, 1) := by decide +kernel
theorem dX10_finding_8 : decode cX10_finding 8 = .ok (.iconst 0, 1) := by decide +kernel
theorem dX10_finding_9 : decode cX10_finding 9 = .ok (.iconst 2, 1) := by decide +kernel
theorem dX10_finding_10 : decode cX10_finding 10 = .ok (.invokestatic 72, 3) := by decide +kernel
theorem dX10_finding_13 : decode cX10_finding 13 = .ok (.ifCond .ne 5, 3) := by decide +kernel
theorem dX10_finding_16 : decode cX10_finding 16 = .ok (.iconst (-1), 1) := by decide +kernel
theorem dX10_finding_17 : decode cX10_finding 17 = .ok (.ireturn, 1) := by decide +kernel
theorem dX10_finding_18 : decode cX10_finding 18 = .ok (.iload_n 1, 1) := by decide +kernel
theorem dX10_finding_19 : decode cX10_finding 19 = .ok (.ifCond .ne 10, 3) := by decide +kernel
theorem dX10_finding_22 : decode cX10_finding 22 = .ok (.aload_n 0, 1) := by decide +kernel
theorem dX10_finding_23 : decode cX10_finding 23 = .ok (.getfield 94, 3) := by decide +kernel
theorem dX10_finding_26 : decode cX10_finding 26 = .ok (.goto 19, 3) := by decide +kernel
theorem dX10_finding_29 : decode cX10_finding 29 = .ok (.iload_n 1, 1) := by decide +kernel
theorem dX10_finding_30 : decode cX10_finding 30 = .ok (.iconst 1, 1) := by decide +kernel
theorem dX10_finding_31 : decode cX10_finding 31 = .ok (.if_icmp .ne 10, 3) := by decide +kernel
theorem dX10_finding_34 : decode cX10_finding 34 = .ok (.aload_n 0, 1) := by decide +kernel
theorem dX10_finding_35 : decode cX10_finding 35 = .ok (.getfield 97, 3) := by decide +kernel
theorem dX10_finding_38 : decode cX10_finding 38 = .ok (.goto 7, 3) := by decide +kernel
theorem dX10_finding_41 : decode cX10_finding 41 = .ok (.aload_n 0, 1) := by decide +kernel
theorem dX10_finding_42 : decode cX10_finding 42 = .ok (.getfield 100, 3) := by decide +kernel
theorem dX10_finding_45 : decode cX10_finding 45 = .ok (.ireturn, 1) := by decide +kernel
theorem dX10_count_0 : decode cX10_count 0 = .ok (.iload_n 1, 1) := by decide +kernel
theorem dX10_count_1 : decode cX10_count 1 = .ok (.bipush 10, 2) := by decide +kernel
theorem dX10_count_3 : decode cX10_count 3 = .ok (.bipush 9, 2) := by decide +kernel
theorem dX10_count_5 : decode cX10_count 5 = .ok (.aload_n 0, 1) := by decide +kernel
theorem dX10_count_6 : decode cX10_count 6 = .ok (.getfield 68, 3) := by decide +kernel
theorem dX10_count_9 : decode cX10_count 9 = .ok (.iadd, 1) := by decide +kernel
theorem dX10_count_10 : decode cX10_count 10 = .ok (.invokestatic 72, 3) := by decide +kernel
theorem dX10_count_13 : decode cX10_count 13 = .ok (.ifCond .eq 19, 3) := by decide +kernel
theorem dX10_count_16 : decode cX10_count 16 = .ok (.aload_n 0, 1) := by decide +kernel
theorem dX10_count_17 : decode cX10_count 17 = .ok (.getfield 13, 3) := by decide +kernel
theorem dX10_count_20 : decode cX10_count 20 = .ok (.bipush 20, 2) := by decide +kernel
theorem dX10_count_22 : decode cX10_count 22 = .ok (.iload_n 1, 1) := by decide +kernel
theorem dX10_count_23 : decode cX10_count 23 = .ok (.bipush 10, 2) := by decide +kernel
theorem dX10_count_25 : decode cX10_count 25 = .ok (.isub, 1) := by decide +kernel
theorem dX10_count_26 : decode cX10_count 26 = .ok (.imul, 1) := by decide +kernel
theorem dX10_count_27 : decode cX10_count 27 = .ok (.bipush 17, 2) := by decide +kernel
theorem dX10_count_29 : decode cX10_count 29 = .ok (.iadd, 1) := by decide +kernel
theorem dX10_count_30 : decode cX10_count 30 = .ok (.iaload, 1) := by decide +kernel
theorem dX10_count_31 : decode cX10_count 31 = .ok (.ireturn, 1) := by decide +kernel
theorem dX10_count_32 : decode cX10_count 32 = .ok (.iload_n 1, 1) := by decide +kernel
theorem dX10_count_33 : decode cX10_count 33 = .ok (.bipush 40, 2) := by decide +kernel
theorem dX10_count_35 : decode cX10_count 35 = .ok (.bipush 39, 2) := by decide +kernel
theorem dX10_count_37 : decode cX10_count 37 = .ok (.aload_n 0, 1) := by decide +kernel
theorem dX10_count_38 : decode cX10_count 38 = .ok (.getfield 68, 3) := by decide +kernel
theorem dX10_count_41 : decode cX10_count 41 = .ok (.iadd, 1) := by decide +kernel
theorem dX10_count_42 : decode cX10_count 42 = .ok (.invokestatic 72, 3) := by decide +kernel
theorem dX10_count_45 : decode cX10_count 45 = .ok (.ifCond .eq 13, 3) := by decide +kernel
theorem dX10_count_48 : decode cX10_count 48 = .ok (.aload_n 0, 1) := by decide +kernel
theorem dX10_count_49 : decode cX10_count 49 = .ok (.getfield 17, 3) := by decide +kernel
theorem dX10_count_52 : decode cX10_count 52 = .ok (.iload_n 1, 1) := by decide +kernel
theorem dX10_count_53 : decode cX10_count 53 = .ok (.bipush 40, 2) := by decide +kernel
theorem dX10_count_55 : decode cX10_count 55 = .ok (.isub, 1) := by decide +kernel
theorem dX10_count_56 : decode cX10_count 56 = .ok (.iaload, 1) := by decide +kernel
theorem dX10_count_57 : decode cX10_count 57 = .ok (.ireturn, 1) := by decide +kernel
theorem dX10_count_58 : decode cX10_count 58 = .ok (.iconst 0, 1) := by decide +kernel
theorem dX10_count_59 : decode cX10_count 59 = .ok (.istore_n 2, 1) := by decide +kernel
theorem dX10_count_60 : decode cX10_count 60 = .ok (.iconst 0, 1) := by decide +kernel
theorem dX10_count_61 : decode cX10_count 61 = .ok (.istore_n 3, 1) := by decide +kernel
theorem dX10_count_62 : decode cX10_count 62 = .ok (.iload_n 3, 1) := by decide +kernel
theorem dX10_count_63 : decode cX10_count 63 = .ok (.bipush 72, 2) := by decide +kernel
theorem dX10_count_65 : decode cX10_count 65 = .ok (.if_icmp .ge 26, 3) := by decide +kernel
theorem dX10_count_68 : decode cX10_count 68 = .ok (.iload_n 2, 1) := by decide +kernel
theorem dX10_count_69 : decode cX10_count 69 = .ok (.aload_n 0, 1) := by decide +kernel
theorem dX10_count_70 : decode cX10_count 70 = .ok (.getfield 26, 3) := by decide +kernel
theorem dX10_count_73 : decode cX10_count 73 = .ok (.iload_n 3, 1) := by decide +kernel
theorem dX10_count_74 : decode cX10_count 74 = .ok (.iaload, 1) := by decide +kernel
theorem dX10_count_75 : decode cX10_count 75 = .ok (.ifCond .le 7, 3) := by decide +kernel
theorem dX10_count_78 : decode cX10_count 78 = .ok (.iconst 1, 1) := by decide +kernel
theorem dX10_count_79 : decode cX10_count 79 = .ok (.goto 4, 3) := by decide +kernel
theorem dX10_count_82 : decode cX10_count 82 = .ok (.iconst 0, 1) := by decide +kernel
theorem dX10_count_83 : decode cX10_count 83 = .ok (.iadd, 1) := by decide +kernel
theorem dX10_count_84 : decode cX10_count 84 = .ok (.istore_n 2, 1) := by decide +kernel
theorem dX10_count_85 : decode cX10_count 85 = .ok (.iinc 3 1, 3) := by decide +kernel
theorem dX10_count_88 : decode cX10_count 88 = .ok (.goto (-26), 3) := by decide +kernel
theorem dX10_count_91 : decode cX10_count 91 = .ok (.iload_n 1, 1) := by decide +kernel
theorem dX10_count_92 : decode cX10_count 92 = .ok (.tableswitch 58 0 4 #[36, 41, 43, 48, 53], 36) := by decide +kernel
theorem dX10_count_128 : decode cX10_count 128 = .ok (.aload_n 0, 1) := by decide +kernel
theorem dX10_count_129 : decode cX10_count 129 = .ok (.getfield 68, 3) := by decide +kernel
theorem dX10_count_132 : decode cX10_count 132 = .ok (.ireturn, 1) := by decide +kernel
theorem dX10_count_133 : decode cX10_count 133 = .ok (.iload_n 2, 1) := by decide +kernel
theorem dX10_count_134 : decode cX10_count 134 = .ok (.ireturn, 1) := by decide +kernel
theorem dX10_count_135 : decode cX10_count 135 = .ok (.aload_n 0, 1) := by decide +kernel
theorem dX10_count_136 : decode cX10_count 136 = .ok (.getfield 231, 3) := by decide +kernel
theorem dX10_count_139 : decode cX10_count 139 = .ok (.ireturn, 1) := by decide +kernel
theorem dX10_count_140 : decode cX10_count 140 = .ok (.aload_n 0, 1) := by decide +kernel
theorem dX10_count_141 : decode cX10_count 141 = .ok (.getfield 228, 3) := by decide +kernel
theorem dX10_count_144 : decode cX10_count 144 = .ok (.ireturn, 1) := by decide +kernel
theorem dX10_count_145 : decode cX10_count 145 = .ok (.aload_n 0, 1) := by decide +kernel
theorem dX10_count_146 : decode cX10_count 146 = .ok (.getfield 234, 3) := by decide +kernel
theorem dX10_count_149 : decode cX10_count 149 = .ok (.ireturn, 1) := by decide +kernel
theorem dX10_count_150 : decode cX10_count 150 = .ok (.iconst (-1), 1) := by decide +kernel
theorem dX10_count_151 : decode cX10_count 151 = .ok (.ireturn, 1) := by decide +kernel
theorem dJ6_bitCount_0f7a4_0 : decode cJ6_bitCount_0f7a4 0 = .ok (.iload_n 0, 1) := by decide +kernel
theorem dJ6_bitCount_0f7a4_1 : decode cJ6_bitCount_0f7a4 1 = .ok (.iload_n 0, 1) := by decide +kernel
theorem dJ6_bitCount_0f7a4_2 : decode cJ6_bitCount_0f7a4 2 = .ok (.iconst 1, 1) := by decide +kernel
theorem dJ6_bitCount_0f7a4_3 : decode cJ6_bitCount_0f7a4 3 = .ok (.iushr, 1) := by decide +kernel
theorem dJ6_bitCount_0f7a4_4 : decode cJ6_bitCount_0f7a4 4 = .ok (.ldc_w 265, 3) := by decide +kernel
theorem dJ6_bitCount_0f7a4_7 : decode cJ6_bitCount_0f7a4 7 = .ok (.iand, 1) := by decide +kernel
theorem dJ6_bitCount_0f7a4_8 : decode cJ6_bitCount_0f7a4 8 = .ok (.isub, 1) := by decide +kernel
theorem dJ6_bitCount_0f7a4_9 : decode cJ6_bitCount_0f7a4 9 = .ok (.istore_n 0, 1) := by decide +kernel
theorem dJ6_bitCount_0f7a4_10 : decode cJ6_bitCount_0f7a4 10 = .ok (.iload_n 0, 1) := by decide +kernel
theorem dJ6_bitCount_0f7a4_11 : decode cJ6_bitCount_0f7a4 11 = .ok (.ldc_w 266, 3) := by decide +kernel
theorem dJ6_bitCount_0f7a4_14 : decode cJ6_bitCount_0f7a4 14 = .ok (.iand, 1) := by decide +kernel
theorem dJ6_bitCount_0f7a4_15 : decode cJ6_bitCount_0f7a4 15 = .ok (.iload_n 0, 1) := by decide +kernel
theorem dJ6_bitCount_0f7a4_16 : decode cJ6_bitCount_0f7a4 16 = .ok (.iconst 2, 1) := by decide +kernel
theorem dJ6_bitCount_0f7a4_17 : decode cJ6_bitCount_0f7a4 17 = .ok (.iushr, 1) := by decide +kernel
theorem dJ6_bitCount_0f7a4_18 : decode cJ6_bitCount_0f7a4 18 = .ok (.ldc_w 266, 3) := by decide +kernel
theorem dJ6_bitCount_0f7a4_21 : decode cJ6_bitCount_0f7a4 21 = .ok (.iand, 1) := by decide +kernel
theorem dJ6_bitCount_0f7a4_22 : decode cJ6_bitCount_0f7a4 22 = .ok (.iadd, 1) := by decide +kernel
theorem dJ6_bitCount_0f7a4_23 : decode cJ6_bitCount_0f7a4 23 = .ok (.istore_n 0, 1) := by decide +kernel
theorem dJ6_bitCount_0f7a4_24 : decode cJ6_bitCount_0f7a4 24 = .ok (.iload_n 0, 1) := by decide +kernel
theorem dJ6_bitCount_0f7a4_25 : decode cJ6_bitCount_0f7a4 25 = .ok (.iload_n 0, 1) := by decide +kernel
theorem dJ6_bitCount_0f7a4_26 : decode cJ6_bitCount_0f7a4 26 = .ok (.iconst 4, 1) := by decide +kernel
theorem dJ6_bitCount_0f7a4_27 : decode cJ6_bitCount_0f7a4 27 = .ok (.iushr, 1) := by decide +kernel
theorem dJ6_bitCount_0f7a4_28 : decode cJ6_bitCount_0f7a4 28 = .ok (.iadd, 1) := by decide +kernel
theorem dJ6_bitCount_0f7a4_29 : decode cJ6_bitCount_0f7a4 29 = .ok (.ldc_w 267, 3) := by decide +kernel
theorem dJ6_bitCount_0f7a4_32 : decode cJ6_bitCount_0f7a4 32 = .ok (.iand, 1) := by decide +kernel
theorem dJ6_bitCount_0f7a4_33 : decode cJ6_bitCount_0f7a4 33 = .ok (.istore_n 0, 1) := by decide +kernel
theorem dJ6_bitCount_0f7a4_34 : decode cJ6_bitCount_0f7a4 34 = .ok (.iload_n 0, 1) := by decide +kernel
theorem dJ6_bitCount_0f7a4_35 : decode cJ6_bitCount_0f7a4 35 = .ok (.iload_n 0, 1) := by decide +kernel
theorem dJ6_bitCount_0f7a4_36 : decode cJ6_bitCount_0f7a4 36 = .ok (.bipush 8, 2) := by decide +kernel
theorem dJ6_bitCount_0f7a4_38 : decode cJ6_bitCount_0f7a4 38 = .ok (.iushr, 1) := by decide +kernel
theorem dJ6_bitCount_0f7a4_39 : decode cJ6_bitCount_0f7a4 39 = .ok (.iadd, 1) := by decide +kernel
theorem dJ6_bitCount_0f7a4_40 : decode cJ6_bitCount_0f7a4 40 = .ok (.istore_n 0, 1) := by decide +kernel
theorem dJ6_bitCount_0f7a4_41 : decode cJ6_bitCount_0f7a4 41 = .ok (.iload_n 0, 1) := by decide +kernel
theorem dJ6_bitCount_0f7a4_42 : decode cJ6_bitCount_0f7a4 42 = .ok (.iload_n 0, 1) := by decide +kernel
theorem dJ6_bitCount_0f7a4_43 : decode cJ6_bitCount_0f7a4 43 = .ok (.bipush 16, 2) := by decide +kernel
theorem dJ6_bitCount_0f7a4_45 : decode cJ6_bitCount_0f7a4 45 = .ok (.iushr, 1) := by decide +kernel
theorem dJ6_bitCount_0f7a4_46 : decode cJ6_bitCount_0f7a4 46 = .ok (.iadd, 1) := by decide +kernel
theorem dJ6_bitCount_0f7a4_47 : decode cJ6_bitCount_0f7a4 47 = .ok (.istore_n 0, 1) := by decide +kernel
theorem dJ6_bitCount_0f7a4_48 : decode cJ6_bitCount_0f7a4 48 = .ok (.iload_n 0, 1) := by decide +kernel
theorem dJ6_bitCount_0f7a4_49 : decode cJ6_bitCount_0f7a4 49 = .ok (.bipush 63, 2) := by decide +kernel
theorem dJ6_bitCount_0f7a4_51 : decode cJ6_bitCount_0f7a4 51 = .ok (.iand, 1) := by decide +kernel
theorem dJ6_bitCount_0f7a4_52 : decode cJ6_bitCount_0f7a4 52 = .ok (.ireturn, 1) := by decide +kernel
theorem dJ9_floorMod_7cf53_0 : decode cJ9_floorMod_7cf53 0 = .ok (.iload_n 0, 1) := by decide +kernel
theorem dJ9_floorMod_7cf53_1 : decode cJ9_floorMod_7cf53 1 = .ok (.iload_n 1, 1) := by decide +kernel
theorem dJ9_floorMod_7cf53_2 : decode cJ9_floorMod_7cf53 2 = .ok (.irem, 1) := by decide +kernel
theorem dJ9_floorMod_7cf53_3 : decode cJ9_floorMod_7cf53 3 = .ok (.istore_n 2, 1) := by decide +kernel
theorem dJ9_floorMod_7cf53_4 : decode cJ9_floorMod_7cf53 4 = .ok (.iload_n 0, 1) := by decide +kernel
theorem dJ9_floorMod_7cf53_5 : decode cJ9_floorMod_7cf53 5 = .ok (.iload_n 1, 1) := by decide +kernel
theorem dJ9_floorMod_7cf53_6 : decode cJ9_floorMod_7cf53 6 = .ok (.ixor, 1) := by decide +kernel
theorem dJ9_floorMod_7cf53_7 : decode cJ9_floorMod_7cf53 7 = .ok (.ifCond .ge 11, 3) := by decide +kernel
theorem dJ9_floorMod_7cf53_10 : decode cJ9_floorMod_7cf53 10 = .ok (.iload_n 2, 1) := by decide +kernel
theorem dJ9_floorMod_7cf53_11 : decode cJ9_floorMod_7cf53 11 = .ok (.ifCond .eq 7, 3) := by decide +kernel
theorem dJ9_floorMod_7cf53_14 : decode cJ9_floorMod_7cf53 14 = .ok (.iload_n 2, 1) := by decide +kernel
theorem dJ9_floorMod_7cf53_15 : decode cJ9_floorMod_7cf53 15 = .ok (.iload_n 1, 1) := by decide +kernel
theorem dJ9_floorMod_7cf53_16 : decode cJ9_floorMod_7cf53 16 = .ok (.iadd, 1) := by decide +kernel
theorem dJ9_floorMod_7cf53_17 : decode cJ9_floorMod_7cf53 17 = .ok (.ireturn, 1) := by decide +kernel
theorem dJ9_floorMod_7cf53_18 : decode cJ9_floorMod_7cf53 18 = .ok (.iload_n 2, 1) := by decide +kernel
theorem dJ9_floorMod_7cf53_19 : decode cJ9_floorMod_7cf53 19 = .ok (.ireturn, 1) := by decide +kernel
theorem dJ9_max_7cf53_0 : decode cJ9_max_7cf53 0 = .ok (.iload_n 0, 1) := by decide +kernel
theorem dJ9_max_7cf53_1 : decode cJ9_max_7cf53 1 = .ok (.iload_n 1, 1) := by decide +kernel
theorem dJ9_max_7cf53_2 : decode cJ9_max_7cf53 2 = .ok (.if_icmp .lt 7, 3) := by decide +kernel
theorem dJ9_max_7cf53_5 : decode cJ9_max_7cf53 5 = .ok (.iload_n 0, 1) := by decide +kernel
theorem dJ9_max_7cf53_6 : decode cJ9_max_7cf53 6 = .ok (.goto 4, 3) := by decide +kernel
theorem dJ9_max_7cf53_9 : decode cJ9_max_7cf53 9 = .ok (.iload_n 1, 1) := by decide +kernel
theorem dJ9_max_7cf53_10 : decode cJ9_max_7cf53 10 = .ok (.ireturn, 1) := by decide +kernel
theorem dJ9_min_7cf53_0 : decode cJ9_min_7cf53 0 = .ok (.iload_n 0, 1) := by decide +kernel
theorem dJ9_min_7cf53_1 : decode cJ9_min_7cf53 1 = .ok (.iload_n 1, 1) := by decide +kernel
theorem dJ9_min_7cf53_2 : decode cJ9_min_7cf53 2 = .ok (.if_icmp .gt 7, 3) := by decide +kernel
theorem dJ9_min_7cf53_5 : decode cJ9_min_7cf53 5 = .ok (.iload_n 0, 1) := by decide +kernel
theorem dJ9_min_7cf53_6 : decode cJ9_min_7cf53 6 = .ok (.goto 4, 3) := by decide +kernel
theorem dJ9_min_7cf53_9 : decode cJ9_min_7cf53 9 = .ok (.iload_n 1, 1) := by decide +kernel
theorem dJ9_min_7cf53_10 : decode cJ9_min_7cf53 10 = .ok (.ireturn, 1) := by decide +kernel
theorem dL_law_0 : decode cL_law 0 = .ok (.new 7, 3) := by decide +kernel
theorem dL_law_3 : decode cL_law 3 = .ok (.dup, 1) := by decide +kernel
theorem dL_law_4 : decode cL_law 4 = .ok (.invokespecial 9, 3) := by decide +kernel
theorem dL_law_7 : decode cL_law 7 = .ok (.astore_n 1, 1) := by decide +kernel
theorem dL_law_8 : decode cL_law 8 = .ok (.new 10, 3) := by decide +kernel
theorem dL_law_11 : decode cL_law 11 = .ok (.dup, 1) := by decide +kernel
theorem dL_law_12 : decode cL_law 12 = .ok (.invokespecial 12, 3) := by decide +kernel
theorem dL_law_15 : decode cL_law 15 = .ok (.astore_n 2, 1) := by decide +kernel
theorem dL_law_16 : decode cL_law 16 = .ok (.iconst 0, 1) := by decide +kernel
theorem dL_law_17 : decode cL_law 17 = .ok (.istore_n 3, 1) := by decide +kernel
theorem dL_law_18 : decode cL_law 18 = .ok (.iload_n 3, 1) := by decide +kernel
theorem dL_law_19 : decode cL_law 19 = .ok (.aload_n 0, 1) := by decide +kernel
theorem dL_law_20 : decode cL_law 20 = .ok (.arraylength, 1) := by decide +kernel
theorem dL_law_21 : decode cL_law 21 = .ok (.iconst 4, 1) := by decide +kernel
theorem dL_law_22 : decode cL_law 22 = .ok (.isub, 1) := by decide +kernel
theorem dL_law_23 : decode cL_law 23 = .ok (.if_icmp .gt 702, 3) := by decide +kernel
theorem dL_law_26 : decode cL_law 26 = .ok (.aload_n 0, 1) := by decide +kernel
theorem dL_law_27 : decode cL_law 27 = .ok (.iload_n 3, 1) := by decide +kernel
theorem dL_law_28 : decode cL_law 28 = .ok (.iaload, 1) := by decide +kernel
theorem dL_law_29 : decode cL_law 29 = .ok (.bipush 31, 2) := by decide +kernel
theorem dL_law_31 : decode cL_law 31 = .ok (.iand, 1) := by decide +kernel
theorem dL_law_32 : decode cL_law 32 = .ok (.tableswitch 687 0 18 #[92, 125, 168, 201, 244, 277, 320, 343, 366, 389, 412, 435, 468, 501, 562, 595, 618, 641, 664], 92) := by decide +kernel
theorem dL_law_124 : decode cL_law 124 = .ok (.aload_n 1, 1) := by decide +kernel
theorem dL_law_125 : decode cL_law 125 = .ok (.aload_n 0, 1) := by decide +kernel
theorem dL_law_126 : decode cL_law 126 = .ok (.iload_n 3, 1) := by decide +kernel
theorem dL_law_127 : decode cL_law 127 = .ok (.iconst 1, 1) := by decide +kernel
theorem dL_law_128 : decode cL_law 128 = .ok (.iadd, 1) := by decide +kernel
theorem dL_law_129 : decode cL_law 129 = .ok (.iaload, 1) := by decide +kernel
theorem dL_law_130 : decode cL_law 130 = .ok (.aload_n 0, 1) := by decide +kernel
theorem dL_law_131 : decode cL_law 131 = .ok (.iload_n 3, 1) := by decide +kernel
theorem dL_law_132 : decode cL_law 132 = .ok (.iconst 2, 1) := by decide +kernel
theorem dL_law_133 : decode cL_law 133 = .ok (.iadd, 1) := by decide +kernel
theorem dL_law_134 : decode cL_law 134 = .ok (.iaload, 1) := by decide +kernel
theorem dL_law_135 : decode cL_law 135 = .ok (.invokevirtual 13, 3) := by decide +kernel
theorem dL_law_138 : decode cL_law 138 = .ok (.aload_n 2, 1) := by decide +kernel
theorem dL_law_139 : decode cL_law 139 = .ok (.aload_n 0, 1) := by decide +kernel
theorem dL_law_140 : decode cL_law 140 = .ok (.iload_n 3, 1) := by decide +kernel
theorem dL_law_141 : decode cL_law 141 = .ok (.iconst 1, 1) := by decide +kernel
theorem dL_law_142 : decode cL_law 142 = .ok (.iadd, 1) := by decide +kernel
theorem dL_law_143 : decode cL_law 143 = .ok (.iaload, 1) := by decide +kernel
theorem dL_law_144 : decode cL_law 144 = .ok (.aload_n 0, 1) := by decide +kernel
theorem dL_law_145 : decode cL_law 145 = .ok (.iload_n 3, 1) := by decide +kernel
theorem dL_law_146 : decode cL_law 146 = .ok (.iconst 2, 1) := by decide +kernel
theorem dL_law_147 : decode cL_law 147 = .ok (.iadd, 1) := by decide +kernel
theorem dL_law_148 : decode cL_law 148 = .ok (.iaload, 1) := by decide +kernel
theorem dL_law_149 : decode cL_law 149 = .ok (.invokevirtual 17, 3) := by decide +kernel
theorem dL_law_152 : decode cL_law 152 = .ok (.if_icmp .eq 567, 3) := by decide +kernel
theorem dL_law_155 : decode cL_law 155 = .ok (.iconst 0, 1) := by decide +kernel
theorem dL_law_156 : decode cL_law 156 = .ok (.ireturn, 1) := by decide +kernel
theorem dL_law_157 : decode cL_law 157 = .ok (.aload_n 1, 1) := by decide +kernel
theorem dL_law_158 : decode cL_law 158 = .ok (.aload_n 0, 1) := by decide +kernel
theorem dL_law_159 : decode cL_law 159 = .ok (.iload_n 3, 1) := by decide +kernel
theorem dL_law_160 : decode cL_law 160 = .ok (.iconst 1, 1) := by decide +kernel
theorem dL_law_161 : decode cL_law 161 = .ok (.iadd, 1) := by decide +kernel
theorem dL_law_162 : decode cL_law 162 = .ok (.iaload, 1) := by decide +kernel
theorem dL_law_163 : decode cL_law 163 = .ok (.aload_n 0, 1) := by decide +kernel
theorem dL_law_164 : decode cL_law 164 = .ok (.iload_n 3, 1) := by decide +kernel
theorem dL_law_165 : decode cL_law 165 = .ok (.iconst 2, 1) := by decide +kernel
theorem dL_law_166 : decode cL_law 166 = .ok (.iadd, 1) := by decide +kernel
theorem dL_law_167 : decode cL_law 167 = .ok (.iaload, 1) := by decide +kernel
theorem dL_law_168 : decode cL_law 168 = .ok (.aload_n 0, 1) := by decide +kernel
theorem dL_law_169 : decode cL_law 169 = .ok (.iload_n 3, 1) := by decide +kernel
theorem dL_law_170 : decode cL_law 170 = .ok (.iconst 3, 1) := by decide +kernel
theorem dL_law_171 : decode cL_law 171 = .ok (.iadd, 1) := by decide +kernel
theorem dL_law_172 : decode cL_law 172 = .ok (.iaload, 1) := by decide +kernel
theorem dL_law_173 : decode cL_law 173 = .ok (.invokevirtual 18, 3) := by decide +kernel
theorem dL_law_176 : decode cL_law 176 = .ok (.aload_n 2, 1) := by decide +kernel
theorem dL_law_177 : decode cL_law 177 = .ok (.aload_n 0, 1) := by decide +kernel
theorem dL_law_178 : decode cL_law 178 = .ok (.iload_n 3, 1) := by decide +kernel
theorem dL_law_179 : decode cL_law 179 = .ok (.iconst 1, 1) := by decide +kernel
theorem dL_law_180 : decode cL_law 180 = .ok (.iadd, 1) := by decide +kernel
theorem dL_law_181 : decode cL_law 181 = .ok (.iaload, 1) := by decide +kernel
theorem dL_law_182 : decode cL_law 182 = .ok (.aload_n 0, 1) := by decide +kernel
theorem dL_law_183 : decode cL_law 183 = .ok (.iload_n 3, 1) := by decide +kernel
theorem dL_law_184 : decode cL_law 184 = .ok (.iconst 2, 1) := by decide +kernel
theorem dL_law_185 : decode cL_law 185 = .ok (.iadd, 1) := by decide +kernel
theorem dL_law_186 : decode cL_law 186 = .ok (.iaload, 1) := by decide +kernel
theorem dL_law_187 : decode cL_law 187 = .ok (.aload_n 0, 1) := by decide +kernel
theorem dL_law_188 : decode cL_law 188 = .ok (.iload_n 3, 1) := by decide +kernel
theorem dL_law_189 : decode cL_law 189 = .ok (.iconst 3, 1) := by decide +kernel
theorem dL_law_190 : decode cL_law 190 = .ok (.iadd, 1) := by decide +kernel
theorem dL_law_191 : decode cL_law 191 = .ok (.iaload, 1) := by decide +kernel
theorem dL_law_192 : decode cL_law 192 = .ok (.invokevirtual 22, 3) := by decide +kernel
theorem dL_law_195 : decode cL_law 195 = .ok (.if_icmp .eq 524, 3) := by decide +kernel
theorem dL_law_198 : decode cL_law 198 = .ok (.iconst 0, 1) := by decide +kernel
theorem dL_law_199 : decode cL_law 199 = .ok (.ireturn, 1) := by decide +kernel
theorem dL_law_200 : decode cL_law 200 = .ok (.aload_n 1, 1) := by decide +kernel
theorem dL_law_201 : decode cL_law 201 = .ok (.aload_n 0, 1) := by decide +kernel
theorem dL_law_202 : decode cL_law 202 = .ok (.iload_n 3, 1) := by decide +kernel
theorem dL_law_203 : decode cL_law 203 = .ok (.iconst 1, 1) := by decide +kernel
theorem dL_law_204 : decode cL_law 204 = .ok (.iadd, 1) := by decide +kernel
theorem dL_law_205 : decode cL_law 205 = .ok (.iaload, 1) := by decide +kernel
theorem dL_law_206 : decode cL_law 206 = .ok (.aload_n 0, 1) := by decide +kernel
theorem dL_law_207 : decode cL_law 207 = .ok (.iload_n 3, 1) := by decide +kernel
theorem dL_law_208 : decode cL_law 208 = .ok (.iconst 2, 1) := by decide +kernel
theorem dL_law_209 : decode cL_law 209 = .ok (.iadd, 1) := by decide +kernel
theorem dL_law_210 : decode cL_law 210 = .ok (.iaload, 1) := by decide +kernel
theorem dL_law_211 : decode cL_law 211 = .ok (.invokevirtual 23, 3) := by decide +kernel
theorem dL_law_214 : decode cL_law 214 = .ok (.aload_n 2, 1) := by decide +kernel
theorem dL_law_215 : decode cL_law 215 = .ok (.aload_n 0, 1) := by decide +kernel
theorem dL_law_216 : decode cL_law 216 = .ok (.iload_n 3, 1) := by decide +kernel
theorem dL_law_217 : decode cL_law 217 = .ok (.iconst 1, 1) := by decide +kernel
theorem dL_law_218 : decode cL_law 218 = .ok (.iadd, 1) := by decide +kernel
theorem dL_law_219 : decode cL_law 219 = .ok (.iaload, 1) := by decide +kernel
theorem dL_law_220 : decode cL_law 220 = .ok (.aload_n 0, 1) := by decide +kernel
theorem dL_law_221 : decode cL_law 221 = .ok (.iload_n 3, 1) := by decide +kernel
theorem dL_law_222 : decode cL_law 222 = .ok (.iconst 2, 1) := by decide +kernel
theorem dL_law_223 : decode cL_law 223 = .ok (.iadd, 1) := by decide +kernel
theorem dL_law_224 : decode cL_law 224 = .ok (.iaload, 1) := by decide +kernel
theorem dL_law_225 : decode cL_law 225 = .ok (.invokevirtual 26, 3) := by decide +kernel
theorem dL_law_228 : decode cL_law 228 = .ok (.if_icmp .eq 491, 3) := by decide +kernel
theorem dL_law_231 : decode cL_law 231 = .ok (.iconst 0, 1) := by decide +kernel
theorem dL_law_232 : decode cL_law 232 = .ok (.ireturn, 1) := by decide +kernel
theorem dL_law_233 : decode cL_law 233 = .ok (.aload_n 1, 1) := by decide +kernel
theorem dL_law_234 : decode cL_law 234 = .ok (.aload_n 0, 1) := by decide +kernel
theorem dL_law_235 : decode cL_law 235 = .ok (.iload_n 3, 1) := by decide +kernel
theorem dL_law_236 : decode cL_law 236 = .ok (.iconst 1, 1) := by decide +kernel
theorem dL_law_237 : decode cL_law 237 = .ok (.iadd, 1) := by decide +kernel
theorem dL_law_238 : decode cL_law 238 = .ok (.iaload, 1) := by decide +kernel
theorem dL_law_239 : decode cL_law 239 = .ok (.aload_n 0, 1) := by decide +kernel
theorem dL_law_240 : decode cL_law 240 = .ok (.iload_n 3, 1) := by decide +kernel
theorem dL_law_241 : decode cL_law 241 = .ok (.iconst 2, 1) := by decide +kernel
theorem dL_law_242 : decode cL_law 242 = .ok (.iadd, 1) := by decide +kernel
theorem dL_law_243 : decode cL_law 243 = .ok (.iaload, 1) := by decide +kernel
theorem dL_law_244 : decode cL_law 244 = .ok (.aload_n 0, 1) := by decide +kernel
theorem dL_law_245 : decode cL_law 245 = .ok (.iload_n 3, 1) := by decide +kernel
theorem dL_law_246 : decode cL_law 246 = .ok (.iconst 3, 1) := by decide +kernel
theorem dL_law_247 : decode cL_law 247 = .ok (.iadd, 1) := by decide +kernel
theorem dL_law_248 : decode cL_law 248 = .ok (.iaload, 1) := by decide +kernel
theorem dL_law_249 : decode cL_law 249 = .ok (.invokevirtual 27, 3) := by decide +kernel
theorem dL_law_252 : decode cL_law 252 = .ok (.aload_n 2, 1) := by decide +kernel
theorem dL_law_253 : decode cL_law 253 = .ok (.aload_n 0, 1) := by decide +kernel
theorem dL_law_254 : decode cL_law 254 = .ok (.iload_n 3, 1) := by decide +kernel
theorem dL_law_255 : decode cL_law 255 = .ok (.iconst 1, 1) := by decide +kernel
theorem dL_law_256 : decode cL_law 256 = .ok (.iadd, 1) := by decide +kernel
theorem dL_law_257 : decode cL_law 257 = .ok (.iaload, 1) := by decide +kernel
theorem dL_law_258 : decode cL_law 258 = .ok (.aload_n 0, 1) := by decide +kernel
theorem dL_law_259 : decode cL_law 259 = .ok (.iload_n 3, 1) := by decide +kernel
theorem dL_law_260 : decode cL_law 260 = .ok (.iconst 2, 1) := by decide +kernel
theorem dL_law_261 : decode cL_law 261 = .ok (.iadd, 1) := by decide +kernel
theorem dL_law_262 : decode cL_law 262 = .ok (.iaload, 1) := by decide +kernel
theorem dL_law_263 : decode cL_law 263 = .ok (.aload_n 0, 1) := by decide +kernel
theorem dL_law_264 : decode cL_law 264 = .ok (.iload_n 3, 1) := by decide +kernel
theorem dL_law_265 : decode cL_law 265 = .ok (.iconst 3, 1) := by decide +kernel
theorem dL_law_266 : decode cL_law 266 = .ok (.iadd, 1) := by decide +kernel
theorem dL_law_267 : decode cL_law 267 = .ok (.iaload, 1) := by decide +kernel
theorem dL_law_268 : decode cL_law 268 = .ok (.invokevirtual 30, 3) := by decide +kernel
theorem dL_law_271 : decode cL_law 271 = .ok (.if_icmp .eq 448, 3) := by decide +kernel
theorem dL_law_274 : decode cL_law 274 = .ok (.iconst 0, 1) := by decide +kernel
theorem dL_law_275 : decode cL_law 275 = .ok (.ireturn, 1) := by decide +kernel
theorem dL_law_276 : decode cL_law 276 = .ok (.aload_n 1, 1) := by decide +kernel
theorem dL_law_277 : decode cL_law 277 = .ok (.aload_n 0, 1) := by decide +kernel
theorem dL_law_278 : decode cL_law 278 = .ok (.iload_n 3, 1) := by decide +kernel
theorem dL_law_279 : decode cL_law 279 = .ok (.iconst 1, 1) := by decide +kernel
theorem dL_law_280 : decode cL_law 280 = .ok (.iadd, 1) := by decide +kernel
theorem dL_law_281 : decode cL_law 281 = .ok (.iaload, 1) := by decide +kernel
theorem dL_law_282 : decode cL_law 282 = .ok (.aload_n 0, 1) := by decide +kernel
theorem dL_law_283 : decode cL_law 283 = .ok (.iload_n 3, 1) := by decide +kernel
theorem dL_law_284 : decode cL_law 284 = .ok (.iconst 2, 1) := by decide +kernel
theorem dL_law_285 : decode cL_law 285 = .ok (.iadd, 1) := by decide +kernel
theorem dL_law_286 : decode cL_law 286 = .ok (.iaload, 1) := by decide +kernel
theorem dL_law_287 : decode cL_law 287 = .ok (.invokevirtual 31, 3) := by decide +kernel
theorem dL_law_290 : decode cL_law 290 = .ok (.aload_n 2, 1) := by decide +kernel
theorem dL_law_291 : decode cL_law 291 = .ok (.aload_n 0, 1) := by decide +kernel
theorem dL_law_292 : decode cL_law 292 = .ok (.iload_n 3, 1) := by decide +kernel
theorem dL_law_293 : decode cL_law 293 = .ok (.iconst 1, 1) := by decide +kernel
theorem dL_law_294 : decode cL_law 294 = .ok (.iadd, 1) := by decide +kernel
theorem dL_law_295 : decode cL_law 295 = .ok (.iaload, 1) := by decide +kernel
theorem dL_law_296 : decode cL_law 296 = .ok (.aload_n 0, 1) := by decide +kernel
theorem dL_law_297 : decode cL_law 297 = .ok (.iload_n 3, 1) := by decide +kernel
theorem dL_law_298 : decode cL_law 298 = .ok (.iconst 2, 1) := by decide +kernel
theorem dL_law_299 : decode cL_law 299 = .ok (.iadd, 1) := by decide +kernel
theorem dL_law_300 : decode cL_law 300 = .ok (.iaload, 1) := by decide +kernel
theorem dL_law_301 : decode cL_law 301 = .ok (.invokevirtual 34, 3) := by decide +kernel
theorem dL_law_304 : decode cL_law 304 = .ok (.if_icmp .eq 415, 3) := by decide +kernel
theorem dL_law_307 : decode cL_law 307 = .ok (.iconst 0, 1) := by decide +kernel
theorem dL_law_308 : decode cL_law 308 = .ok (.ireturn, 1) := by decide +kernel
theorem dL_law_309 : decode cL_law 309 = .ok (.aload_n 1, 1) := by decide +kernel
theorem dL_law_310 : decode cL_law 310 = .ok (.aload_n 0, 1) := by decide +kernel
theorem dL_law_311 : decode cL_law 311 = .ok (.iload_n 3, 1) := by decide +kernel
theorem dL_law_312 : decode cL_law 312 = .ok (.iconst 1, 1) := by decide +kernel
theorem dL_law_313 : decode cL_law 313 = .ok (.iadd, 1) := by decide +kernel
theorem dL_law_314 : decode cL_law 314 = .ok (.iaload, 1) := by decide +kernel
theorem dL_law_315 : decode cL_law 315 = .ok (.aload_n 0, 1) := by decide +kernel
theorem dL_law_316 : decode cL_law 316 = .ok (.iload_n 3, 1) := by decide +kernel
theorem dL_law_317 : decode cL_law 317 = .ok (.iconst 2, 1) := by decide +kernel
theorem dL_law_318 : decode cL_law 318 = .ok (.iadd, 1) := by decide +kernel
theorem dL_law_319 : decode cL_law 319 = .ok (.iaload, 1) := by decide +kernel
theorem dL_law_320 : decode cL_law 320 = .ok (.aload_n 0, 1) := by decide +kernel
theorem dL_law_321 : decode cL_law 321 = .ok (.iload_n 3, 1) := by decide +kernel
theorem dL_law_322 : decode cL_law 322 = .ok (.iconst 3, 1) := by decide +kernel
theorem dL_law_323 : decode cL_law 323 = .ok (.iadd, 1) := by decide +kernel
theorem dL_law_324 : decode cL_law 324 = .ok (.iaload, 1) := by decide +kernel
theorem dL_law_325 : decode cL_law 325 = .ok (.invokevirtual 35, 3) := by decide +kernel
theorem dL_law_328 : decode cL_law 328 = .ok (.aload_n 2, 1) := by decide +kernel
theorem dL_law_329 : decode cL_law 329 = .ok (.aload_n 0, 1) := by decide +kernel
theorem dL_law_330 : decode cL_law 330 = .ok (.iload_n 3, 1) := by decide +kernel
theorem dL_law_331 : decode cL_law 331 = .ok (.iconst 1, 1) := by decide +kernel
theorem dL_law_332 : decode cL_law 332 = .ok (.iadd, 1) := by decide +kernel
theorem dL_law_333 : decode cL_law 333 = .ok (.iaload, 1) := by decide +kernel
theorem dL_law_334 : decode cL_law 334 = .ok (.aload_n 0, 1) := by decide +kernel
theorem dL_law_335 : decode cL_law 335 = .ok (.iload_n 3, 1) := by decide +kernel
theorem dL_law_336 : decode cL_law 336 = .ok (.iconst 2, 1) := by decide +kernel
theorem dL_law_337 : decode cL_law 337 = .ok (.iadd, 1) := by decide +kernel
theorem dL_law_338 : decode cL_law 338 = .ok (.iaload, 1) := by decide +kernel
theorem dL_law_339 : decode cL_law 339 = .ok (.aload_n 0, 1) := by decide +kernel
theorem dL_law_340 : decode cL_law 340 = .ok (.iload_n 3, 1) := by decide +kernel
theorem dL_law_341 : decode cL_law 341 = .ok (.iconst 3, 1) := by decide +kernel
theorem dL_law_342 : decode cL_law 342 = .ok (.iadd, 1) := by decide +kernel
theorem dL_law_343 : decode cL_law 343 = .ok (.iaload, 1) := by decide +kernel
theorem dL_law_344 : decode cL_law 344 = .ok (.invokevirtual 38, 3) := by decide +kernel
theorem dL_law_347 : decode cL_law 347 = .ok (.if_icmp .eq 372, 3) := by decide +kernel
theorem dL_law_350 : decode cL_law 350 = .ok (.iconst 0, 1) := by decide +kernel
theorem dL_law_351 : decode cL_law 351 = .ok (.ireturn, 1) := by decide +kernel
theorem dL_law_352 : decode cL_law 352 = .ok (.aload_n 1, 1) := by decide +kernel
theorem dL_law_353 : decode cL_law 353 = .ok (.aload_n 0, 1) := by decide +kernel
theorem dL_law_354 : decode cL_law 354 = .ok (.iload_n 3, 1) := by decide +kernel
theorem dL_law_355 : decode cL_law 355 = .ok (.iconst 1, 1) := by decide +kernel
theorem dL_law_356 : decode cL_law 356 = .ok (.iadd, 1) := by decide +kernel
theorem dL_law_357 : decode cL_law 357 = .ok (.iaload, 1) := by decide +kernel
theorem dL_law_358 : decode cL_law 358 = .ok (.invokevirtual 39, 3) := by decide +kernel
theorem dL_law_361 : decode cL_law 361 = .ok (.aload_n 2, 1) := by decide +kernel
theorem dL_law_362 : decode cL_law 362 = .ok (.aload_n 0, 1) := by decide +kernel
theorem dL_law_363 : decode cL_law 363 = .ok (.iload_n 3, 1) := by decide +kernel
theorem dL_law_364 : decode cL_law 364 = .ok (.iconst 1, 1) := by decide +kernel
theorem dL_law_365 : decode cL_law 365 = .ok (.iadd, 1) := by decide +kernel
theorem dL_law_366 : decode cL_law 366 = .ok (.iaload, 1) := by decide +kernel
theorem dL_law_367 : decode cL_law 367 = .ok (.invokevirtual 43, 3) := by decide +kernel
theorem dL_law_370 : decode cL_law 370 = .ok (.if_icmp .eq 349, 3) := by decide +kernel
theorem dL_law_373 : decode cL_law 373 = .ok (.iconst 0, 1) := by decide +kernel
theorem dL_law_374 : decode cL_law 374 = .ok (.ireturn, 1) := by decide +kernel
theorem dL_law_375 : decode cL_law 375 = .ok (.aload_n 1, 1) := by decide +kernel
theorem dL_law_376 : decode cL_law 376 = .ok (.aload_n 0, 1) := by decide +kernel
theorem dL_law_377 : decode cL_law 377 = .ok (.iload_n 3, 1) := by decide +kernel
theorem dL_law_378 : decode cL_law 378 = .ok (.iconst 1, 1) := by decide +kernel
theorem dL_law_379 : decode cL_law 379 = .ok (.iadd, 1) := by decide +kernel
theorem dL_law_380 : decode cL_law 380 = .ok (.iaload, 1) := by decide +kernel
theorem dL_law_381 : decode cL_law 381 = .ok (.invokevirtual 44, 3) := by decide +kernel
theorem dL_law_384 : decode cL_law 384 = .ok (.aload_n 2, 1) := by decide +kernel
theorem dL_law_385 : decode cL_law 385 = .ok (.aload_n 0, 1) := by decide +kernel
theorem dL_law_386 : decode cL_law 386 = .ok (.iload_n 3, 1) := by decide +kernel
theorem dL_law_387 : decode cL_law 387 = .ok (.iconst 1, 1) := by decide +kernel
theorem dL_law_388 : decode cL_law 388 = .ok (.iadd, 1) := by decide +kernel
theorem dL_law_389 : decode cL_law 389 = .ok (.iaload, 1) := by decide +kernel
theorem dL_law_390 : decode cL_law 390 = .ok (.invokevirtual 47, 3) := by decide +kernel
theorem dL_law_393 : decode cL_law 393 = .ok (.if_icmp .eq 326, 3) := by decide +kernel
theorem dL_law_396 : decode cL_law 396 = .ok (.iconst 0, 1) := by decide +kernel
theorem dL_law_397 : decode cL_law 397 = .ok (.ireturn, 1) := by decide +kernel
theorem dL_law_398 : decode cL_law 398 = .ok (.aload_n 1, 1) := by decide +kernel
theorem dL_law_399 : decode cL_law 399 = .ok (.aload_n 0, 1) := by decide +kernel
theorem dL_law_400 : decode cL_law 400 = .ok (.iload_n 3, 1) := by decide +kernel
theorem dL_law_401 : decode cL_law 401 = .ok (.iconst 1, 1) := by decide +kernel
theorem dL_law_402 : decode cL_law 402 = .ok (.iadd, 1) := by decide +kernel
theorem dL_law_403 : decode cL_law 403 = .ok (.iaload, 1) := by decide +kernel
theorem dL_law_404 : decode cL_law 404 = .ok (.invokevirtual 48, 3) := by decide +kernel
theorem dL_law_407 : decode cL_law 407 = .ok (.aload_n 2, 1) := by decide +kernel
theorem dL_law_408 : decode cL_law 408 = .ok (.aload_n 0, 1) := by decide +kernel
theorem dL_law_409 : decode cL_law 409 = .ok (.iload_n 3, 1) := by decide +kernel
theorem dL_law_410 : decode cL_law 410 = .ok (.iconst 1, 1) := by decide +kernel
theorem dL_law_411 : decode cL_law 411 = .ok (.iadd, 1) := by decide +kernel
theorem dL_law_412 : decode cL_law 412 = .ok (.iaload, 1) := by decide +kernel
theorem dL_law_413 : decode cL_law 413 = .ok (.invokevirtual 51, 3) := by decide +kernel
theorem dL_law_416 : decode cL_law 416 = .ok (.if_icmp .eq 303, 3) := by decide +kernel
theorem dL_law_419 : decode cL_law 419 = .ok (.iconst 0, 1) := by decide +kernel
theorem dL_law_420 : decode cL_law 420 = .ok (.ireturn, 1) := by decide +kernel
theorem dL_law_421 : decode cL_law 421 = .ok (.aload_n 1, 1) := by decide +kernel
theorem dL_law_422 : decode cL_law 422 = .ok (.aload_n 0, 1) := by decide +kernel
theorem dL_law_423 : decode cL_law 423 = .ok (.iload_n 3, 1) := by decide +kernel
theorem dL_law_424 : decode cL_law 424 = .ok (.iconst 1, 1) := by decide +kernel
theorem dL_law_425 : decode cL_law 425 = .ok (.iadd, 1) := by decide +kernel
theorem dL_law_426 : decode cL_law 426 = .ok (.iaload, 1) := by decide +kernel
theorem dL_law_427 : decode cL_law 427 = .ok (.invokevirtual 52, 3) := by decide +kernel
theorem dL_law_430 : decode cL_law 430 = .ok (.aload_n 2, 1) := by decide +kernel
theorem dL_law_431 : decode cL_law 431 = .ok (.aload_n 0, 1) := by decide +kernel
theorem dL_law_432 : decode cL_law 432 = .ok (.iload_n 3, 1) := by decide +kernel
theorem dL_law_433 : decode cL_law 433 = .ok (.iconst 1, 1) := by decide +kernel
theorem dL_law_434 : decode cL_law 434 = .ok (.iadd, 1) := by decide +kernel
theorem dL_law_435 : decode cL_law 435 = .ok (.iaload, 1) := by decide +kernel
theorem dL_law_436 : decode cL_law 436 = .ok (.invokevirtual 55, 3) := by decide +kernel
theorem dL_law_439 : decode cL_law 439 = .ok (.if_icmp .eq 280, 3) := by decide +kernel
theorem dL_law_442 : decode cL_law 442 = .ok (.iconst 0, 1) := by decide +kernel
theorem dL_law_443 : decode cL_law 443 = .ok (.ireturn, 1) := by decide +kernel
theorem dL_law_444 : decode cL_law 444 = .ok (.aload_n 1, 1) := by decide +kernel
theorem dL_law_445 : decode cL_law 445 = .ok (.aload_n 0, 1) := by decide +kernel
theorem dL_law_446 : decode cL_law 446 = .ok (.iload_n 3, 1) := by decide +kernel
theorem dL_law_447 : decode cL_law 447 = .ok (.iconst 1, 1) := by decide +kernel
theorem dL_law_448 : decode cL_law 448 = .ok (.iadd, 1) := by decide +kernel
theorem dL_law_449 : decode cL_law 449 = .ok (.iaload, 1) := by decide +kernel
theorem dL_law_450 : decode cL_law 450 = .ok (.invokevirtual 56, 3) := by decide +kernel
theorem dL_law_453 : decode cL_law 453 = .ok (.aload_n 2, 1) := by decide +kernel
theorem dL_law_454 : decode cL_law 454 = .ok (.aload_n 0, 1) := by decide +kernel
theorem dL_law_455 : decode cL_law 455 = .ok (.iload_n 3, 1) := by decide +kernel
theorem dL_law_456 : decode cL_law 456 = .ok (.iconst 1, 1) := by decide +kernel
theorem dL_law_457 : decode cL_law 457 = .ok (.iadd, 1) := by decide +kernel
theorem dL_law_458 : decode cL_law 458 = .ok (.iaload, 1) := by decide +kernel
theorem dL_law_459 : decode cL_law 459 = .ok (.invokevirtual 59, 3) := by decide +kernel
theorem dL_law_462 : decode cL_law 462 = .ok (.if_icmp .eq 257, 3) := by decide +kernel
theorem dL_law_465 : decode cL_law 465 = .ok (.iconst 0, 1) := by decide +kernel
theorem dL_law_466 : decode cL_law 466 = .ok (.ireturn, 1) := by decide +kernel
theorem dL_law_467 : decode cL_law 467 = .ok (.aload_n 1, 1) := by decide +kernel
theorem dL_law_468 : decode cL_law 468 = .ok (.aload_n 0, 1) := by decide +kernel
theorem dL_law_469 : decode cL_law 469 = .ok (.iload_n 3, 1) := by decide +kernel
theorem dL_law_470 : decode cL_law 470 = .ok (.iconst 1, 1) := by decide +kernel
theorem dL_law_471 : decode cL_law 471 = .ok (.iadd, 1) := by decide +kernel
theorem dL_law_472 : decode cL_law 472 = .ok (.iaload, 1) := by decide +kernel
theorem dL_law_473 : decode cL_law 473 = .ok (.aload_n 0, 1) := by decide +kernel
theorem dL_law_474 : decode cL_law 474 = .ok (.iload_n 3, 1) := by decide +kernel
theorem dL_law_475 : decode cL_law 475 = .ok (.iconst 2, 1) := by decide +kernel
theorem dL_law_476 : decode cL_law 476 = .ok (.iadd, 1) := by decide +kernel
theorem dL_law_477 : decode cL_law 477 = .ok (.iaload, 1) := by decide +kernel
theorem dL_law_478 : decode cL_law 478 = .ok (.invokevirtual 60, 3) := by decide +kernel
theorem dL_law_481 : decode cL_law 481 = .ok (.aload_n 2, 1) := by decide +kernel
theorem dL_law_482 : decode cL_law 482 = .ok (.aload_n 0, 1) := by decide +kernel
theorem dL_law_483 : decode cL_law 483 = .ok (.iload_n 3, 1) := by decide +kernel
theorem dL_law_484 : decode cL_law 484 = .ok (.iconst 1, 1) := by decide +kernel
theorem dL_law_485 : decode cL_law 485 = .ok (.iadd, 1) := by decide +kernel
theorem dL_law_486 : decode cL_law 486 = .ok (.iaload, 1) := by decide +kernel
theorem dL_law_487 : decode cL_law 487 = .ok (.aload_n 0, 1) := by decide +kernel
theorem dL_law_488 : decode cL_law 488 = .ok (.iload_n 3, 1) := by decide +kernel
theorem dL_law_489 : decode cL_law 489 = .ok (.iconst 2, 1) := by decide +kernel
theorem dL_law_490 : decode cL_law 490 = .ok (.iadd, 1) := by decide +kernel
theorem dL_law_491 : decode cL_law 491 = .ok (.iaload, 1) := by decide +kernel
theorem dL_law_492 : decode cL_law 492 = .ok (.invokevirtual 63, 3) := by decide +kernel
theorem dL_law_495 : decode cL_law 495 = .ok (.if_icmp .eq 224, 3) := by decide +kernel
theorem dL_law_498 : decode cL_law 498 = .ok (.iconst 0, 1) := by decide +kernel
theorem dL_law_499 : decode cL_law 499 = .ok (.ireturn, 1) := by decide +kernel
theorem dL_law_500 : decode cL_law 500 = .ok (.aload_n 1, 1) := by decide +kernel
theorem dL_law_501 : decode cL_law 501 = .ok (.aload_n 0, 1) := by decide +kernel
theorem dL_law_502 : decode cL_law 502 = .ok (.iload_n 3, 1) := by decide +kernel
theorem dL_law_503 : decode cL_law 503 = .ok (.iconst 1, 1) := by decide +kernel
theorem dL_law_504 : decode cL_law 504 = .ok (.iadd, 1) := by decide +kernel
theorem dL_law_505 : decode cL_law 505 = .ok (.iaload, 1) := by decide +kernel
theorem dL_law_506 : decode cL_law 506 = .ok (.aload_n 0, 1) := by decide +kernel
theorem dL_law_507 : decode cL_law 507 = .ok (.iload_n 3, 1) := by decide +kernel
theorem dL_law_508 : decode cL_law 508 = .ok (.iconst 2, 1) := by decide +kernel
theorem dL_law_509 : decode cL_law 509 = .ok (.iadd, 1) := by decide +kernel
theorem dL_law_510 : decode cL_law 510 = .ok (.iaload, 1) := by decide +kernel
theorem dL_law_511 : decode cL_law 511 = .ok (.invokevirtual 64, 3) := by decide +kernel
theorem dL_law_514 : decode cL_law 514 = .ok (.aload_n 2, 1) := by decide +kernel
theorem dL_law_515 : decode cL_law 515 = .ok (.aload_n 0, 1) := by decide +kernel
theorem dL_law_516 : decode cL_law 516 = .ok (.iload_n 3, 1) := by decide +kernel
theorem dL_law_517 : decode cL_law 517 = .ok (.iconst 1, 1) := by decide +kernel
theorem dL_law_518 : decode cL_law 518 = .ok (.iadd, 1) := by decide +kernel
theorem dL_law_519 : decode cL_law 519 = .ok (.iaload, 1) := by decide +kernel
theorem dL_law_520 : decode cL_law 520 = .ok (.aload_n 0, 1) := by decide +kernel
theorem dL_law_521 : decode cL_law 521 = .ok (.iload_n 3, 1) := by decide +kernel
theorem dL_law_522 : decode cL_law 522 = .ok (.iconst 2, 1) := by decide +kernel
theorem dL_law_523 : decode cL_law 523 = .ok (.iadd, 1) := by decide +kernel
theorem dL_law_524 : decode cL_law 524 = .ok (.iaload, 1) := by decide +kernel
theorem dL_law_525 : decode cL_law 525 = .ok (.invokevirtual 67, 3) := by decide +kernel
theorem dL_law_528 : decode cL_law 528 = .ok (.if_icmp .eq 191, 3) := by decide +kernel
theorem dL_law_531 : decode cL_law 531 = .ok (.iconst 0, 1) := by decide +kernel
theorem dL_law_532 : decode cL_law 532 = .ok (.ireturn, 1) := by decide +kernel
theorem dL_law_533 : decode cL_law 533 = .ok (.aload_n 1, 1) := by decide +kernel
theorem dL_law_534 : decode cL_law 534 = .ok (.aload_n 0, 1) := by decide +kernel
theorem dL_law_535 : decode cL_law 535 = .ok (.iload_n 3, 1) := by decide +kernel
theorem dL_law_536 : decode cL_law 536 = .ok (.iconst 1, 1) := by decide +kernel
theorem dL_law_537 : decode cL_law 537 = .ok (.iadd, 1) := by decide +kernel
theorem dL_law_538 : decode cL_law 538 = .ok (.iaload, 1) := by decide +kernel
theorem dL_law_539 : decode cL_law 539 = .ok (.aload_n 0, 1) := by decide +kernel
theorem dL_law_540 : decode cL_law 540 = .ok (.iload_n 3, 1) := by decide +kernel
theorem dL_law_541 : decode cL_law 541 = .ok (.iconst 2, 1) := by decide +kernel
theorem dL_law_542 : decode cL_law 542 = .ok (.iadd, 1) := by decide +kernel
theorem dL_law_543 : decode cL_law 543 = .ok (.iaload, 1) := by decide +kernel
theorem dL_law_544 : decode cL_law 544 = .ok (.invokevirtual 68, 3) := by decide +kernel
theorem dL_law_547 : decode cL_law 547 = .ok (.dstore 4, 2) := by decide +kernel
theorem dL_law_549 : decode cL_law 549 = .ok (.aload_n 2, 1) := by decide +kernel
theorem dL_law_550 : decode cL_law 550 = .ok (.aload_n 0, 1) := by decide +kernel
theorem dL_law_551 : decode cL_law 551 = .ok (.iload_n 3, 1) := by decide +kernel
theorem dL_law_552 : decode cL_law 552 = .ok (.iconst 1, 1) := by decide +kernel
theorem dL_law_553 : decode cL_law 553 = .ok (.iadd, 1) := by decide +kernel
theorem dL_law_554 : decode cL_law 554 = .ok (.iaload, 1) := by decide +kernel
theorem dL_law_555 : decode cL_law 555 = .ok (.aload_n 0, 1) := by decide +kernel
theorem dL_law_556 : decode cL_law 556 = .ok (.iload_n 3, 1) := by decide +kernel
theorem dL_law_557 : decode cL_law 557 = .ok (.iconst 2, 1) := by decide +kernel
theorem dL_law_558 : decode cL_law 558 = .ok (.iadd, 1) := by decide +kernel
theorem dL_law_559 : decode cL_law 559 = .ok (.iaload, 1) := by decide +kernel
theorem dL_law_560 : decode cL_law 560 = .ok (.invokevirtual 72, 3) := by decide +kernel
theorem dL_law_563 : decode cL_law 563 = .ok (.dstore 6, 2) := by decide +kernel
theorem dL_law_565 : decode cL_law 565 = .ok (.dload 4, 2) := by decide +kernel
theorem dL_law_567 : decode cL_law 567 = .ok (.dload 6, 2) := by decide +kernel
theorem dL_law_569 : decode cL_law 569 = .ok (.dcmp .l, 1) := by decide +kernel
theorem dL_law_570 : decode cL_law 570 = .ok (.ifCond .eq 21, 3) := by decide +kernel
theorem dL_law_573 : decode cL_law 573 = .ok (.dload 4, 2) := by decide +kernel
theorem dL_law_575 : decode cL_law 575 = .ok (.dload 4, 2) := by decide +kernel
theorem dL_law_577 : decode cL_law 577 = .ok (.dcmp .l, 1) := by decide +kernel
theorem dL_law_578 : decode cL_law 578 = .ok (.ifCond .eq 11, 3) := by decide +kernel
theorem dL_law_581 : decode cL_law 581 = .ok (.dload 6, 2) := by decide +kernel
theorem dL_law_583 : decode cL_law 583 = .ok (.dload 6, 2) := by decide +kernel
theorem dL_law_585 : decode cL_law 585 = .ok (.dcmp .l, 1) := by decide +kernel
theorem dL_law_586 : decode cL_law 586 = .ok (.ifCond .ne 5, 3) := by decide +kernel
theorem dL_law_589 : decode cL_law 589 = .ok (.iconst 0, 1) := by decide +kernel
theorem dL_law_590 : decode cL_law 590 = .ok (.ireturn, 1) := by decide +kernel
theorem dL_law_591 : decode cL_law 591 = .ok (.goto 128, 3) := by decide +kernel
theorem dL_law_594 : decode cL_law 594 = .ok (.aload_n 1, 1) := by decide +kernel
theorem dL_law_595 : decode cL_law 595 = .ok (.aload_n 0, 1) := by decide +kernel
theorem dL_law_596 : decode cL_law 596 = .ok (.iload_n 3, 1) := by decide +kernel
theorem dL_law_597 : decode cL_law 597 = .ok (.iconst 1, 1) := by decide +kernel
theorem dL_law_598 : decode cL_law 598 = .ok (.iadd, 1) := by decide +kernel
theorem dL_law_599 : decode cL_law 599 = .ok (.iaload, 1) := by decide +kernel
theorem dL_law_600 : decode cL_law 600 = .ok (.aload_n 0, 1) := by decide +kernel
theorem dL_law_601 : decode cL_law 601 = .ok (.iload_n 3, 1) := by decide +kernel
theorem dL_law_602 : decode cL_law 602 = .ok (.iconst 2, 1) := by decide +kernel
theorem dL_law_603 : decode cL_law 603 = .ok (.iadd, 1) := by decide +kernel
theorem dL_law_604 : decode cL_law 604 = .ok (.iaload, 1) := by decide +kernel
theorem dL_law_605 : decode cL_law 605 = .ok (.invokevirtual 73, 3) := by decide +kernel
theorem dL_law_608 : decode cL_law 608 = .ok (.aload_n 2, 1) := by decide +kernel
theorem dL_law_609 : decode cL_law 609 = .ok (.aload_n 0, 1) := by decide +kernel
theorem dL_law_610 : decode cL_law 610 = .ok (.iload_n 3, 1) := by decide +kernel
theorem dL_law_611 : decode cL_law 611 = .ok (.iconst 1, 1) := by decide +kernel
theorem dL_law_612 : decode cL_law 612 = .ok (.iadd, 1) := by decide +kernel
theorem dL_law_613 : decode cL_law 613 = .ok (.iaload, 1) := by decide +kernel
theorem dL_law_614 : decode cL_law 614 = .ok (.aload_n 0, 1) := by decide +kernel
theorem dL_law_615 : decode cL_law 615 = .ok (.iload_n 3, 1) := by decide +kernel
theorem dL_law_616 : decode cL_law 616 = .ok (.iconst 2, 1) := by decide +kernel
theorem dL_law_617 : decode cL_law 617 = .ok (.iadd, 1) := by decide +kernel
theorem dL_law_618 : decode cL_law 618 = .ok (.iaload, 1) := by decide +kernel
theorem dL_law_619 : decode cL_law 619 = .ok (.invokevirtual 77, 3) := by decide +kernel
theorem dL_law_622 : decode cL_law 622 = .ok (.if_icmp .eq 97, 3) := by decide +kernel
theorem dL_law_625 : decode cL_law 625 = .ok (.iconst 0, 1) := by decide +kernel
theorem dL_law_626 : decode cL_law 626 = .ok (.ireturn, 1) := by decide +kernel
theorem dL_law_627 : decode cL_law 627 = .ok (.aload_n 1, 1) := by decide +kernel
theorem dL_law_628 : decode cL_law 628 = .ok (.aload_n 0, 1) := by decide +kernel
theorem dL_law_629 : decode cL_law 629 = .ok (.iload_n 3, 1) := by decide +kernel
theorem dL_law_630 : decode cL_law 630 = .ok (.iconst 1, 1) := by decide +kernel
theorem dL_law_631 : decode cL_law 631 = .ok (.iadd, 1) := by decide +kernel
theorem dL_law_632 : decode cL_law 632 = .ok (.iaload, 1) := by decide +kernel
theorem dL_law_633 : decode cL_law 633 = .ok (.invokevirtual 78, 3) := by decide +kernel
theorem dL_law_636 : decode cL_law 636 = .ok (.aload_n 2, 1) := by decide +kernel
theorem dL_law_637 : decode cL_law 637 = .ok (.aload_n 0, 1) := by decide +kernel
theorem dL_law_638 : decode cL_law 638 = .ok (.iload_n 3, 1) := by decide +kernel
theorem dL_law_639 : decode cL_law 639 = .ok (.iconst 1, 1) := by decide +kernel
theorem dL_law_640 : decode cL_law 640 = .ok (.iadd, 1) := by decide +kernel
theorem dL_law_641 : decode cL_law 641 = .ok (.iaload, 1) := by decide +kernel
theorem dL_law_642 : decode cL_law 642 = .ok (.invokevirtual 81, 3) := by decide +kernel
theorem dL_law_645 : decode cL_law 645 = .ok (.if_icmp .eq 74, 3) := by decide +kernel
theorem dL_law_648 : decode cL_law 648 = .ok (.iconst 0, 1) := by decide +kernel
theorem dL_law_649 : decode cL_law 649 = .ok (.ireturn, 1) := by decide +kernel
theorem dL_law_650 : decode cL_law 650 = .ok (.aload_n 1, 1) := by decide +kernel
theorem dL_law_651 : decode cL_law 651 = .ok (.aload_n 0, 1) := by decide +kernel
theorem dL_law_652 : decode cL_law 652 = .ok (.iload_n 3, 1) := by decide +kernel
theorem dL_law_653 : decode cL_law 653 = .ok (.iconst 1, 1) := by decide +kernel
theorem dL_law_654 : decode cL_law 654 = .ok (.iadd, 1) := by decide +kernel
theorem dL_law_655 : decode cL_law 655 = .ok (.iaload, 1) := by decide +kernel
theorem dL_law_656 : decode cL_law 656 = .ok (.invokevirtual 82, 3) := by decide +kernel
theorem dL_law_659 : decode cL_law 659 = .ok (.aload_n 2, 1) := by decide +kernel
theorem dL_law_660 : decode cL_law 660 = .ok (.aload_n 0, 1) := by decide +kernel
theorem dL_law_661 : decode cL_law 661 = .ok (.iload_n 3, 1) := by decide +kernel
theorem dL_law_662 : decode cL_law 662 = .ok (.iconst 1, 1) := by decide +kernel
theorem dL_law_663 : decode cL_law 663 = .ok (.iadd, 1) := by decide +kernel
theorem dL_law_664 : decode cL_law 664 = .ok (.iaload, 1) := by decide +kernel
theorem dL_law_665 : decode cL_law 665 = .ok (.invokevirtual 85, 3) := by decide +kernel
theorem dL_law_668 : decode cL_law 668 = .ok (.if_icmp .eq 51, 3) := by decide +kernel
theorem dL_law_671 : decode cL_law 671 = .ok (.iconst 0, 1) := by decide +kernel
theorem dL_law_672 : decode cL_law 672 = .ok (.ireturn, 1) := by decide +kernel
theorem dL_law_673 : decode cL_law 673 = .ok (.aload_n 1, 1) := by decide +kernel
theorem dL_law_674 : decode cL_law 674 = .ok (.aload_n 0, 1) := by decide +kernel
theorem dL_law_675 : decode cL_law 675 = .ok (.iload_n 3, 1) := by decide +kernel
theorem dL_law_676 : decode cL_law 676 = .ok (.iconst 1, 1) := by decide +kernel
theorem dL_law_677 : decode cL_law 677 = .ok (.iadd, 1) := by decide +kernel
theorem dL_law_678 : decode cL_law 678 = .ok (.iaload, 1) := by decide +kernel
theorem dL_law_679 : decode cL_law 679 = .ok (.invokevirtual 86, 3) := by decide +kernel
theorem dL_law_682 : decode cL_law 682 = .ok (.aload_n 2, 1) := by decide +kernel
theorem dL_law_683 : decode cL_law 683 = .ok (.aload_n 0, 1) := by decide +kernel
theorem dL_law_684 : decode cL_law 684 = .ok (.iload_n 3, 1) := by decide +kernel
theorem dL_law_685 : decode cL_law 685 = .ok (.iconst 1, 1) := by decide +kernel
theorem dL_law_686 : decode cL_law 686 = .ok (.iadd, 1) := by decide +kernel
theorem dL_law_687 : decode cL_law 687 = .ok (.iaload, 1) := by decide +kernel
theorem dL_law_688 : decode cL_law 688 = .ok (.invokevirtual 89, 3) := by decide +kernel
theorem dL_law_691 : decode cL_law 691 = .ok (.if_icmp .eq 28, 3) := by decide +kernel
theorem dL_law_694 : decode cL_law 694 = .ok (.iconst 0, 1) := by decide +kernel
theorem dL_law_695 : decode cL_law 695 = .ok (.ireturn, 1) := by decide +kernel
theorem dL_law_696 : decode cL_law 696 = .ok (.aload_n 1, 1) := by decide +kernel
theorem dL_law_697 : decode cL_law 697 = .ok (.aload_n 0, 1) := by decide +kernel
theorem dL_law_698 : decode cL_law 698 = .ok (.iload_n 3, 1) := by decide +kernel
theorem dL_law_699 : decode cL_law 699 = .ok (.iconst 1, 1) := by decide +kernel
theorem dL_law_700 : decode cL_law 700 = .ok (.iadd, 1) := by decide +kernel
theorem dL_law_701 : decode cL_law 701 = .ok (.iaload, 1) := by decide +kernel
theorem dL_law_702 : decode cL_law 702 = .ok (.invokevirtual 90, 3) := by decide +kernel
theorem dL_law_705 : decode cL_law 705 = .ok (.aload_n 2, 1) := by decide +kernel
theorem dL_law_706 : decode cL_law 706 = .ok (.aload_n 0, 1) := by decide +kernel
theorem dL_law_707 : decode cL_law 707 = .ok (.iload_n 3, 1) := by decide +kernel
theorem dL_law_708 : decode cL_law 708 = .ok (.iconst 1, 1) := by decide +kernel
theorem dL_law_709 : decode cL_law 709 = .ok (.iadd, 1) := by decide +kernel
theorem dL_law_710 : decode cL_law 710 = .ok (.iaload, 1) := by decide +kernel
theorem dL_law_711 : decode cL_law 711 = .ok (.invokevirtual 93, 3) := by decide +kernel
theorem dL_law_714 : decode cL_law 714 = .ok (.if_icmp .eq 5, 3) := by decide +kernel
theorem dL_law_717 : decode cL_law 717 = .ok (.iconst 0, 1) := by decide +kernel
theorem dL_law_718 : decode cL_law 718 = .ok (.ireturn, 1) := by decide +kernel
theorem dL_law_719 : decode cL_law 719 = .ok (.iinc 3 4, 3) := by decide +kernel
theorem dL_law_722 : decode cL_law 722 = .ok (.goto (-704), 3) := by decide +kernel
theorem dL_law_725 : decode cL_law 725 = .ok (.iconst 1, 1) := by decide +kernel
theorem dL_law_726 : decode cL_law 726 = .ok (.ireturn, 1) := by decide +kernel
end
section
/-! 04.mem: A MEMORY BY LOGICAL ADDRESSES. T: what stands at a logical address ((0,_) nothing; (1+ci,_) an object of class ci; (32+t,n) an array of kind t, n long); A, B, R: its ints, doubles, references (logical). 'ad' leads to the machine's addresses, and is hidden in lz_Z. -/
def lz_kd : FieldType → Nat
  | .int => 0
  | .double => 1
  | _ => 2
def lz_ty (ci : Nat) : Nat → FieldType := match ci with
  | 0 => tyX0
  | 1 => tyX1
  | 2 => tyX2
  | 3 => tyX3
  | 4 => tyX4
  | 5 => tyX5
  | 6 => tyX6
  | 7 => tyX7
  | 8 => tyX8
  | 9 => tyX9
  | _ => tyX10
def lz_nF (ci : Nat) : Nat := match ci with
  | 0 => 8
  | 1 => 4
  | 2 => 2
  | 3 => 5
  | 4 => 4
  | 5 => 8
  | 6 => 2
  | 7 => 2
  | 8 => 7
  | 9 => 6
  | _ => 31
abbrev lz_T : Type := Nat → Nat × Nat
abbrev lz_A : Type := Nat → Nat → Int32
abbrev lz_B : Type := Nat → Nat → UInt64
abbrev lz_R : Type := Nat → Nat → Option Nat
def lz_iv (ad : Nat → Nat) (v : Value) : Value := match v with
  | .ref L => .ref (ad L)
  | w => w
theorem lz_iv_int (ad : Nat → Nat) (x : Int32) : lz_iv ad (.int x) = .int x := rfl
theorem lz_iv_rf (ad : Nat → Nat) (q : Option Nat) : lz_iv ad (va_rf q) = va_rf (q.map ad) := by cases q <;> rfl
theorem lz_iv_cat (ad : Nat → Nat) (v : Value) : (lz_iv ad v).category = v.category := by cases v <;> rfl
def lz_up {α : Type} (f : Nat → Nat → α) (L k : Nat) (x : α) : Nat → Nat → α := fun l j => if l = L ∧ j = k then x else f l j
theorem lz_up_eq {α : Type} (f : Nat → Nat → α) (L k : Nat) (x : α) : lz_up f L k x L k = x := if_pos ⟨rfl, rfl⟩
theorem lz_up_ne {α : Type} (f : Nat → Nat → α) {L k l j : Nat} (x : α) (h : ¬ (l = L ∧ j = k)) : lz_up f L k x l j = f l j := if_neg h
theorem lz_up_row {α : Type} (f : Nat → Nat → α) {L k l : Nat} (x : α) (h : l ≠ L) : lz_up f L k x l = f l := funext fun j => if_neg fun q => h q.1
theorem lz_up_at {α : Type} (f : Nat → Nat → α) (L k : Nat) (x : α) : lz_up f L k x L = va_up (f L) k x := by
  funext j
  simp [lz_up, va_up]
def lz_fv (ad : Nat → Nat) (A : lz_A) (B : lz_B) (R : lz_R) (L k kd : Nat) : Value := match kd with
  | 0 => .int (A L k)
  | 1 => .double (B L k)
  | _ => va_rf ((R L k).map ad)
def lz_ar (ad : Nat → Nat) (A : lz_A) (B : lz_B) (R : lz_R) (L t n : Nat) : vp_A := match t with
  | 0 => (n, .inl (A L))
  | 1 => (n, .inr (.inr (.inr (.inl (B L)))))
  | 2 => (n, .inl (A L))
  | _ => (n, .inr (.inr (.inr (.inr (fun k => (R L k).map ad)))))
def lz_fs (ad : Nat → Nat) (A : lz_A) (B : lz_B) (R : lz_R) (L ci : Nat) : List Value := (List.range (lz_nF ci)).map (fun k => lz_fv ad A B R L k (lz_kd (lz_ty ci k)))
def lz_cell (dA : Nat → ClassId) (ad : Nat → Nat) (T : lz_T) (A : lz_A) (B : lz_B) (R : lz_R) (L : Nat) : va_E :=
  if (T L).1 < 32 then .inr ((T L).1 - 1, lz_fs ad A B R L ((T L).1 - 1)) else .inl (dA ((T L).1 - 32), lz_ar ad A B R L ((T L).1 - 32) (T L).2)
theorem lz_cell_o {dA : Nat → ClassId} {ad : Nat → Nat} {T : lz_T} {A : lz_A} {B : lz_B} {R : lz_R} {L ci z : Nat} (h : T L = (1 + ci, z)) (hc : ci < 31) : lz_cell dA ad T A B R L = .inr (ci, lz_fs ad A B R L ci) := by
  unfold lz_cell
  rw [h]
  simp only []
  rw [if_pos (by omega), Nat.add_sub_cancel_left]
theorem lz_cell_a {dA : Nat → ClassId} {ad : Nat → Nat} {T : lz_T} {A : lz_A} {B : lz_B} {R : lz_R} {L t n : Nat} (h : T L = (32 + t, n)) : lz_cell dA ad T A B R L = .inl (dA t, lz_ar ad A B R L t n) := by
  unfold lz_cell
  rw [h]
  simp only []
  rw [if_neg (by omega), Nat.add_sub_cancel_left]
def lz_ws (dA : Nat → ClassId) (ad : Nat → Nat) (T : lz_T) (A : lz_A) (B : lz_B) (R : lz_R) (Ls : List Nat) : va_W := Ls.map (fun L => (ad L, lz_cell dA ad T A B R L))
def lz_H (D : va_G) (dA : Nat → ClassId) (b : Nat) (ad : Nat → Nat) (T : lz_T) (A : lz_A) (B : lz_B) (R : lz_R) (H : Heap) : Prop :=
  ∃ Ls : List Nat, (∀ L, L ∈ Ls ↔ (T L).1 ≠ 0) ∧ va_P D vwCl (lz_ws dA ad T A B R Ls) H ∧ va_D (fun q => b ≤ q) (lz_ws dA ad T A B R Ls) ∧ (∀ L k q, R L k = some q → (T q).1 ≠ 0) ∧ ∀ L, (T L).1 = 0 → A L = (fun _ => 0) ∧ B L = (fun _ => 0) ∧ R L = fun _ => none
theorem lz_ws_at {dA : Nat → ClassId} {ad : Nat → Nat} {T : lz_T} {A : lz_A} {B : lz_B} {R : lz_R} {Ls : List Nat} {L k : Nat} (h : Ls[k]? = some L) : (lz_ws dA ad T A B R Ls)[k]? = some (ad L, lz_cell dA ad T A B R L) := by
  unfold lz_ws
  rw [List.getElem?_map, h]
  rfl
theorem lz_ws_uniq {dA : Nat → ClassId} {ad : Nat → Nat} {T : lz_T} {A : lz_A} {B : lz_B} {R : lz_R} {Ls : List Nat} {P : Nat → Prop} (hD : va_D P (lz_ws dA ad T A B R Ls)) {i j L L' : Nat} (hi : Ls[i]? = some L) (hj : Ls[j]? = some L') (h : ad L = ad L') : i = j :=
  hD.1 i j _ _ (lz_ws_at hi) (lz_ws_at hj) h
/-- one cell has changed: the list of cells -/
theorem lz_ws_set {dA : Nat → ClassId} {ad : Nat → Nat} {T : lz_T} {A A' : lz_A} {B B' : lz_B} {R R' : lz_R} {Ls : List Nat} {P : Nat → Prop} (hD : va_D P (lz_ws dA ad T A B R Ls)) {k L : Nat} (hk : Ls[k]? = some L)
    (h : ∀ l, l ≠ L → lz_cell dA ad T A' B' R' l = lz_cell dA ad T A B R l) : (lz_ws dA ad T A B R Ls).set k (ad L, lz_cell dA ad T A' B' R' L) = lz_ws dA ad T A' B' R' Ls := by
  have hl := (List.getElem?_eq_some_iff.mp hk).1
  apply List.ext_getElem?
  intro i
  by_cases hi : k = i
  · subst hi
    rw [List.getElem?_set_self (by unfold lz_ws; rw [List.length_map]; exact hl), lz_ws_at hk]
  · rw [List.getElem?_set_ne hi]
    cases hq : Ls[i]? with
    | none =>
      unfold lz_ws
      rw [List.getElem?_map, List.getElem?_map, hq]
      rfl
    | some l =>
      rw [lz_ws_at hq, lz_ws_at hq]
      have hne : l ≠ L := fun z => hi (lz_ws_uniq hD hk hq (by rw [z]))
      rw [h l hne]
theorem lz_fs_get (ad : Nat → Nat) (A : lz_A) (B : lz_B) (R : lz_R) (L : Nat) {ci k : Nat} (hk : k < lz_nF ci) : (lz_fs ad A B R L ci)[k]? = some (lz_fv ad A B R L k (lz_kd (lz_ty ci k))) := by
  unfold lz_fs
  rw [List.getElem?_map, List.getElem?_range hk]
  rfl
theorem lz_fs_len (ad : Nat → Nat) (A : lz_A) (B : lz_B) (R : lz_R) (L ci : Nat) : (lz_fs ad A B R L ci).length = lz_nF ci := by
  unfold lz_fs
  rw [List.length_map, List.length_range]
theorem lz_fs_set {ad : Nat → Nat} {A A' : lz_A} {B B' : lz_B} {R R' : lz_R} {L ci k : Nat} (hk : k < lz_nF ci) {v : Value} (hv : lz_fv ad A' B' R' L k (lz_kd (lz_ty ci k)) = v)
    (h : ∀ j, j ≠ k → ∀ kd, lz_fv ad A' B' R' L j kd = lz_fv ad A B R L j kd) : (lz_fs ad A B R L ci).set k v = lz_fs ad A' B' R' L ci := by
  apply List.ext_getElem?
  intro i
  by_cases hi : k = i
  · subst hi
    rw [List.getElem?_set_self (by rw [lz_fs_len]; exact hk), lz_fs_get _ _ _ _ _ hk, hv]
  · rw [List.getElem?_set_ne hi]
    unfold lz_fs
    rw [List.getElem?_map, List.getElem?_map]
    cases hq : (List.range (lz_nF ci))[i]? with
    | none => rfl
    | some j =>
      have hj : j = i := by
        rw [List.getElem?_range (by
          have := (List.getElem?_eq_some_iff.mp hq).1
          rwa [List.length_range] at this)] at hq
        exact (Option.some.inj hq).symm
      subst hj
      exact congrArg some (h j (Ne.symm hi) _).symm
/-- the cell of another address doesn't see a change at L -/
theorem lz_cell_row {dA : Nat → ClassId} {ad : Nat → Nat} {T : lz_T} {A A' : lz_A} {B B' : lz_B} {R R' : lz_R} {l : Nat} (hA : A' l = A l) (hB : B' l = B l) (hR : R' l = R l) : lz_cell dA ad T A' B' R' l = lz_cell dA ad T A B R l := by
  unfold lz_cell lz_fs lz_ar lz_fv
  rw [hA, hB, hR]
/-- and with another 'ad' that agrees on what is there -/
theorem lz_cell_ad {dA : Nat → ClassId} {ad ad' : Nat → Nat} {T T' : lz_T} {A : lz_A} {B : lz_B} {R : lz_R} {l : Nat} (hT : T' l = T l) (h : ∀ k q, R l k = some q → ad' q = ad q) : lz_cell dA ad' T' A B R l = lz_cell dA ad T A B R l := by
  have hm : ∀ k, (R l k).map ad' = (R l k).map ad := fun k => by
    cases hq : R l k with
    | none => rfl
    | some q => simp only [Option.map_some]; rw [h k q hq]
  unfold lz_cell
  rw [hT]
  split
  · congr 2
    unfold lz_fs
    congr 1
    funext k
    unfold lz_fv
    rw [hm]
  · congr 2
    unfold lz_ar
    split <;> first | rfl | (congr 1; simp only [hm])
end
section
/-! 05.z: THE JUDGEMENT lz_Z: the machine, at pc with locals lv and stack st (logical values), over the logical memory T A B R -/
def lw_tb2 : List Cond := lw_tbl.filter goodWord
theorem lz_gd : GoodIn lw_tb2 lw_tb2 := fun w hw => ⟨hw, good_of_word (List.mem_filter.mp hw).2⟩
theorem lz_tb2 {w : Cond} (h : w ∈ lw_tbl) (hg : goodWord w = true) : w ∈ lw_tb2 := List.mem_filter.mpr ⟨h, hg⟩
def lz_AA (U : State) : Prop := (Cond.arrayOver (.array .int)).before #[] U = true
theorem lz_AA.spec {U : State} (h : lz_AA U) : ∃ comp c k, U.vm.findClass (FieldType.array .int).toString = some comp ∧ (U.vm.classes.findIdx? fun (x : Class) => match x.kind with | .array component _ => component == comp | _ => false) = some c ∧ U.vm.classes[c]? = some k ∧ k.kind = .array comp (.array .int) ∧ U.vm.findClass ("[" ++ (FieldType.array .int).toString) = some c := by
  unfold lz_AA Cond.before at h
  simp only [Cond.holds, Cond.value, beq_iff_eq] at h
  cases hc : U.vm.findClass (FieldType.array .int).toString with
  | none => simp [hc] at h
  | some comp =>
    simp only [hc, Option.bind_some, Option.bind_eq_some_iff, Option.map_eq_some_iff] at h
    obtain ⟨c, hi, k, hk, hb⟩ := h
    obtain ⟨hlt, hp, -⟩ := Array.findIdx?_eq_some_iff_getElem.mp hi
    have hkk : U.vm.classes[c] = k := (Array.getElem?_eq_some_iff.mp hk).2
    rw [hkk] at hp
    cases hkind : k.kind with
    | array component ty =>
      rw [hkind] at hb hp
      simp at hb hp
      exact ⟨comp, c, k, rfl, hi, hk, by rw [hkind, hp, hb.1], hb.2⟩
    | _ => rw [hkind] at hp; simp at hp
theorem lz_AA.moved {u U : State} (hvm : u.vm.Alike U.vm) (h : lz_AA u) : lz_AA U := by
  obtain ⟨comp, c, k, h1, h2, h3, h4, h5⟩ := h.spec
  obtain ⟨k', hk', he⟩ := hvm.2.2 _ _ h3
  have hi : (U.vm.classes.findIdx? fun (x : Class) => match x.kind with | .array component _ => component == comp | _ => false) = some c := by
    have e1 := va_idx_bare U.vm comp
    have e2 := va_idx_bare u.vm comp
    first | rw [hvm.bare_eq] at e1 | rw [← hvm.bare_eq] at e1
    exact e1.symm.trans (e2.trans h2)
  have hkind : k'.kind = .array comp (.array .int) := by rw [he]; exact h4
  have f1 : U.vm.findClass (FieldType.array .int).toString = some comp := by rw [hvm.findClass]; exact h1
  have f2 : U.vm.findClass ("[" ++ (FieldType.array .int).toString) = some c := by rw [hvm.findClass]; exact h5
  unfold lz_AA Cond.before Cond.holds
  simp only [Cond.value]
  rw [f1, Option.bind_some]
  refine (congrArg (fun o : Option Nat => (o.bind (fun c => (U.vm.classes[c]?).map fun (k : Class) => match k.kind with | .array _ ty => decide (ty = FieldType.array .int) && decide (U.vm.findClass ("[" ++ (FieldType.array .int).toString) = some c) | _ => false) == some true)) hi).trans ?_
  simp [hk', hkind, f2]
def lz_tys (dA : Nat → ClassId) : List (ClassId × FieldType) := [(dA 0, .int), (dA 1, .double), (dA 2, .boolean), (dA 3, .object "CordBay$Row"), (dA 4, .object "CordBay$State"), (dA 5, .object "CordBay$Unit"), (dA 6, .array .int)]
def lz_nests : List (String × Nat × MethodName × String) := [("CordBay", 11, ⟨"CordBay$Rack", "<init>", "()V"⟩, "CordBay"), ("CordBay", 32, ⟨"CordBay$Takes", "<init>", "()V"⟩, "CordBay"), ("CordBay$Unit", 17, ⟨"CordBay$State", "<init>", "()V"⟩, "CordBay"), ("CordBay$Block", 194, ⟨"CordBay", "heldFloating", "(D)D"⟩, "CordBay")]
def lz_NW (s : State) : Prop := ∀ q ∈ lz_nests, va_Nw (.methodLinkNest q.1 q.2.1 q.2.2.1 q.2.2.2) s
def lz_K (D : va_G) (dA : Nat → ClassId) (s : State) : Prop := va_K D vwCl (lz_tys dA) s ∧ va_AO "CordBay$Row" s ∧ va_AO "CordBay$State" s ∧ va_AO "CordBay$Unit" s ∧ lz_AA s ∧ lz_NW s
theorem lz_K.warm {D : va_G} {dA : Nat → ClassId} {u U : State} (hW : u.WarmedH U.vm) (h : lz_K D dA u) : lz_K D dA U := ⟨va_K.moved hW.alike h.1, h.2.1.moved hW.alike, h.2.2.1.moved hW.alike, h.2.2.2.1.moved hW.alike, h.2.2.2.2.1.moved hW.alike, fun q hq => va_Nw.warmM hW (h.2.2.2.2.2 q hq)⟩
theorem lz_K.same {D : va_G} {dA : Nat → ClassId} {u U : State} (hv : u.vm = U.vm) (h : lz_K D dA u) : lz_K D dA U := by
  have ha : u.vm.Alike U.vm := by rw [hv]; exact Vm.Alike.refl U.vm
  exact ⟨va_K.moved ha h.1, h.2.1.moved ha, h.2.2.1.moved ha, h.2.2.2.1.moved ha, h.2.2.2.2.1.moved ha, fun q hq => va_Nw.same rfl hv (h.2.2.2.2.2 q hq)⟩
def lz_ok (T : lz_T) (v : Value) : Prop := ∀ L, v = .ref L → (T L).1 ≠ 0
def lz_oks (T : lz_T) (vs : List Value) : Prop := ∀ v ∈ vs, lz_ok T v
def lz_okl (T : lz_T) (lv : List (Nat × Value)) : Prop := ∀ q ∈ lv, lz_ok T q.2
def lz_E (T0 : lz_T) (ad0 : Nat → Nat) (T : lz_T) (ad : Nat → Nat) : Prop := ∀ L, (T0 L).1 ≠ 0 → T L = T0 L ∧ ad L = ad0 L
theorem lz_E.refl (T : lz_T) (ad : Nat → Nat) : lz_E T ad T ad := fun _ _ => ⟨rfl, rfl⟩
theorem lz_E.trans {T0 T1 T2 : lz_T} {a0 a1 a2 : Nat → Nat} (h : lz_E T0 a0 T1 a1) (g : lz_E T1 a1 T2 a2) : lz_E T0 a0 T2 a2 := fun L hL => by
  obtain ⟨h1, h2⟩ := h L hL
  obtain ⟨g1, g2⟩ := g L (by rw [h1]; exact hL)
  exact ⟨g1.trans h1, g2.trans h2⟩
theorem lz_ok_int (T : lz_T) (x : Int32) : lz_ok T (.int x) := fun _ h => by cases h
theorem lz_ok_long (T : lz_T) (x : Int64) : lz_ok T (.long x) := fun _ h => by cases h
theorem lz_ok_dbl (T : lz_T) (x : UInt64) : lz_ok T (.double x) := fun _ h => by cases h
theorem lz_ok_flt (T : lz_T) (x : UInt32) : lz_ok T (.float x) := fun _ h => by cases h
theorem lz_ok_null (T : lz_T) : lz_ok T .null := fun _ h => by cases h
theorem lz_ok_ref {T : lz_T} {L : Nat} (h : (T L).1 ≠ 0) : lz_ok T (.ref L) := fun _ q => by cases q; exact h
theorem lz_ok_rf {T : lz_T} {q : Option Nat} (h : ∀ L, q = some L → (T L).1 ≠ 0) : lz_ok T (va_rf q) := by
  cases q with
  | none => exact lz_ok_null T
  | some L => exact lz_ok_ref (h L rfl)
theorem lz_oks_cons {T : lz_T} {v : Value} {vs : List Value} : lz_oks T (v :: vs) ↔ lz_ok T v ∧ lz_oks T vs := by
  unfold lz_oks
  exact List.forall_mem_cons
theorem lz_oks_nil (T : lz_T) : lz_oks T [] := fun _ h => absurd h List.not_mem_nil
theorem lz_ok_iv {T T' : lz_T} {ad ad' : Nat → Nat} (hE : lz_E T ad T' ad') {v : Value} (h : lz_ok T v) : lz_iv ad' v = lz_iv ad v := by
  cases v with
  | ref L => exact congrArg Value.ref (hE L (h L rfl)).2
  | _ => rfl
theorem lz_ok_E {T T' : lz_T} {ad ad' : Nat → Nat} (hE : lz_E T ad T' ad') {v : Value} (h : lz_ok T v) : lz_ok T' v := fun L q => by rw [(hE L (h L q)).1]; exact h L q
/-- what holds all through a method's body -/
def lz_C (p : Program) (s : State) (m : MethodId) (args : Array Value) (meth : Method) (c : Code) (D : va_G) (dA : Nat → ClassId) (b : Nat) (y : MethodName) (cc : ByteArray) (nL : Nat) (ret : Option FieldType) : Prop :=
  p.tables.exec = Jvm.exec ∧ c.code = cc ∧ c.maxLocals = nL ∧ s.vm.findClass y.cls = some m.cls ∧ (∀ w ∈ lw_tb2, w.before args s = true) ∧ lz_K D dA s ∧ meth.locks = false ∧ meth.sig.returnType = ret ∧ b ≤ s.heap.size ∧ meth.name = y.name
def lz_lv (ad : Nat → Nat) (lv : List (Nat × Value)) : List (Nat × Value) := lv.map (fun q => (q.1, lz_iv ad q.2))
def lz_Z (p : Program) (l : Launch) (e : Env) (Rm : Room) (s : State) (m : MethodId) (args : Array Value) (below : List Frame) (meth : Method) (c : Code) (D : va_G) (dA : Nat → ClassId) (b nL : Nat) (T0 : lz_T) (ad0 : Nat → Nat) (Q : State → Prop) (kc ks : Nat)
    (T : lz_T) (A : lz_A) (B : lz_B) (R : lz_R) (pc : Nat) (lv : List (Nat × Value)) (st : List Value) : Prop :=
  ∀ (H : Heap) (locs : List Loc) (la : Array Slot) (cells slots : Nat) (ad : Nat → Nat), cells ≤ kc → slots ≤ ks → lz_H D dA b ad T A B R H → lz_E T0 ad0 T ad → va_S (fun q => b ≤ q) s.heap H locs → lv_has la nL (lz_lv ad lv) → lz_okl T lv → lz_oks T st →
    W p l e Rm s m args below meth c H locs cells slots Q (F0 m pc la (st.map (lz_iv ad)))
/-- a method's end, and its start -/
def lz_Qc (D : va_G) (dA : Nat → ClassId) (b : Nat) (T0 : lz_T) (ad0 : Nat → Nat) (Post : Option Value → lz_T → lz_A → lz_B → lz_R → Prop) : Array Value → State → Outcome → State → Prop := fun _ st oc t =>
  (∃ (r : Option Value) (T : lz_T) (A : lz_A) (B : lz_B) (R : lz_R) (ad : Nat → Nat), oc = .returned (r.map (lz_iv ad)) ∧ (∀ v, r = some v → lz_ok T v) ∧ lz_E T0 ad0 T ad ∧ Post r T A B R ∧ lz_H D dA b ad T A B R t.heap) ∧ va_F (fun q => b ≤ q) st t
def lz_Pc (D : va_G) (dA : Nat → ClassId) (b : Nat) (T : lz_T) (ad : Nat → Nat) (A : lz_A) (B : lz_B) (R : lz_R) (av : List Value) : Array Value → State → Prop := fun v U =>
  v = (av.map (lz_iv ad)).toArray ∧ lz_oks T av ∧ lz_H D dA b ad T A B R U.heap ∧ lz_K D dA U ∧ b ≤ U.heap.size
/-- THE CONTRACT of method y: called with av over T A B R it returns, and Post holds of its answer and the memory behind it -/
def lz_M (y : MethodName) (cc : ByteArray) (n : Nat) (ret : Option FieldType) (rm : Room) (av : List Value) (T : lz_T) (A : lz_A) (B : lz_B) (R : lz_R) (Post : Option Value → lz_T → lz_A → lz_B → lz_R → Prop) : Prop :=
  ∀ (l : Launch) (D : va_G) (dA : Nat → ClassId) (b : Nat) (ad : Nat → Nat), Met l y (.code y cc n ret :: lw_tb2) rm (lz_Pc D dA b T ad A B R av) (lz_Qc D dA b T ad Post) rm.cells rm.slots (fun q => b ≤ q)
theorem lz_args (ad : Nat → Nat) : ∀ (av : List Value) (i : Nat), lv_args i (av.map (lz_iv ad)) = lz_lv ad (lv_args i av)
  | [], _ => rfl
  | v :: vs, i => by
    simp only [List.map_cons, lv_args, lz_iv_cat]
    rw [lz_args ad vs]
    rfl
theorem lz_argsl (T : lz_T) : ∀ (av : List Value) (i : Nat), lz_oks T av → lz_okl T (lv_args i av)
  | [], _, _ => fun _ h => absurd h List.not_mem_nil
  | v :: vs, i, h => by
    intro q hq
    rcases List.mem_cons.mp hq with e | e
    · rw [e]; exact h v List.mem_cons_self
    · exact lz_argsl T vs _ (fun x hx => h x (List.mem_cons_of_mem _ hx)) q e
theorem lz_sl_len (ad : Nat → Nat) : ∀ (av : List Value), (lg_sl (av.map (lz_iv ad))).length = (lg_sl av).length
  | [] => rfl
  | v :: vs => by
    have ih := lz_sl_len ad vs
    unfold lg_sl at ih ⊢
    rw [List.map_cons, List.flatMap_cons, List.flatMap_cons, List.length_append, List.length_append, ih]
    congr 1
    cases v <;> rfl
theorem lz_ofW {l : Launch} {y : MethodName} {ws ws' : List Cond} {rm : Room} {Pc : Array Value → State → Prop} {Qc : Array Value → State → Outcome → State → Prop} {mc ms : Nat} {free : Addr → Prop} {cc : ByteArray} {maxL : Nat} {ret : Option FieldType}
    (hy : plainFor y = true) (hw : ws = Cond.code y cc maxL ret :: ws')
    (body : ∀ p e s m args below meth c s₁, BodyLoose p l y (headSpec ws rm) cc maxL ret e s m args below meth c s₁ → c.maxLocals = maxL → Pc args s →
      W p l e (headSpec ws rm).room s m args below meth c s.heap [] 0 0 (MQ below Qc args s mc ms free) (entryFrame m args maxL)) : Met l y ws rm Pc Qc mc ms free := by
  refine MetFree.of_bodySF (code := cc) (maxLocals := maxL) (ret := ret) hy ?_ ?_
  · intro args s m h hn
    obtain ⟨meth, c, h1, h2, h3, h4, h5, h6, -, -⟩ := Cond.code_spec hn (atoms_spec (ws := ws) h _ (by rw [hw]; exact List.mem_cons_self))
    exact ⟨meth, c, h1, h2, h3, h4, h5, h6⟩
  · intro p e s m args below meth c s₁ B hml hP _
    have hh0 : s₁.heap = s.heap := by rw [B.state]; rfl
    obtain ⟨t, a1, o, b1, b2, b3⟩ := body p e s m args below meth c s₁ B hml hP s₁ hh0 (Stand.of_body B)
    exact ⟨t, o, a1, b1, b2, ⟨b3.1, b3.2⟩⟩
theorem lz_enter {y : MethodName} {cc : ByteArray} {n : Nat} {ret : Option FieldType} {rm : Room} {av : List Value} {T : lz_T} {A : lz_A} {B : lz_B} {R : lz_R} {Post : Option Value → lz_T → lz_A → lz_B → lz_R → Prop} (hy : plainFor y = true) (hn : (lg_sl av).length ≤ n)
    (body : ∀ (p : Program) (l : Launch) (e : Env) (s : State) (m : MethodId) (args : Array Value) (below : List Frame) (meth : Method) (c : Code) (D : va_G) (dA : Nat → ClassId) (b : Nat) (ad0 : Nat → Nat), lz_C p s m args meth c D dA b y cc n ret →
      lz_Z p l e rm s m args below meth c D dA b n T ad0 (MQ below (lz_Qc D dA b T ad0 Post) args s rm.cells rm.slots (fun q => b ≤ q)) 0 0 T A B R 0 (lv_args 0 av) []) : lz_M y cc n ret rm av T A B R Post := by
  intro l D dA b ad
  refine lz_ofW (cc := cc) (maxL := n) (ret := ret) hy rfl ?_
  intro p e s m args below meth c s₁ B0 hml hv
  obtain ⟨rfl, hok, hH, hK, hbs⟩ := hv
  have hts := atoms_spec (ws := .code y cc n ret :: lw_tb2) B0.pre
  have hown : s.vm.findClass y.cls = some m.cls := findClass_of_methodNamed B0.named
  have C : lz_C p s m (av.map (lz_iv ad)).toArray meth c D dA b y cc n ret := ⟨B0.exec, B0.bytes, hml, hown, fun w hw => hts w (List.mem_cons_of_mem _ hw), hK, B0.notSynchronized, B0.returns, hbs, (name_of_methodNamed B0.named B0.method).1⟩
  have hl := lv_entry (av.map (lz_iv ad)) (n := n) (by rw [lz_sl_len]; exact hn)
  rw [lg_entry_eq]
  rw [lz_args] at hl
  exact body p l e s m _ below meth c D dA b ad C s.heap [] _ 0 0 ad (Nat.le_refl 0) (Nat.le_refl 0) hH (lz_E.refl T ad) va_S.rf hl (lz_argsl T av 0 hok) (lz_oks_nil T)
end
section
/-! 06.rows: a row an instruction, over lz_Z (written by wip/whole/genrows.py) -/
section ZR
variable {p : Program} {l : Launch} {e : Env} {Rm : Room} {s : State} {m : MethodId} {args : Array Value} {below : List Frame} {meth : Method} {c : Code} {D : va_G} {dA : Nat → ClassId} {b nL : Nat} {T0 : lz_T} {ad0 : Nat → Nat} {Q : State → Prop} {kc ks : Nat} {T : lz_T} {A : lz_A} {B : lz_B} {R : lz_R} {y : MethodName} {cc : ByteArray} {ret : Option FieldType} {pc : Nat} {lv : List (Nat × Value)} {rest : List Value}
theorem z_iadd (C : lz_C p s m args meth c D dA b y cc nL ret) {x y1 : Int32} (hdg : decode cc pc = .ok (.iadd, 1))  (kk : lz_Z p l e Rm s m args below meth c D dA b nL T0 ad0 Q kc ks T A B R (pc + 1) lv (.int (x + y1) :: rest)) : lz_Z p l e Rm s m args below meth c D dA b nL T0 ad0 Q kc ks T A B R pc lv (.int y1 :: .int x :: rest) :=
  fun H locs la cells slots ad h1 h2 h3 h4 h5 h6 h7 h8 => lv_iadd C.1 C.2.1 hdg  (kk H locs la cells slots ad h1 h2 h3 h4 h5 h6 h7 (lz_oks_cons.mpr ⟨lz_ok_int _ _, (lz_oks_cons.mp (lz_oks_cons.mp h8).2).2⟩))
theorem z_isub (C : lz_C p s m args meth c D dA b y cc nL ret) {x y1 : Int32} (hdg : decode cc pc = .ok (.isub, 1))  (kk : lz_Z p l e Rm s m args below meth c D dA b nL T0 ad0 Q kc ks T A B R (pc + 1) lv (.int (x - y1) :: rest)) : lz_Z p l e Rm s m args below meth c D dA b nL T0 ad0 Q kc ks T A B R pc lv (.int y1 :: .int x :: rest) :=
  fun H locs la cells slots ad h1 h2 h3 h4 h5 h6 h7 h8 => lv_isub C.1 C.2.1 hdg  (kk H locs la cells slots ad h1 h2 h3 h4 h5 h6 h7 (lz_oks_cons.mpr ⟨lz_ok_int _ _, (lz_oks_cons.mp (lz_oks_cons.mp h8).2).2⟩))
theorem z_imul (C : lz_C p s m args meth c D dA b y cc nL ret) {x y1 : Int32} (hdg : decode cc pc = .ok (.imul, 1))  (kk : lz_Z p l e Rm s m args below meth c D dA b nL T0 ad0 Q kc ks T A B R (pc + 1) lv (.int (x * y1) :: rest)) : lz_Z p l e Rm s m args below meth c D dA b nL T0 ad0 Q kc ks T A B R pc lv (.int y1 :: .int x :: rest) :=
  fun H locs la cells slots ad h1 h2 h3 h4 h5 h6 h7 h8 => lv_imul C.1 C.2.1 hdg  (kk H locs la cells slots ad h1 h2 h3 h4 h5 h6 h7 (lz_oks_cons.mpr ⟨lz_ok_int _ _, (lz_oks_cons.mp (lz_oks_cons.mp h8).2).2⟩))
theorem z_iand (C : lz_C p s m args meth c D dA b y cc nL ret) {x y1 : Int32} (hdg : decode cc pc = .ok (.iand, 1))  (kk : lz_Z p l e Rm s m args below meth c D dA b nL T0 ad0 Q kc ks T A B R (pc + 1) lv (.int (x &&& y1) :: rest)) : lz_Z p l e Rm s m args below meth c D dA b nL T0 ad0 Q kc ks T A B R pc lv (.int y1 :: .int x :: rest) :=
  fun H locs la cells slots ad h1 h2 h3 h4 h5 h6 h7 h8 => lv_iand C.1 C.2.1 hdg  (kk H locs la cells slots ad h1 h2 h3 h4 h5 h6 h7 (lz_oks_cons.mpr ⟨lz_ok_int _ _, (lz_oks_cons.mp (lz_oks_cons.mp h8).2).2⟩))
theorem z_ior (C : lz_C p s m args meth c D dA b y cc nL ret) {x y1 : Int32} (hdg : decode cc pc = .ok (.ior, 1))  (kk : lz_Z p l e Rm s m args below meth c D dA b nL T0 ad0 Q kc ks T A B R (pc + 1) lv (.int (x ||| y1) :: rest)) : lz_Z p l e Rm s m args below meth c D dA b nL T0 ad0 Q kc ks T A B R pc lv (.int y1 :: .int x :: rest) :=
  fun H locs la cells slots ad h1 h2 h3 h4 h5 h6 h7 h8 => lv_ior C.1 C.2.1 hdg  (kk H locs la cells slots ad h1 h2 h3 h4 h5 h6 h7 (lz_oks_cons.mpr ⟨lz_ok_int _ _, (lz_oks_cons.mp (lz_oks_cons.mp h8).2).2⟩))
theorem z_ixor (C : lz_C p s m args meth c D dA b y cc nL ret) {x y1 : Int32} (hdg : decode cc pc = .ok (.ixor, 1))  (kk : lz_Z p l e Rm s m args below meth c D dA b nL T0 ad0 Q kc ks T A B R (pc + 1) lv (.int (x ^^^ y1) :: rest)) : lz_Z p l e Rm s m args below meth c D dA b nL T0 ad0 Q kc ks T A B R pc lv (.int y1 :: .int x :: rest) :=
  fun H locs la cells slots ad h1 h2 h3 h4 h5 h6 h7 h8 => lv_ixor C.1 C.2.1 hdg  (kk H locs la cells slots ad h1 h2 h3 h4 h5 h6 h7 (lz_oks_cons.mpr ⟨lz_ok_int _ _, (lz_oks_cons.mp (lz_oks_cons.mp h8).2).2⟩))
theorem z_ishl (C : lz_C p s m args meth c D dA b y cc nL ret) {x y1 : Int32} (hdg : decode cc pc = .ok (.ishl, 1))  (kk : lz_Z p l e Rm s m args below meth c D dA b nL T0 ad0 Q kc ks T A B R (pc + 1) lv (.int (x <<< (y1 &&& 31)) :: rest)) : lz_Z p l e Rm s m args below meth c D dA b nL T0 ad0 Q kc ks T A B R pc lv (.int y1 :: .int x :: rest) :=
  fun H locs la cells slots ad h1 h2 h3 h4 h5 h6 h7 h8 => lv_ishl C.1 C.2.1 hdg  (kk H locs la cells slots ad h1 h2 h3 h4 h5 h6 h7 (lz_oks_cons.mpr ⟨lz_ok_int _ _, (lz_oks_cons.mp (lz_oks_cons.mp h8).2).2⟩))
theorem z_ishr (C : lz_C p s m args meth c D dA b y cc nL ret) {x y1 : Int32} (hdg : decode cc pc = .ok (.ishr, 1))  (kk : lz_Z p l e Rm s m args below meth c D dA b nL T0 ad0 Q kc ks T A B R (pc + 1) lv (.int (x >>> (y1 &&& 31)) :: rest)) : lz_Z p l e Rm s m args below meth c D dA b nL T0 ad0 Q kc ks T A B R pc lv (.int y1 :: .int x :: rest) :=
  fun H locs la cells slots ad h1 h2 h3 h4 h5 h6 h7 h8 => lv_ishr C.1 C.2.1 hdg  (kk H locs la cells slots ad h1 h2 h3 h4 h5 h6 h7 (lz_oks_cons.mpr ⟨lz_ok_int _ _, (lz_oks_cons.mp (lz_oks_cons.mp h8).2).2⟩))
theorem z_irem (C : lz_C p s m args meth c D dA b y cc nL ret) {x y1 : Int32} (hdg : decode cc pc = .ok (.irem, 1)) (hne : ¬ y1 = 0) (kk : lz_Z p l e Rm s m args below meth c D dA b nL T0 ad0 Q kc ks T A B R (pc + 1) lv (.int (x - x / y1 * y1) :: rest)) : lz_Z p l e Rm s m args below meth c D dA b nL T0 ad0 Q kc ks T A B R pc lv (.int y1 :: .int x :: rest) :=
  fun H locs la cells slots ad h1 h2 h3 h4 h5 h6 h7 h8 => lv_irem C.1 C.2.1 hdg hne (kk H locs la cells slots ad h1 h2 h3 h4 h5 h6 h7 (lz_oks_cons.mpr ⟨lz_ok_int _ _, (lz_oks_cons.mp (lz_oks_cons.mp h8).2).2⟩))
theorem z_ladd (C : lz_C p s m args meth c D dA b y cc nL ret) {x y1 : Int64} (hdg : decode cc pc = .ok (.ladd, 1))  (kk : lz_Z p l e Rm s m args below meth c D dA b nL T0 ad0 Q kc ks T A B R (pc + 1) lv (.long (x + y1) :: rest)) : lz_Z p l e Rm s m args below meth c D dA b nL T0 ad0 Q kc ks T A B R pc lv (.long y1 :: .long x :: rest) :=
  fun H locs la cells slots ad h1 h2 h3 h4 h5 h6 h7 h8 => lv_ladd C.1 C.2.1 hdg  (kk H locs la cells slots ad h1 h2 h3 h4 h5 h6 h7 (lz_oks_cons.mpr ⟨lz_ok_long _ _, (lz_oks_cons.mp (lz_oks_cons.mp h8).2).2⟩))
theorem z_lsub (C : lz_C p s m args meth c D dA b y cc nL ret) {x y1 : Int64} (hdg : decode cc pc = .ok (.lsub, 1))  (kk : lz_Z p l e Rm s m args below meth c D dA b nL T0 ad0 Q kc ks T A B R (pc + 1) lv (.long (x - y1) :: rest)) : lz_Z p l e Rm s m args below meth c D dA b nL T0 ad0 Q kc ks T A B R pc lv (.long y1 :: .long x :: rest) :=
  fun H locs la cells slots ad h1 h2 h3 h4 h5 h6 h7 h8 => lv_lsub C.1 C.2.1 hdg  (kk H locs la cells slots ad h1 h2 h3 h4 h5 h6 h7 (lz_oks_cons.mpr ⟨lz_ok_long _ _, (lz_oks_cons.mp (lz_oks_cons.mp h8).2).2⟩))
theorem z_lmul (C : lz_C p s m args meth c D dA b y cc nL ret) {x y1 : Int64} (hdg : decode cc pc = .ok (.lmul, 1))  (kk : lz_Z p l e Rm s m args below meth c D dA b nL T0 ad0 Q kc ks T A B R (pc + 1) lv (.long (x * y1) :: rest)) : lz_Z p l e Rm s m args below meth c D dA b nL T0 ad0 Q kc ks T A B R pc lv (.long y1 :: .long x :: rest) :=
  fun H locs la cells slots ad h1 h2 h3 h4 h5 h6 h7 h8 => lv_lmul C.1 C.2.1 hdg  (kk H locs la cells slots ad h1 h2 h3 h4 h5 h6 h7 (lz_oks_cons.mpr ⟨lz_ok_long _ _, (lz_oks_cons.mp (lz_oks_cons.mp h8).2).2⟩))
theorem z_ldiv (C : lz_C p s m args meth c D dA b y cc nL ret) {x y1 : Int64} (hdg : decode cc pc = .ok (.ldiv, 1)) (hne : ¬ y1 = 0) (kk : lz_Z p l e Rm s m args below meth c D dA b nL T0 ad0 Q kc ks T A B R (pc + 1) lv (.long (x / y1) :: rest)) : lz_Z p l e Rm s m args below meth c D dA b nL T0 ad0 Q kc ks T A B R pc lv (.long y1 :: .long x :: rest) :=
  fun H locs la cells slots ad h1 h2 h3 h4 h5 h6 h7 h8 => lv_ldiv C.1 C.2.1 hdg hne (kk H locs la cells slots ad h1 h2 h3 h4 h5 h6 h7 (lz_oks_cons.mpr ⟨lz_ok_long _ _, (lz_oks_cons.mp (lz_oks_cons.mp h8).2).2⟩))
theorem z_lcmp (C : lz_C p s m args meth c D dA b y cc nL ret) {x y1 : Int64} (hdg : decode cc pc = .ok (.lcmp, 1))  (kk : lz_Z p l e Rm s m args below meth c D dA b nL T0 ad0 Q kc ks T A B R (pc + 1) lv (.int (lg_cmp x y1) :: rest)) : lz_Z p l e Rm s m args below meth c D dA b nL T0 ad0 Q kc ks T A B R pc lv (.long y1 :: .long x :: rest) :=
  fun H locs la cells slots ad h1 h2 h3 h4 h5 h6 h7 h8 => W.lcmp C.1 C.2.1 hdg  (kk H locs la cells slots ad h1 h2 h3 h4 h5 h6 h7 (lz_oks_cons.mpr ⟨lz_ok_int _ _, (lz_oks_cons.mp (lz_oks_cons.mp h8).2).2⟩))
theorem z_dadd (C : lz_C p s m args meth c D dA b y cc nL ret) {x y1 : UInt64} (hdg : decode cc pc = .ok (.dadd, 1)) (hne : vf_n64 (FP.dadd x y1)) (kk : lz_Z p l e Rm s m args below meth c D dA b nL T0 ad0 Q kc ks T A B R (pc + 1) lv (.double (FP.dadd x y1) :: rest)) : lz_Z p l e Rm s m args below meth c D dA b nL T0 ad0 Q kc ks T A B R pc lv (.double y1 :: .double x :: rest) :=
  fun H locs la cells slots ad h1 h2 h3 h4 h5 h6 h7 h8 => lv_dadd C.1 C.2.1 hdg hne (kk H locs la cells slots ad h1 h2 h3 h4 h5 h6 h7 (lz_oks_cons.mpr ⟨lz_ok_dbl _ _, (lz_oks_cons.mp (lz_oks_cons.mp h8).2).2⟩))
theorem z_dmul (C : lz_C p s m args meth c D dA b y cc nL ret) {x y1 : UInt64} (hdg : decode cc pc = .ok (.dmul, 1)) (hne : vf_n64 (FP.dmul x y1)) (kk : lz_Z p l e Rm s m args below meth c D dA b nL T0 ad0 Q kc ks T A B R (pc + 1) lv (.double (FP.dmul x y1) :: rest)) : lz_Z p l e Rm s m args below meth c D dA b nL T0 ad0 Q kc ks T A B R pc lv (.double y1 :: .double x :: rest) :=
  fun H locs la cells slots ad h1 h2 h3 h4 h5 h6 h7 h8 => lv_dmul C.1 C.2.1 hdg hne (kk H locs la cells slots ad h1 h2 h3 h4 h5 h6 h7 (lz_oks_cons.mpr ⟨lz_ok_dbl _ _, (lz_oks_cons.mp (lz_oks_cons.mp h8).2).2⟩))
theorem z_ddiv (C : lz_C p s m args meth c D dA b y cc nL ret) {x y1 : UInt64} (hdg : decode cc pc = .ok (.ddiv, 1)) (hne : vf_n64 (FP.ddiv x y1)) (kk : lz_Z p l e Rm s m args below meth c D dA b nL T0 ad0 Q kc ks T A B R (pc + 1) lv (.double (FP.ddiv x y1) :: rest)) : lz_Z p l e Rm s m args below meth c D dA b nL T0 ad0 Q kc ks T A B R pc lv (.double y1 :: .double x :: rest) :=
  fun H locs la cells slots ad h1 h2 h3 h4 h5 h6 h7 h8 => lv_ddiv C.1 C.2.1 hdg hne (kk H locs la cells slots ad h1 h2 h3 h4 h5 h6 h7 (lz_oks_cons.mpr ⟨lz_ok_dbl _ _, (lz_oks_cons.mp (lz_oks_cons.mp h8).2).2⟩))
theorem z_dcmp (C : lz_C p s m args meth c D dA b y cc nL ret) {x y1 : UInt64} {op : CmpOp} (hdg : decode cc pc = .ok (.dcmp op, 1)) (kk : lz_Z p l e Rm s m args below meth c D dA b nL T0 ad0 Q kc ks T A B R (pc + 1) lv (.int (Op.cmpValue (FP.dcmp x y1) op) :: rest)) : lz_Z p l e Rm s m args below meth c D dA b nL T0 ad0 Q kc ks T A B R pc lv (.double y1 :: .double x :: rest) :=
  fun H locs la cells slots ad h1 h2 h3 h4 h5 h6 h7 h8 => lv_dcmp C.1 C.2.1 hdg (kk H locs la cells slots ad h1 h2 h3 h4 h5 h6 h7 (lz_oks_cons.mpr ⟨lz_ok_int _ _, (lz_oks_cons.mp (lz_oks_cons.mp h8).2).2⟩))
theorem z_ineg (C : lz_C p s m args meth c D dA b y cc nL ret) {x : Int32} (hdg : decode cc pc = .ok (.ineg, 1))  (kk : lz_Z p l e Rm s m args below meth c D dA b nL T0 ad0 Q kc ks T A B R (pc + 1) lv (.int (-x) :: rest)) : lz_Z p l e Rm s m args below meth c D dA b nL T0 ad0 Q kc ks T A B R pc lv (.int x :: rest) :=
  fun H locs la cells slots ad h1 h2 h3 h4 h5 h6 h7 h8 => lv_ineg C.1 C.2.1 hdg  (kk H locs la cells slots ad h1 h2 h3 h4 h5 h6 h7 (lz_oks_cons.mpr ⟨lz_ok_int _ _, (lz_oks_cons.mp h8).2⟩))
theorem z_lneg (C : lz_C p s m args meth c D dA b y cc nL ret) {x : Int64} (hdg : decode cc pc = .ok (.lneg, 1))  (kk : lz_Z p l e Rm s m args below meth c D dA b nL T0 ad0 Q kc ks T A B R (pc + 1) lv (.long (-x) :: rest)) : lz_Z p l e Rm s m args below meth c D dA b nL T0 ad0 Q kc ks T A B R pc lv (.long x :: rest) :=
  fun H locs la cells slots ad h1 h2 h3 h4 h5 h6 h7 h8 => lv_lneg C.1 C.2.1 hdg  (kk H locs la cells slots ad h1 h2 h3 h4 h5 h6 h7 (lz_oks_cons.mpr ⟨lz_ok_long _ _, (lz_oks_cons.mp h8).2⟩))
theorem z_i2l (C : lz_C p s m args meth c D dA b y cc nL ret) {x : Int32} (hdg : decode cc pc = .ok (.i2l, 1))  (kk : lz_Z p l e Rm s m args below meth c D dA b nL T0 ad0 Q kc ks T A B R (pc + 1) lv (.long (x.toInt64) :: rest)) : lz_Z p l e Rm s m args below meth c D dA b nL T0 ad0 Q kc ks T A B R pc lv (.int x :: rest) :=
  fun H locs la cells slots ad h1 h2 h3 h4 h5 h6 h7 h8 => lv_i2l C.1 C.2.1 hdg rfl (kk H locs la cells slots ad h1 h2 h3 h4 h5 h6 h7 (lz_oks_cons.mpr ⟨lz_ok_long _ _, (lz_oks_cons.mp h8).2⟩))
theorem z_l2i (C : lz_C p s m args meth c D dA b y cc nL ret) {x : Int64} (hdg : decode cc pc = .ok (.l2i, 1))  (kk : lz_Z p l e Rm s m args below meth c D dA b nL T0 ad0 Q kc ks T A B R (pc + 1) lv (.int (x.toInt32) :: rest)) : lz_Z p l e Rm s m args below meth c D dA b nL T0 ad0 Q kc ks T A B R pc lv (.long x :: rest) :=
  fun H locs la cells slots ad h1 h2 h3 h4 h5 h6 h7 h8 => lv_l2i C.1 C.2.1 hdg rfl (kk H locs la cells slots ad h1 h2 h3 h4 h5 h6 h7 (lz_oks_cons.mpr ⟨lz_ok_int _ _, (lz_oks_cons.mp h8).2⟩))
theorem z_i2d (C : lz_C p s m args meth c D dA b y cc nL ret) {x : Int32} (hdg : decode cc pc = .ok (.i2d, 1))  (kk : lz_Z p l e Rm s m args below meth c D dA b nL T0 ad0 Q kc ks T A B R (pc + 1) lv (.double (FP.i2d x) :: rest)) : lz_Z p l e Rm s m args below meth c D dA b nL T0 ad0 Q kc ks T A B R pc lv (.int x :: rest) :=
  fun H locs la cells slots ad h1 h2 h3 h4 h5 h6 h7 h8 => lv_i2d C.1 C.2.1 hdg  (kk H locs la cells slots ad h1 h2 h3 h4 h5 h6 h7 (lz_oks_cons.mpr ⟨lz_ok_dbl _ _, (lz_oks_cons.mp h8).2⟩))
theorem z_l2d (C : lz_C p s m args meth c D dA b y cc nL ret) {x : Int64} (hdg : decode cc pc = .ok (.l2d, 1))  (kk : lz_Z p l e Rm s m args below meth c D dA b nL T0 ad0 Q kc ks T A B R (pc + 1) lv (.double (FP.l2d x) :: rest)) : lz_Z p l e Rm s m args below meth c D dA b nL T0 ad0 Q kc ks T A B R pc lv (.long x :: rest) :=
  fun H locs la cells slots ad h1 h2 h3 h4 h5 h6 h7 h8 => lv_l2d C.1 C.2.1 hdg  (kk H locs la cells slots ad h1 h2 h3 h4 h5 h6 h7 (lz_oks_cons.mpr ⟨lz_ok_dbl _ _, (lz_oks_cons.mp h8).2⟩))
theorem z_d2i (C : lz_C p s m args meth c D dA b y cc nL ret) {x : UInt64} (hdg : decode cc pc = .ok (.d2i, 1))  (kk : lz_Z p l e Rm s m args below meth c D dA b nL T0 ad0 Q kc ks T A B R (pc + 1) lv (.int (FP.d2i x) :: rest)) : lz_Z p l e Rm s m args below meth c D dA b nL T0 ad0 Q kc ks T A B R pc lv (.double x :: rest) :=
  fun H locs la cells slots ad h1 h2 h3 h4 h5 h6 h7 h8 => lv_d2i C.1 C.2.1 hdg  (kk H locs la cells slots ad h1 h2 h3 h4 h5 h6 h7 (lz_oks_cons.mpr ⟨lz_ok_int _ _, (lz_oks_cons.mp h8).2⟩))
theorem z_d2l (C : lz_C p s m args meth c D dA b y cc nL ret) {x : UInt64} (hdg : decode cc pc = .ok (.d2l, 1))  (kk : lz_Z p l e Rm s m args below meth c D dA b nL T0 ad0 Q kc ks T A B R (pc + 1) lv (.long (FP.d2l x) :: rest)) : lz_Z p l e Rm s m args below meth c D dA b nL T0 ad0 Q kc ks T A B R pc lv (.double x :: rest) :=
  fun H locs la cells slots ad h1 h2 h3 h4 h5 h6 h7 h8 => lv_d2l C.1 C.2.1 hdg  (kk H locs la cells slots ad h1 h2 h3 h4 h5 h6 h7 (lz_oks_cons.mpr ⟨lz_ok_long _ _, (lz_oks_cons.mp h8).2⟩))
theorem z_d2f (C : lz_C p s m args meth c D dA b y cc nL ret) {x : UInt64} (hdg : decode cc pc = .ok (.d2f, 1)) (hne : vf_n32 (FP.d2f x)) (kk : lz_Z p l e Rm s m args below meth c D dA b nL T0 ad0 Q kc ks T A B R (pc + 1) lv (.float (FP.d2f x) :: rest)) : lz_Z p l e Rm s m args below meth c D dA b nL T0 ad0 Q kc ks T A B R pc lv (.double x :: rest) :=
  fun H locs la cells slots ad h1 h2 h3 h4 h5 h6 h7 h8 => lv_d2f C.1 C.2.1 hdg hne (kk H locs la cells slots ad h1 h2 h3 h4 h5 h6 h7 (lz_oks_cons.mpr ⟨lz_ok_flt _ _, (lz_oks_cons.mp h8).2⟩))
theorem z_f2d (C : lz_C p s m args meth c D dA b y cc nL ret) {x : UInt32} (hdg : decode cc pc = .ok (.f2d, 1)) (hne : vf_n64 (FP.f2d x)) (kk : lz_Z p l e Rm s m args below meth c D dA b nL T0 ad0 Q kc ks T A B R (pc + 1) lv (.double (FP.f2d x) :: rest)) : lz_Z p l e Rm s m args below meth c D dA b nL T0 ad0 Q kc ks T A B R pc lv (.float x :: rest) :=
  fun H locs la cells slots ad h1 h2 h3 h4 h5 h6 h7 h8 => lv_f2d C.1 C.2.1 hdg hne (kk H locs la cells slots ad h1 h2 h3 h4 h5 h6 h7 (lz_oks_cons.mpr ⟨lz_ok_dbl _ _, (lz_oks_cons.mp h8).2⟩))
theorem z_iconst (C : lz_C p s m args meth c D dA b y cc nL ret) {n : Int} {v : Int32} (hdg : decode cc pc = .ok (.iconst n, 1)) (hv : Int32.ofInt n = v) (kk : lz_Z p l e Rm s m args below meth c D dA b nL T0 ad0 Q kc ks T A B R (pc + 1) lv (.int v :: rest)) : lz_Z p l e Rm s m args below meth c D dA b nL T0 ad0 Q kc ks T A B R pc lv (rest) :=
  fun H locs la cells slots ad h1 h2 h3 h4 h5 h6 h7 h8 => lv_iconst C.1 C.2.1 hdg hv (kk H locs la cells slots ad h1 h2 h3 h4 h5 h6 h7 (lz_oks_cons.mpr ⟨lz_ok_int _ _, h8⟩))
theorem z_bipush (C : lz_C p s m args meth c D dA b y cc nL ret) {n : Int} {v : Int32} (hdg : decode cc pc = .ok (.bipush n, 2)) (hv : (Int8.ofInt n).toInt32 = v) (kk : lz_Z p l e Rm s m args below meth c D dA b nL T0 ad0 Q kc ks T A B R (pc + 2) lv (.int v :: rest)) : lz_Z p l e Rm s m args below meth c D dA b nL T0 ad0 Q kc ks T A B R pc lv (rest) :=
  fun H locs la cells slots ad h1 h2 h3 h4 h5 h6 h7 h8 => lv_bipush C.1 C.2.1 hdg hv (kk H locs la cells slots ad h1 h2 h3 h4 h5 h6 h7 (lz_oks_cons.mpr ⟨lz_ok_int _ _, h8⟩))
theorem z_sipush (C : lz_C p s m args meth c D dA b y cc nL ret) {n : Int} {v : Int32} (hdg : decode cc pc = .ok (.sipush n, 3)) (hv : (Int16.ofInt n).toInt32 = v) (kk : lz_Z p l e Rm s m args below meth c D dA b nL T0 ad0 Q kc ks T A B R (pc + 3) lv (.int v :: rest)) : lz_Z p l e Rm s m args below meth c D dA b nL T0 ad0 Q kc ks T A B R pc lv (rest) :=
  fun H locs la cells slots ad h1 h2 h3 h4 h5 h6 h7 h8 => lv_sipush C.1 C.2.1 hdg hv (kk H locs la cells slots ad h1 h2 h3 h4 h5 h6 h7 (lz_oks_cons.mpr ⟨lz_ok_int _ _, h8⟩))
theorem z_lconst (C : lz_C p s m args meth c D dA b y cc nL ret) {n : Fin 2} {v : Int64} (hdg : decode cc pc = .ok (.lconst n, 1)) (hv : Int64.ofNat (n : Nat) = v) (kk : lz_Z p l e Rm s m args below meth c D dA b nL T0 ad0 Q kc ks T A B R (pc + 1) lv (.long v :: rest)) : lz_Z p l e Rm s m args below meth c D dA b nL T0 ad0 Q kc ks T A B R pc lv (rest) :=
  fun H locs la cells slots ad h1 h2 h3 h4 h5 h6 h7 h8 => lv_lconst C.1 C.2.1 hdg hv (kk H locs la cells slots ad h1 h2 h3 h4 h5 h6 h7 (lz_oks_cons.mpr ⟨lz_ok_long _ _, h8⟩))
theorem z_dconst0 (C : lz_C p s m args meth c D dA b y cc nL ret)  (hdg : decode cc pc = .ok (.dconst 0, 1))  (kk : lz_Z p l e Rm s m args below meth c D dA b nL T0 ad0 Q kc ks T A B R (pc + 1) lv (.double FP.dconst0 :: rest)) : lz_Z p l e Rm s m args below meth c D dA b nL T0 ad0 Q kc ks T A B R pc lv (rest) :=
  fun H locs la cells slots ad h1 h2 h3 h4 h5 h6 h7 h8 => lv_dconst0 C.1 C.2.1 hdg (kk H locs la cells slots ad h1 h2 h3 h4 h5 h6 h7 (lz_oks_cons.mpr ⟨lz_ok_dbl _ _, h8⟩))
theorem z_dconst1 (C : lz_C p s m args meth c D dA b y cc nL ret)  (hdg : decode cc pc = .ok (.dconst 1, 1))  (kk : lz_Z p l e Rm s m args below meth c D dA b nL T0 ad0 Q kc ks T A B R (pc + 1) lv (.double FP.dconst1 :: rest)) : lz_Z p l e Rm s m args below meth c D dA b nL T0 ad0 Q kc ks T A B R pc lv (rest) :=
  fun H locs la cells slots ad h1 h2 h3 h4 h5 h6 h7 h8 => lv_dconst1 C.1 C.2.1 hdg (kk H locs la cells slots ad h1 h2 h3 h4 h5 h6 h7 (lz_oks_cons.mpr ⟨lz_ok_dbl _ _, h8⟩))
theorem z_null (C : lz_C p s m args meth c D dA b y cc nL ret)  (hdg : decode cc pc = .ok (.aconst_null, 1))  (kk : lz_Z p l e Rm s m args below meth c D dA b nL T0 ad0 Q kc ks T A B R (pc + 1) lv (.null :: rest)) : lz_Z p l e Rm s m args below meth c D dA b nL T0 ad0 Q kc ks T A B R pc lv (rest) :=
  fun H locs la cells slots ad h1 h2 h3 h4 h5 h6 h7 h8 => lv_null C.1 C.2.1 hdg (kk H locs la cells slots ad h1 h2 h3 h4 h5 h6 h7 (lz_oks_cons.mpr ⟨lz_ok_null _, h8⟩))
theorem z_ldc (C : lz_C p s m args meth c D dA b y cc nL ret) {index : Nat} {v : Int32} (hdg : decode cc pc = .ok (.ldc index, 2)) (hw : Jvm.Cond.constant y.cls index v ∈ lw_tb2) (kk : lz_Z p l e Rm s m args below meth c D dA b nL T0 ad0 Q kc ks T A B R (pc + 2) lv (.int v :: rest)) : lz_Z p l e Rm s m args below meth c D dA b nL T0 ad0 Q kc ks T A B R pc lv (rest) :=
  fun H locs la cells slots ad h1 h2 h3 h4 h5 h6 h7 h8 => lv_ldc C.1 C.2.1 C.2.2.2.1 (C.2.2.2.2.1 _ hw) hdg (kk H locs la cells slots ad h1 h2 h3 h4 h5 h6 h7 (lz_oks_cons.mpr ⟨lz_ok_int _ _, h8⟩))
theorem z_ldc2d (C : lz_C p s m args meth c D dA b y cc nL ret) {index : Nat} {v : UInt64} (hdg : decode cc pc = .ok (.ldc2_w index, 3)) (hw : Jvm.Cond.constantDouble y.cls index v ∈ lw_tb2) (kk : lz_Z p l e Rm s m args below meth c D dA b nL T0 ad0 Q kc ks T A B R (pc + 3) lv (.double v :: rest)) : lz_Z p l e Rm s m args below meth c D dA b nL T0 ad0 Q kc ks T A B R pc lv (rest) :=
  fun H locs la cells slots ad h1 h2 h3 h4 h5 h6 h7 h8 => lv_ldc2d C.1 C.2.1 C.2.2.2.1 (C.2.2.2.2.1 _ hw) hdg (kk H locs la cells slots ad h1 h2 h3 h4 h5 h6 h7 (lz_oks_cons.mpr ⟨lz_ok_dbl _ _, h8⟩))
theorem z_ldc2l (C : lz_C p s m args meth c D dA b y cc nL ret) {index : Nat} {v : Int64} (hdg : decode cc pc = .ok (.ldc2_w index, 3)) (hw : Jvm.Cond.constantLong y.cls index v ∈ lw_tb2) (kk : lz_Z p l e Rm s m args below meth c D dA b nL T0 ad0 Q kc ks T A B R (pc + 3) lv (.long v :: rest)) : lz_Z p l e Rm s m args below meth c D dA b nL T0 ad0 Q kc ks T A B R pc lv (rest) :=
  fun H locs la cells slots ad h1 h2 h3 h4 h5 h6 h7 h8 => lv_ldc2 C.1 C.2.1 C.2.2.2.1 (C.2.2.2.2.1 _ hw) hdg (kk H locs la cells slots ad h1 h2 h3 h4 h5 h6 h7 (lz_oks_cons.mpr ⟨lz_ok_long _ _, h8⟩))
theorem lz_lv_at {ad : Nat → Nat} {la : Array Slot} {nL : Nat} {lv : List (Nat × Value)} (h : lv_has la nL (lz_lv ad lv)) {k i : Nat} {v : Value} (hk : lv[k]? = some (i, v)) : la[i]? = some (.val (lz_iv ad v)) := by
  refine lv_at h k ?_
  unfold lz_lv
  rw [List.getElem?_map, hk]
  rfl
theorem lz_okl_at {T : lz_T} {lv : List (Nat × Value)} (h : lz_okl T lv) {k i : Nat} {v : Value} (hk : lv[k]? = some (i, v)) : lz_ok T v := h (i, v) (List.mem_of_getElem? hk)
theorem z_iload_n (C : lz_C p s m args meth c D dA b y cc nL ret) {k : Fin 4} {x : Int32} (j : Nat) (hdg : decode cc pc = .ok (.iload_n k, 1)) (hl : lv[j]? = some ((k : Nat), .int x)) (kk : lz_Z p l e Rm s m args below meth c D dA b nL T0 ad0 Q kc ks T A B R (pc + 1) lv (.int x :: rest)) : lz_Z p l e Rm s m args below meth c D dA b nL T0 ad0 Q kc ks T A B R pc lv (rest) :=
  fun H locs la cells slots ad h1 h2 h3 h4 h5 h6 h7 h8 => lv_iload_n C.1 C.2.1 hdg rfl (lz_lv_at h6 hl) (kk H locs la cells slots ad h1 h2 h3 h4 h5 h6 h7 (lz_oks_cons.mpr ⟨lz_ok_int _ _, h8⟩))
theorem z_iload (C : lz_C p s m args meth c D dA b y cc nL ret) {i : Nat} {x : Int32} (j : Nat) (hdg : decode cc pc = .ok (.iload i, 2)) (hl : lv[j]? = some (i, .int x)) (kk : lz_Z p l e Rm s m args below meth c D dA b nL T0 ad0 Q kc ks T A B R (pc + 2) lv (.int x :: rest)) : lz_Z p l e Rm s m args below meth c D dA b nL T0 ad0 Q kc ks T A B R pc lv (rest) :=
  fun H locs la cells slots ad h1 h2 h3 h4 h5 h6 h7 h8 => lv_iload C.1 C.2.1 hdg (lz_lv_at h6 hl) (kk H locs la cells slots ad h1 h2 h3 h4 h5 h6 h7 (lz_oks_cons.mpr ⟨lz_ok_int _ _, h8⟩))
theorem z_lload_n (C : lz_C p s m args meth c D dA b y cc nL ret) {k : Fin 4} {x : Int64} (j : Nat) (hdg : decode cc pc = .ok (.lload_n k, 1)) (hl : lv[j]? = some ((k : Nat), .long x)) (kk : lz_Z p l e Rm s m args below meth c D dA b nL T0 ad0 Q kc ks T A B R (pc + 1) lv (.long x :: rest)) : lz_Z p l e Rm s m args below meth c D dA b nL T0 ad0 Q kc ks T A B R pc lv (rest) :=
  fun H locs la cells slots ad h1 h2 h3 h4 h5 h6 h7 h8 => lv_lload_n C.1 C.2.1 hdg rfl (lz_lv_at h6 hl) (kk H locs la cells slots ad h1 h2 h3 h4 h5 h6 h7 (lz_oks_cons.mpr ⟨lz_ok_long _ _, h8⟩))
theorem z_lload (C : lz_C p s m args meth c D dA b y cc nL ret) {i : Nat} {x : Int64} (j : Nat) (hdg : decode cc pc = .ok (.lload i, 2)) (hl : lv[j]? = some (i, .long x)) (kk : lz_Z p l e Rm s m args below meth c D dA b nL T0 ad0 Q kc ks T A B R (pc + 2) lv (.long x :: rest)) : lz_Z p l e Rm s m args below meth c D dA b nL T0 ad0 Q kc ks T A B R pc lv (rest) :=
  fun H locs la cells slots ad h1 h2 h3 h4 h5 h6 h7 h8 => lv_lload C.1 C.2.1 hdg (lz_lv_at h6 hl) (kk H locs la cells slots ad h1 h2 h3 h4 h5 h6 h7 (lz_oks_cons.mpr ⟨lz_ok_long _ _, h8⟩))
theorem z_dload_n (C : lz_C p s m args meth c D dA b y cc nL ret) {k : Fin 4} {x : UInt64} (j : Nat) (hdg : decode cc pc = .ok (.dload_n k, 1)) (hl : lv[j]? = some ((k : Nat), .double x)) (kk : lz_Z p l e Rm s m args below meth c D dA b nL T0 ad0 Q kc ks T A B R (pc + 1) lv (.double x :: rest)) : lz_Z p l e Rm s m args below meth c D dA b nL T0 ad0 Q kc ks T A B R pc lv (rest) :=
  fun H locs la cells slots ad h1 h2 h3 h4 h5 h6 h7 h8 => lv_dload_n C.1 C.2.1 hdg rfl (lz_lv_at h6 hl) (kk H locs la cells slots ad h1 h2 h3 h4 h5 h6 h7 (lz_oks_cons.mpr ⟨lz_ok_dbl _ _, h8⟩))
theorem z_dload (C : lz_C p s m args meth c D dA b y cc nL ret) {i : Nat} {x : UInt64} (j : Nat) (hdg : decode cc pc = .ok (.dload i, 2)) (hl : lv[j]? = some (i, .double x)) (kk : lz_Z p l e Rm s m args below meth c D dA b nL T0 ad0 Q kc ks T A B R (pc + 2) lv (.double x :: rest)) : lz_Z p l e Rm s m args below meth c D dA b nL T0 ad0 Q kc ks T A B R pc lv (rest) :=
  fun H locs la cells slots ad h1 h2 h3 h4 h5 h6 h7 h8 => lv_dload C.1 C.2.1 hdg (lz_lv_at h6 hl) (kk H locs la cells slots ad h1 h2 h3 h4 h5 h6 h7 (lz_oks_cons.mpr ⟨lz_ok_dbl _ _, h8⟩))
theorem z_aload_n (C : lz_C p s m args meth c D dA b y cc nL ret) {k : Fin 4} {x : Nat} (j : Nat) (hdg : decode cc pc = .ok (.aload_n k, 1)) (hl : lv[j]? = some ((k : Nat), .ref x)) (kk : lz_Z p l e Rm s m args below meth c D dA b nL T0 ad0 Q kc ks T A B R (pc + 1) lv (.ref x :: rest)) : lz_Z p l e Rm s m args below meth c D dA b nL T0 ad0 Q kc ks T A B R pc lv (rest) :=
  fun H locs la cells slots ad h1 h2 h3 h4 h5 h6 h7 h8 => lv_aload_n C.1 C.2.1 hdg rfl (lz_lv_at h6 hl) (kk H locs la cells slots ad h1 h2 h3 h4 h5 h6 h7 (lz_oks_cons.mpr ⟨lz_okl_at h7 hl, h8⟩))
theorem z_aload (C : lz_C p s m args meth c D dA b y cc nL ret) {i : Nat} {x : Nat} (j : Nat) (hdg : decode cc pc = .ok (.aload i, 2)) (hl : lv[j]? = some (i, .ref x)) (kk : lz_Z p l e Rm s m args below meth c D dA b nL T0 ad0 Q kc ks T A B R (pc + 2) lv (.ref x :: rest)) : lz_Z p l e Rm s m args below meth c D dA b nL T0 ad0 Q kc ks T A B R pc lv (rest) :=
  fun H locs la cells slots ad h1 h2 h3 h4 h5 h6 h7 h8 => lv_aload C.1 C.2.1 hdg (lz_lv_at h6 hl) (kk H locs la cells slots ad h1 h2 h3 h4 h5 h6 h7 (lz_oks_cons.mpr ⟨lz_okl_at h7 hl, h8⟩))
theorem z_aload_nN (C : lz_C p s m args meth c D dA b y cc nL ret) {k : Fin 4}  (j : Nat) (hdg : decode cc pc = .ok (.aload_n k, 1)) (hl : lv[j]? = some ((k : Nat), .null)) (kk : lz_Z p l e Rm s m args below meth c D dA b nL T0 ad0 Q kc ks T A B R (pc + 1) lv (.null :: rest)) : lz_Z p l e Rm s m args below meth c D dA b nL T0 ad0 Q kc ks T A B R pc lv (rest) :=
  fun H locs la cells slots ad h1 h2 h3 h4 h5 h6 h7 h8 => lv_aload_nN C.1 C.2.1 hdg rfl (lz_lv_at h6 hl) (kk H locs la cells slots ad h1 h2 h3 h4 h5 h6 h7 (lz_oks_cons.mpr ⟨lz_okl_at h7 hl, h8⟩))
theorem z_aloadN (C : lz_C p s m args meth c D dA b y cc nL ret) {i : Nat}  (j : Nat) (hdg : decode cc pc = .ok (.aload i, 2)) (hl : lv[j]? = some (i, .null)) (kk : lz_Z p l e Rm s m args below meth c D dA b nL T0 ad0 Q kc ks T A B R (pc + 2) lv (.null :: rest)) : lz_Z p l e Rm s m args below meth c D dA b nL T0 ad0 Q kc ks T A B R pc lv (rest) :=
  fun H locs la cells slots ad h1 h2 h3 h4 h5 h6 h7 h8 => lv_aloadN C.1 C.2.1 hdg (lz_lv_at h6 hl) (kk H locs la cells slots ad h1 h2 h3 h4 h5 h6 h7 (lz_oks_cons.mpr ⟨lz_okl_at h7 hl, h8⟩))
def lz_p1 (i : Nat) (q : Nat × Value) : Bool := !(q.1 == i) && !(q.1 + 1 == i && q.2.category == 2)
def lz_p2 (i : Nat) (q : Nat × Value) : Bool := !(q.1 == i) && (!(q.1 == i + 1) && !(q.1 + 1 == i && q.2.category == 2))
theorem lz_lv_st {ad : Nat → Nat} {i : Nat} {v : Value} {lv lv' : List (Nat × Value)} {f : Nat → Nat × Value → Bool} (hf : ∀ q : Nat × Value, f i (q.1, lz_iv ad q.2) = f i q) (hl : (i, v) :: lv.filter (f i) = lv') : (i, lz_iv ad v) :: (lz_lv ad lv).filter (f i) = lz_lv ad lv' := by
  rw [← hl]
  unfold lz_lv
  rw [List.map_cons, List.filter_map]
  congr 2
  apply List.filter_congr
  intro q _
  exact hf q
theorem lz_p1_iv (ad : Nat → Nat) (i : Nat) (q : Nat × Value) : lz_p1 i (q.1, lz_iv ad q.2) = lz_p1 i q := by unfold lz_p1; rw [lz_iv_cat]
theorem lz_p2_iv (ad : Nat → Nat) (i : Nat) (q : Nat × Value) : lz_p2 i (q.1, lz_iv ad q.2) = lz_p2 i q := by unfold lz_p2; rw [lz_iv_cat]
theorem lz_okl_st {T : lz_T} {i : Nat} {v : Value} {lv lv' : List (Nat × Value)} {f : Nat × Value → Bool} (h : lz_okl T lv) (hv : lz_ok T v) (hl : (i, v) :: lv.filter f = lv') : lz_okl T lv' := by
  rw [← hl]
  intro q hq
  rcases List.mem_cons.mp hq with e | e
  · rw [e]; exact hv
  · exact h q (List.mem_filter.mp e).1
theorem z_istore_n (C : lz_C p s m args meth c D dA b y cc nL ret) {k : Fin 4} {x : Int32} {lv' : List (Nat × Value)} (hdg : decode cc pc = .ok (.istore_n k, 1)) (hn : (k : Nat) < nL) (hl : ((k : Nat), .int x) :: lv.filter (lz_p1 (k : Nat)) = lv') (kk : lz_Z p l e Rm s m args below meth c D dA b nL T0 ad0 Q kc ks T A B R (pc + 1) lv' (rest)) : lz_Z p l e Rm s m args below meth c D dA b nL T0 ad0 Q kc ks T A B R pc lv (.int x :: rest) :=
  fun H locs la cells slots ad h1 h2 h3 h4 h5 h6 h7 h8 => lv_istore_n C.1 C.2.1 hdg rfl h6 hn (lz_lv_st (f := lz_p1) (lz_p1_iv ad _) hl) (fun la2 h6b => kk H locs la2 cells slots ad h1 h2 h3 h4 h5 h6b (lz_okl_st h7 (lz_oks_cons.mp h8).1 hl) (lz_oks_cons.mp h8).2)
theorem z_istore (C : lz_C p s m args meth c D dA b y cc nL ret) {i : Nat} {x : Int32} {lv' : List (Nat × Value)} (hdg : decode cc pc = .ok (.istore i, 2)) (hn : i < nL) (hl : (i, .int x) :: lv.filter (lz_p1 i) = lv') (kk : lz_Z p l e Rm s m args below meth c D dA b nL T0 ad0 Q kc ks T A B R (pc + 2) lv' (rest)) : lz_Z p l e Rm s m args below meth c D dA b nL T0 ad0 Q kc ks T A B R pc lv (.int x :: rest) :=
  fun H locs la cells slots ad h1 h2 h3 h4 h5 h6 h7 h8 => lv_istore C.1 C.2.1 hdg  h6 hn (lz_lv_st (f := lz_p1) (lz_p1_iv ad _) hl) (fun la2 h6b => kk H locs la2 cells slots ad h1 h2 h3 h4 h5 h6b (lz_okl_st h7 (lz_oks_cons.mp h8).1 hl) (lz_oks_cons.mp h8).2)
theorem z_lstore_n (C : lz_C p s m args meth c D dA b y cc nL ret) {k : Fin 4} {x : Int64} {lv' : List (Nat × Value)} (hdg : decode cc pc = .ok (.lstore_n k, 1)) (hn : (k : Nat) + 1 < nL) (hl : ((k : Nat), .long x) :: lv.filter (lz_p2 (k : Nat)) = lv') (kk : lz_Z p l e Rm s m args below meth c D dA b nL T0 ad0 Q kc ks T A B R (pc + 1) lv' (rest)) : lz_Z p l e Rm s m args below meth c D dA b nL T0 ad0 Q kc ks T A B R pc lv (.long x :: rest) :=
  fun H locs la cells slots ad h1 h2 h3 h4 h5 h6 h7 h8 => lv_lstore_n C.1 C.2.1 hdg rfl h6 hn (lz_lv_st (f := lz_p2) (lz_p2_iv ad _) hl) (fun la2 h6b => kk H locs la2 cells slots ad h1 h2 h3 h4 h5 h6b (lz_okl_st h7 (lz_oks_cons.mp h8).1 hl) (lz_oks_cons.mp h8).2)
theorem z_lstore (C : lz_C p s m args meth c D dA b y cc nL ret) {i : Nat} {x : Int64} {lv' : List (Nat × Value)} (hdg : decode cc pc = .ok (.lstore i, 2)) (hn : i + 1 < nL) (hl : (i, .long x) :: lv.filter (lz_p2 i) = lv') (kk : lz_Z p l e Rm s m args below meth c D dA b nL T0 ad0 Q kc ks T A B R (pc + 2) lv' (rest)) : lz_Z p l e Rm s m args below meth c D dA b nL T0 ad0 Q kc ks T A B R pc lv (.long x :: rest) :=
  fun H locs la cells slots ad h1 h2 h3 h4 h5 h6 h7 h8 => lv_lstore C.1 C.2.1 hdg  h6 hn (lz_lv_st (f := lz_p2) (lz_p2_iv ad _) hl) (fun la2 h6b => kk H locs la2 cells slots ad h1 h2 h3 h4 h5 h6b (lz_okl_st h7 (lz_oks_cons.mp h8).1 hl) (lz_oks_cons.mp h8).2)
theorem z_dstore_n (C : lz_C p s m args meth c D dA b y cc nL ret) {k : Fin 4} {x : UInt64} {lv' : List (Nat × Value)} (hdg : decode cc pc = .ok (.dstore_n k, 1)) (hn : (k : Nat) + 1 < nL) (hl : ((k : Nat), .double x) :: lv.filter (lz_p2 (k : Nat)) = lv') (kk : lz_Z p l e Rm s m args below meth c D dA b nL T0 ad0 Q kc ks T A B R (pc + 1) lv' (rest)) : lz_Z p l e Rm s m args below meth c D dA b nL T0 ad0 Q kc ks T A B R pc lv (.double x :: rest) :=
  fun H locs la cells slots ad h1 h2 h3 h4 h5 h6 h7 h8 => lv_dstore_n C.1 C.2.1 hdg rfl h6 hn (lz_lv_st (f := lz_p2) (lz_p2_iv ad _) hl) (fun la2 h6b => kk H locs la2 cells slots ad h1 h2 h3 h4 h5 h6b (lz_okl_st h7 (lz_oks_cons.mp h8).1 hl) (lz_oks_cons.mp h8).2)
theorem z_dstore (C : lz_C p s m args meth c D dA b y cc nL ret) {i : Nat} {x : UInt64} {lv' : List (Nat × Value)} (hdg : decode cc pc = .ok (.dstore i, 2)) (hn : i + 1 < nL) (hl : (i, .double x) :: lv.filter (lz_p2 i) = lv') (kk : lz_Z p l e Rm s m args below meth c D dA b nL T0 ad0 Q kc ks T A B R (pc + 2) lv' (rest)) : lz_Z p l e Rm s m args below meth c D dA b nL T0 ad0 Q kc ks T A B R pc lv (.double x :: rest) :=
  fun H locs la cells slots ad h1 h2 h3 h4 h5 h6 h7 h8 => lv_dstore C.1 C.2.1 hdg  h6 hn (lz_lv_st (f := lz_p2) (lz_p2_iv ad _) hl) (fun la2 h6b => kk H locs la2 cells slots ad h1 h2 h3 h4 h5 h6b (lz_okl_st h7 (lz_oks_cons.mp h8).1 hl) (lz_oks_cons.mp h8).2)
theorem z_astore_n (C : lz_C p s m args meth c D dA b y cc nL ret) {k : Fin 4} {x : Nat} {lv' : List (Nat × Value)} (hdg : decode cc pc = .ok (.astore_n k, 1)) (hn : (k : Nat) < nL) (hl : ((k : Nat), .ref x) :: lv.filter (lz_p1 (k : Nat)) = lv') (kk : lz_Z p l e Rm s m args below meth c D dA b nL T0 ad0 Q kc ks T A B R (pc + 1) lv' (rest)) : lz_Z p l e Rm s m args below meth c D dA b nL T0 ad0 Q kc ks T A B R pc lv (.ref x :: rest) :=
  fun H locs la cells slots ad h1 h2 h3 h4 h5 h6 h7 h8 => lv_astore_n C.1 C.2.1 hdg rfl h6 hn (lz_lv_st (f := lz_p1) (lz_p1_iv ad _) hl) (fun la2 h6b => kk H locs la2 cells slots ad h1 h2 h3 h4 h5 h6b (lz_okl_st h7 (lz_oks_cons.mp h8).1 hl) (lz_oks_cons.mp h8).2)
theorem z_astore (C : lz_C p s m args meth c D dA b y cc nL ret) {i : Nat} {x : Nat} {lv' : List (Nat × Value)} (hdg : decode cc pc = .ok (.astore i, 2)) (hn : i < nL) (hl : (i, .ref x) :: lv.filter (lz_p1 i) = lv') (kk : lz_Z p l e Rm s m args below meth c D dA b nL T0 ad0 Q kc ks T A B R (pc + 2) lv' (rest)) : lz_Z p l e Rm s m args below meth c D dA b nL T0 ad0 Q kc ks T A B R pc lv (.ref x :: rest) :=
  fun H locs la cells slots ad h1 h2 h3 h4 h5 h6 h7 h8 => lv_astore C.1 C.2.1 hdg  h6 hn (lz_lv_st (f := lz_p1) (lz_p1_iv ad _) hl) (fun la2 h6b => kk H locs la2 cells slots ad h1 h2 h3 h4 h5 h6b (lz_okl_st h7 (lz_oks_cons.mp h8).1 hl) (lz_oks_cons.mp h8).2)
theorem z_astore_nN (C : lz_C p s m args meth c D dA b y cc nL ret) {k : Fin 4}  {lv' : List (Nat × Value)} (hdg : decode cc pc = .ok (.astore_n k, 1)) (hn : (k : Nat) < nL) (hl : ((k : Nat), .null) :: lv.filter (lz_p1 (k : Nat)) = lv') (kk : lz_Z p l e Rm s m args below meth c D dA b nL T0 ad0 Q kc ks T A B R (pc + 1) lv' (rest)) : lz_Z p l e Rm s m args below meth c D dA b nL T0 ad0 Q kc ks T A B R pc lv (.null :: rest) :=
  fun H locs la cells slots ad h1 h2 h3 h4 h5 h6 h7 h8 => lv_astore_nN C.1 C.2.1 hdg rfl h6 hn (lz_lv_st (f := lz_p1) (lz_p1_iv ad _) hl) (fun la2 h6b => kk H locs la2 cells slots ad h1 h2 h3 h4 h5 h6b (lz_okl_st h7 (lz_oks_cons.mp h8).1 hl) (lz_oks_cons.mp h8).2)
theorem z_astoreN (C : lz_C p s m args meth c D dA b y cc nL ret) {i : Nat}  {lv' : List (Nat × Value)} (hdg : decode cc pc = .ok (.astore i, 2)) (hn : i < nL) (hl : (i, .null) :: lv.filter (lz_p1 i) = lv') (kk : lz_Z p l e Rm s m args below meth c D dA b nL T0 ad0 Q kc ks T A B R (pc + 2) lv' (rest)) : lz_Z p l e Rm s m args below meth c D dA b nL T0 ad0 Q kc ks T A B R pc lv (.null :: rest) :=
  fun H locs la cells slots ad h1 h2 h3 h4 h5 h6 h7 h8 => lv_astoreN C.1 C.2.1 hdg  h6 hn (lz_lv_st (f := lz_p1) (lz_p1_iv ad _) hl) (fun la2 h6b => kk H locs la2 cells slots ad h1 h2 h3 h4 h5 h6b (lz_okl_st h7 (lz_oks_cons.mp h8).1 hl) (lz_oks_cons.mp h8).2)
theorem z_iinc (C : lz_C p s m args meth c D dA b y cc nL ret) {i : Nat} {n : Int} {x v : Int32} {lv' : List (Nat × Value)} (j : Nat) (hdg : decode cc pc = .ok (.iinc i n, 3)) (hj : lv[j]? = some (i, .int x)) (hv : x + Int32.ofInt n = v) (hn : i < nL) (hl : (i, Value.int v) :: lv.filter (lz_p1 i) = lv') (kk : lz_Z p l e Rm s m args below meth c D dA b nL T0 ad0 Q kc ks T A B R (pc + 3) lv' (rest)) : lz_Z p l e Rm s m args below meth c D dA b nL T0 ad0 Q kc ks T A B R pc lv (rest) :=
  fun H locs la cells slots ad h1 h2 h3 h4 h5 h6 h7 h8 => lv_iinc (k := j) C.1 C.2.1 hdg h6 (by unfold lz_lv; rw [List.getElem?_map, hj]; rfl) hv hn (lz_lv_st (v := .int v) (f := lz_p1) (lz_p1_iv ad _) hl) (fun la2 h6b => kk H locs la2 cells slots ad h1 h2 h3 h4 h5 h6b (lz_okl_st h7 (lz_ok_int _ _) hl) h8)
theorem z_lv {lv' : List (Nat × Value)} (hl : ∀ q ∈ lv', q ∈ lv) {st : List Value} (kk : lz_Z p l e Rm s m args below meth c D dA b nL T0 ad0 Q kc ks T A B R pc lv' (st)) : lz_Z p l e Rm s m args below meth c D dA b nL T0 ad0 Q kc ks T A B R pc lv (st) :=
  fun H locs la cells slots ad h1 h2 h3 h4 h5 h6 h7 h8 => kk H locs la cells slots ad h1 h2 h3 h4 h5 ⟨h6.1, h6.2.1, fun q hq => by
    obtain ⟨r, hr, rfl⟩ := List.mem_map.mp hq
    exact h6.2.2 _ (List.mem_map.mpr ⟨r, hl r hr, rfl⟩)⟩ (fun q hq => h7 q (hl q hq)) h8
theorem z_dup (C : lz_C p s m args meth c D dA b y cc nL ret) {v : Value} (hdg : decode cc pc = .ok (.dup, 1)) (hv : v.category = 1) (kk : lz_Z p l e Rm s m args below meth c D dA b nL T0 ad0 Q kc ks T A B R (pc + 1) lv (v :: v :: rest)) : lz_Z p l e Rm s m args below meth c D dA b nL T0 ad0 Q kc ks T A B R pc lv (v :: rest) :=
  fun H locs la cells slots ad h1 h2 h3 h4 h5 h6 h7 h8 => lv_dup C.1 C.2.1 hdg (by rw [lz_iv_cat]; exact hv) (kk H locs la cells slots ad h1 h2 h3 h4 h5 h6 h7 (lz_oks_cons.mpr ⟨(lz_oks_cons.mp h8).1, h8⟩))
theorem z_dup2 (C : lz_C p s m args meth c D dA b y cc nL ret) {v w : Value} (hdg : decode cc pc = .ok (.dup2, 1)) (hv : v.category = 1) (hw : w.category = 1) (kk : lz_Z p l e Rm s m args below meth c D dA b nL T0 ad0 Q kc ks T A B R (pc + 1) lv (v :: w :: v :: w :: rest)) : lz_Z p l e Rm s m args below meth c D dA b nL T0 ad0 Q kc ks T A B R pc lv (v :: w :: rest) :=
  fun H locs la cells slots ad h1 h2 h3 h4 h5 h6 h7 h8 => lv_dup2_11 C.1 C.2.1 hdg (by rw [lz_iv_cat]; exact hv) (by rw [lz_iv_cat]; exact hw) (kk H locs la cells slots ad h1 h2 h3 h4 h5 h6 h7 (lz_oks_cons.mpr ⟨(lz_oks_cons.mp h8).1, lz_oks_cons.mpr ⟨(lz_oks_cons.mp (lz_oks_cons.mp h8).2).1, h8⟩⟩))
theorem z_pop (C : lz_C p s m args meth c D dA b y cc nL ret) {v : Value} (hdg : decode cc pc = .ok (.pop, 1)) (hv : v.category = 1) (kk : lz_Z p l e Rm s m args below meth c D dA b nL T0 ad0 Q kc ks T A B R (pc + 1) lv (rest)) : lz_Z p l e Rm s m args below meth c D dA b nL T0 ad0 Q kc ks T A B R pc lv (v :: rest) :=
  fun H locs la cells slots ad h1 h2 h3 h4 h5 h6 h7 h8 => lv_pop C.1 C.2.1 hdg (by rw [lz_iv_cat]; exact hv) (kk H locs la cells slots ad h1 h2 h3 h4 h5 h6 h7 (lz_oks_cons.mp h8).2)
noncomputable def lz_b (q : Prop) : Int32 := @ite _ q (Classical.propDecidable q) 1 0
theorem lz_b_t {q : Prop} (h : q) : lz_b q = 1 := if_pos h
theorem lz_b_f {q : Prop} (h : ¬ q) : lz_b q = 0 := if_neg h
theorem lz_b_0 {q : Prop} : lz_b q = 0 ↔ ¬ q := by
  by_cases h : q
  · rw [lz_b_t h]; exact ⟨fun z => absurd z (by decide), fun z => absurd h z⟩
  · rw [lz_b_f h]; exact ⟨fun _ => h, fun _ => rfl⟩
theorem lz_b_congr {q r : Prop} (h : q ↔ r) : lz_b q = lz_b r := by rw [propext h]
theorem lz_b_01 (q : Prop) : lz_b q = 0 ∨ lz_b q = 1 := by
  by_cases h : q
  · exact Or.inr (lz_b_t h)
  · exact Or.inl (lz_b_f h)
theorem z_if_eq (C : lz_C p s m args meth c D dA b y cc nL ret) {x : Int32} {off : Int} (tgt : Nat) (hdg : decode cc pc = .ok (.ifCond .eq off, 3)) (ht : (pc : Int) + off = (tgt : Int)) (kt : x = 0 → lz_Z p l e Rm s m args below meth c D dA b nL T0 ad0 Q kc ks T A B R tgt lv (rest)) (kf : ¬ x = 0 → lz_Z p l e Rm s m args below meth c D dA b nL T0 ad0 Q kc ks T A B R (pc + 3) lv (rest)) : lz_Z p l e Rm s m args below meth c D dA b nL T0 ad0 Q kc ks T A B R pc lv (.int x :: rest) :=
  fun H locs la cells slots ad h1 h2 h3 h4 h5 h6 h7 h8 => lv_if_eq C.1 C.2.1 hdg ht (fun q => kt q H locs la cells slots ad h1 h2 h3 h4 h5 h6 h7 (lz_oks_cons.mp h8).2) (fun q => kf q H locs la cells slots ad h1 h2 h3 h4 h5 h6 h7 (lz_oks_cons.mp h8).2)
theorem z_icmp_eq (C : lz_C p s m args meth c D dA b y cc nL ret) {x y1 : Int32} {off : Int} (tgt : Nat) (hdg : decode cc pc = .ok (.if_icmp .eq off, 3)) (ht : (pc : Int) + off = (tgt : Int)) (kt : x = y1 → lz_Z p l e Rm s m args below meth c D dA b nL T0 ad0 Q kc ks T A B R tgt lv (rest)) (kf : ¬ x = y1 → lz_Z p l e Rm s m args below meth c D dA b nL T0 ad0 Q kc ks T A B R (pc + 3) lv (rest)) : lz_Z p l e Rm s m args below meth c D dA b nL T0 ad0 Q kc ks T A B R pc lv (.int y1 :: .int x :: rest) :=
  fun H locs la cells slots ad h1 h2 h3 h4 h5 h6 h7 h8 => lv_icmp_eq C.1 C.2.1 hdg ht (fun q => kt q H locs la cells slots ad h1 h2 h3 h4 h5 h6 h7 (lz_oks_cons.mp (lz_oks_cons.mp h8).2).2) (fun q => kf q H locs la cells slots ad h1 h2 h3 h4 h5 h6 h7 (lz_oks_cons.mp (lz_oks_cons.mp h8).2).2)
theorem z_if_ne (C : lz_C p s m args meth c D dA b y cc nL ret) {x : Int32} {off : Int} (tgt : Nat) (hdg : decode cc pc = .ok (.ifCond .ne off, 3)) (ht : (pc : Int) + off = (tgt : Int)) (kt : ¬ x = 0 → lz_Z p l e Rm s m args below meth c D dA b nL T0 ad0 Q kc ks T A B R tgt lv (rest)) (kf : x = 0 → lz_Z p l e Rm s m args below meth c D dA b nL T0 ad0 Q kc ks T A B R (pc + 3) lv (rest)) : lz_Z p l e Rm s m args below meth c D dA b nL T0 ad0 Q kc ks T A B R pc lv (.int x :: rest) :=
  fun H locs la cells slots ad h1 h2 h3 h4 h5 h6 h7 h8 => lv_if_ne C.1 C.2.1 hdg ht (fun q => kt q H locs la cells slots ad h1 h2 h3 h4 h5 h6 h7 (lz_oks_cons.mp h8).2) (fun q => kf q H locs la cells slots ad h1 h2 h3 h4 h5 h6 h7 (lz_oks_cons.mp h8).2)
theorem z_icmp_ne (C : lz_C p s m args meth c D dA b y cc nL ret) {x y1 : Int32} {off : Int} (tgt : Nat) (hdg : decode cc pc = .ok (.if_icmp .ne off, 3)) (ht : (pc : Int) + off = (tgt : Int)) (kt : ¬ x = y1 → lz_Z p l e Rm s m args below meth c D dA b nL T0 ad0 Q kc ks T A B R tgt lv (rest)) (kf : x = y1 → lz_Z p l e Rm s m args below meth c D dA b nL T0 ad0 Q kc ks T A B R (pc + 3) lv (rest)) : lz_Z p l e Rm s m args below meth c D dA b nL T0 ad0 Q kc ks T A B R pc lv (.int y1 :: .int x :: rest) :=
  fun H locs la cells slots ad h1 h2 h3 h4 h5 h6 h7 h8 => lv_icmp_ne C.1 C.2.1 hdg ht (fun q => kt q H locs la cells slots ad h1 h2 h3 h4 h5 h6 h7 (lz_oks_cons.mp (lz_oks_cons.mp h8).2).2) (fun q => kf q H locs la cells slots ad h1 h2 h3 h4 h5 h6 h7 (lz_oks_cons.mp (lz_oks_cons.mp h8).2).2)
theorem z_if_lt (C : lz_C p s m args meth c D dA b y cc nL ret) {x : Int32} {off : Int} (tgt : Nat) (hdg : decode cc pc = .ok (.ifCond .lt off, 3)) (ht : (pc : Int) + off = (tgt : Int)) (kt : x < 0 → lz_Z p l e Rm s m args below meth c D dA b nL T0 ad0 Q kc ks T A B R tgt lv (rest)) (kf : ¬ x < 0 → lz_Z p l e Rm s m args below meth c D dA b nL T0 ad0 Q kc ks T A B R (pc + 3) lv (rest)) : lz_Z p l e Rm s m args below meth c D dA b nL T0 ad0 Q kc ks T A B R pc lv (.int x :: rest) :=
  fun H locs la cells slots ad h1 h2 h3 h4 h5 h6 h7 h8 => lv_if_lt C.1 C.2.1 hdg ht (fun q => kt q H locs la cells slots ad h1 h2 h3 h4 h5 h6 h7 (lz_oks_cons.mp h8).2) (fun q => kf q H locs la cells slots ad h1 h2 h3 h4 h5 h6 h7 (lz_oks_cons.mp h8).2)
theorem z_icmp_lt (C : lz_C p s m args meth c D dA b y cc nL ret) {x y1 : Int32} {off : Int} (tgt : Nat) (hdg : decode cc pc = .ok (.if_icmp .lt off, 3)) (ht : (pc : Int) + off = (tgt : Int)) (kt : x < y1 → lz_Z p l e Rm s m args below meth c D dA b nL T0 ad0 Q kc ks T A B R tgt lv (rest)) (kf : ¬ x < y1 → lz_Z p l e Rm s m args below meth c D dA b nL T0 ad0 Q kc ks T A B R (pc + 3) lv (rest)) : lz_Z p l e Rm s m args below meth c D dA b nL T0 ad0 Q kc ks T A B R pc lv (.int y1 :: .int x :: rest) :=
  fun H locs la cells slots ad h1 h2 h3 h4 h5 h6 h7 h8 => lv_icmp_lt C.1 C.2.1 hdg ht (fun q => kt q H locs la cells slots ad h1 h2 h3 h4 h5 h6 h7 (lz_oks_cons.mp (lz_oks_cons.mp h8).2).2) (fun q => kf q H locs la cells slots ad h1 h2 h3 h4 h5 h6 h7 (lz_oks_cons.mp (lz_oks_cons.mp h8).2).2)
theorem z_if_ge (C : lz_C p s m args meth c D dA b y cc nL ret) {x : Int32} {off : Int} (tgt : Nat) (hdg : decode cc pc = .ok (.ifCond .ge off, 3)) (ht : (pc : Int) + off = (tgt : Int)) (kt : 0 ≤ x → lz_Z p l e Rm s m args below meth c D dA b nL T0 ad0 Q kc ks T A B R tgt lv (rest)) (kf : ¬ 0 ≤ x → lz_Z p l e Rm s m args below meth c D dA b nL T0 ad0 Q kc ks T A B R (pc + 3) lv (rest)) : lz_Z p l e Rm s m args below meth c D dA b nL T0 ad0 Q kc ks T A B R pc lv (.int x :: rest) :=
  fun H locs la cells slots ad h1 h2 h3 h4 h5 h6 h7 h8 => lv_if_ge C.1 C.2.1 hdg ht (fun q => kt q H locs la cells slots ad h1 h2 h3 h4 h5 h6 h7 (lz_oks_cons.mp h8).2) (fun q => kf q H locs la cells slots ad h1 h2 h3 h4 h5 h6 h7 (lz_oks_cons.mp h8).2)
theorem z_icmp_ge (C : lz_C p s m args meth c D dA b y cc nL ret) {x y1 : Int32} {off : Int} (tgt : Nat) (hdg : decode cc pc = .ok (.if_icmp .ge off, 3)) (ht : (pc : Int) + off = (tgt : Int)) (kt : y1 ≤ x → lz_Z p l e Rm s m args below meth c D dA b nL T0 ad0 Q kc ks T A B R tgt lv (rest)) (kf : ¬ y1 ≤ x → lz_Z p l e Rm s m args below meth c D dA b nL T0 ad0 Q kc ks T A B R (pc + 3) lv (rest)) : lz_Z p l e Rm s m args below meth c D dA b nL T0 ad0 Q kc ks T A B R pc lv (.int y1 :: .int x :: rest) :=
  fun H locs la cells slots ad h1 h2 h3 h4 h5 h6 h7 h8 => lv_icmp_ge C.1 C.2.1 hdg ht (fun q => kt q H locs la cells slots ad h1 h2 h3 h4 h5 h6 h7 (lz_oks_cons.mp (lz_oks_cons.mp h8).2).2) (fun q => kf q H locs la cells slots ad h1 h2 h3 h4 h5 h6 h7 (lz_oks_cons.mp (lz_oks_cons.mp h8).2).2)
theorem z_if_gt (C : lz_C p s m args meth c D dA b y cc nL ret) {x : Int32} {off : Int} (tgt : Nat) (hdg : decode cc pc = .ok (.ifCond .gt off, 3)) (ht : (pc : Int) + off = (tgt : Int)) (kt : 0 < x → lz_Z p l e Rm s m args below meth c D dA b nL T0 ad0 Q kc ks T A B R tgt lv (rest)) (kf : ¬ 0 < x → lz_Z p l e Rm s m args below meth c D dA b nL T0 ad0 Q kc ks T A B R (pc + 3) lv (rest)) : lz_Z p l e Rm s m args below meth c D dA b nL T0 ad0 Q kc ks T A B R pc lv (.int x :: rest) :=
  fun H locs la cells slots ad h1 h2 h3 h4 h5 h6 h7 h8 => lv_if_gt C.1 C.2.1 hdg ht (fun q => kt q H locs la cells slots ad h1 h2 h3 h4 h5 h6 h7 (lz_oks_cons.mp h8).2) (fun q => kf q H locs la cells slots ad h1 h2 h3 h4 h5 h6 h7 (lz_oks_cons.mp h8).2)
theorem z_icmp_gt (C : lz_C p s m args meth c D dA b y cc nL ret) {x y1 : Int32} {off : Int} (tgt : Nat) (hdg : decode cc pc = .ok (.if_icmp .gt off, 3)) (ht : (pc : Int) + off = (tgt : Int)) (kt : y1 < x → lz_Z p l e Rm s m args below meth c D dA b nL T0 ad0 Q kc ks T A B R tgt lv (rest)) (kf : ¬ y1 < x → lz_Z p l e Rm s m args below meth c D dA b nL T0 ad0 Q kc ks T A B R (pc + 3) lv (rest)) : lz_Z p l e Rm s m args below meth c D dA b nL T0 ad0 Q kc ks T A B R pc lv (.int y1 :: .int x :: rest) :=
  fun H locs la cells slots ad h1 h2 h3 h4 h5 h6 h7 h8 => lv_icmp_gt C.1 C.2.1 hdg ht (fun q => kt q H locs la cells slots ad h1 h2 h3 h4 h5 h6 h7 (lz_oks_cons.mp (lz_oks_cons.mp h8).2).2) (fun q => kf q H locs la cells slots ad h1 h2 h3 h4 h5 h6 h7 (lz_oks_cons.mp (lz_oks_cons.mp h8).2).2)
theorem z_if_le (C : lz_C p s m args meth c D dA b y cc nL ret) {x : Int32} {off : Int} (tgt : Nat) (hdg : decode cc pc = .ok (.ifCond .le off, 3)) (ht : (pc : Int) + off = (tgt : Int)) (kt : x ≤ 0 → lz_Z p l e Rm s m args below meth c D dA b nL T0 ad0 Q kc ks T A B R tgt lv (rest)) (kf : ¬ x ≤ 0 → lz_Z p l e Rm s m args below meth c D dA b nL T0 ad0 Q kc ks T A B R (pc + 3) lv (rest)) : lz_Z p l e Rm s m args below meth c D dA b nL T0 ad0 Q kc ks T A B R pc lv (.int x :: rest) :=
  fun H locs la cells slots ad h1 h2 h3 h4 h5 h6 h7 h8 => lv_if_le C.1 C.2.1 hdg ht (fun q => kt q H locs la cells slots ad h1 h2 h3 h4 h5 h6 h7 (lz_oks_cons.mp h8).2) (fun q => kf q H locs la cells slots ad h1 h2 h3 h4 h5 h6 h7 (lz_oks_cons.mp h8).2)
theorem z_icmp_le (C : lz_C p s m args meth c D dA b y cc nL ret) {x y1 : Int32} {off : Int} (tgt : Nat) (hdg : decode cc pc = .ok (.if_icmp .le off, 3)) (ht : (pc : Int) + off = (tgt : Int)) (kt : x ≤ y1 → lz_Z p l e Rm s m args below meth c D dA b nL T0 ad0 Q kc ks T A B R tgt lv (rest)) (kf : ¬ x ≤ y1 → lz_Z p l e Rm s m args below meth c D dA b nL T0 ad0 Q kc ks T A B R (pc + 3) lv (rest)) : lz_Z p l e Rm s m args below meth c D dA b nL T0 ad0 Q kc ks T A B R pc lv (.int y1 :: .int x :: rest) :=
  fun H locs la cells slots ad h1 h2 h3 h4 h5 h6 h7 h8 => lv_icmp_le C.1 C.2.1 hdg ht (fun q => kt q H locs la cells slots ad h1 h2 h3 h4 h5 h6 h7 (lz_oks_cons.mp (lz_oks_cons.mp h8).2).2) (fun q => kf q H locs la cells slots ad h1 h2 h3 h4 h5 h6 h7 (lz_oks_cons.mp (lz_oks_cons.mp h8).2).2)
theorem z_icmp_eqN (C : lz_C p s m args meth c D dA b y cc nL ret) {a b1 : Nat} {off : Int} (tgt : Nat) (ha : a < 2 ^ 31) (hb : b1 < 2 ^ 31) (hdg : decode cc pc = .ok (.if_icmp .eq off, 3)) (ht : (pc : Int) + off = (tgt : Int)) (kt : a = b1 → lz_Z p l e Rm s m args below meth c D dA b nL T0 ad0 Q kc ks T A B R tgt lv (rest)) (kf : ¬ a = b1 → lz_Z p l e Rm s m args below meth c D dA b nL T0 ad0 Q kc ks T A B R (pc + 3) lv (rest)) : lz_Z p l e Rm s m args below meth c D dA b nL T0 ad0 Q kc ks T A B R pc lv (.int (nI b1) :: .int (nI a) :: rest) :=
  z_icmp_eq C tgt hdg ht (fun q => kt ((nI_eq ha hb).mp q)) (fun q => kf (fun z => q ((nI_eq ha hb).mpr z)))
theorem z_icmp_ltN (C : lz_C p s m args meth c D dA b y cc nL ret) {a b1 : Nat} {off : Int} (tgt : Nat) (ha : a < 2 ^ 31) (hb : b1 < 2 ^ 31) (hdg : decode cc pc = .ok (.if_icmp .lt off, 3)) (ht : (pc : Int) + off = (tgt : Int)) (kt : a < b1 → lz_Z p l e Rm s m args below meth c D dA b nL T0 ad0 Q kc ks T A B R tgt lv (rest)) (kf : ¬ a < b1 → lz_Z p l e Rm s m args below meth c D dA b nL T0 ad0 Q kc ks T A B R (pc + 3) lv (rest)) : lz_Z p l e Rm s m args below meth c D dA b nL T0 ad0 Q kc ks T A B R pc lv (.int (nI b1) :: .int (nI a) :: rest) :=
  z_icmp_lt C tgt hdg ht (fun q => kt ((nI_ltI ha hb).mp q)) (fun q => kf (fun z => q ((nI_ltI ha hb).mpr z)))
theorem z_icmp_geN (C : lz_C p s m args meth c D dA b y cc nL ret) {a b1 : Nat} {off : Int} (tgt : Nat) (ha : a < 2 ^ 31) (hb : b1 < 2 ^ 31) (hdg : decode cc pc = .ok (.if_icmp .ge off, 3)) (ht : (pc : Int) + off = (tgt : Int)) (kt : b1 ≤ a → lz_Z p l e Rm s m args below meth c D dA b nL T0 ad0 Q kc ks T A B R tgt lv (rest)) (kf : ¬ b1 ≤ a → lz_Z p l e Rm s m args below meth c D dA b nL T0 ad0 Q kc ks T A B R (pc + 3) lv (rest)) : lz_Z p l e Rm s m args below meth c D dA b nL T0 ad0 Q kc ks T A B R pc lv (.int (nI b1) :: .int (nI a) :: rest) :=
  z_icmp_ge C tgt hdg ht (fun q => kt ((nI_leI hb ha).mp q)) (fun q => kf (fun z => q ((nI_leI hb ha).mpr z)))
theorem z_icmp_gtN (C : lz_C p s m args meth c D dA b y cc nL ret) {a b1 : Nat} {off : Int} (tgt : Nat) (ha : a < 2 ^ 31) (hb : b1 < 2 ^ 31) (hdg : decode cc pc = .ok (.if_icmp .gt off, 3)) (ht : (pc : Int) + off = (tgt : Int)) (kt : b1 < a → lz_Z p l e Rm s m args below meth c D dA b nL T0 ad0 Q kc ks T A B R tgt lv (rest)) (kf : ¬ b1 < a → lz_Z p l e Rm s m args below meth c D dA b nL T0 ad0 Q kc ks T A B R (pc + 3) lv (rest)) : lz_Z p l e Rm s m args below meth c D dA b nL T0 ad0 Q kc ks T A B R pc lv (.int (nI b1) :: .int (nI a) :: rest) :=
  z_icmp_gt C tgt hdg ht (fun q => kt ((nI_ltI hb ha).mp q)) (fun q => kf (fun z => q ((nI_ltI hb ha).mpr z)))
theorem z_icmp_leN (C : lz_C p s m args meth c D dA b y cc nL ret) {a b1 : Nat} {off : Int} (tgt : Nat) (ha : a < 2 ^ 31) (hb : b1 < 2 ^ 31) (hdg : decode cc pc = .ok (.if_icmp .le off, 3)) (ht : (pc : Int) + off = (tgt : Int)) (kt : a ≤ b1 → lz_Z p l e Rm s m args below meth c D dA b nL T0 ad0 Q kc ks T A B R tgt lv (rest)) (kf : ¬ a ≤ b1 → lz_Z p l e Rm s m args below meth c D dA b nL T0 ad0 Q kc ks T A B R (pc + 3) lv (rest)) : lz_Z p l e Rm s m args below meth c D dA b nL T0 ad0 Q kc ks T A B R pc lv (.int (nI b1) :: .int (nI a) :: rest) :=
  z_icmp_le C tgt hdg ht (fun q => kt ((nI_leI ha hb).mp q)) (fun q => kf (fun z => q ((nI_leI ha hb).mpr z)))
theorem z_icmp_neN (C : lz_C p s m args meth c D dA b y cc nL ret) {a b1 : Nat} {off : Int} (tgt : Nat) (ha : a < 2 ^ 31) (hb : b1 < 2 ^ 31) (hdg : decode cc pc = .ok (.if_icmp .ne off, 3)) (ht : (pc : Int) + off = (tgt : Int)) (kt : ¬ a = b1 → lz_Z p l e Rm s m args below meth c D dA b nL T0 ad0 Q kc ks T A B R tgt lv (rest)) (kf : a = b1 → lz_Z p l e Rm s m args below meth c D dA b nL T0 ad0 Q kc ks T A B R (pc + 3) lv (rest)) : lz_Z p l e Rm s m args below meth c D dA b nL T0 ad0 Q kc ks T A B R pc lv (.int (nI b1) :: .int (nI a) :: rest) :=
  z_icmp_ne C tgt hdg ht (fun q => kt (fun z => q ((nI_eq ha hb).mpr z))) (fun q => kf ((nI_eq ha hb).mp q))
theorem z_if_eqb (C : lz_C p s m args meth c D dA b y cc nL ret) {q : Prop} {off : Int} (tgt : Nat) (hdg : decode cc pc = .ok (.ifCond .eq off, 3)) (ht : (pc : Int) + off = (tgt : Int)) (kt : ¬ q → lz_Z p l e Rm s m args below meth c D dA b nL T0 ad0 Q kc ks T A B R tgt lv (rest)) (kf : q → lz_Z p l e Rm s m args below meth c D dA b nL T0 ad0 Q kc ks T A B R (pc + 3) lv (rest)) : lz_Z p l e Rm s m args below meth c D dA b nL T0 ad0 Q kc ks T A B R pc lv (.int (lz_b q) :: rest) :=
  z_if_eq C tgt hdg ht (fun z => kt (lz_b_0.mp z)) (fun z => kf (Classical.byContradiction fun w => z (lz_b_0.mpr w)))
theorem z_if_neb (C : lz_C p s m args meth c D dA b y cc nL ret) {q : Prop} {off : Int} (tgt : Nat) (hdg : decode cc pc = .ok (.ifCond .ne off, 3)) (ht : (pc : Int) + off = (tgt : Int)) (kt : q → lz_Z p l e Rm s m args below meth c D dA b nL T0 ad0 Q kc ks T A B R tgt lv (rest)) (kf : ¬ q → lz_Z p l e Rm s m args below meth c D dA b nL T0 ad0 Q kc ks T A B R (pc + 3) lv (rest)) : lz_Z p l e Rm s m args below meth c D dA b nL T0 ad0 Q kc ks T A B R pc lv (.int (lz_b q) :: rest) :=
  z_if_ne C tgt hdg ht (fun z => kt (Classical.byContradiction fun w => z (lz_b_0.mpr w))) (fun z => kf (lz_b_0.mp z))
theorem z_goto (C : lz_C p s m args meth c D dA b y cc nL ret) {off : Int} (tgt : Nat) (hdg : decode cc pc = .ok (.goto off, 3)) (ht : (pc : Int) + off = (tgt : Int)) (kk : lz_Z p l e Rm s m args below meth c D dA b nL T0 ad0 Q kc ks T A B R tgt lv (rest)) : lz_Z p l e Rm s m args below meth c D dA b nL T0 ad0 Q kc ks T A B R pc lv (rest) :=
  fun H locs la cells slots ad h1 h2 h3 h4 h5 h6 h7 h8 => lv_goto C.1 C.2.1 hdg ht (kk H locs la cells slots ad h1 h2 h3 h4 h5 h6 h7 h8)
theorem z_ifnull (C : lz_C p s m args meth c D dA b y cc nL ret) {x : Nat} {off : Int} (hdg : decode cc pc = .ok (.ifnull off, 3)) (kk : lz_Z p l e Rm s m args below meth c D dA b nL T0 ad0 Q kc ks T A B R (pc + 3) lv (rest)) : lz_Z p l e Rm s m args below meth c D dA b nL T0 ad0 Q kc ks T A B R pc lv (.ref x :: rest) :=
  fun H locs la cells slots ad h1 h2 h3 h4 h5 h6 h7 h8 => lv_ifnull C.1 C.2.1 hdg (kk H locs la cells slots ad h1 h2 h3 h4 h5 h6 h7 (lz_oks_cons.mp h8).2)
theorem z_ifnullN (C : lz_C p s m args meth c D dA b y cc nL ret) {off : Int} (tgt : Nat) (hdg : decode cc pc = .ok (.ifnull off, 3)) (ht : (pc : Int) + off = (tgt : Int)) (kk : lz_Z p l e Rm s m args below meth c D dA b nL T0 ad0 Q kc ks T A B R tgt lv (rest)) : lz_Z p l e Rm s m args below meth c D dA b nL T0 ad0 Q kc ks T A B R pc lv (.null :: rest) :=
  fun H locs la cells slots ad h1 h2 h3 h4 h5 h6 h7 h8 => lv_ifnullN C.1 C.2.1 hdg ht (kk H locs la cells slots ad h1 h2 h3 h4 h5 h6 h7 (lz_oks_cons.mp h8).2)
theorem z_ifnonnull (C : lz_C p s m args meth c D dA b y cc nL ret) {x : Nat} {off : Int} (tgt : Nat) (hdg : decode cc pc = .ok (.ifnonnull off, 3)) (ht : (pc : Int) + off = (tgt : Int)) (kk : lz_Z p l e Rm s m args below meth c D dA b nL T0 ad0 Q kc ks T A B R tgt lv (rest)) : lz_Z p l e Rm s m args below meth c D dA b nL T0 ad0 Q kc ks T A B R pc lv (.ref x :: rest) :=
  fun H locs la cells slots ad h1 h2 h3 h4 h5 h6 h7 h8 => lv_ifnonnull C.1 C.2.1 hdg ht (kk H locs la cells slots ad h1 h2 h3 h4 h5 h6 h7 (lz_oks_cons.mp h8).2)
theorem z_ifnonnullN (C : lz_C p s m args meth c D dA b y cc nL ret) {off : Int} (hdg : decode cc pc = .ok (.ifnonnull off, 3)) (kk : lz_Z p l e Rm s m args below meth c D dA b nL T0 ad0 Q kc ks T A B R (pc + 3) lv (rest)) : lz_Z p l e Rm s m args below meth c D dA b nL T0 ad0 Q kc ks T A B R pc lv (.null :: rest) :=
  fun H locs la cells slots ad h1 h2 h3 h4 h5 h6 h7 h8 => lv_ifnonnullN C.1 C.2.1 hdg (kk H locs la cells slots ad h1 h2 h3 h4 h5 h6 h7 (lz_oks_cons.mp h8).2)
theorem z_tableIn (C : lz_C p s m args meth c D dA b y cc nL ret) {dflt lo hi : Int} {offs : Array Int} {len : Nat} {x : Int32} {off : Int} (tgt : Nat) (hdg : decode cc pc = .ok (.tableswitch dflt lo hi offs, len)) (g1 : ¬ x.toInt < lo) (g2 : ¬ hi < x.toInt) (ho : offs[(x.toInt - lo).toNat]? = some off) (ht : (pc : Int) + off = (tgt : Int)) (kk : lz_Z p l e Rm s m args below meth c D dA b nL T0 ad0 Q kc ks T A B R tgt lv (rest)) : lz_Z p l e Rm s m args below meth c D dA b nL T0 ad0 Q kc ks T A B R pc lv (.int x :: rest) :=
  fun H locs la cells slots ad h1 h2 h3 h4 h5 h6 h7 h8 => lv_tableIn C.1 C.2.1 hdg g1 g2 ho ht (kk H locs la cells slots ad h1 h2 h3 h4 h5 h6 h7 (lz_oks_cons.mp h8).2)
theorem z_tableOut (C : lz_C p s m args meth c D dA b y cc nL ret) {dflt lo hi : Int} {offs : Array Int} {len : Nat} {x : Int32} (tgt : Nat) (hdg : decode cc pc = .ok (.tableswitch dflt lo hi offs, len)) (g1 : x.toInt < lo ∨ hi < x.toInt) (ht : (pc : Int) + dflt = (tgt : Int)) (kk : lz_Z p l e Rm s m args below meth c D dA b nL T0 ad0 Q kc ks T A B R tgt lv (rest)) : lz_Z p l e Rm s m args below meth c D dA b nL T0 ad0 Q kc ks T A B R pc lv (.int x :: rest) :=
  fun H locs la cells slots ad h1 h2 h3 h4 h5 h6 h7 h8 => lv_tableOut C.1 C.2.1 hdg g1 ht (kk H locs la cells slots ad h1 h2 h3 h4 h5 h6 h7 (lz_oks_cons.mp h8).2)
theorem z_top {v w : Value} (hv : v = w) (kk : lz_Z p l e Rm s m args below meth c D dA b nL T0 ad0 Q kc ks T A B R pc lv (w :: rest)) : lz_Z p l e Rm s m args below meth c D dA b nL T0 ad0 Q kc ks T A B R pc lv (v :: rest) := by rw [hv]; exact kk
theorem z_iaddN (C : lz_C p s m args meth c D dA b y cc nL ret) {a b1 : Nat} (hdg : decode cc pc = .ok (.iadd, 1)) (kk : lz_Z p l e Rm s m args below meth c D dA b nL T0 ad0 Q kc ks T A B R (pc + 1) lv (.int (nI (a + b1)) :: rest)) : lz_Z p l e Rm s m args below meth c D dA b nL T0 ad0 Q kc ks T A B R pc lv (.int (nI b1) :: .int (nI a) :: rest) := z_iadd C hdg (by rw [nI_add]; exact kk)
theorem z_imulN (C : lz_C p s m args meth c D dA b y cc nL ret) {a b1 : Nat} (hdg : decode cc pc = .ok (.imul, 1)) (kk : lz_Z p l e Rm s m args below meth c D dA b nL T0 ad0 Q kc ks T A B R (pc + 1) lv (.int (nI (a * b1)) :: rest)) : lz_Z p l e Rm s m args below meth c D dA b nL T0 ad0 Q kc ks T A B R pc lv (.int (nI b1) :: .int (nI a) :: rest) := z_imul C hdg (by rw [pk_mul]; exact kk)
theorem z_isubN (C : lz_C p s m args meth c D dA b y cc nL ret) {a b1 : Nat} (hle : b1 ≤ a) (hdg : decode cc pc = .ok (.isub, 1)) (kk : lz_Z p l e Rm s m args below meth c D dA b nL T0 ad0 Q kc ks T A B R (pc + 1) lv (.int (nI (a - b1)) :: rest)) : lz_Z p l e Rm s m args below meth c D dA b nL T0 ad0 Q kc ks T A B R pc lv (.int (nI b1) :: .int (nI a) :: rest) := z_isub C hdg (by rw [pk_sub hle]; exact kk)
theorem z_iret {Post : Option Value → lz_T → lz_A → lz_B → lz_R → Prop} (C : lz_C p s m args meth c D dA b y cc nL ret) {x : Int32} {ty : FieldType} (hr : ret = some ty) (hn : narrow ty (.int x) = .int x) (hc : kc ≤ Rm.cells) (hs : ks ≤ Rm.slots) (hdg : decode cc pc = .ok (.ireturn, 1)) (hq : Post (some (.int x)) T A B R) : lz_Z p l e Rm s m args below meth c D dA b nL T0 ad0 (MQ below (lz_Qc D dA b T0 ad0 Post) args s Rm.cells Rm.slots (fun q => b ≤ q)) kc ks T A B R pc lv ([.int x]) := by
  intro H locs la cells slots ad h1 h2 h3 h4 h5 h6 h7 h8
  refine W.widen (Nat.le_trans h1 hc) (Nat.le_trans h2 hs) ?_
  exact W.zret C.1 C.2.1 (C.2.2.2.2.2.2.2.1.trans hr) hn (fun t ht hW => ⟨⟨some (.int x), T, A, B, R, ad, rfl, (fun v hv => by cases hv; exact lz_ok_int _ _), h4, hq, by rw [ht]; exact h3⟩, h5.F ht⟩) h5.2.2 hdg C.2.2.2.2.2.2.1
theorem z_dret {Post : Option Value → lz_T → lz_A → lz_B → lz_R → Prop} (C : lz_C p s m args meth c D dA b y cc nL ret) {x : UInt64} (hr : ret = some .double) (hc : kc ≤ Rm.cells) (hs : ks ≤ Rm.slots) (hdg : decode cc pc = .ok (.dreturn, 1)) (hq : Post (some (.double x)) T A B R) : lz_Z p l e Rm s m args below meth c D dA b nL T0 ad0 (MQ below (lz_Qc D dA b T0 ad0 Post) args s Rm.cells Rm.slots (fun q => b ≤ q)) kc ks T A B R pc lv ([.double x]) := by
  intro H locs la cells slots ad h1 h2 h3 h4 h5 h6 h7 h8
  refine W.widen (Nat.le_trans h1 hc) (Nat.le_trans h2 hs) ?_
  exact W.dret C.1 C.2.1 (C.2.2.2.2.2.2.2.1.trans hr) (fun t ht hW => ⟨⟨some (.double x), T, A, B, R, ad, rfl, (fun v hv => by cases hv; exact lz_ok_dbl _ _), h4, hq, by rw [ht]; exact h3⟩, h5.F ht⟩) h5.2.2 hdg C.2.2.2.2.2.2.1
theorem z_lret {Post : Option Value → lz_T → lz_A → lz_B → lz_R → Prop} (C : lz_C p s m args meth c D dA b y cc nL ret) {x : Int64} (hr : ret = some .long) (hc : kc ≤ Rm.cells) (hs : ks ≤ Rm.slots) (hdg : decode cc pc = .ok (.lreturn, 1)) (hq : Post (some (.long x)) T A B R) : lz_Z p l e Rm s m args below meth c D dA b nL T0 ad0 (MQ below (lz_Qc D dA b T0 ad0 Post) args s Rm.cells Rm.slots (fun q => b ≤ q)) kc ks T A B R pc lv ([.long x]) := by
  intro H locs la cells slots ad h1 h2 h3 h4 h5 h6 h7 h8
  refine W.widen (Nat.le_trans h1 hc) (Nat.le_trans h2 hs) ?_
  exact W.lret C.1 C.2.1 (C.2.2.2.2.2.2.2.1.trans hr) (fun t ht hW => ⟨⟨some (.long x), T, A, B, R, ad, rfl, (fun v hv => by cases hv; exact lz_ok_long _ _), h4, hq, by rw [ht]; exact h3⟩, h5.F ht⟩) h5.2.2 hdg C.2.2.2.2.2.2.1
theorem z_vret {Post : Option Value → lz_T → lz_A → lz_B → lz_R → Prop} (C : lz_C p s m args meth c D dA b y cc nL ret)  (hr : ret = none) (hc : kc ≤ Rm.cells) (hs : ks ≤ Rm.slots) (hdg : decode cc pc = .ok (.return_, 1)) (hq : Post (none) T A B R) : lz_Z p l e Rm s m args below meth c D dA b nL T0 ad0 (MQ below (lz_Qc D dA b T0 ad0 Post) args s Rm.cells Rm.slots (fun q => b ≤ q)) kc ks T A B R pc lv ([]) := by
  intro H locs la cells slots ad h1 h2 h3 h4 h5 h6 h7 h8
  refine W.widen (Nat.le_trans h1 hc) (Nat.le_trans h2 hs) ?_
  exact W.vret C.1 C.2.1 (C.2.2.2.2.2.2.2.1.trans hr) (fun t ht hW => ⟨⟨none, T, A, B, R, ad, rfl, (fun v hv => by cases hv), h4, hq, by rw [ht]; exact h3⟩, h5.F ht⟩) h5.2.2 hdg C.2.2.2.2.2.2.1
theorem z_aret {Post : Option Value → lz_T → lz_A → lz_B → lz_R → Prop} (C : lz_C p s m args meth c D dA b y cc nL ret) {x : Nat} {cn : String} (hr : ret = some (.object cn)) (hc : kc ≤ Rm.cells) (hs : ks ≤ Rm.slots) (hdg : decode cc pc = .ok (.areturn, 1)) (hq : Post (some (.ref x)) T A B R) : lz_Z p l e Rm s m args below meth c D dA b nL T0 ad0 (MQ below (lz_Qc D dA b T0 ad0 Post) args s Rm.cells Rm.slots (fun q => b ≤ q)) kc ks T A B R pc lv ([.ref x]) := by
  intro H locs la cells slots ad h1 h2 h3 h4 h5 h6 h7 h8
  refine W.widen (Nat.le_trans h1 hc) (Nat.le_trans h2 hs) ?_
  exact W.aret (v := .ref (ad x)) C.1 C.2.1 (C.2.2.2.2.2.2.2.1.trans hr) (Or.inl ⟨_, rfl⟩) (Or.inr ⟨_, rfl⟩) (fun t ht hW => ⟨⟨some (.ref x), T, A, B, R, ad, rfl, (fun v hv => by cases hv; exact (lz_oks_cons.mp h8).1), h4, hq, by rw [ht]; exact h3⟩, h5.F ht⟩) h5.2.2 hdg C.2.2.2.2.2.2.1
theorem z_aretN {Post : Option Value → lz_T → lz_A → lz_B → lz_R → Prop} (C : lz_C p s m args meth c D dA b y cc nL ret) {cn : String} (hr : ret = some (.object cn)) (hc : kc ≤ Rm.cells) (hs : ks ≤ Rm.slots) (hdg : decode cc pc = .ok (.areturn, 1)) (hq : Post (some .null) T A B R) : lz_Z p l e Rm s m args below meth c D dA b nL T0 ad0 (MQ below (lz_Qc D dA b T0 ad0 Post) args s Rm.cells Rm.slots (fun q => b ≤ q)) kc ks T A B R pc lv ([.null]) := by
  intro H locs la cells slots ad h1 h2 h3 h4 h5 h6 h7 h8
  refine W.widen (Nat.le_trans h1 hc) (Nat.le_trans h2 hs) ?_
  exact W.aret (v := .null) C.1 C.2.1 (C.2.2.2.2.2.2.2.1.trans hr) (Or.inl ⟨_, rfl⟩) (Or.inl rfl) (fun t ht hW => ⟨⟨some .null, T, A, B, R, ad, rfl, (fun v hv => by cases hv; exact lz_ok_null _), h4, hq, by rw [ht]; exact h3⟩, h5.F ht⟩) h5.2.2 hdg C.2.2.2.2.2.2.1
end ZR
end
section
/-! 07.heap: fields, arrays, new, over lz_Z -/
/-- the tables' words for field k (of kind kd) of class ci, as method class 'own' names it by 'index' -/
def lz_F (own : String) (index ci k kd : Nat) : Prop := ci < 11 ∧ ∃ q : vw_C, vwCl[ci]? = some q ∧ lz_nF ci = q.2.2 ∧ k < q.2.2 ∧ (∀ w ∈ u_ws q.1 q.2.1 q.2.2, w ∈ lw_tb2) ∧ Cond.fieldLink own index (q.2.1 k).1 (q.2.1 k).2.1 (q.2.1 k).2.2.1 ∈ lw_tb2 ∧ lz_kd (lz_ty ci k) = kd
/-- the same, of a field that method y may write -/
def lz_G (y : MethodName) (index ci k kd : Nat) : Prop := ci < 11 ∧ ∃ q : vw_C, vwCl[ci]? = some q ∧ lz_nF ci = q.2.2 ∧ k < q.2.2 ∧ (∀ w ∈ u_ws q.1 q.2.1 q.2.2, w ∈ lw_tb2) ∧ Cond.fieldLink y.cls index (q.2.1 k).1 (q.2.1 k).2.1 (q.2.1 k).2.2.1 ∈ lw_tb2 ∧ lz_kd (lz_ty ci k) = kd ∧
  (∀ j, j < q.2.2 → parseFieldDescriptor (q.2.1 j).2.2.1 = some (lz_ty ci j)) ∧ (∀ a, a < q.2.2 → ∀ b, b < q.2.2 → a ≠ b → (q.2.1 a).2.1 ≠ (q.2.1 b).2.1) ∧ ((q.2.1 k).2.2.2 = false ∨ ((q.2.1 k).2.2.2 = true ∧ y.name = "<init>" ∧ (q.2.1 k).1 = y.cls)) ∧
  (∀ x : Int32, kd = 0 → narrow (lz_ty ci k) (.int x) = .int x ∧ fits (lz_ty ci k) (.int x) = true) ∧ (∀ x : UInt64, kd = 1 → narrow (lz_ty ci k) (.double x) = .double x ∧ fits (lz_ty ci k) (.double x) = true) ∧ (∀ x : Option Nat, kd = 2 → narrow (lz_ty ci k) (va_rf x) = va_rf x ∧ fits (lz_ty ci k) (va_rf x) = true)
theorem lz_pos {T : lz_T} {Ls : List Nat} (h : ∀ L, L ∈ Ls ↔ (T L).1 ≠ 0) {L : Nat} (hT : (T L).1 ≠ 0) : ∃ k : Nat, Ls[k]? = some L := List.getElem?_of_mem ((h L).mpr hT)
theorem lz_tag_o {T : lz_T} {L ci z : Nat} (h : T L = (1 + ci, z)) : (T L).1 ≠ 0 := by rw [h]; simp only []; omega
theorem lz_tag_a {T : lz_T} {L t n : Nat} (h : T L = (32 + t, n)) : (T L).1 ≠ 0 := by rw [h]; simp only []; omega
theorem lz_in {i : Nat} {n : Nat} {x : Int32} (hx : x = nI i) (hi : i < n) (hn : n < 2 ^ 31) : vp_in x n := by rw [hx]; exact vp_in_nI hi hn
section ZH
variable {p : Program} {l : Launch} {e : Env} {Rm : Room} {s : State} {m : MethodId} {args : Array Value} {below : List Frame} {meth : Method} {c : Code} {D : va_G} {dA : Nat → ClassId} {b nL : Nat} {T0 : lz_T} {ad0 : Nat → Nat} {Q : State → Prop} {kc ks : Nat} {T : lz_T} {A : lz_A} {B : lz_B} {R : lz_R} {y : MethodName} {cc : ByteArray} {ret : Option FieldType} {pc : Nat} {lv : List (Nat × Value)} {rest : List Value}
theorem z_getv (C : lz_C p s m args meth c D dA b y cc nL ret) {L ci k z index kd : Nat} {v : Value} (F : lz_F y.cls index ci k kd) (hT : T L = (1 + ci, z)) (hdg : decode cc pc = .ok (.getfield index, 3)) (hv : ∀ ad, lz_fv ad A B R L k kd = lz_iv ad v) (hok : (∀ L k q, R L k = some q → (T q).1 ≠ 0) → lz_ok T v)
    (kk : lz_Z p l e Rm s m args below meth c D dA b nL T0 ad0 Q kc ks T A B R (pc + 3) lv (v :: rest)) : lz_Z p l e Rm s m args below meth c D dA b nL T0 ad0 Q kc ks T A B R pc lv (.ref L :: rest) := by
  intro H locs la cells slots ad h1 h2 h3 h4 h5 h6 h7 h8
  obtain ⟨Ls, hmem, hP, hD, hcl, hz⟩ := id h3
  obtain ⟨k0, hk0⟩ := lz_pos hmem (lz_tag_o hT)
  obtain ⟨hci, q, hq, hnF, hk, hin, hlk, hkd⟩ := F
  have he := lz_ws_at (dA := dA) (ad := ad) (T := T) (A := A) (B := B) (R := R) hk0
  rw [lz_cell_o hT (by omega)] at he
  refine va_get (C := q.1) (T := q.2.1) (N := q.2.2) C.1 C.2.1 C.2.2.2.2.1 hin C.2.2.2.1 C.2.2.2.2.2.1.1 hP k0 he hq k hk (C.2.2.2.2.1 _ hlk) (fun _ h => h) (v := lz_iv ad v) ?_ hdg ?_
  · rw [lz_fs_get _ _ _ _ _ (by rw [hnF]; exact hk), hkd, hv]
  · exact kk H locs la cells slots ad h1 h2 h3 h4 h5 h6 h7 (lz_oks_cons.mpr ⟨hok hcl, (lz_oks_cons.mp h8).2⟩)
theorem z_geti (C : lz_C p s m args meth c D dA b y cc nL ret) {L ci k z index : Nat} {x : Int32} (F : lz_F y.cls index ci k 0) (hT : T L = (1 + ci, z)) (hv : A L k = x) (hdg : decode cc pc = .ok (.getfield index, 3))
    (kk : lz_Z p l e Rm s m args below meth c D dA b nL T0 ad0 Q kc ks T A B R (pc + 3) lv (.int x :: rest)) : lz_Z p l e Rm s m args below meth c D dA b nL T0 ad0 Q kc ks T A B R pc lv (.ref L :: rest) :=
  z_getv C F hT hdg (fun _ => by subst hv; rfl) (fun _ => lz_ok_int _ _) kk
theorem z_getd (C : lz_C p s m args meth c D dA b y cc nL ret) {L ci k z index : Nat} {x : UInt64} (F : lz_F y.cls index ci k 1) (hT : T L = (1 + ci, z)) (hv : B L k = x) (hdg : decode cc pc = .ok (.getfield index, 3))
    (kk : lz_Z p l e Rm s m args below meth c D dA b nL T0 ad0 Q kc ks T A B R (pc + 3) lv (.double x :: rest)) : lz_Z p l e Rm s m args below meth c D dA b nL T0 ad0 Q kc ks T A B R pc lv (.ref L :: rest) :=
  z_getv C F hT hdg (fun _ => by subst hv; rfl) (fun _ => lz_ok_dbl _ _) kk
theorem z_getr (C : lz_C p s m args meth c D dA b y cc nL ret) {L ci k z index x : Nat} (F : lz_F y.cls index ci k 2) (hT : T L = (1 + ci, z)) (hv : R L k = some x) (hdg : decode cc pc = .ok (.getfield index, 3))
    (kk : lz_Z p l e Rm s m args below meth c D dA b nL T0 ad0 Q kc ks T A B R (pc + 3) lv (.ref x :: rest)) : lz_Z p l e Rm s m args below meth c D dA b nL T0 ad0 Q kc ks T A B R pc lv (.ref L :: rest) :=
  z_getv C F hT hdg (fun _ => by unfold lz_fv; rw [hv]; rfl) (fun h => lz_ok_ref (h L k x hv)) kk
theorem z_getn (C : lz_C p s m args meth c D dA b y cc nL ret) {L ci k z index : Nat} (F : lz_F y.cls index ci k 2) (hT : T L = (1 + ci, z)) (hv : R L k = none) (hdg : decode cc pc = .ok (.getfield index, 3))
    (kk : lz_Z p l e Rm s m args below meth c D dA b nL T0 ad0 Q kc ks T A B R (pc + 3) lv (.null :: rest)) : lz_Z p l e Rm s m args below meth c D dA b nL T0 ad0 Q kc ks T A B R pc lv (.ref L :: rest) :=
  z_getv C F hT hdg (fun _ => by unfold lz_fv; rw [hv]; rfl) (fun _ => lz_ok_null _) kk
/-- one cell has changed: the heap -/
theorem lz_H_set {ad : Nat → Nat} {A' : lz_A} {B' : lz_B} {R' : lz_R} {Ls : List Nat} {H1 : Heap} {k0 L : Nat} (hmem : ∀ L, L ∈ Ls ↔ (T L).1 ≠ 0) (hD : va_D (fun q => b ≤ q) (lz_ws dA ad T A B R Ls)) (hz : ∀ L, (T L).1 = 0 → A L = (fun _ => 0) ∧ B L = (fun _ => 0) ∧ R L = fun _ => none) (hk0 : Ls[k0]? = some L) (hTL : (T L).1 ≠ 0)
    (ho : ∀ l, l ≠ L → A' l = A l ∧ B' l = B l ∧ R' l = R l) (hcl : ∀ L k q, R' L k = some q → (T q).1 ≠ 0) {en : va_E} (hen : lz_cell dA ad T A' B' R' L = en) (hP1 : va_P D vwCl ((lz_ws dA ad T A B R Ls).set k0 (ad L, en)) H1) (hD1 : va_D (fun q => b ≤ q) ((lz_ws dA ad T A B R Ls).set k0 (ad L, en))) : lz_H D dA b ad T A' B' R' H1 := by
  have hs := lz_ws_set (A' := A') (B' := B') (R' := R') hD hk0 (fun l hl => lz_cell_row (ho l hl).1 (ho l hl).2.1 (ho l hl).2.2)
  rw [hen] at hs
  rw [hs] at hP1 hD1
  refine ⟨Ls, hmem, hP1, hD1, hcl, fun l hl => ?_⟩
  have hne : l ≠ L := fun z => hTL (by rw [← z]; exact hl)
  rw [(ho l hne).1, (ho l hne).2.1, (ho l hne).2.2]
  exact hz l hl
theorem z_putv (C : lz_C p s m args meth c D dA b y cc nL ret) {L ci k z index kd : Nat} {v : Value} {A' : lz_A} {B' : lz_B} {R' : lz_R} (F : lz_G y index ci k kd) (hT : T L = (1 + ci, z)) (hdg : decode cc pc = .ok (.putfield index, 3)) (hv : ∀ ad, lz_fv ad A' B' R' L k kd = lz_iv ad v) (hfit : narrow (lz_ty ci k) v = v ∧ fits (lz_ty ci k) v = true) (hiv : ∀ ad, narrow (lz_ty ci k) (lz_iv ad v) = lz_iv ad v ∧ fits (lz_ty ci k) (lz_iv ad v) = true)
    (ho : ∀ l, l ≠ L → A' l = A l ∧ B' l = B l ∧ R' l = R l) (hj : ∀ j, j ≠ k → ∀ ad kd, lz_fv ad A' B' R' L j kd = lz_fv ad A B R L j kd) (hcl : (∀ L k q, R L k = some q → (T q).1 ≠ 0) → lz_ok T v → ∀ L k q, R' L k = some q → (T q).1 ≠ 0)
    (kk : lz_Z p l e Rm s m args below meth c D dA b nL T0 ad0 Q kc ks T A' B' R' (pc + 3) lv rest) : lz_Z p l e Rm s m args below meth c D dA b nL T0 ad0 Q kc ks T A B R pc lv (v :: .ref L :: rest) := by
  intro H locs la cells slots ad h1 h2 h3 h4 h5 h6 h7 h8
  obtain ⟨Ls, hmem, hP, hD, hc, hz⟩ := id h3
  obtain ⟨k0, hk0⟩ := lz_pos hmem (lz_tag_o hT)
  obtain ⟨hci, q, hq, hnF, hk, hin, hlk, hkd, hty, hnm, hfin, -⟩ := F
  have he := lz_ws_at (dA := dA) (ad := ad) (T := T) (A := A) (B := B) (R := R) hk0
  rw [lz_cell_o hT (by omega)] at he
  have hnew : (lz_fs ad A B R L ci).set k (lz_iv ad v) = lz_fs ad A' B' R' L ci := lz_fs_set (by rw [hnF]; exact hk) (by rw [hkd]; exact hv ad) (fun j hjk kd => hj j hjk ad kd)
  have go : ∀ (H1 : Heap) (locs1 : List Loc), va_P D vwCl ((lz_ws dA ad T A B R Ls).set k0 (ad L, .inr (ci, (lz_fs ad A B R L ci).set k (lz_iv ad v)))) H1 → va_D (fun q => b ≤ q) ((lz_ws dA ad T A B R Ls).set k0 (ad L, .inr (ci, (lz_fs ad A B R L ci).set k (lz_iv ad v)))) → va_S (fun q => b ≤ q) s.heap H1 locs1 → W p l e Rm s m args below meth c H1 locs1 cells slots Q (F0 m (pc + 3) la (rest.map (lz_iv ad))) := by
    intro H1 locs1 hP1 hD1 hS1
    rw [hnew] at hP1 hD1
    exact kk H1 locs1 la cells slots ad h1 h2 (lz_H_set hmem hD hz hk0 (lz_tag_o hT) ho (hcl hc (lz_oks_cons.mp h8).1) (lz_cell_o hT (by omega)) hP1 hD1) h4 hS1 h6 h7 (lz_oks_cons.mp (lz_oks_cons.mp h8).2).2
  rcases hfin with hf | ⟨hf, hini, hdecl⟩
  · exact va_put (C := q.1) (T := q.2.1) (N := q.2.2) C.1 C.2.1 C.2.2.2.2.1 hin (lz_ty ci) hty hnm C.2.2.2.1 C.2.2.2.2.2.1.1 hP hD h5 k0 he hq k hk (C.2.2.2.2.1 _ hlk) (fun _ h => h) hf (hty k hk) (hiv ad).1 (hiv ad).2 (by rw [lz_fs_len, hnF]; exact hk) hdg go
  · exact va_putF (C := q.1) (T := q.2.1) (N := q.2.2) C.1 C.2.1 C.2.2.2.2.1 hin (lz_ty ci) hty hnm C.2.2.2.1 C.2.2.2.2.2.1.1 hP hD h5 k0 he hq k hk (C.2.2.2.2.1 _ hlk) (fun _ h => h) hf (C.2.2.2.2.2.2.2.2.2.trans hini) hdecl (hty k hk) (hiv ad).1 (hiv ad).2 (by rw [lz_fs_len, hnF]; exact hk) hdg go
theorem z_puti (C : lz_C p s m args meth c D dA b y cc nL ret) {L ci k z index : Nat} {x : Int32} (F : lz_G y index ci k 0) (hT : T L = (1 + ci, z)) (hdg : decode cc pc = .ok (.putfield index, 3))
    (kk : lz_Z p l e Rm s m args below meth c D dA b nL T0 ad0 Q kc ks T (lz_up A L k x) B R (pc + 3) lv rest) : lz_Z p l e Rm s m args below meth c D dA b nL T0 ad0 Q kc ks T A B R pc lv (.int x :: .ref L :: rest) := by
  obtain ⟨-, -, -, -, -, -, -, -, -, -, -, hf, -⟩ := id F
  exact z_putv C F hT hdg (fun _ => congrArg Value.int (lz_up_eq A L k x)) (hf x rfl) (fun _ => hf x rfl) (fun l hl => ⟨lz_up_row A x hl, rfl, rfl⟩) (fun j hj ad kd => by unfold lz_fv; rw [lz_up_ne A x (fun q => hj q.2)]) (fun h _ => h) kk
theorem z_putd (C : lz_C p s m args meth c D dA b y cc nL ret) {L ci k z index : Nat} {x : UInt64} (F : lz_G y index ci k 1) (hT : T L = (1 + ci, z)) (hdg : decode cc pc = .ok (.putfield index, 3))
    (kk : lz_Z p l e Rm s m args below meth c D dA b nL T0 ad0 Q kc ks T A (lz_up B L k x) R (pc + 3) lv rest) : lz_Z p l e Rm s m args below meth c D dA b nL T0 ad0 Q kc ks T A B R pc lv (.double x :: .ref L :: rest) := by
  obtain ⟨-, -, -, -, -, -, -, -, -, -, -, -, hf, -⟩ := id F
  exact z_putv C F hT hdg (fun _ => congrArg Value.double (lz_up_eq B L k x)) (hf x rfl) (fun _ => hf x rfl) (fun l hl => ⟨rfl, lz_up_row B x hl, rfl⟩) (fun j hj ad kd => by unfold lz_fv; rw [lz_up_ne B x (fun q => hj q.2)]) (fun h _ => h) kk
theorem z_putq (C : lz_C p s m args meth c D dA b y cc nL ret) {L ci k z index : Nat} {x : Option Nat} (F : lz_G y index ci k 2) (hT : T L = (1 + ci, z)) (hdg : decode cc pc = .ok (.putfield index, 3))
    (kk : lz_Z p l e Rm s m args below meth c D dA b nL T0 ad0 Q kc ks T A B (lz_up R L k x) (pc + 3) lv rest) : lz_Z p l e Rm s m args below meth c D dA b nL T0 ad0 Q kc ks T A B R pc lv (va_rf x :: .ref L :: rest) := by
  obtain ⟨-, -, -, -, -, -, -, -, -, -, -, -, -, hf⟩ := id F
  refine z_putv (R' := lz_up R L k x) C F hT hdg (fun ad => ?_) (hf x rfl) (fun ad => by rw [lz_iv_rf]; exact hf _ rfl) (fun l hl => ⟨rfl, rfl, lz_up_row R x hl⟩) (fun j hj ad kd => by unfold lz_fv; rw [lz_up_ne R x (fun q => hj q.2)]) (fun h hv L' k' q hq => ?_) kk
  · show va_rf ((lz_up R L k x L k).map ad) = _
    rw [lz_up_eq, lz_iv_rf]
  · by_cases hc : L' = L ∧ k' = k
    · obtain ⟨rfl, rfl⟩ := hc
      rw [lz_up_eq] at hq
      subst hq
      exact hv q rfl
    · rw [lz_up_ne R x hc] at hq
      exact h L' k' q hq
theorem z_putr (C : lz_C p s m args meth c D dA b y cc nL ret) {L ci k z index x : Nat} (F : lz_G y index ci k 2) (hT : T L = (1 + ci, z)) (hdg : decode cc pc = .ok (.putfield index, 3))
    (kk : lz_Z p l e Rm s m args below meth c D dA b nL T0 ad0 Q kc ks T A B (lz_up R L k (some x)) (pc + 3) lv rest) : lz_Z p l e Rm s m args below meth c D dA b nL T0 ad0 Q kc ks T A B R pc lv (.ref x :: .ref L :: rest) := z_putq (x := some x) C F hT hdg kk
theorem z_putn (C : lz_C p s m args meth c D dA b y cc nL ret) {L ci k z index : Nat} (F : lz_G y index ci k 2) (hT : T L = (1 + ci, z)) (hdg : decode cc pc = .ok (.putfield index, 3))
    (kk : lz_Z p l e Rm s m args below meth c D dA b nL T0 ad0 Q kc ks T A B (lz_up R L k none) (pc + 3) lv rest) : lz_Z p l e Rm s m args below meth c D dA b nL T0 ad0 Q kc ks T A B R pc lv (.null :: .ref L :: rest) := z_putq (x := none) C F hT hdg kk
/-- arrays: a read -/
theorem z_iald (C : lz_C p s m args meth c D dA b y cc nL ret) {L n i : Nat} {x v : Int32} (hT : T L = (32 + 0, n)) (hx : x = nI i) (hi : i < n) (hn : n < 2 ^ 31) (hv : A L i = v) (hdg : decode cc pc = .ok (.iaload, 1))
    (kk : lz_Z p l e Rm s m args below meth c D dA b nL T0 ad0 Q kc ks T A B R (pc + 1) lv (.int v :: rest)) : lz_Z p l e Rm s m args below meth c D dA b nL T0 ad0 Q kc ks T A B R pc lv (.int x :: .ref L :: rest) := by
  intro H locs la cells slots ad h1 h2 h3 h4 h5 h6 h7 h8
  obtain ⟨Ls, hmem, hP, hD, hcl, hz⟩ := id h3
  obtain ⟨k0, hk0⟩ := lz_pos hmem (lz_tag_a hT)
  have he := lz_ws_at (dA := dA) (ad := ad) (T := T) (A := A) (B := B) (R := R) hk0
  rw [lz_cell_a hT] at he
  refine va_iald C.1 C.2.1 C.2.2.2.2.2.1.1 hP k0 0 he rfl (lz_in hx hi hn) hdg ?_
  rw [hx, nI_clamp (Nat.lt_trans hi hn), hv]
  exact kk H locs la cells slots ad h1 h2 h3 h4 h5 h6 h7 (lz_oks_cons.mpr ⟨lz_ok_int _ _, (lz_oks_cons.mp (lz_oks_cons.mp h8).2).2⟩)
theorem z_zald (C : lz_C p s m args meth c D dA b y cc nL ret) {L n i : Nat} {x v : Int32} (hT : T L = (32 + 2, n)) (hx : x = nI i) (hi : i < n) (hn : n < 2 ^ 31) (hv : A L i = v) (hdg : decode cc pc = .ok (.baload, 1))
    (kk : lz_Z p l e Rm s m args below meth c D dA b nL T0 ad0 Q kc ks T A B R (pc + 1) lv (.int v :: rest)) : lz_Z p l e Rm s m args below meth c D dA b nL T0 ad0 Q kc ks T A B R pc lv (.int x :: .ref L :: rest) := by
  intro H locs la cells slots ad h1 h2 h3 h4 h5 h6 h7 h8
  obtain ⟨Ls, hmem, hP, hD, hcl, hz⟩ := id h3
  obtain ⟨k0, hk0⟩ := lz_pos hmem (lz_tag_a hT)
  have he := lz_ws_at (dA := dA) (ad := ad) (T := T) (A := A) (B := B) (R := R) hk0
  rw [lz_cell_a hT] at he
  refine va_zald C.1 C.2.1 C.2.2.2.2.2.1.1 hP k0 2 he rfl (lz_in hx hi hn) hdg ?_
  rw [hx, nI_clamp (Nat.lt_trans hi hn), hv]
  exact kk H locs la cells slots ad h1 h2 h3 h4 h5 h6 h7 (lz_oks_cons.mpr ⟨lz_ok_int _ _, (lz_oks_cons.mp (lz_oks_cons.mp h8).2).2⟩)
theorem z_dald (C : lz_C p s m args meth c D dA b y cc nL ret) {L n i : Nat} {x : Int32} {v : UInt64} (hT : T L = (32 + 1, n)) (hx : x = nI i) (hi : i < n) (hn : n < 2 ^ 31) (hv : B L i = v) (hdg : decode cc pc = .ok (.daload, 1))
    (kk : lz_Z p l e Rm s m args below meth c D dA b nL T0 ad0 Q kc ks T A B R (pc + 1) lv (.double v :: rest)) : lz_Z p l e Rm s m args below meth c D dA b nL T0 ad0 Q kc ks T A B R pc lv (.int x :: .ref L :: rest) := by
  intro H locs la cells slots ad h1 h2 h3 h4 h5 h6 h7 h8
  obtain ⟨Ls, hmem, hP, hD, hcl, hz⟩ := id h3
  obtain ⟨k0, hk0⟩ := lz_pos hmem (lz_tag_a hT)
  have he := lz_ws_at (dA := dA) (ad := ad) (T := T) (A := A) (B := B) (R := R) hk0
  rw [lz_cell_a hT] at he
  refine va_dald C.1 C.2.1 C.2.2.2.2.2.1.1 hP k0 1 he rfl (lz_in hx hi hn) hdg ?_
  rw [hx, nI_clamp (Nat.lt_trans hi hn), hv]
  exact kk H locs la cells slots ad h1 h2 h3 h4 h5 h6 h7 (lz_oks_cons.mpr ⟨lz_ok_dbl _ _, (lz_oks_cons.mp (lz_oks_cons.mp h8).2).2⟩)
theorem lz_ar_q (ad : Nat → Nat) (A : lz_A) (B : lz_B) (R : lz_R) (L n : Nat) {t : Nat} (ht : 3 ≤ t) : lz_ar ad A B R L t n = (n, .inr (.inr (.inr (.inr (fun k => (R L k).map ad))))) := by
  unfold lz_ar
  match t, ht with
  | t + 3, _ => rfl
theorem z_aldv (C : lz_C p s m args meth c D dA b y cc nL ret) {L n i t : Nat} {x : Int32} (ht : 3 ≤ t) (ht2 : t < 7) (hT : T L = (32 + t, n)) (hx : x = nI i) (hi : i < n) (hn : n < 2 ^ 31) (hdg : decode cc pc = .ok (.aaload, 1))
    (kk : lz_Z p l e Rm s m args below meth c D dA b nL T0 ad0 Q kc ks T A B R (pc + 1) lv (va_rf (R L i) :: rest)) : lz_Z p l e Rm s m args below meth c D dA b nL T0 ad0 Q kc ks T A B R pc lv (.int x :: .ref L :: rest) := by
  intro H locs la cells slots ad h1 h2 h3 h4 h5 h6 h7 h8
  obtain ⟨Ls, hmem, hP, hD, hcl, hz⟩ := id h3
  obtain ⟨k0, hk0⟩ := lz_pos hmem (lz_tag_a hT)
  have he := lz_ws_at (dA := dA) (ad := ad) (T := T) (A := A) (B := B) (R := R) hk0
  rw [lz_cell_a hT, lz_ar_q _ _ _ _ _ _ ht] at he
  have hin := lz_in hx hi hn
  have go := kk H locs la cells slots ad h1 h2 h3 h4 h5 h6 h7 (lz_oks_cons.mpr ⟨lz_ok_rf (fun q hq => hcl L i q hq), (lz_oks_cons.mp (lz_oks_cons.mp h8).2).2⟩)
  rw [List.map_cons, lz_iv_rf] at go
  have hxi : x.toNatClampNeg = i := by rw [hx]; exact nI_clamp (Nat.lt_trans hi hn)
  have hA : ∃ ty : FieldType, ArrOfT s (dA t) ty ∧ ((∃ cn, ty = .object cn) ∨ ∃ t1, ty = .array t1) := by
    have hK := C.2.2.2.2.2.1.1.2
    rcases (show t = 3 ∨ t = 4 ∨ t = 5 ∨ t = 6 by omega) with rfl | rfl | rfl | rfl
    · exact ⟨_, (hK 3 (dA 3, .object "CordBay$Row") rfl).1, Or.inl ⟨_, rfl⟩⟩
    · exact ⟨_, (hK 4 (dA 4, .object "CordBay$State") rfl).1, Or.inl ⟨_, rfl⟩⟩
    · exact ⟨_, (hK 5 (dA 5, .object "CordBay$Unit") rfl).1, Or.inl ⟨_, rfl⟩⟩
    · exact ⟨_, (hK 6 (dA 6, .array .int) rfl).1, Or.inr ⟨_, rfl⟩⟩
  obtain ⟨ty, hty, hk⟩ := hA
  refine W.aald (v := va_rf ((R L i).map ad)) (ty := ty) C.1 C.2.1 (hP k0 _ he) (hty n (fun j => va_rf ((R L j).map ad))) (by rcases hk with ⟨_, rfl⟩ | ⟨_, rfl⟩ <;> rfl) (fun q => by cases q) (by show ¬ (x < 0 ∨ (arrV _ _ _).slots.size ≤ _); rw [arrV_size]; exact hin) (by show (arrV _ _ _).slots[_]? = _; rw [hxi, arrV_read _ _ hi]) rfl rfl hdg go
theorem z_aldr (C : lz_C p s m args meth c D dA b y cc nL ret) {L n i t q : Nat} {x : Int32} (ht : 3 ≤ t) (ht2 : t < 7) (hT : T L = (32 + t, n)) (hx : x = nI i) (hi : i < n) (hn : n < 2 ^ 31) (hv : R L i = some q) (hdg : decode cc pc = .ok (.aaload, 1))
    (kk : lz_Z p l e Rm s m args below meth c D dA b nL T0 ad0 Q kc ks T A B R (pc + 1) lv (.ref q :: rest)) : lz_Z p l e Rm s m args below meth c D dA b nL T0 ad0 Q kc ks T A B R pc lv (.int x :: .ref L :: rest) := z_aldv C ht ht2 hT hx hi hn hdg (by rw [hv]; exact kk)
theorem z_aldn (C : lz_C p s m args meth c D dA b y cc nL ret) {L n i t : Nat} {x : Int32} (ht : 3 ≤ t) (ht2 : t < 7) (hT : T L = (32 + t, n)) (hx : x = nI i) (hi : i < n) (hn : n < 2 ^ 31) (hv : R L i = none) (hdg : decode cc pc = .ok (.aaload, 1))
    (kk : lz_Z p l e Rm s m args below meth c D dA b nL T0 ad0 Q kc ks T A B R (pc + 1) lv (.null :: rest)) : lz_Z p l e Rm s m args below meth c D dA b nL T0 ad0 Q kc ks T A B R pc lv (.int x :: .ref L :: rest) := z_aldv C ht ht2 hT hx hi hn hdg (by rw [hv]; exact kk)
theorem lz_upd_at (A : lz_A) (L i : Nat) (x : Int32) : upd (A L) i x = lz_up A L i x L := by
  funext j
  simp [upd, lz_up]
theorem z_iast (C : lz_C p s m args meth c D dA b y cc nL ret) {L n i : Nat} {x v : Int32} (hT : T L = (32 + 0, n)) (hx : x = nI i) (hi : i < n) (hn : n < 2 ^ 31) (hdg : decode cc pc = .ok (.iastore, 1))
    (kk : lz_Z p l e Rm s m args below meth c D dA b nL T0 ad0 Q kc ks T (lz_up A L i v) B R (pc + 1) lv rest) : lz_Z p l e Rm s m args below meth c D dA b nL T0 ad0 Q kc ks T A B R pc lv (.int v :: .int x :: .ref L :: rest) := by
  intro H locs la cells slots ad h1 h2 h3 h4 h5 h6 h7 h8
  obtain ⟨Ls, hmem, hP, hD, hcl, hz⟩ := id h3
  obtain ⟨k0, hk0⟩ := lz_pos hmem (lz_tag_a hT)
  have he := lz_ws_at (dA := dA) (ad := ad) (T := T) (A := A) (B := B) (R := R) hk0
  rw [lz_cell_a hT] at he
  refine va_iast C.1 C.2.1 C.2.2.2.2.2.1.1 hP hD h5 k0 0 he rfl (lz_in hx hi hn) hdg ?_
  rw [hx, nI_clamp (Nat.lt_trans hi hn), lz_upd_at]
  intro H1 locs1 hP1 hD1 hS1
  exact kk H1 locs1 la cells slots ad h1 h2 (lz_H_set hmem hD hz hk0 (lz_tag_a hT) (fun l hl => ⟨lz_up_row A v hl, rfl, rfl⟩) hcl (lz_cell_a hT) hP1 hD1) h4 hS1 h6 h7 (lz_oks_cons.mp (lz_oks_cons.mp (lz_oks_cons.mp h8).2).2).2
theorem z_zast (C : lz_C p s m args meth c D dA b y cc nL ret) {L n i : Nat} {x v : Int32} (hT : T L = (32 + 2, n)) (hx : x = nI i) (hi : i < n) (hn : n < 2 ^ 31) (hb : vp_nar .boolean v = v) (hdg : decode cc pc = .ok (.bastore, 1))
    (kk : lz_Z p l e Rm s m args below meth c D dA b nL T0 ad0 Q kc ks T (lz_up A L i v) B R (pc + 1) lv rest) : lz_Z p l e Rm s m args below meth c D dA b nL T0 ad0 Q kc ks T A B R pc lv (.int v :: .int x :: .ref L :: rest) := by
  intro H locs la cells slots ad h1 h2 h3 h4 h5 h6 h7 h8
  obtain ⟨Ls, hmem, hP, hD, hcl, hz⟩ := id h3
  obtain ⟨k0, hk0⟩ := lz_pos hmem (lz_tag_a hT)
  have he := lz_ws_at (dA := dA) (ad := ad) (T := T) (A := A) (B := B) (R := R) hk0
  rw [lz_cell_a hT] at he
  refine va_zast C.1 C.2.1 C.2.2.2.2.2.1.1 hP hD h5 k0 2 he rfl (lz_in hx hi hn) hdg ?_
  rw [hx, nI_clamp (Nat.lt_trans hi hn), hb, lz_upd_at]
  intro H1 locs1 hP1 hD1 hS1
  exact kk H1 locs1 la cells slots ad h1 h2 (lz_H_set hmem hD hz hk0 (lz_tag_a hT) (fun l hl => ⟨lz_up_row A v hl, rfl, rfl⟩) hcl (lz_cell_a hT) hP1 hD1) h4 hS1 h6 h7 (lz_oks_cons.mp (lz_oks_cons.mp (lz_oks_cons.mp h8).2).2).2
theorem lz_vf_at (B : lz_B) (L i : Nat) (x : UInt64) : vf_upd (B L) i x = lz_up B L i x L := by
  funext j
  simp [vf_upd, lz_up]
theorem z_dast (C : lz_C p s m args meth c D dA b y cc nL ret) {L n i : Nat} {x : Int32} {v : UInt64} (hT : T L = (32 + 1, n)) (hx : x = nI i) (hi : i < n) (hn : n < 2 ^ 31) (hdg : decode cc pc = .ok (.dastore, 1))
    (kk : lz_Z p l e Rm s m args below meth c D dA b nL T0 ad0 Q kc ks T A (lz_up B L i v) R (pc + 1) lv rest) : lz_Z p l e Rm s m args below meth c D dA b nL T0 ad0 Q kc ks T A B R pc lv (.double v :: .int x :: .ref L :: rest) := by
  intro H locs la cells slots ad h1 h2 h3 h4 h5 h6 h7 h8
  obtain ⟨Ls, hmem, hP, hD, hcl, hz⟩ := id h3
  obtain ⟨k0, hk0⟩ := lz_pos hmem (lz_tag_a hT)
  have he := lz_ws_at (dA := dA) (ad := ad) (T := T) (A := A) (B := B) (R := R) hk0
  rw [lz_cell_a hT] at he
  refine va_dast C.1 C.2.1 C.2.2.2.2.2.1.1 hP hD h5 k0 1 he rfl (lz_in hx hi hn) hdg ?_
  rw [hx, nI_clamp (Nat.lt_trans hi hn), lz_vf_at]
  intro H1 locs1 hP1 hD1 hS1
  exact kk H1 locs1 la cells slots ad h1 h2 (lz_H_set hmem hD hz hk0 (lz_tag_a hT) (fun l hl => ⟨rfl, lz_up_row B v hl, rfl⟩) hcl (lz_cell_a hT) hP1 hD1) h4 hS1 h6 h7 (lz_oks_cons.mp (lz_oks_cons.mp (lz_oks_cons.mp h8).2).2).2
theorem lz_up_map (ad : Nat → Nat) (R : lz_R) (L i : Nat) (x : Option Nat) : va_up (fun k => (R L k).map ad) i (x.map ad) = fun k => (lz_up R L i x L k).map ad := by
  funext j
  by_cases h : j = i
  · subst h; simp [va_up, lz_up]
  · simp [va_up, lz_up, h]
/-- the class of which an array of kind t holds objects: Row 4, State 5, Unit 8 -/
theorem z_aast (C : lz_C p s m args meth c D dA b y cc nL ret) {L n i t ci q z : Nat} {x : Int32} {r : vw_C} (hr : vwCl[ci]? = some r) (hc : ci < 11) (ht : 3 ≤ t) (hty : ∀ dA : Nat → ClassId, (lz_tys dA)[t]? = some (dA t, .object r.1)) (hT : T L = (32 + t, n)) (hTq : T q = (1 + ci, z)) (hx : x = nI i) (hi : i < n) (hn : n < 2 ^ 31) (hdg : decode cc pc = .ok (.aastore, 1))
    (kk : lz_Z p l e Rm s m args below meth c D dA b nL T0 ad0 Q kc ks T A B (lz_up R L i (some q)) (pc + 1) lv rest) : lz_Z p l e Rm s m args below meth c D dA b nL T0 ad0 Q kc ks T A B R pc lv (.ref q :: .int x :: .ref L :: rest) := by
  intro H locs la cells slots ad h1 h2 h3 h4 h5 h6 h7 h8
  obtain ⟨Ls, hmem, hP, hD, hcl, hz⟩ := id h3
  obtain ⟨k0, hk0⟩ := lz_pos hmem (lz_tag_a hT)
  obtain ⟨k1, hk1⟩ := lz_pos hmem (lz_tag_o hTq)
  have he := lz_ws_at (dA := dA) (ad := ad) (T := T) (A := A) (B := B) (R := R) hk0
  rw [lz_cell_a hT, lz_ar_q _ _ _ _ _ _ ht] at he
  have he1 := lz_ws_at (dA := dA) (ad := ad) (T := T) (A := A) (B := B) (R := R) hk1
  rw [lz_cell_o hTq (by omega)] at he1
  refine va_astq C.1 C.2.1 C.2.2.2.2.2.1.1 hP hD h5 k0 t k1 ci he (hty dA) he1 hr (lz_in hx hi hn) hdg ?_
  rw [hx, nI_clamp (Nat.lt_trans hi hn)]
  have hm := lz_up_map ad R L i (some q)
  rw [Option.map_some] at hm
  rw [hm]
  intro H1 locs1 hP1 hD1 hS1
  refine kk H1 locs1 la cells slots ad h1 h2 (lz_H_set (R' := lz_up R L i (some q)) hmem hD hz hk0 (lz_tag_a hT) (fun l hl => ⟨rfl, rfl, lz_up_row R _ hl⟩) (fun L' k' q' hq' => ?_) ((lz_cell_a hT).trans (by rw [lz_ar_q _ _ _ _ _ _ ht])) hP1 hD1) h4 hS1 h6 h7 (lz_oks_cons.mp (lz_oks_cons.mp (lz_oks_cons.mp h8).2).2).2
  by_cases hc : L' = L ∧ k' = i
  · obtain ⟨rfl, rfl⟩ := hc
    rw [lz_up_eq] at hq'
    cases hq'
    exact lz_tag_o hTq
  · rw [lz_up_ne R _ hc] at hq'
    exact hcl L' k' q' hq'
theorem z_aastN (C : lz_C p s m args meth c D dA b y cc nL ret) {L n i t : Nat} {x : Int32} {cn : String} (ht : 3 ≤ t) (hty : ∀ dA : Nat → ClassId, (lz_tys dA)[t]? = some (dA t, .object cn)) (hT : T L = (32 + t, n)) (hx : x = nI i) (hi : i < n) (hn : n < 2 ^ 31) (hdg : decode cc pc = .ok (.aastore, 1))
    (kk : lz_Z p l e Rm s m args below meth c D dA b nL T0 ad0 Q kc ks T A B (lz_up R L i none) (pc + 1) lv rest) : lz_Z p l e Rm s m args below meth c D dA b nL T0 ad0 Q kc ks T A B R pc lv (.null :: .int x :: .ref L :: rest) := by
  intro H locs la cells slots ad h1 h2 h3 h4 h5 h6 h7 h8
  obtain ⟨Ls, hmem, hP, hD, hcl, hz⟩ := id h3
  obtain ⟨k0, hk0⟩ := lz_pos hmem (lz_tag_a hT)
  have he := lz_ws_at (dA := dA) (ad := ad) (T := T) (A := A) (B := B) (R := R) hk0
  rw [lz_cell_a hT, lz_ar_q _ _ _ _ _ _ ht] at he
  refine va_astqN C.1 C.2.1 C.2.2.2.2.2.1.1 hP hD h5 k0 t he (hty dA) (lz_in hx hi hn) hdg ?_
  rw [hx, nI_clamp (Nat.lt_trans hi hn)]
  have hm := lz_up_map ad R L i none
  rw [Option.map_none] at hm
  rw [hm]
  intro H1 locs1 hP1 hD1 hS1
  refine kk H1 locs1 la cells slots ad h1 h2 (lz_H_set (R' := lz_up R L i none) hmem hD hz hk0 (lz_tag_a hT) (fun l hl => ⟨rfl, rfl, lz_up_row R _ hl⟩) (fun L' k' q' hq' => ?_) ((lz_cell_a hT).trans (by rw [lz_ar_q _ _ _ _ _ _ ht])) hP1 hD1) h4 hS1 h6 h7 (lz_oks_cons.mp (lz_oks_cons.mp (lz_oks_cons.mp h8).2).2).2
  by_cases hc : L' = L ∧ k' = i
  · obtain ⟨rfl, rfl⟩ := hc
    rw [lz_up_eq] at hq'
    cases hq'
  · rw [lz_up_ne R _ hc] at hq'
    exact hcl L' k' q' hq'
theorem z_alen (C : lz_C p s m args meth c D dA b y cc nL ret) {L n t : Nat} (ht : t < 7) (hT : T L = (32 + t, n)) (hdg : decode cc pc = .ok (.arraylength, 1))
    (kk : lz_Z p l e Rm s m args below meth c D dA b nL T0 ad0 Q kc ks T A B R (pc + 1) lv (.int (nI n) :: rest)) : lz_Z p l e Rm s m args below meth c D dA b nL T0 ad0 Q kc ks T A B R pc lv (.ref L :: rest) := by
  intro H locs la cells slots ad h1 h2 h3 h4 h5 h6 h7 h8
  obtain ⟨Ls, hmem, hP, hD, hcl, hz⟩ := id h3
  obtain ⟨k0, hk0⟩ := lz_pos hmem (lz_tag_a hT)
  have he := lz_ws_at (dA := dA) (ad := ad) (T := T) (A := A) (B := B) (R := R) hk0
  rw [lz_cell_a hT] at he
  have hl : Int32.ofNat (lz_ar ad A B R L t n).1 = nI n := by
    unfold lz_ar
    split <;> rfl
  have hty : ∃ ty, (lz_tys dA)[t]? = some (dA t, ty) := by
    rcases (show t = 0 ∨ t = 1 ∨ t = 2 ∨ t = 3 ∨ t = 4 ∨ t = 5 ∨ t = 6 by omega) with rfl | rfl | rfl | rfl | rfl | rfl | rfl <;> exact ⟨_, rfl⟩
  obtain ⟨ty, hty⟩ := hty
  exact va_alen C.1 C.2.1 C.2.2.2.2.2.1.1 hP k0 t he hty hl hdg (kk H locs la cells slots ad h1 h2 h3 h4 h5 h6 h7 (lz_oks_cons.mpr ⟨lz_ok_int _ _, (lz_oks_cons.mp h8).2⟩))
end ZH
end
section
/-! 08.calls: new cells, calls, over lz_Z -/
def lz_upT (T : lz_T) (L : Nat) (x : Nat × Nat) : lz_T := fun l => if l = L then x else T l
theorem lz_upT_eq (T : lz_T) (L : Nat) (x : Nat × Nat) : lz_upT T L x L = x := if_pos rfl
theorem lz_upT_ne (T : lz_T) {L l : Nat} (x : Nat × Nat) (h : l ≠ L) : lz_upT T L x l = T l := if_neg h
theorem lz_E_new {T : lz_T} {ad : Nat → Nat} {L q : Nat} {x : Nat × Nat} (hL : (T L).1 = 0) : lz_E T ad (lz_upT T L x) (va_up ad L q) := fun l hl => by
  have hne : l ≠ L := fun z => hl (by rw [z]; exact hL)
  exact ⟨lz_upT_ne T x hne, by simp [va_up, hne]⟩
theorem lz_st_E {T T' : lz_T} {ad ad' : Nat → Nat} (hE : lz_E T ad T' ad') {st : List Value} (h : lz_oks T st) : st.map (lz_iv ad') = st.map (lz_iv ad) := List.map_congr_left fun v hv => lz_ok_iv hE (h v hv)
theorem lz_lv_E {T T' : lz_T} {ad ad' : Nat → Nat} (hE : lz_E T ad T' ad') {lv : List (Nat × Value)} (h : lz_okl T lv) : lz_lv ad' lv = lz_lv ad lv := List.map_congr_left fun q hq => by rw [lz_ok_iv hE (h q hq)]
theorem lz_oks_E {T T' : lz_T} {ad ad' : Nat → Nat} (hE : lz_E T ad T' ad') {st : List Value} (h : lz_oks T st) : lz_oks T' st := fun v hv => lz_ok_E hE (h v hv)
theorem lz_okl_E {T T' : lz_T} {ad ad' : Nat → Nat} (hE : lz_E T ad T' ad') {lv : List (Nat × Value)} (h : lz_okl T lv) : lz_okl T' lv := fun q hq => lz_ok_E hE (h q hq)
/-- a new cell: the heap -/
theorem lz_H_push {D : va_G} {dA : Nat → ClassId} {b : Nat} {ad : Nat → Nat} {T : lz_T} {A : lz_A} {B : lz_B} {R : lz_R} {Ls : List Nat} {H1 : Heap} {L q : Nat} {x : Nat × Nat} (hmem : ∀ L, L ∈ Ls ↔ (T L).1 ≠ 0) (hcl : ∀ L k q, R L k = some q → (T q).1 ≠ 0) (hz : ∀ L, (T L).1 = 0 → A L = (fun _ => 0) ∧ B L = (fun _ => 0) ∧ R L = fun _ => none) (hL : (T L).1 = 0) (hx : x.1 ≠ 0) {en : va_E} (hen : lz_cell dA (va_up ad L q) (lz_upT T L x) A B R L = en)
    (hP1 : va_P D vwCl (lz_ws dA ad T A B R Ls ++ [(q, en)]) H1) (hD1 : va_D (fun q => b ≤ q) (lz_ws dA ad T A B R Ls ++ [(q, en)])) : lz_H D dA b (va_up ad L q) (lz_upT T L x) A B R H1 := by
  have hw : lz_ws dA ad T A B R Ls ++ [(q, en)] = lz_ws dA (va_up ad L q) (lz_upT T L x) A B R (Ls ++ [L]) := by
    unfold lz_ws
    rw [List.map_append]
    congr 1
    · apply List.map_congr_left
      intro l hl
      have hne : l ≠ L := fun z => (hmem l).mp hl (by rw [z]; exact hL)
      have hc : lz_cell dA (va_up ad L q) (lz_upT T L x) A B R l = lz_cell dA ad T A B R l := lz_cell_ad (lz_upT_ne T x hne) (fun k q' hq' => by
        have h1 : q' ≠ L := fun z => hcl l k q' hq' (by rw [z]; exact hL)
        simp [va_up, h1])
      rw [hc]
      simp [va_up, hne]
    · show [(q, en)] = [(va_up ad L q L, _)]
      rw [hen]
      simp [va_up]
  rw [hw] at hP1 hD1
  refine ⟨Ls ++ [L], fun l => ?_, hP1, hD1, fun l k q' hq' => ?_, fun l hl => ?_⟩
  · by_cases hl : l = L
    · subst hl
      rw [lz_upT_eq]
      simp [hx]
    · rw [lz_upT_ne T x hl, List.mem_append, List.mem_singleton, hmem]
      simp [hl]
  · have h1 : q' ≠ L := fun z => hcl l k q' hq' (by rw [z]; exact hL)
    rw [lz_upT_ne T x h1]
    exact hcl l k q' hq'
  · by_cases h1 : l = L
    · subst h1
      rw [lz_upT_eq] at hl
      exact absurd hl hx
    · rw [lz_upT_ne T x h1] at hl
      exact hz l hl
/-- the tables' words for 'new' of class ci by 'index' -/
def lz_N (own : String) (index ci : Nat) : Prop := ci < 11 ∧ ∃ q : vw_C, vwCl[ci]? = some q ∧ lz_nF ci = q.2.2 ∧ (∀ w ∈ u_ws q.1 q.2.1 q.2.2, w ∈ lw_tb2) ∧ (∀ j, j < q.2.2 → parseFieldDescriptor (q.2.1 j).2.2.1 = some (lz_ty ci j)) ∧ Cond.classLink own index q.1 ∈ lw_tb2 ∧ Cond.instantiable q.1 q.2.2 ∈ lw_tb2 ∧ Cond.initialized q.1 ∈ lw_tb2 ∧
  ∀ j, j < q.2.2 → lz_fv id (fun _ _ => 0) (fun _ _ => 0) (fun _ _ => none) 0 j (lz_kd (lz_ty ci j)) = defaultValue (lz_ty ci j)
section ZC
variable {p : Program} {l : Launch} {e : Env} {Rm : Room} {s : State} {m : MethodId} {args : Array Value} {below : List Frame} {meth : Method} {c : Code} {D : va_G} {dA : Nat → ClassId} {b nL : Nat} {T0 : lz_T} {ad0 : Nat → Nat} {Q : State → Prop} {kc ks : Nat} {T : lz_T} {A : lz_A} {B : lz_B} {R : lz_R} {y : MethodName} {cc : ByteArray} {ret : Option FieldType} {pc : Nat} {lv : List (Nat × Value)} {rest : List Value}
/-- behind a new cell -/
theorem lz_fresh {pc' L q cells slots n' : Nat} {x : Nat × Nat} {ad : Nat → Nat} {H1 : Heap} {locs : List Loc} {la : Array Slot} (hL : (T L).1 = 0) (hx : x.1 ≠ 0) (h1 : cells ≤ kc) (h2 : slots ≤ ks) (h4 : lz_E T0 ad0 T ad) (h6 : lv_has la nL (lz_lv ad lv)) (h7 : lz_okl T lv) (h8 : lz_oks T rest) (hH : lz_H D dA b (va_up ad L q) (lz_upT T L x) A B R H1) (hS : va_S (fun q => b ≤ q) s.heap H1 locs)
    (kk : lz_Z p l e Rm s m args below meth c D dA b nL T0 ad0 Q (kc + 1) (ks + n') (lz_upT T L x) A B R pc' lv (.ref L :: rest)) : W p l e Rm s m args below meth c H1 locs (cells + 1) (slots + n') Q (F0 m pc' la (.ref q :: rest.map (lz_iv ad))) := by
  have hE : lz_E T ad (lz_upT T L x) (va_up ad L q) := lz_E_new hL
  have go := kk H1 locs la (cells + 1) (slots + n') (va_up ad L q) (by omega) (by omega) hH (h4.trans hE) hS (by rw [lz_lv_E hE h7]; exact h6) (lz_okl_E hE h7) (lz_oks_cons.mpr ⟨lz_ok_ref (by rw [lz_upT_eq]; exact hx), lz_oks_E hE h8⟩)
  rw [List.map_cons, lz_st_E hE h8] at go
  have hv : lz_iv (va_up ad L q) (.ref L) = .ref q := by simp [lz_iv, va_up]
  rw [hv] at go
  exact go
theorem z_new (C : lz_C p s m args meth c D dA b y cc nL ret) {ci index : Nat} (L : Nat) (F : lz_N y.cls index ci) (hL : (T L).1 = 0) (hc : kc + 1 ≤ Rm.cells) (hs : ks + lz_nF ci ≤ Rm.slots) (hdg : decode cc pc = .ok (.new index, 3))
    (kk : lz_Z p l e Rm s m args below meth c D dA b nL T0 ad0 Q (kc + 1) (ks + lz_nF ci) (lz_upT T L (1 + ci, 0)) A B R (pc + 3) lv (.ref L :: rest)) : lz_Z p l e Rm s m args below meth c D dA b nL T0 ad0 Q kc ks T A B R pc lv rest := by
  intro H locs la cells slots ad h1 h2 h3 h4 h5 h6 h7 h8
  obtain ⟨Ls, hmem, hP, hD, hcl, hz⟩ := id h3
  obtain ⟨hci, q, hq, hnF, hin, hty, hlk, hinst, hini, hdef⟩ := F
  obtain ⟨z1, z2, z3⟩ := hz L hL
  refine va_new (C := q.1) (T := q.2.1) (N := q.2.2) (fs := lz_fs ad A B R L ci) C.1 C.2.1 C.2.2.2.2.1 hin (lz_ty ci) hty C.2.2.2.1 (C.2.2.2.2.1 _ hlk) (C.2.2.2.2.1 _ hinst) (C.2.2.2.2.1 _ hini) C.2.2.2.2.2.1.1 hP hD h5 (fun q h => Nat.le_trans C.2.2.2.2.2.2.2.2.1 h) hq (fun j hj => ?_) (by omega) (by rw [hnF] at hs; omega) hdg (fun q0 H1 hP1 hD1 hS1 => ?_)
  · unfold vp_V
    rw [List.getD_eq_getElem?_getD, lz_fs_get _ _ _ _ _ (by rw [hnF]; exact hj), Option.getD_some, ← hdef j hj]
    unfold lz_fv
    rw [z1, z2, z3]
    split <;> rfl
  · have hen : lz_cell dA (va_up ad L q0) (lz_upT T L (1 + ci, 0)) A B R L = .inr (ci, lz_fs ad A B R L ci) := by
      rw [lz_cell_o (lz_upT_eq T L (1 + ci, 0)) (by omega)]
      unfold lz_fs lz_fv
      rw [z3]
      rfl
    rw [hnF] at kk
    exact lz_fresh hL (by show 1 + ci ≠ 0; omega) h1 h2 h4 h6 h7 h8 (lz_H_push hmem hcl hz hL (by show 1 + ci ≠ 0; omega) hen hP1 hD1) hS1 kk
/-- the class of an array of primitives, of objects -/
theorem lz_dA0 (C : lz_C p s m args meth c D dA b y cc nL ret) {t : Nat} {ty : FieldType} {cA : ClassId} (ht : (lz_tys dA)[t]? = some (dA t, ty)) (hn : s.vm.findClass ("[" ++ ty.toString) = some cA) : cA = dA t := by
  have h := (C.2.2.2.2.2.1.1.2 t _ ht).2
  cases ty with
  | object C0 =>
    obtain ⟨kA, comp, -, -, -, h4⟩ := h
    exact Option.some.inj (hn.symm.trans h4)
  | _ => exact Option.some.inj (hn.symm.trans h)
theorem z_newa (C : lz_C p s m args meth c D dA b y cc nL ret) {at0 : ArrayType} {ty : FieldType} {t N : Nat} {n : Int32} (L : Nat) (hw : Cond.arrayClass ty ∈ lw_tb2) (hty : newarray.typeOf at0 = ty) (ht : ∀ dA : Nat → ClassId, (lz_tys dA)[t]? = some (dA t, ty)) (hdef : ∀ (ad : Nat → Nat) (cA : ClassId), vp_cell cA (lz_ar ad (fun _ _ => 0) (fun _ _ => 0) (fun _ _ => none) L t N) = arrV cA N (fun _ => defaultValue ty)) (hn : n = nI N) (hN : N * componentBytes ty ≤ 536870912) (hN2 : N < 2 ^ 31) (hL : (T L).1 = 0) (hc : kc + 1 ≤ Rm.cells) (hs : ks + N ≤ Rm.slots) (hdg : decode cc pc = .ok (.newarray at0, 2))
    (kk : lz_Z p l e Rm s m args below meth c D dA b nL T0 ad0 Q (kc + 1) (ks + N) (lz_upT T L (32 + t, N)) A B R (pc + 2) lv (.ref L :: rest)) : lz_Z p l e Rm s m args below meth c D dA b nL T0 ad0 Q kc ks T A B R pc lv (.int n :: rest) := by
  intro H locs la cells slots ad h1 h2 h3 h4 h5 h6 h7 h8
  obtain ⟨Ls, hmem, hP, hD, hcl, hz⟩ := id h3
  obtain ⟨z1, z2, z3⟩ := hz L hL
  have har : ∀ ad' : Nat → Nat, lz_ar ad' A B R L t N = lz_ar ad' (fun _ _ => 0) (fun _ _ => 0) (fun _ _ => none) L t N := fun ad' => by
    unfold lz_ar
    rw [z1, z2, z3]
  refine va_newa (a0 := lz_ar ad A B R L t N) (N' := N) C.1 C.2.1 (by rw [hty]; exact C.2.2.2.2.1 _ hw) hty C.2.2.2.2.2.1.1 hP hD h5 (fun q h => Nat.le_trans C.2.2.2.2.2.2.2.2.1 h) (fun cA => by rw [har]; exact hdef ad cA) (by rw [hn]; exact nI_pos hN2) (by rw [hn]; exact nI_clamp hN2) hN (by omega) (by omega) hdg (fun q0 cA H1 hK1 hP1 hD1 hS1 => ?_)
  have hcA : cA = dA t := by
    have h := (hK1.2 7 (cA, ty) rfl).2
    exact lz_dA0 C (ht dA) (by
      cases ty with
      | object C0 =>
        obtain ⟨kA, comp, -, -, -, h4⟩ := h
        exact h4
      | _ => exact h)
  subst hcA
  have hen : lz_cell dA (va_up ad L q0) (lz_upT T L (32 + t, N)) A B R L = .inl (dA t, lz_ar ad A B R L t N) := by
    rw [lz_cell_a (lz_upT_eq T L (32 + t, N))]
    congr 2
    unfold lz_ar
    rw [z3]
    rfl
  exact lz_fresh hL (by show 32 + t ≠ 0; omega) h1 h2 h4 h6 h7 (lz_oks_cons.mp h8).2 (lz_H_push hmem hcl hz hL (by show 32 + t ≠ 0; omega) hen hP1 hD1) hS1 kk
theorem z_newq (C : lz_C p s m args meth c D dA b y cc nL ret) {cn : String} {index t N : Nat} {n : Int32} (L : Nat) (hao : ∀ U, lz_K D dA U → va_AO cn U) (hw : Cond.classLink y.cls index cn ∈ lw_tb2) (ht : ∀ dA : Nat → ClassId, (lz_tys dA)[t]? = some (dA t, .object cn)) (ht3 : 3 ≤ t) (hn : n = nI N) (hN : N * 4 ≤ 536870912) (hN2 : N < 2 ^ 31) (hL : (T L).1 = 0) (hc : kc + 1 ≤ Rm.cells) (hs : ks + N ≤ Rm.slots) (hdg : decode cc pc = .ok (.anewarray index, 3))
    (kk : lz_Z p l e Rm s m args below meth c D dA b nL T0 ad0 Q (kc + 1) (ks + N) (lz_upT T L (32 + t, N)) A B R (pc + 3) lv (.ref L :: rest)) : lz_Z p l e Rm s m args below meth c D dA b nL T0 ad0 Q kc ks T A B R pc lv (.int n :: rest) := by
  intro H locs la cells slots ad h1 h2 h3 h4 h5 h6 h7 h8
  obtain ⟨Ls, hmem, hP, hD, hcl, hz⟩ := id h3
  obtain ⟨z1, z2, z3⟩ := hz L hL
  refine va_newq (N' := N) C.1 C.2.1 C.2.2.2.1 (C.2.2.2.2.1 _ hw) (hao s C.2.2.2.2.2.1) C.2.2.2.2.2.1.1 hP hD h5 (fun q h => Nat.le_trans C.2.2.2.2.2.2.2.2.1 h) (by rw [hn]; exact nI_pos hN2) (by rw [hn]; exact nI_clamp hN2) hN (by omega) (by omega) hdg (fun q0 cA H1 hK1 hP1 hD1 hS1 => ?_)
  have hcA : cA = dA t := by
    obtain ⟨kA, comp, -, -, -, h⟩ := (hK1.2 7 (cA, .object cn) rfl).2
    exact lz_dA0 C (ht dA) h
  subst hcA
  have hen : lz_cell dA (va_up ad L q0) (lz_upT T L (32 + t, N)) A B R L = .inl (dA t, N, .inr (.inr (.inr (.inr (fun _ => none))))) := by
    rw [lz_cell_a (lz_upT_eq T L (32 + t, N)), lz_ar_q _ _ _ _ _ _ ht3, z3]
    rfl
  exact lz_fresh hL (by show 32 + t ≠ 0; omega) h1 h2 h4 h6 h7 (lz_oks_cons.mp h8).2 (lz_H_push hmem hcl hz hL (by show 32 + t ≠ 0; omega) hen hP1 hD1) hS1 kk
end ZC
end
section
/-! 09.call: calls, Object's constructor, arraycopy, over lz_Z -/
def lz_CB (own : String) (idx : Nat) (y1 : MethodName) (cc1 : ByteArray) (n1 : Nat) (ret1 : Option FieldType) (na : Nat) : Prop :=
  Cond.methodLink own idx y1 ∈ lw_tb2 ∧ Cond.initialized y1.cls ∈ lw_tb2 ∧ Cond.code y1 cc1 n1 ret1 ∈ lw_tb2 ∧ y1.cls ≠ "java/lang/invoke/MethodHandle" ∧ y1.cls ≠ "java/lang/invoke/VarHandle" ∧ (parseMethodDescriptor y1.desc).map (fun d => d.parameters.length) = some na
def lz_CN (own : String) (idx : Nat) (y1 : MethodName) (host : String) (cc1 : ByteArray) (n1 : Nat) (ret1 : Option FieldType) (na : Nat) : Prop :=
  (own, idx, y1, host) ∈ lz_nests ∧ Cond.initialized y1.cls ∈ lw_tb2 ∧ Cond.code y1 cc1 n1 ret1 ∈ lw_tb2 ∧ y1.cls ≠ "java/lang/invoke/MethodHandle" ∧ y1.cls ≠ "java/lang/invoke/VarHandle" ∧ (parseMethodDescriptor y1.desc).map (fun d => d.parameters.length) = some na
theorem lz_gdc {w : Cond} (h : w ∈ lw_tb2) : GoodIn lw_tb2 (w :: lw_tb2) := fun v hv => by
  rcases List.mem_cons.mp hv with e | e
  · rw [e]; exact lz_gd w h
  · exact lz_gd v e
theorem lz_blind (D : va_G) (dA : Nat → ClassId) (b : Nat) (T : lz_T) (ad : Nat → Nat) (A : lz_A) (B : lz_B) (R : lz_R) (av : List Value) : FrameBlind (lz_Pc D dA b T ad A B R av) := fun a U g mk q => by
  obtain ⟨q1, q2, q3, q4, q5⟩ := q
  exact ⟨q1, q2, q3, lz_K.same (u := U) (U := U.calling g mk a) rfl q4, q5⟩
section ZL
variable {p : Program} {l : Launch} {e : Env} {Rm : Room} {s : State} {m : MethodId} {args : Array Value} {below : List Frame} {meth : Method} {c : Code} {D : va_G} {dA : Nat → ClassId} {b nL : Nat} {T0 : lz_T} {ad0 : Nat → Nat} {Q : State → Prop} {kc ks : Nat} {T : lz_T} {A : lz_A} {B : lz_B} {R : lz_R} {y : MethodName} {cc : ByteArray} {ret : Option FieldType} {pc : Nat} {lv : List (Nat × Value)} {rest : List Value}
theorem lz_asm {st : List Value} (h : lz_oks T st → lz_Z p l e Rm s m args below meth c D dA b nL T0 ad0 Q kc ks T A B R pc lv st) : lz_Z p l e Rm s m args below meth c D dA b nL T0 ad0 Q kc ks T A B R pc lv st :=
  fun H locs la cells slots ad h1 h2 h3 h4 h5 h6 h7 h8 => h h8 H locs la cells slots ad h1 h2 h3 h4 h5 h6 h7 h8
theorem lz_oks_app {T : lz_T} {a b : List Value} : lz_oks T (a ++ b) ↔ lz_oks T a ∧ lz_oks T b := by
  unfold lz_oks
  exact List.forall_mem_append
/-- behind a call -/
theorem lz_back {rm : Room} {Post : Option Value → lz_T → lz_A → lz_B → lz_R → Prop} {ad : Nat → Nat} {H : Heap} {locs : List Loc} {la : Array Slot} {cells slots : Nat} {st0 : List Value} {aa : Array Value}
    (hr : va_Run p l e Rm s m args below meth c H locs cells slots rm.cells rm.slots (F0 m pc la st0) (rest.map (lz_iv ad)) (lz_Qc D dA b T ad Post aa) (fun q => b ≤ q))
    (h1 : cells ≤ kc) (h2 : slots ≤ ks) (h4 : lz_E T0 ad0 T ad) (h5 : va_S (fun q => b ≤ q) s.heap H locs) (h6 : lv_has la nL (lz_lv ad lv)) (h7 : lz_okl T lv) (h8 : lz_oks T rest)
    (kk : ∀ (r : Option Value) (T1 : lz_T) (A1 : lz_A) (B1 : lz_B) (R1 : lz_R), Post r T1 A1 B1 R1 → lz_Z p l e Rm s m args below meth c D dA b nL T0 ad0 Q (kc + rm.cells) (ks + rm.slots) T1 A1 B1 R1 (pc + 3) lv (r.toList ++ rest)) :
    W p l e Rm s m args below meth c H locs cells slots Q (F0 m pc la st0) := by
  intro U hU X
  obtain ⟨v, st₀, t, T', L, h0, X', hL, e1, e2, ⟨⟨r, T1, A1, B1, R1, ad1, hv, hok, hE, hp, hH⟩, hz, hk⟩, st⟩ := hr U hU X
  have hv' : v = r.map (lz_iv ad1) := by cases hv; rfl
  subst hv'
  rw [h0] at hz hk
  have hoks : lz_oks T1 (r.toList ++ rest) := by
    refine lz_oks_app.mpr ⟨?_, lz_oks_E hE h8⟩
    cases r with
    | none => exact lz_oks_nil T1
    | some v => exact lz_oks_cons.mpr ⟨hok v rfl, lz_oks_nil T1⟩
  have go := kk r T1 A1 B1 R1 hp T'.heap (locs ++ L) la (cells + rm.cells) (slots + rm.slots) ad1 (by omega) (by omega) (by rw [e1]; exact hH) (h4.trans hE)
    ⟨Nat.le_trans h5.1 (by rw [e1]; exact hz), fun q g1 g2 => by rw [e1, hk q (Nat.lt_of_lt_of_le g1 h5.1) g2]; exact h5.2.1 q g1 g2, fun q hq => by
      rcases List.mem_append.mp hq with h | h
      · exact h5.2.2 q h
      · exact hL q h⟩ (by rw [lz_lv_E hE h7]; exact h6) (lz_okl_E hE h7) hoks
  have hst : (r.toList ++ rest).map (lz_iv ad1) = (r.map (lz_iv ad1)).toList ++ rest.map (lz_iv ad) := by
    rw [List.map_append, lz_st_E hE h8]
    cases r <;> rfl
  rw [hst] at go
  obtain ⟨t2, a1, b1⟩ := go T' rfl X'
  exact ⟨t2, st t2 a1, b1⟩
theorem lz_catsum (ad : Nat → Nat) : ∀ vs : List Value, ((vs.map (lz_iv ad)).map fun v => v.category).sum = (vs.map fun v => v.category).sum
  | [] => rfl
  | v :: vs => by
    rw [List.map_cons, List.map_cons, List.map_cons, List.sum_cons, List.sum_cons, lz_catsum ad vs, lz_iv_cat]
theorem lz_at_o {ad : Nat → Nat} {H : Heap} (h3 : lz_H D dA b ad T A B R H) {L ci z : Nat} (hT : T L = (1 + ci, z)) (hci : ci < 11) : ∃ (ws : va_W) (k : Nat) (fs : List Value), va_P D vwCl ws H ∧ ws[k]? = some (ad L, .inr (ci, fs)) := by
  obtain ⟨Ls, hmem, hP, hD, hcl, hz⟩ := h3
  obtain ⟨k0, hk0⟩ := lz_pos hmem (lz_tag_o hT)
  have he := lz_ws_at (dA := dA) (ad := ad) (T := T) (A := A) (B := B) (R := R) hk0
  rw [lz_cell_o hT (by omega)] at he
  exact ⟨_, k0, _, hP, he⟩
theorem z_callV (C : lz_C p s m args meth c D dA b y cc nL ret) {y1 : MethodName} {cc1 : ByteArray} {n1 na : Nat} {ret1 : Option FieldType} {rm : Room} {ci L z idx : Nat} {As : List Value} {q1 : vw_C} {Post : Option Value → lz_T → lz_A → lz_B → lz_R → Prop} (hq1 : vwCl[ci]? = some q1) (hci : ci < 11) (hM : lz_M y1 cc1 n1 ret1 rm (.ref L :: As) T A B R Post)
    (G : lz_CB y.cls idx y1 cc1 n1 ret1 na) (G1 : Cond.instanceMethod y1 ∈ lw_tb2) (G2 : Cond.selects q1.1 y1 y1 ∈ lw_tb2) (hT : T L = (1 + ci, z)) (hna : As.length = na) (hR : rm.frames + 1 ≤ Rm.frames ∧ 8 + (n1 + 11) + rm.locals ≤ Rm.locals) (hW : (rest.map fun v => v.category).sum ≤ 8) (hc : kc + rm.cells ≤ Rm.cells) (hs : ks + rm.slots ≤ Rm.slots) (hdg : decode cc pc = .ok (.invokevirtual idx, 3))
    (kk : ∀ (r : Option Value) (T1 : lz_T) (A1 : lz_A) (B1 : lz_B) (R1 : lz_R), Post r T1 A1 B1 R1 → lz_Z p l e Rm s m args below meth c D dA b nL T0 ad0 Q (kc + rm.cells) (ks + rm.slots) T1 A1 B1 R1 (pc + 3) lv (r.toList ++ rest)) :
    lz_Z p l e Rm s m args below meth c D dA b nL T0 ad0 Q kc ks T A B R pc lv (As.reverse ++ .ref L :: rest) := by
  intro H locs la cells slots ad h1 h2 h3 h4 h5 h6 h7 h8
  obtain ⟨ws, k0, fs, hP, he⟩ := lz_at_o h3 hT hci
  have h9 := lz_oks_app.mp h8
  have h10 := lz_oks_cons.mp h9.2
  have hokA : lz_oks T (.ref L :: As) := lz_oks_cons.mpr ⟨h10.1, fun v hv => h9.1 v (List.mem_reverse.mpr hv)⟩
  refine lz_back (rm := rm) (va_runV (As := As.map (lz_iv ad)) (rest := rest.map (lz_iv ad)) (b := ad L) (C := q1.1) ⟨C.1, C.2.1, C.2.2.1, C.2.2.2.1, C.2.2.2.2.1⟩ (hM l D dA b ad)
    ⟨callB_of na C.2.2.2.2.1 (lz_gdc G.2.2.1) rfl rfl rfl (C.2.2.2.2.1 _ G.2.1) (C.2.2.2.2.1 _ G.1) G.2.2.2 hR, C.2.2.2.2.1 _ G1, C.2.2.2.2.1 _ G2⟩
    ⟨lz_blind _ _ _ _ _ _ _ _ _, va_recv C.2.2.2.2.2.1.1 hP hq1 he, fun U hU hw => ⟨rfl, hokA, by rw [hU]; exact h3, lz_K.warm hw C.2.2.2.2.2.1, by rw [hU]; exact Nat.le_trans C.2.2.2.2.2.2.2.2.1 h5.1⟩⟩ rfl (by rw [List.length_map]; exact hna) h6.1 (by show List.map (lz_iv ad) _ = _; rw [List.map_append, List.map_reverse]; rfl) (lv_room (by rw [lz_catsum]; exact hW)) hdg ⟨by omega, by omega⟩) h1 h2 h4 h5 h6 h7 h10.2 kk
theorem z_callS (C : lz_C p s m args meth c D dA b y cc nL ret) {y1 : MethodName} {cc1 : ByteArray} {n1 na : Nat} {ret1 : Option FieldType} {rm : Room} {idx : Nat} {As : List Value} {Post : Option Value → lz_T → lz_A → lz_B → lz_R → Prop} (hM : lz_M y1 cc1 n1 ret1 rm As T A B R Post)
    (G : lz_CB y.cls idx y1 cc1 n1 ret1 na) (G1 : Cond.static y1 ∈ lw_tb2) (hna : As.length = na) (hR : rm.frames + 1 ≤ Rm.frames ∧ 8 + (n1 + 11) + rm.locals ≤ Rm.locals) (hW : (rest.map fun v => v.category).sum ≤ 8) (hc : kc + rm.cells ≤ Rm.cells) (hs : ks + rm.slots ≤ Rm.slots) (hdg : decode cc pc = .ok (.invokestatic idx, 3))
    (kk : ∀ (r : Option Value) (T1 : lz_T) (A1 : lz_A) (B1 : lz_B) (R1 : lz_R), Post r T1 A1 B1 R1 → lz_Z p l e Rm s m args below meth c D dA b nL T0 ad0 Q (kc + rm.cells) (ks + rm.slots) T1 A1 B1 R1 (pc + 3) lv (r.toList ++ rest)) :
    lz_Z p l e Rm s m args below meth c D dA b nL T0 ad0 Q kc ks T A B R pc lv (As.reverse ++ rest) := by
  intro H locs la cells slots ad h1 h2 h3 h4 h5 h6 h7 h8
  have h9 := lz_oks_app.mp h8
  have hokA : lz_oks T As := fun v hv => h9.1 v (List.mem_reverse.mpr hv)
  refine lz_back (rm := rm) (va_runS (As := As.map (lz_iv ad)) (rest := rest.map (lz_iv ad)) ⟨C.1, C.2.1, C.2.2.1, C.2.2.2.1, C.2.2.2.2.1⟩ (hM l D dA b ad)
    ⟨callB_of na C.2.2.2.2.1 (lz_gdc G.2.2.1) rfl rfl rfl (C.2.2.2.2.1 _ G.2.1) (C.2.2.2.2.1 _ G.1) G.2.2.2 hR, C.2.2.2.2.1 _ G1⟩
    ⟨lz_blind _ _ _ _ _ _ _ _ _, fun U hU hw => ⟨rfl, hokA, by rw [hU]; exact h3, lz_K.warm hw C.2.2.2.2.2.1, by rw [hU]; exact Nat.le_trans C.2.2.2.2.2.2.2.2.1 h5.1⟩⟩ rfl (by rw [List.length_map]; exact hna) h6.1 (by show List.map (lz_iv ad) _ = _; rw [List.map_append, List.map_reverse]) (lv_room (by rw [lz_catsum]; exact hW)) hdg ⟨by omega, by omega⟩) h1 h2 h4 h5 h6 h7 h9.2 kk
theorem z_callI (C : lz_C p s m args meth c D dA b y cc nL ret) {y1 : MethodName} {cc1 : ByteArray} {n1 na : Nat} {rm : Room} {L idx : Nat} {As : List Value} {Post : Option Value → lz_T → lz_A → lz_B → lz_R → Prop} (hM : lz_M y1 cc1 n1 none rm (.ref L :: As) T A B R Post)
    (G : lz_CB y.cls idx y1 cc1 n1 none na) (G1 : Cond.instanceMethod y1 ∈ lw_tb2) (G2 : y1.name = "<init>") (hna : As.length = na) (hR : rm.frames + 1 ≤ Rm.frames ∧ 8 + (n1 + 11) + rm.locals ≤ Rm.locals) (hW : (rest.map fun v => v.category).sum ≤ 8) (hc : kc + rm.cells ≤ Rm.cells) (hs : ks + rm.slots ≤ Rm.slots) (hdg : decode cc pc = .ok (.invokespecial idx, 3))
    (kk : ∀ (r : Option Value) (T1 : lz_T) (A1 : lz_A) (B1 : lz_B) (R1 : lz_R), Post r T1 A1 B1 R1 → lz_Z p l e Rm s m args below meth c D dA b nL T0 ad0 Q (kc + rm.cells) (ks + rm.slots) T1 A1 B1 R1 (pc + 3) lv (r.toList ++ rest)) :
    lz_Z p l e Rm s m args below meth c D dA b nL T0 ad0 Q kc ks T A B R pc lv (As.reverse ++ .ref L :: rest) := by
  intro H locs la cells slots ad h1 h2 h3 h4 h5 h6 h7 h8
  have h9 := lz_oks_app.mp h8
  have h10 := lz_oks_cons.mp h9.2
  have hokA : lz_oks T (.ref L :: As) := lz_oks_cons.mpr ⟨h10.1, fun v hv => h9.1 v (List.mem_reverse.mpr hv)⟩
  refine lz_back (rm := rm) (va_runI (As := As.map (lz_iv ad)) (rest := rest.map (lz_iv ad)) (b := ad L) ⟨C.1, C.2.1, C.2.2.1, C.2.2.2.1, C.2.2.2.2.1⟩ (hM l D dA b ad)
    ⟨callB_of na C.2.2.2.2.1 (lz_gdc G.2.2.1) rfl rfl rfl (C.2.2.2.2.1 _ G.2.1) (C.2.2.2.2.1 _ G.1) G.2.2.2 hR, G2, C.2.2.2.2.1 _ G1⟩
    ⟨lz_blind _ _ _ _ _ _ _ _ _, fun U hU hw => ⟨rfl, hokA, by rw [hU]; exact h3, lz_K.warm hw C.2.2.2.2.2.1, by rw [hU]; exact Nat.le_trans C.2.2.2.2.2.2.2.2.1 h5.1⟩⟩ rfl (by rw [List.length_map]; exact hna) h6.1 (by show List.map (lz_iv ad) _ = _; rw [List.map_append, List.map_reverse]; rfl) (lv_room (by rw [lz_catsum]; exact hW)) hdg ⟨by omega, by omega⟩) h1 h2 h4 h5 h6 h7 h10.2 kk
theorem lz_cnB (C : lz_C p s m args meth c D dA b y cc nL ret) {y1 : MethodName} {cc1 : ByteArray} {n1 na idx : Nat} {ret1 : Option FieldType} {host : String} {rm : Room} (G : lz_CN y.cls idx y1 host cc1 n1 ret1 na) (hR : rm.frames + 1 ≤ Rm.frames ∧ 8 + (n1 + 11) + rm.locals ≤ Rm.locals) : va_CN Rm s args y.cls idx y1 host cc1 n1 ret1 (.code y1 cc1 n1 ret1 :: lw_tb2) rm rm.cells rm.slots na :=
  va_cnB na C.2.2.2.2.1 (lz_gdc G.2.2.1) rfl rfl rfl (C.2.2.2.2.2.1.2.2.2.2.2 _ G.1) (C.2.2.2.2.1 _ G.2.1) G.2.2.2 hR
theorem z_callSN (C : lz_C p s m args meth c D dA b y cc nL ret) {y1 : MethodName} {cc1 : ByteArray} {n1 na : Nat} {ret1 : Option FieldType} {host : String} {rm : Room} {idx : Nat} {As : List Value} {Post : Option Value → lz_T → lz_A → lz_B → lz_R → Prop} (hM : lz_M y1 cc1 n1 ret1 rm As T A B R Post)
    (G : lz_CN y.cls idx y1 host cc1 n1 ret1 na) (G1 : Cond.static y1 ∈ lw_tb2) (hna : As.length = na) (hR : rm.frames + 1 ≤ Rm.frames ∧ 8 + (n1 + 11) + rm.locals ≤ Rm.locals) (hW : (rest.map fun v => v.category).sum ≤ 8) (hc : kc + rm.cells ≤ Rm.cells) (hs : ks + rm.slots ≤ Rm.slots) (hdg : decode cc pc = .ok (.invokestatic idx, 3))
    (kk : ∀ (r : Option Value) (T1 : lz_T) (A1 : lz_A) (B1 : lz_B) (R1 : lz_R), Post r T1 A1 B1 R1 → lz_Z p l e Rm s m args below meth c D dA b nL T0 ad0 Q (kc + rm.cells) (ks + rm.slots) T1 A1 B1 R1 (pc + 3) lv (r.toList ++ rest)) :
    lz_Z p l e Rm s m args below meth c D dA b nL T0 ad0 Q kc ks T A B R pc lv (As.reverse ++ rest) := by
  intro H locs la cells slots ad h1 h2 h3 h4 h5 h6 h7 h8
  have h9 := lz_oks_app.mp h8
  have hokA : lz_oks T As := fun v hv => h9.1 v (List.mem_reverse.mpr hv)
  refine lz_back (rm := rm) (va_runSN (As := As.map (lz_iv ad)) (rest := rest.map (lz_iv ad)) ⟨C.1, C.2.1, C.2.2.1, C.2.2.2.1, C.2.2.2.2.1⟩ (hM l D dA b ad)
    ⟨lz_cnB C G hR, C.2.2.2.2.1 _ G1, trivial⟩
    ⟨lz_blind _ _ _ _ _ _ _ _ _, fun U hU hw => ⟨rfl, hokA, by rw [hU]; exact h3, lz_K.warm hw C.2.2.2.2.2.1, by rw [hU]; exact Nat.le_trans C.2.2.2.2.2.2.2.2.1 h5.1⟩⟩ rfl (by rw [List.length_map]; exact hna) h6.1 (by show List.map (lz_iv ad) _ = _; rw [List.map_append, List.map_reverse]) (lv_room (by rw [lz_catsum]; exact hW)) hdg ⟨by omega, by omega⟩) h1 h2 h4 h5 h6 h7 h9.2 kk
theorem z_callIN (C : lz_C p s m args meth c D dA b y cc nL ret) {y1 : MethodName} {cc1 : ByteArray} {n1 na : Nat} {host : String} {rm : Room} {L idx : Nat} {As : List Value} {Post : Option Value → lz_T → lz_A → lz_B → lz_R → Prop} (hM : lz_M y1 cc1 n1 none rm (.ref L :: As) T A B R Post)
    (G : lz_CN y.cls idx y1 host cc1 n1 none na) (G1 : Cond.instanceMethod y1 ∈ lw_tb2) (G2 : y1.name = "<init>") (hna : As.length = na) (hR : rm.frames + 1 ≤ Rm.frames ∧ 8 + (n1 + 11) + rm.locals ≤ Rm.locals) (hW : (rest.map fun v => v.category).sum ≤ 8) (hc : kc + rm.cells ≤ Rm.cells) (hs : ks + rm.slots ≤ Rm.slots) (hdg : decode cc pc = .ok (.invokespecial idx, 3))
    (kk : ∀ (r : Option Value) (T1 : lz_T) (A1 : lz_A) (B1 : lz_B) (R1 : lz_R), Post r T1 A1 B1 R1 → lz_Z p l e Rm s m args below meth c D dA b nL T0 ad0 Q (kc + rm.cells) (ks + rm.slots) T1 A1 B1 R1 (pc + 3) lv (r.toList ++ rest)) :
    lz_Z p l e Rm s m args below meth c D dA b nL T0 ad0 Q kc ks T A B R pc lv (As.reverse ++ .ref L :: rest) := by
  intro H locs la cells slots ad h1 h2 h3 h4 h5 h6 h7 h8
  have h9 := lz_oks_app.mp h8
  have h10 := lz_oks_cons.mp h9.2
  have hokA : lz_oks T (.ref L :: As) := lz_oks_cons.mpr ⟨h10.1, fun v hv => h9.1 v (List.mem_reverse.mpr hv)⟩
  refine lz_back (rm := rm) (va_runIN (As := As.map (lz_iv ad)) (rest := rest.map (lz_iv ad)) (b := ad L) ⟨C.1, C.2.1, C.2.2.1, C.2.2.2.1, C.2.2.2.2.1⟩ (hM l D dA b ad)
    ⟨lz_cnB C G hR, G2, C.2.2.2.2.1 _ G1⟩
    ⟨lz_blind _ _ _ _ _ _ _ _ _, fun U hU hw => ⟨rfl, hokA, by rw [hU]; exact h3, lz_K.warm hw C.2.2.2.2.2.1, by rw [hU]; exact Nat.le_trans C.2.2.2.2.2.2.2.2.1 h5.1⟩⟩ rfl (by rw [List.length_map]; exact hna) h6.1 (by show List.map (lz_iv ad) _ = _; rw [List.map_append, List.map_reverse]; rfl) (lv_room (by rw [lz_catsum]; exact hW)) hdg ⟨by omega, by omega⟩) h1 h2 h4 h5 h6 h7 h10.2 kk
theorem z_objInit (C : lz_C p s m args meth c D dA b y cc nL ret) {L idx : Nat} (G : Cond.methodLink y.cls idx Lib.objectInit ∈ lw_tb2) (G1 : Cond.instanceMethod Lib.objectInit ∈ lw_tb2) (G2 : Cond.code Lib.objectInit ⟨#[0xb1]⟩ 1 none ∈ lw_tb2) (hF : 1 ≤ Rm.frames) (hW : (rest.map fun v => v.category).sum + 12 ≤ Rm.locals) (hdg : decode cc pc = .ok (.invokespecial idx, 3))
    (kk : lz_Z p l e Rm s m args below meth c D dA b nL T0 ad0 Q kc ks T A B R (pc + 3) lv rest) : lz_Z p l e Rm s m args below meth c D dA b nL T0 ad0 Q kc ks T A B R pc lv (.ref L :: rest) := by
  intro H locs la cells slots ad h1 h2 h3 h4 h5 h6 h7 h8
  refine W.objInit C.1 C.2.1 C.2.2.2.1 (C.2.2.2.2.1 _ G) (C.2.2.2.2.1 _ G1) (C.2.2.2.2.1 _ G2) rfl (h6.1.trans C.2.2.1.symm) (a := ad L) (rest := rest.map (lz_iv ad)) rfl hdg hF (by show 2 * 0 + _ + 12 ≤ _; rw [lz_catsum]; omega) ?_
  exact kk H locs la cells slots ad h1 h2 h3 h4 h5 h6 h7 (lz_oks_cons.mp h8).2
theorem z_iushr (C : lz_C p s m args meth c D dA b y cc nL ret) {x y1 : Int32} (hdg : decode cc pc = .ok (.iushr, 1)) (kk : lz_Z p l e Rm s m args below meth c D dA b nL T0 ad0 Q kc ks T A B R (pc + 1) lv (.int (x.toUInt32 >>> (y1.toUInt32 &&& Int32.toUInt32 31)).toInt32 :: rest)) : lz_Z p l e Rm s m args below meth c D dA b nL T0 ad0 Q kc ks T A B R pc lv (.int y1 :: .int x :: rest) :=
  fun H locs la cells slots ad h1 h2 h3 h4 h5 h6 h7 h8 => lv_iushr C.1 C.2.1 hdg rfl (kk H locs la cells slots ad h1 h2 h3 h4 h5 h6 h7 (lz_oks_cons.mpr ⟨lz_ok_int _ _, (lz_oks_cons.mp (lz_oks_cons.mp h8).2).2⟩))
theorem z_ldcw (C : lz_C p s m args meth c D dA b y cc nL ret) {index : Nat} {v : Int32} (hdg : decode cc pc = .ok (.ldc_w index, 3)) (hw : Jvm.Cond.constant y.cls index v ∈ lw_tb2) (kk : lz_Z p l e Rm s m args below meth c D dA b nL T0 ad0 Q kc ks T A B R (pc + 3) lv (.int v :: rest)) : lz_Z p l e Rm s m args below meth c D dA b nL T0 ad0 Q kc ks T A B R pc lv (rest) :=
  fun H locs la cells slots ad h1 h2 h3 h4 h5 h6 h7 h8 => lv_ldcw C.1 C.2.1 C.2.2.2.1 (C.2.2.2.2.1 _ hw) hdg (kk H locs la cells slots ad h1 h2 h3 h4 h5 h6 h7 (lz_oks_cons.mpr ⟨lz_ok_int _ _, h8⟩))
end ZL
end
section
/-! 10.xdef: A SMALL MACHINE over the logical memory: its values, its memory, its steps, and 'Wp': from here it ends with Q -/
abbrev xv : Type := Int ⊕ (Int ⊕ (UInt64 ⊕ (UInt32 ⊕ (Nat ⊕ Unit))))
def vI (x : Int) : xv := .inl x
def vJ (x : Int) : xv := .inr (.inl x)
def vD (x : UInt64) : xv := .inr (.inr (.inl x))
def vF (x : UInt32) : xv := .inr (.inr (.inr (.inl x)))
def vR (x : Nat) : xv := .inr (.inr (.inr (.inr (.inl x))))
def vX : xv := .inr (.inr (.inr (.inr (.inr ()))))
def xval : xv → Value
  | .inl x => .int (Int32.ofInt x)
  | .inr (.inl x) => .long (Int64.ofInt x)
  | .inr (.inr (.inl x)) => .double x
  | .inr (.inr (.inr (.inl x))) => .float x
  | .inr (.inr (.inr (.inr (.inl x)))) => if x = 0 then .null else .ref x
  | .inr (.inr (.inr (.inr (.inr _)))) => .null
def isI : xv → Bool
  | .inl _ => true
  | _ => false
def isJ : xv → Bool
  | .inr (.inl _) => true
  | _ => false
def isD : xv → Bool
  | .inr (.inr (.inl _)) => true
  | _ => false
def isR : xv → Bool
  | .inr (.inr (.inr (.inr (.inl _)))) => true
  | _ => false
def isX : xv → Bool
  | .inr (.inr (.inr (.inr (.inr _)))) => true
  | _ => false
def xc2 : xv → Bool
  | .inr (.inl _) => true
  | .inr (.inr (.inl _)) => true
  | _ => false
/-- what is left of a local at n where n + 1 is written -/
def cl (v : xv) : xv := if xc2 v then vX else v
def cs : List xv → Nat
  | [] => 0
  | v :: l => (if xc2 v then 2 else 1) + cs l
def gv : Nat → List xv → xv
  | _, [] => vX
  | 0, a :: _ => a
  | k + 1, _ :: l => gv k l
def st1 : Nat → xv → List xv → List xv
  | _, _, [] => []
  | 0, v, _ :: l => v :: l
  | 1, v, a :: l => cl a :: st1 0 v l
  | k + 2, v, a :: l => a :: st1 (k + 1) v l
def st2 : Nat → xv → List xv → List xv
  | _, _, [] => []
  | 0, _, [_] => []
  | 0, v, _ :: _ :: l => v :: vX :: l
  | 1, v, a :: l => cl a :: st2 0 v l
  | k + 2, v, a :: l => a :: st2 (k + 1) v l
def wr (x : Int) : Int := (x + 2147483648) % 4294967296 - 2147483648
def w64 (x : Int) : Int := (x + 9223372036854775808) % 18446744073709551616 - 9223372036854775808
/-- addresses: tag (1 + class, 32 + kind of array), length, colour, number -/
def ky (t n c : Nat) : Nat := t + 64 * (n + 32768 * c)
def ad (t n c i : Nat) : Nat := ky t n c + 274877906944 * i
def tg (L : Nat) : Nat := L % 64
def ln (L : Nat) : Nat := L / 64 % 32768
/-- how many of each key; ints, doubles, references; cells and slots made -/
abbrev xm : Type := (Nat → Nat) × (Nat → Nat → Int) × (Nat → Nat → UInt64) × (Nat → Nat → Nat) × Nat × Nat
def mC (M : xm) : Nat → Nat := M.1
def mA (M : xm) : Nat → Nat → Int := M.2.1
def mB (M : xm) : Nat → Nat → UInt64 := M.2.2.1
def mR (M : xm) : Nat → Nat → Nat := M.2.2.2.1
def mK (M : xm) : Nat := M.2.2.2.2.1
def mS (M : xm) : Nat := M.2.2.2.2.2
def wA (M : xm) (L k : Nat) (x : Int) : xm := (M.1, lz_up M.2.1 L k x, M.2.2)
def wB (M : xm) (L k : Nat) (x : UInt64) : xm := (M.1, M.2.1, lz_up M.2.2.1 L k x, M.2.2.2)
def wR (M : xm) (L k : Nat) (x : Nat) : xm := (M.1, M.2.1, M.2.2.1, lz_up M.2.2.2.1 L k x, M.2.2.2.2)
/-- n ints of Ls from sp on come to Ld from dp on -/
def wC (M : xm) (Ls sp Ld dp n : Nat) : xm := (M.1, fun l j => if l = Ld ∧ dp ≤ j ∧ j < dp + n then M.2.1 Ls (sp + (j - dp)) else M.2.1 l j, M.2.2)
def na (M : xm) (t n c : Nat) : Nat := ad t n c (mC M (ky t n c))
/-- a new cell -/
def nw (M : xm) (t n c sl : Nat) : xm := (fun k => if k = ky t n c then mC M k + 1 else mC M k, fun l j => if l = na M t n c then 0 else M.2.1 l j, fun l j => if l = na M t n c then 0 else M.2.2.1 l j, fun l j => if l = na M t n c then 0 else M.2.2.2.1 l j, mK M + 1, mS M + sl)
/-- new rows 0 .. i - 1 of a grid, hung into the cell L -/
def nws (M : xm) (L n c : Nat) : Nat → xm
  | 0 => M
  | i + 1 => wR (nw (nws M L n c i) 32 n c n) L i (na (nws M L n c i) 32 n c)
abbrev xs : Type := Nat × List xv × List xv × xm
/-- class, id, name, code, most locals, answer's type, frames, words -/
abbrev xq : Type := Nat × Nat × MethodName × ByteArray × Nat × Option FieldType × Nat × Nat
def xqk (q : xq) : Nat := q.1
def xqi (q : xq) : Nat := q.2.1
def xqy (q : xq) : MethodName := q.2.2.1
def xqc (q : xq) : ByteArray := q.2.2.2.1
def xqn (q : xq) : Nat := q.2.2.2.2.1
def xqr (q : xq) : Option FieldType := q.2.2.2.2.2.1
def xqF (q : xq) : Nat := q.2.2.2.2.2.2.1
def xqW (q : xq) : Nat := q.2.2.2.2.2.2.2
abbrev xo : Type := xs ⊕ ((Option xv × xm) ⊕ (xq × List xv × xs))
def xgo (pc : Nat) (lv st : List xv) (M : xm) : Option xo := some (.inl (pc, lv, st, M))
def xrt (r : Option xv) (M : xm) : Option xo := some (.inr (.inl (r, M)))
def xI1 (st : List xv) (f : Int → List xv → Option xo) : Option xo := match st with
  | .inl a :: t => f a t
  | _ => none
def xI2 (st : List xv) (f : Int → Int → List xv → Option xo) : Option xo := match st with
  | .inl b :: .inl a :: t => f a b t
  | _ => none
def xJ1 (st : List xv) (f : Int → List xv → Option xo) : Option xo := match st with
  | .inr (.inl a) :: t => f a t
  | _ => none
def xJ2 (st : List xv) (f : Int → Int → List xv → Option xo) : Option xo := match st with
  | .inr (.inl b) :: .inr (.inl a) :: t => f a b t
  | _ => none
def xD1 (st : List xv) (f : UInt64 → List xv → Option xo) : Option xo := match st with
  | .inr (.inr (.inl a)) :: t => f a t
  | _ => none
def xD2 (st : List xv) (f : UInt64 → UInt64 → List xv → Option xo) : Option xo := match st with
  | .inr (.inr (.inl b)) :: .inr (.inr (.inl a)) :: t => f a b t
  | _ => none
def xF1 (st : List xv) (f : UInt32 → List xv → Option xo) : Option xo := match st with
  | .inr (.inr (.inr (.inl a))) :: t => f a t
  | _ => none
def xR1 (st : List xv) (f : Nat → List xv → Option xo) : Option xo := match st with
  | .inr (.inr (.inr (.inr (.inl a)))) :: t => f a t
  | _ => none
def xiand (a b : Int) : Int := (Int32.ofInt a &&& Int32.ofInt b).toInt
def xior (a b : Int) : Int := (Int32.ofInt a ||| Int32.ofInt b).toInt
def xixor (a b : Int) : Int := (Int32.ofInt a ^^^ Int32.ofInt b).toInt
def xishl (a b : Int) : Int := (Int32.ofInt a <<< (Int32.ofInt b &&& 31)).toInt
def xishr (a b : Int) : Int := (Int32.ofInt a >>> (Int32.ofInt b &&& 31)).toInt
def xiushr (a b : Int) : Int := ((Int32.ofInt a).toUInt32 >>> ((Int32.ofInt b).toUInt32 &&& Int32.toUInt32 31)).toInt32.toInt
def xlcmp (a b : Int) : Int := if a < b then -1 else if a = b then 0 else 1
def xjmp (pc : Nat) (off : Int) (lv st : List xv) (M : xm) : Option xo := if 0 ≤ (pc : Int) + off then xgo ((pc : Int) + off).toNat lv st M else none
def xcnd (c : ClassFile.Cond) (a b : Int) : Bool := match c with
  | .eq => decide (a = b)
  | .ne => decide (¬ a = b)
  | .lt => decide (a < b)
  | .ge => decide (b ≤ a)
  | .gt => decide (b < a)
  | .le => decide (a ≤ b)
/-- arguments as locals -/
def xfl : List xv → List xv
  | [] => []
  | v :: l => if xc2 v then v :: vX :: xfl l else v :: xfl l
def xloc (av : List xv) (n : Nat) : List xv := xfl av ++ List.replicate (n - (xfl av).length) vX
/-- what an array of references takes -/
def xel (t : Nat) : Nat := match t with
  | 35 => 5
  | 36 => 6
  | 37 => 9
  | _ => 0
end
section
/-! 11.xtab: the methods and what their instructions name, as tables (written by wip/whole/xgen.py) -/
def xcls : Nat → String
  | 0 => RX0
  | 1 => RX1
  | 2 => RX2
  | 3 => RX3
  | 4 => RX4
  | 5 => RX5
  | 6 => RX6
  | 7 => RX7
  | 8 => RX8
  | 9 => RX9
  | 10 => RX10
  | 11 => RJ6
  | 12 => RJ9
  | _ => ""
def qX0_init : xq := (0, 0, yX0_init, cX0_init, 3, none, 1, 20)
def qX0_markAt : xq := (0, 1, yX0_markAt, cX0_markAt, 2, some (FieldType.int), 0, 0)
def qX0_perform : xq := (0, 2, yX0_perform, cX0_perform, 4, some (FieldType.int), 6, 136)
def qX0_mark : xq := (0, 3, yX0_mark, cX0_mark, 2, none, 0, 0)
def qX0_closeAll : xq := (0, 4, yX0_closeAll, cX0_closeAll, 2, none, 1, 21)
def qX0_finish : xq := (0, 5, yX0_finish, cX0_finish, 3, none, 3, 64)
def qX0_newRowOf : xq := (0, 6, yX0_newRowOf, cX0_newRowOf, 2, some ((FieldType.object "CordBay$Row")), 5, 115)
def qX0_fail : xq := (0, 7, yX0_fail, cX0_fail, 3, some ((FieldType.object "CordBay$Row")), 0, 0)
def qX0_rowAt : xq := (0, 8, yX0_rowAt, cX0_rowAt, 3, some ((FieldType.object "CordBay$Row")), 2, 42)
def qX0_wantedRow : xq := (0, 9, yX0_wantedRow, cX0_wantedRow, 5, some ((FieldType.object "CordBay$Row")), 3, 64)
def qX0_endsAhead : xq := (0, 10, yX0_endsAhead, cX0_endsAhead, 3, some (FieldType.boolean), 1, 22)
def qX0_playTable : xq := (0, 11, yX0_playTable, cX0_playTable, 6, some ((FieldType.object "CordBay$Row")), 4, 86)
def qX0_putFromTable : xq := (0, 12, yX0_putFromTable, cX0_putFromTable, 5, none, 2, 48)
def qX0_putWhole : xq := (0, 13, yX0_putWhole, cX0_putWhole, 5, none, 1, 24)
def qX0_shape : xq := (0, 14, yX0_shape, cX0_shape, 5, some ((FieldType.object "CordBay$Row")), 4, 88)
def qX0_shapedSample : xq := (0, 15, yX0_shapedSample, cX0_shapedSample, 12, some (FieldType.double), 1, 25)
def qX0_gainAt : xq := (0, 16, yX0_gainAt, cX0_gainAt, 6, some (FieldType.double), 0, 0)
def qX0_mix : xq := (0, 17, yX0_mix, cX0_mix, 5, some ((FieldType.object "CordBay$Row")), 4, 90)
def qX0_sumAt : xq := (0, 18, yX0_sumAt, cX0_sumAt, 7, some (FieldType.long), 3, 64)
def qX0_openGate : xq := (0, 19, yX0_openGate, cX0_openGate, 5, some ((FieldType.object "CordBay$Row")), 4, 88)
def qX0_upAfter : xq := (0, 20, yX0_upAfter, cX0_upAfter, 4, some (FieldType.int), 0, 0)
def qX0_turn : xq := (0, 21, yX0_turn, cX0_turn, 5, some ((FieldType.object "CordBay$Row")), 4, 88)
def qX0_putFloating : xq := (0, 22, yX0_putFloating, cX0_putFloating, 7, none, 2, 48)
def qX0_passOn : xq := (0, 23, yX0_passOn, cX0_passOn, 4, some ((FieldType.object "CordBay$Row")), 4, 88)
def qX0_average : xq := (0, 24, yX0_average, cX0_average, 8, some ((FieldType.object "CordBay$Row")), 4, 88)
def qX1_init : xq := (1, 25, yX1_init, cX1_init, 2, none, 1, 20)
def qX1_remember : xq := (1, 26, yX1_remember, cX1_remember, 3, none, 2, 43)
def qX1_advance : xq := (1, 27, yX1_advance, cX1_advance, 1, none, 1, 21)
def qX1_undo : xq := (1, 28, yX1_undo, cX1_undo, 3, none, 2, 43)
def qX1_goBack : xq := (1, 29, yX1_goBack, cX1_goBack, 2, none, 3, 65)
def qX2_init : xq := (2, 30, yX2_init, cX2_init, 2, none, 1, 20)
def qX2_has : xq := (2, 31, yX2_has, cX2_has, 2, some (FieldType.boolean), 0, 0)
def qX2_isUnused : xq := (2, 32, yX2_isUnused, cX2_isUnused, 2, some (FieldType.boolean), 1, 21)
def qX2_store : xq := (2, 33, yX2_store, cX2_store, 5, some (FieldType.int), 1, 72)
def qX2_restore : xq := (2, 34, yX2_restore, cX2_restore, 5, some (FieldType.int), 2, 72)
def qX3_init : xq := (3, 35, yX3_init, cX3_init, 1, none, 1, 20)
def qX3_isFull : xq := (3, 36, yX3_isFull, cX3_isFull, 1, some (FieldType.boolean), 0, 0)
def qX3_at : xq := (3, 37, yX3_at, cX3_at, 2, some ((FieldType.object "CordBay$Unit")), 0, 0)
def qX3_givenBy : xq := (3, 38, yX3_givenBy, cX3_givenBy, 2, some ((FieldType.object "CordBay$Row")), 0, 0)
def qX3_inLine : xq := (3, 39, yX3_inLine, cX3_inLine, 2, some (FieldType.int), 0, 0)
def qX3_add : xq := (3, 40, yX3_add, cX3_add, 4, some (FieldType.int), 6, 130)
def qX3_join : xq := (3, 41, yX3_join, cX3_join, 4, none, 6, 130)
def qX3_cordCount : xq := (3, 42, yX3_cordCount, cX3_cordCount, 5, some (FieldType.int), 2, 42)
def qX3_shortestLoop : xq := (3, 43, yX3_shortestLoop, cX3_shortestLoop, 6, some (FieldType.int), 4, 88)
def qX3_stepOn : xq := (3, 44, yX3_stepOn, cX3_stepOn, 3, none, 3, 66)
def qX3_isFedAtStep : xq := (3, 45, yX3_isFedAtStep, cX3_isFedAtStep, 5, some (FieldType.boolean), 2, 42)
def qX3_lineUp : xq := (3, 46, yX3_lineUp, cX3_lineUp, 3, none, 5, 108)
def qX3_placeNext : xq := (3, 47, yX3_placeNext, cX3_placeNext, 3, none, 4, 86)
def qX3_leastReady : xq := (3, 48, yX3_leastReady, cX3_leastReady, 2, some (FieldType.int), 3, 65)
def qX3_isReady : xq := (3, 49, yX3_isReady, cX3_isReady, 4, some (FieldType.boolean), 2, 42)
def qX4_init : xq := (4, 50, yX4_init, cX4_init, 3, none, 1, 20)
def qX4_isFloating : xq := (4, 51, yX4_isFloating, cX4_isFloating, 1, some (FieldType.boolean), 0, 0)
def qX4_has : xq := (4, 52, yX4_has, cX4_has, 2, some (FieldType.boolean), 0, 0)
def qX4_valueAt : xq := (4, 53, yX4_valueAt, cX4_valueAt, 2, some (FieldType.double), 1, 21)
def qX4_lacksNumberAt : xq := (4, 54, yX4_lacksNumberAt, cX4_lacksNumberAt, 2, some (FieldType.boolean), 1, 21)
def qX4_put : xq := (4, 55, yX4_put, cX4_put, 4, none, 0, 0)
def qX4_putNoNumber : xq := (4, 56, yX4_putNoNumber, cX4_putNoNumber, 2, none, 1, 21)
def qX4_noneCount : xq := (4, 57, yX4_noneCount, cX4_noneCount, 1, some (FieldType.int), 1, 20)
def qX4_isSilent : xq := (4, 58, yX4_isSilent, cX4_isSilent, 2, some (FieldType.boolean), 0, 0)
def qX4_isSameAs : xq := (4, 59, yX4_isSameAs, cX4_isSameAs, 3, some (FieldType.boolean), 2, 42)
def qX4_haveSameBits : xq := (4, 60, yX4_haveSameBits, cX4_haveSameBits, 4, some (FieldType.boolean), 0, 0)
def qX5_init : xq := (5, 61, yX5_init, cX5_init, 1, none, 1, 20)
def qX5_copyFrom : xq := (5, 62, yX5_copyFrom, cX5_copyFrom, 3, none, 0, 0)
def qX5_feed : xq := (5, 63, yX5_feed, cX5_feed, 3, none, 0, 0)
def qX5_fedAgo : xq := (5, 64, yX5_fedAgo, cX5_fedAgo, 2, some ((FieldType.object "CordBay$Row")), 1, 21)
def qX5_heldWithin : xq := (5, 65, yX5_heldWithin, cX5_heldWithin, 5, some (FieldType.int), 0, 0)
def qX6_init : xq := (6, 66, yX6_init, cX6_init, 2, none, 1, 20)
def qX6_has : xq := (6, 67, yX6_has, cX6_has, 2, some (FieldType.boolean), 0, 0)
def qX6_lengthOf : xq := (6, 68, yX6_lengthOf, cX6_lengthOf, 2, some (FieldType.int), 1, 21)
def qX6_isMissing : xq := (6, 69, yX6_isMissing, cX6_isMissing, 2, some (FieldType.boolean), 2, 42)
def qX6_hasPlace : xq := (6, 70, yX6_hasPlace, cX6_hasPlace, 3, some (FieldType.boolean), 2, 42)
def qX6_renew : xq := (6, 71, yX6_renew, cX6_renew, 4, none, 1, 21)
def qX6_put : xq := (6, 72, yX6_put, cX6_put, 4, none, 3, 64)
def qX6_at : xq := (6, 73, yX6_at, cX6_at, 3, some (FieldType.int), 3, 64)
def qX7_init : xq := (7, 74, yX7_init, cX7_init, 1, none, 1, 20)
def qX7_isFull : xq := (7, 75, yX7_isFull, cX7_isFull, 1, some (FieldType.boolean), 0, 0)
def qX7_add : xq := (7, 76, yX7_add, cX7_add, 2, some (FieldType.int), 0, 0)
def qX7_at : xq := (7, 77, yX7_at, cX7_at, 2, some ((FieldType.object "CordBay$Row")), 0, 0)
def qX8_init : xq := (8, 78, yX8_init, cX8_init, 5, none, 2, 40)
def qX8_hasIn : xq := (8, 79, yX8_hasIn, cX8_hasIn, 2, some (FieldType.boolean), 0, 0)
def qX8_inCount : xq := (8, 80, yX8_inCount, cX8_inCount, 1, some (FieldType.int), 0, 0)
def qX8_cordOf : xq := (8, 81, yX8_cordOf, cX8_cordOf, 2, some (FieldType.int), 1, 21)
def qX8_setCord : xq := (8, 82, yX8_setCord, cX8_setCord, 3, none, 1, 21)
def qX8_remember : xq := (8, 83, yX8_remember, cX8_remember, 2, none, 1, 22)
def qX8_becomeAsIn : xq := (8, 84, yX8_becomeAsIn, cX8_becomeAsIn, 2, none, 1, 22)
def qX9_init : xq := (9, 85, yX9_init, cX9_init, 1, none, 2, 42)
def qX9_module : xq := (9, 86, yX9_module, cX9_module, 3, some (FieldType.int), 7, 153)
def qX9_cord : xq := (9, 87, yX9_cord, cX9_cord, 6, some (FieldType.int), 7, 153)
def qX9_from : xq := (9, 88, yX9_from, cX9_from, 4, some (FieldType.int), 2, 42)
def qX9_knob : xq := (9, 89, yX9_knob, cX9_knob, 6, some (FieldType.int), 1, 21)
def qX9_table : xq := (9, 90, yX9_table, cX9_table, 3, some (FieldType.int), 2, 44)
def qX9_write : xq := (9, 91, yX9_write, cX9_write, 4, some (FieldType.int), 4, 87)
def qX9_block : xq := (9, 92, yX9_block, cX9_block, 3, some (FieldType.int), 7, 159)
def qX9_back : xq := (9, 93, yX9_back, cX9_back, 2, some (FieldType.int), 4, 86)
def qX9_keep : xq := (9, 94, yX9_keep, cX9_keep, 2, some (FieldType.int), 2, 96)
def qX9_recall : xq := (9, 95, yX9_recall, cX9_recall, 2, some (FieldType.int), 3, 96)
def qX9_take : xq := (9, 96, yX9_take, cX9_take, 3, some (FieldType.int), 1, 21)
def qX9_equal : xq := (9, 97, yX9_equal, cX9_equal, 5, some (FieldType.int), 3, 64)
def qX9_row : xq := (9, 98, yX9_row, cX9_row, 4, some (FieldType.int), 2, 40)
def qX9_sample : xq := (9, 99, yX9_sample, cX9_sample, 4, some (FieldType.double), 2, 42)
def qX9_isNone : xq := (9, 100, yX9_isNone, cX9_isNone, 4, some (FieldType.boolean), 2, 42)
def qX9_order : xq := (9, 101, yX9_order, cX9_order, 2, some (FieldType.int), 1, 21)
def qX9_trace : xq := (9, 102, yX9_trace, cX9_trace, 2, some (FieldType.int), 1, 21)
def qX9_finding : xq := (9, 103, yX9_finding, cX9_finding, 2, some (FieldType.int), 0, 0)
def qX9_count : xq := (9, 104, yX9_count, cX9_count, 2, some (FieldType.int), 3, 66)
def qX9_countOfModule : xq := (9, 105, yX9_countOfModule, cX9_countOfModule, 3, some (FieldType.int), 1, 21)
def qX9_heldFloating : xq := (9, 106, yX9_heldFloating, cX9_heldFloating, 2, some (FieldType.double), 0, 0)
def qX10_init : xq := (10, 107, yX10_init, cX10_init, 1, none, 1, 20)
def qX10_isIn : xq := (10, 108, yX10_isIn, cX10_isIn, 3, some (FieldType.boolean), 0, 0)
def qX10_isModule : xq := (10, 109, yX10_isModule, cX10_isModule, 2, some (FieldType.boolean), 1, 22)
def qX10_hasIn : xq := (10, 110, yX10_hasIn, cX10_hasIn, 3, some (FieldType.boolean), 2, 43)
def qX10_module : xq := (10, 111, yX10_module, cX10_module, 3, some (FieldType.int), 1, 22)
def qX10_leads : xq := (10, 112, yX10_leads, cX10_leads, 3, some (FieldType.boolean), 0, 0)
def qX10_way : xq := (10, 113, yX10_way, cX10_way, 6, some (FieldType.int), 1, 22)
def qX10_cord : xq := (10, 114, yX10_cord, cX10_cord, 5, some (FieldType.int), 3, 65)
def qX10_from : xq := (10, 115, yX10_from, cX10_from, 3, some (FieldType.int), 3, 65)
def qX10_knob : xq := (10, 116, yX10_knob, cX10_knob, 5, some (FieldType.int), 2, 43)
def qX10_table : xq := (10, 117, yX10_table, cX10_table, 4, some (FieldType.int), 1, 22)
def qX10_write : xq := (10, 118, yX10_write, cX10_write, 4, some (FieldType.int), 1, 22)
def qX10_rowAt : xq := (10, 119, yX10_rowAt, cX10_rowAt, 3, some (FieldType.int), 0, 0)
def qX10_kindOf : xq := (10, 120, yX10_kindOf, cX10_kindOf, 2, some (FieldType.int), 1, 22)
def qX10_copyRow : xq := (10, 121, yX10_copyRow, cX10_copyRow, 6, none, 1, 22)
def qX10_noRow : xq := (10, 122, yX10_noRow, cX10_noRow, 3, none, 1, 22)
def qX10_copyState : xq := (10, 123, yX10_copyState, cX10_copyState, 4, none, 0, 0)
def qX10_fails : xq := (10, 124, yX10_fails, cX10_fails, 4, some (FieldType.boolean), 0, 0)
def qX10_hasRow : xq := (10, 125, yX10_hasRow, cX10_hasRow, 5, some (FieldType.boolean), 2, 43)
def qX10_hasSample : xq := (10, 126, yX10_hasSample, cX10_hasSample, 5, some (FieldType.boolean), 1, 23)
def qX10_sampleOf : xq := (10, 127, yX10_sampleOf, cX10_sampleOf, 4, some (FieldType.double), 0, 0)
def qX10_isNoneOf : xq := (10, 128, yX10_isNoneOf, cX10_isNoneOf, 4, some (FieldType.boolean), 1, 22)
def qX10_held : xq := (10, 129, yX10_held, cX10_held, 2, some (FieldType.double), 0, 0)
def qX10_heldTo : xq := (10, 130, yX10_heldTo, cX10_heldTo, 9, some (FieldType.double), 0, 0)
def qX10_wholeInto : xq := (10, 131, yX10_wholeInto, cX10_wholeInto, 5, some (FieldType.double), 1, 28)
def qX10_floatingInto : xq := (10, 132, yX10_floatingInto, cX10_floatingInto, 5, some (FieldType.double), 1, 28)
def qX10_source : xq := (10, 133, yX10_source, cX10_source, 9, some (FieldType.boolean), 2, 52)
def qX10_shaped : xq := (10, 134, yX10_shaped, cX10_shaped, 10, some (FieldType.double), 1, 21)
def qX10_filtered : xq := (10, 135, yX10_filtered, cX10_filtered, 7, some (FieldType.double), 1, 21)
def qX10_late : xq := (10, 136, yX10_late, cX10_late, 7, some (FieldType.double), 1, 21)
def qX10_shape : xq := (10, 137, yX10_shape, cX10_shape, 5, some (FieldType.boolean), 3, 67)
def qX10_counts : xq := (10, 138, yX10_counts, cX10_counts, 3, some (FieldType.boolean), 2, 43)
def qX10_mix : xq := (10, 139, yX10_mix, cX10_mix, 6, some (FieldType.boolean), 3, 65)
def qX10_gate : xq := (10, 140, yX10_gate, cX10_gate, 6, some (FieldType.boolean), 3, 67)
def qX10_turn : xq := (10, 141, yX10_turn, cX10_turn, 7, some (FieldType.boolean), 3, 67)
def qX10_mean : xq := (10, 142, yX10_mean, cX10_mean, 7, some (FieldType.boolean), 3, 67)
def qX10_give : xq := (10, 143, yX10_give, cX10_give, 5, none, 1, 22)
def qX10_doesSwitch : xq := (10, 144, yX10_doesSwitch, cX10_doesSwitch, 2, some (FieldType.boolean), 3, 67)
def qX10_delay : xq := (10, 145, yX10_delay, cX10_delay, 3, none, 2, 47)
def qX10_acts : xq := (10, 146, yX10_acts, cX10_acts, 4, some (FieldType.boolean), 4, 93)
def qX10_feed : xq := (10, 147, yX10_feed, cX10_feed, 3, none, 2, 47)
def qX10_hasActed : xq := (10, 148, yX10_hasActed, cX10_hasActed, 5, some (FieldType.boolean), 0, 0)
def qX10_setOrder : xq := (10, 149, yX10_setOrder, cX10_setOrder, 5, none, 1, 24)
def qX10_block : xq := (10, 150, yX10_block, cX10_block, 4, some (FieldType.int), 5, 116)
def qX10_back : xq := (10, 151, yX10_back, cX10_back, 2, some (FieldType.int), 1, 23)
def qX10_keep : xq := (10, 152, yX10_keep, cX10_keep, 3, some (FieldType.int), 1, 22)
def qX10_recall : xq := (10, 153, yX10_recall, cX10_recall, 4, some (FieldType.int), 1, 22)
def qX10_take : xq := (10, 154, yX10_take, cX10_take, 3, some (FieldType.int), 2, 43)
def qX10_takeOf : xq := (10, 155, yX10_takeOf, cX10_takeOf, 4, some (FieldType.int), 0, 0)
def qX10_hasMinus : xq := (10, 156, yX10_hasMinus, cX10_hasMinus, 2, some (FieldType.boolean), 0, 0)
def qX10_equal : xq := (10, 157, yX10_equal, cX10_equal, 11, some (FieldType.int), 1, 23)
def qX10_row : xq := (10, 158, yX10_row, cX10_row, 8, some (FieldType.int), 4, 87)
def qX10_hasGiven : xq := (10, 159, yX10_hasGiven, cX10_hasGiven, 3, some (FieldType.boolean), 2, 43)
def qX10_sample : xq := (10, 160, yX10_sample, cX10_sample, 3, some (FieldType.double), 4, 87)
def qX10_isNone : xq := (10, 161, yX10_isNone, cX10_isNone, 3, some (FieldType.boolean), 3, 65)
def qX10_order : xq := (10, 162, yX10_order, cX10_order, 2, some (FieldType.int), 2, 48)
def qX10_trace : xq := (10, 163, yX10_trace, cX10_trace, 2, some (FieldType.int), 1, 22)
def qX10_finding : xq := (10, 164, yX10_finding, cX10_finding, 2, some (FieldType.int), 1, 22)
def qX10_count : xq := (10, 165, yX10_count, cX10_count, 4, some (FieldType.int), 1, 22)
def qJ6_bitCount_0f7a4 : xq := (11, 166, yJ6_bitCount_0f7a4, cJ6_bitCount_0f7a4, 1, some (FieldType.int), 0, 0)
def qJ9_floorMod_7cf53 : xq := (12, 167, yJ9_floorMod_7cf53, cJ9_floorMod_7cf53, 3, some (FieldType.int), 0, 0)
def qJ9_max_7cf53 : xq := (12, 168, yJ9_max_7cf53, cJ9_max_7cf53, 2, some (FieldType.int), 0, 0)
def qJ9_min_7cf53 : xq := (12, 169, yJ9_min_7cf53, cJ9_min_7cf53, 2, some (FieldType.int), 0, 0)
theorem lw_at {w : Cond} (i : Nat) (h : lw_tbl[i]? = some w) (hg : goodWord w = true) : w ∈ lw_tb2 := lz_tb2 (List.mem_of_getElem? h) hg
def xlk {α : Type} : List (Nat × Nat × α) → Nat → Nat → Option α
  | [], _, _ => none
  | (a, b, v) :: l, c, i => if a = c ∧ b = i then some v else xlk l c i
theorem xlk_in {α : Type} {l : List (Nat × Nat × α)} {c i : Nat} {v : α} (h : xlk l c i = some v) : (c, i, v) ∈ l := by
  induction l with
  | nil => cases h
  | cons a l ih =>
    obtain ⟨a1, a2, a3⟩ := a
    unfold xlk at h
    split at h
    · rename_i hq
      obtain ⟨rfl, rfl⟩ := hq
      cases h
      exact List.mem_cons_self
    · exact List.mem_cons_of_mem _ (ih h)
theorem uwX0 : ∀ w ∈ u_ws RX0 TX0 8, w ∈ lw_tbl := by decide +kernel
theorem ugX0 : ∀ w ∈ u_ws RX0 TX0 8, goodWord w = true := by decide +kernel
theorem uwX1 : ∀ w ∈ u_ws RX1 TX1 4, w ∈ lw_tbl := by decide +kernel
theorem ugX1 : ∀ w ∈ u_ws RX1 TX1 4, goodWord w = true := by decide +kernel
theorem uwX2 : ∀ w ∈ u_ws RX2 TX2 2, w ∈ lw_tbl := by decide +kernel
theorem ugX2 : ∀ w ∈ u_ws RX2 TX2 2, goodWord w = true := by decide +kernel
theorem uwX3 : ∀ w ∈ u_ws RX3 TX3 5, w ∈ lw_tbl := by decide +kernel
theorem ugX3 : ∀ w ∈ u_ws RX3 TX3 5, goodWord w = true := by decide +kernel
theorem uwX4 : ∀ w ∈ u_ws RX4 TX4 4, w ∈ lw_tbl := by decide +kernel
theorem ugX4 : ∀ w ∈ u_ws RX4 TX4 4, goodWord w = true := by decide +kernel
theorem uwX5 : ∀ w ∈ u_ws RX5 TX5 8, w ∈ lw_tbl := by decide +kernel
theorem ugX5 : ∀ w ∈ u_ws RX5 TX5 8, goodWord w = true := by decide +kernel
theorem uwX6 : ∀ w ∈ u_ws RX6 TX6 2, w ∈ lw_tbl := by decide +kernel
theorem ugX6 : ∀ w ∈ u_ws RX6 TX6 2, goodWord w = true := by decide +kernel
theorem uwX7 : ∀ w ∈ u_ws RX7 TX7 2, w ∈ lw_tbl := by decide +kernel
theorem ugX7 : ∀ w ∈ u_ws RX7 TX7 2, goodWord w = true := by decide +kernel
theorem uwX8 : ∀ w ∈ u_ws RX8 TX8 7, w ∈ lw_tbl := by decide +kernel
theorem ugX8 : ∀ w ∈ u_ws RX8 TX8 7, goodWord w = true := by decide +kernel
theorem uwX9 : ∀ w ∈ u_ws RX9 TX9 6, w ∈ lw_tbl := by decide +kernel
theorem ugX9 : ∀ w ∈ u_ws RX9 TX9 6, goodWord w = true := by decide +kernel
theorem uwX10 : ∀ w ∈ u_ws RX10 TX10 31, w ∈ lw_tbl := by decide +kernel
theorem ugX10 : ∀ w ∈ u_ws RX10 TX10 31, goodWord w = true := by decide +kernel
/-- class, index: class of the field, its place, its kind, 0 not final, 1 final here, 2 final elsewhere -/
def xfL : List (Nat × Nat × Nat × Nat × Nat × Nat) := [(0, 9, 0, 5, 2, 1), (0, 15, 0, 3, 2, 1), (0, 19, 0, 4, 2, 1), (0, 23, 0, 6, 0, 0), (0, 27, 0, 7, 0, 0), (0, 30, 0, 0, 0, 0), (0, 33, 3, 0, 0, 0), (0, 46, 8, 0, 0, 2), (0, 55, 0, 1, 0, 0), (0, 58, 8, 4, 2, 2), (0, 66, 5, 0, 2, 0), (0, 78, 8, 3, 2, 2), (0, 81, 5, 6, 0, 0), (0, 84, 8, 1, 0, 2), (0, 120, 0, 2, 0, 0), (0, 133, 4, 0, 0, 2), (0, 148, 8, 2, 0, 2), (0, 154, 5, 1, 0, 0), (0, 221, 5, 2, 1, 0), (0, 227, 5, 3, 1, 0), (0, 243, 5, 4, 0, 0), (1, 9, 1, 2, 2, 1), (1, 15, 3, 0, 0, 0), (1, 25, 1, 3, 0, 0), (1, 34, 1, 1, 0, 0), (1, 43, 1, 0, 0, 0), (2, 11, 2, 0, 2, 1), (2, 16, 2, 1, 2, 1), (2, 24, 3, 0, 0, 0), (2, 34, 8, 3, 2, 2), (3, 11, 3, 1, 2, 1), (3, 17, 3, 2, 2, 1), (3, 21, 3, 3, 2, 1), (3, 25, 3, 4, 2, 1), (3, 28, 3, 0, 0, 0), (3, 32, 8, 4, 2, 2), (3, 36, 5, 0, 2, 0), (3, 64, 8, 1, 0, 2), (4, 9, 4, 0, 0, 1), (4, 15, 4, 1, 0, 1), (4, 18, 4, 2, 2, 1), (4, 26, 4, 3, 0, 0), (5, 11, 5, 7, 2, 1), (5, 17, 5, 0, 2, 0), (5, 21, 5, 1, 0, 0), (5, 25, 5, 2, 1, 0), (5, 29, 5, 3, 1, 0), (5, 32, 5, 4, 0, 0), (5, 35, 5, 5, 0, 0), (5, 38, 5, 6, 0, 0), (6, 11, 6, 0, 2, 1), (6, 16, 6, 1, 2, 1), (7, 11, 7, 1, 2, 1), (7, 17, 7, 0, 0, 0), (8, 9, 8, 3, 2, 1), (8, 18, 8, 4, 2, 1), (8, 22, 8, 6, 2, 1), (8, 26, 8, 0, 0, 1), (8, 30, 8, 1, 0, 1), (8, 33, 8, 2, 0, 1), (8, 36, 8, 5, 2, 1), (9, 12, 9, 0, 2, 1), (9, 19, 9, 1, 2, 1), (9, 26, 9, 2, 2, 1), (9, 33, 9, 3, 2, 1), (9, 42, 9, 4, 2, 1), (9, 51, 9, 5, 2, 1), (9, 84, 8, 3, 2, 2), (9, 118, 1, 1, 0, 0), (9, 153, 4, 0, 0, 2), (9, 156, 4, 1, 0, 2), (9, 179, 0, 0, 0, 0), (9, 182, 0, 1, 0, 0), (9, 185, 0, 2, 0, 0), (9, 188, 3, 0, 0, 0), (9, 194, 1, 0, 0, 0), (9, 197, 7, 0, 0, 0), (9, 201, 8, 1, 0, 2), (9, 202, 8, 4, 2, 2), (9, 206, 5, 5, 0, 0), (10, 7, 10, 1, 2, 1), (10, 13, 10, 2, 2, 1), (10, 17, 10, 4, 2, 1), (10, 20, 10, 5, 2, 1), (10, 23, 10, 6, 2, 1), (10, 26, 10, 7, 2, 1), (10, 29, 10, 8, 2, 1), (10, 32, 10, 9, 2, 1), (10, 35, 10, 13, 2, 1), (10, 38, 10, 14, 2, 1), (10, 41, 10, 20, 2, 1), (10, 44, 10, 21, 2, 1), (10, 47, 10, 23, 2, 1), (10, 50, 10, 24, 2, 1), (10, 53, 10, 25, 2, 1), (10, 56, 10, 26, 2, 1), (10, 59, 10, 27, 2, 1), (10, 62, 10, 29, 2, 1), (10, 65, 10, 30, 2, 1), (10, 68, 10, 3, 0, 0), (10, 94, 10, 16, 0, 0), (10, 97, 10, 17, 0, 0), (10, 100, 10, 18, 0, 0), (10, 128, 10, 19, 0, 0), (10, 132, 10, 28, 0, 0), (10, 210, 10, 15, 0, 0), (10, 225, 10, 11, 0, 0), (10, 228, 10, 12, 0, 0), (10, 231, 10, 10, 0, 0), (10, 234, 10, 22, 0, 0), (10, 237, 10, 0, 0, 0)]
def xfP (q : Nat × Nat × Nat × Nat × Nat × Nat) : Prop := ∃ r : vw_C, vwCl[q.2.2.1]? = some r ∧ q.2.2.1 < 11 ∧ lz_nF q.2.2.1 = r.2.2 ∧ q.2.2.2.1 < r.2.2 ∧ (∀ w ∈ u_ws r.1 r.2.1 r.2.2, w ∈ lw_tb2) ∧ Cond.fieldLink (xcls q.1) q.2.1 (r.2.1 q.2.2.2.1).1 (r.2.1 q.2.2.2.1).2.1 (r.2.1 q.2.2.2.1).2.2.1 ∈ lw_tb2 ∧ lz_kd (lz_ty q.2.2.1 q.2.2.2.1) = q.2.2.2.2.1 ∧
  (∀ j, j < r.2.2 → parseFieldDescriptor (r.2.1 j).2.2.1 = some (lz_ty q.2.2.1 j)) ∧ (∀ a, a < r.2.2 → ∀ b, b < r.2.2 → a ≠ b → (r.2.1 a).2.1 ≠ (r.2.1 b).2.1) ∧ (q.2.2.2.2.2 = 0 → (r.2.1 q.2.2.2.1).2.2.2 = false) ∧ (q.2.2.2.2.2 = 1 → (r.2.1 q.2.2.2.1).2.2.2 = true ∧ (r.2.1 q.2.2.2.1).1 = xcls q.1) ∧ (lz_ty q.2.2.1 q.2.2.2.1 = .int ∨ lz_ty q.2.2.1 q.2.2.2.1 = .double ∨ refKind (lz_ty q.2.2.1 q.2.2.2.1) = true)
theorem xf_0_9 : xfP (0, 9, 0, 5, 2, 1) := ⟨(RX0, TX0, 8), rfl, by decide, rfl, by decide, fun w h => lz_tb2 (uwX0 w h) (ugX0 w h), lw_at 198 (by decide +kernel) rfl, rfl, tyX0_ok, nmX0, (fun h => by cases h), (fun _ => ⟨rfl, rfl⟩), by decide⟩
theorem xf_0_15 : xfP (0, 15, 0, 3, 2, 1) := ⟨(RX0, TX0, 8), rfl, by decide, rfl, by decide, fun w h => lz_tb2 (uwX0 w h) (ugX0 w h), lw_at 196 (by decide +kernel) rfl, rfl, tyX0_ok, nmX0, (fun h => by cases h), (fun _ => ⟨rfl, rfl⟩), by decide⟩
theorem xf_0_19 : xfP (0, 19, 0, 4, 2, 1) := ⟨(RX0, TX0, 8), rfl, by decide, rfl, by decide, fun w h => lz_tb2 (uwX0 w h) (ugX0 w h), lw_at 197 (by decide +kernel) rfl, rfl, tyX0_ok, nmX0, (fun h => by cases h), (fun _ => ⟨rfl, rfl⟩), by decide⟩
theorem xf_0_23 : xfP (0, 23, 0, 6, 0, 0) := ⟨(RX0, TX0, 8), rfl, by decide, rfl, by decide, fun w h => lz_tb2 (uwX0 w h) (ugX0 w h), lw_at 199 (by decide +kernel) rfl, rfl, tyX0_ok, nmX0, (fun _ => rfl), (fun h => by cases h), by decide⟩
theorem xf_0_27 : xfP (0, 27, 0, 7, 0, 0) := ⟨(RX0, TX0, 8), rfl, by decide, rfl, by decide, fun w h => lz_tb2 (uwX0 w h) (ugX0 w h), lw_at 200 (by decide +kernel) rfl, rfl, tyX0_ok, nmX0, (fun _ => rfl), (fun h => by cases h), by decide⟩
theorem xf_0_30 : xfP (0, 30, 0, 0, 0, 0) := ⟨(RX0, TX0, 8), rfl, by decide, rfl, by decide, fun w h => lz_tb2 (uwX0 w h) (ugX0 w h), lw_at 190 (by decide +kernel) rfl, rfl, tyX0_ok, nmX0, (fun _ => rfl), (fun h => by cases h), by decide⟩
theorem xf_0_33 : xfP (0, 33, 3, 0, 0, 0) := ⟨(RX3, TX3, 5), rfl, by decide, rfl, by decide, fun w h => lz_tb2 (uwX3 w h) (ugX3 w h), lw_at 98 (by decide +kernel) rfl, rfl, tyX3_ok, nmX3, (fun _ => rfl), (fun h => by cases h), by decide⟩
theorem xf_0_46 : xfP (0, 46, 8, 0, 0, 2) := ⟨(RX8, TX8, 7), rfl, by decide, rfl, by decide, fun w h => lz_tb2 (uwX8 w h) (ugX8 w h), lw_at 296 (by decide +kernel) rfl, rfl, tyX8_ok, nmX8, (fun h => by cases h), (fun h => by cases h), by decide⟩
theorem xf_0_55 : xfP (0, 55, 0, 1, 0, 0) := ⟨(RX0, TX0, 8), rfl, by decide, rfl, by decide, fun w h => lz_tb2 (uwX0 w h) (ugX0 w h), lw_at 192 (by decide +kernel) rfl, rfl, tyX0_ok, nmX0, (fun _ => rfl), (fun h => by cases h), by decide⟩
theorem xf_0_58 : xfP (0, 58, 8, 4, 2, 2) := ⟨(RX8, TX8, 7), rfl, by decide, rfl, by decide, fun w h => lz_tb2 (uwX8 w h) (ugX8 w h), lw_at 308 (by decide +kernel) rfl, rfl, tyX8_ok, nmX8, (fun h => by cases h), (fun h => by cases h), by decide⟩
theorem xf_0_66 : xfP (0, 66, 5, 0, 2, 0) := ⟨(RX5, TX5, 8), rfl, by decide, rfl, by decide, fun w h => lz_tb2 (uwX5 w h) (ugX5 w h), lw_at 262 (by decide +kernel) rfl, rfl, tyX5_ok, nmX5, (fun _ => rfl), (fun h => by cases h), by decide⟩
theorem xf_0_78 : xfP (0, 78, 8, 3, 2, 2) := ⟨(RX8, TX8, 7), rfl, by decide, rfl, by decide, fun w h => lz_tb2 (uwX8 w h) (ugX8 w h), lw_at 306 (by decide +kernel) rfl, rfl, tyX8_ok, nmX8, (fun h => by cases h), (fun h => by cases h), by decide⟩
theorem xf_0_81 : xfP (0, 81, 5, 6, 0, 0) := ⟨(RX5, TX5, 8), rfl, by decide, rfl, by decide, fun w h => lz_tb2 (uwX5 w h) (ugX5 w h), lw_at 275 (by decide +kernel) rfl, rfl, tyX5_ok, nmX5, (fun _ => rfl), (fun h => by cases h), by decide⟩
theorem xf_0_84 : xfP (0, 84, 8, 1, 0, 2) := ⟨(RX8, TX8, 7), rfl, by decide, rfl, by decide, fun w h => lz_tb2 (uwX8 w h) (ugX8 w h), lw_at 298 (by decide +kernel) rfl, rfl, tyX8_ok, nmX8, (fun h => by cases h), (fun h => by cases h), by decide⟩
theorem xf_0_120 : xfP (0, 120, 0, 2, 0, 0) := ⟨(RX0, TX0, 8), rfl, by decide, rfl, by decide, fun w h => lz_tb2 (uwX0 w h) (ugX0 w h), lw_at 194 (by decide +kernel) rfl, rfl, tyX0_ok, nmX0, (fun _ => rfl), (fun h => by cases h), by decide⟩
theorem xf_0_133 : xfP (0, 133, 4, 0, 0, 2) := ⟨(RX4, TX4, 4), rfl, by decide, rfl, by decide, fun w h => lz_tb2 (uwX4 w h) (ugX4 w h), lw_at 480 (by decide +kernel) rfl, rfl, tyX4_ok, nmX4, (fun h => by cases h), (fun h => by cases h), by decide⟩
theorem xf_0_148 : xfP (0, 148, 8, 2, 0, 2) := ⟨(RX8, TX8, 7), rfl, by decide, rfl, by decide, fun w h => lz_tb2 (uwX8 w h) (ugX8 w h), lw_at 302 (by decide +kernel) rfl, rfl, tyX8_ok, nmX8, (fun h => by cases h), (fun h => by cases h), by decide⟩
theorem xf_0_154 : xfP (0, 154, 5, 1, 0, 0) := ⟨(RX5, TX5, 8), rfl, by decide, rfl, by decide, fun w h => lz_tb2 (uwX5 w h) (ugX5 w h), lw_at 265 (by decide +kernel) rfl, rfl, tyX5_ok, nmX5, (fun _ => rfl), (fun h => by cases h), by decide⟩
theorem xf_0_221 : xfP (0, 221, 5, 2, 1, 0) := ⟨(RX5, TX5, 8), rfl, by decide, rfl, by decide, fun w h => lz_tb2 (uwX5 w h) (ugX5 w h), lw_at 267 (by decide +kernel) rfl, rfl, tyX5_ok, nmX5, (fun _ => rfl), (fun h => by cases h), by decide⟩
theorem xf_0_227 : xfP (0, 227, 5, 3, 1, 0) := ⟨(RX5, TX5, 8), rfl, by decide, rfl, by decide, fun w h => lz_tb2 (uwX5 w h) (ugX5 w h), lw_at 269 (by decide +kernel) rfl, rfl, tyX5_ok, nmX5, (fun _ => rfl), (fun h => by cases h), by decide⟩
theorem xf_0_243 : xfP (0, 243, 5, 4, 0, 0) := ⟨(RX5, TX5, 8), rfl, by decide, rfl, by decide, fun w h => lz_tb2 (uwX5 w h) (ugX5 w h), lw_at 271 (by decide +kernel) rfl, rfl, tyX5_ok, nmX5, (fun _ => rfl), (fun h => by cases h), by decide⟩
theorem xf_1_9 : xfP (1, 9, 1, 2, 2, 1) := ⟨(RX1, TX1, 4), rfl, by decide, rfl, by decide, fun w h => lz_tb2 (uwX1 w h) (ugX1 w h), lw_at 173 (by decide +kernel) rfl, rfl, tyX1_ok, nmX1, (fun h => by cases h), (fun _ => ⟨rfl, rfl⟩), by decide⟩
theorem xf_1_15 : xfP (1, 15, 3, 0, 0, 0) := ⟨(RX3, TX3, 5), rfl, by decide, rfl, by decide, fun w h => lz_tb2 (uwX3 w h) (ugX3 w h), lw_at 97 (by decide +kernel) rfl, rfl, tyX3_ok, nmX3, (fun _ => rfl), (fun h => by cases h), by decide⟩
theorem xf_1_25 : xfP (1, 25, 1, 3, 0, 0) := ⟨(RX1, TX1, 4), rfl, by decide, rfl, by decide, fun w h => lz_tb2 (uwX1 w h) (ugX1 w h), lw_at 174 (by decide +kernel) rfl, rfl, tyX1_ok, nmX1, (fun _ => rfl), (fun h => by cases h), by decide⟩
theorem xf_1_34 : xfP (1, 34, 1, 1, 0, 0) := ⟨(RX1, TX1, 4), rfl, by decide, rfl, by decide, fun w h => lz_tb2 (uwX1 w h) (ugX1 w h), lw_at 171 (by decide +kernel) rfl, rfl, tyX1_ok, nmX1, (fun _ => rfl), (fun h => by cases h), by decide⟩
theorem xf_1_43 : xfP (1, 43, 1, 0, 0, 0) := ⟨(RX1, TX1, 4), rfl, by decide, rfl, by decide, fun w h => lz_tb2 (uwX1 w h) (ugX1 w h), lw_at 169 (by decide +kernel) rfl, rfl, tyX1_ok, nmX1, (fun _ => rfl), (fun h => by cases h), by decide⟩
theorem xf_2_11 : xfP (2, 11, 2, 0, 2, 1) := ⟨(RX2, TX2, 2), rfl, by decide, rfl, by decide, fun w h => lz_tb2 (uwX2 w h) (ugX2 w h), lw_at 140 (by decide +kernel) rfl, rfl, tyX2_ok, nmX2, (fun h => by cases h), (fun _ => ⟨rfl, rfl⟩), by decide⟩
theorem xf_2_16 : xfP (2, 16, 2, 1, 2, 1) := ⟨(RX2, TX2, 2), rfl, by decide, rfl, by decide, fun w h => lz_tb2 (uwX2 w h) (ugX2 w h), lw_at 141 (by decide +kernel) rfl, rfl, tyX2_ok, nmX2, (fun h => by cases h), (fun _ => ⟨rfl, rfl⟩), by decide⟩
theorem xf_2_24 : xfP (2, 24, 3, 0, 0, 0) := ⟨(RX3, TX3, 5), rfl, by decide, rfl, by decide, fun w h => lz_tb2 (uwX3 w h) (ugX3 w h), lw_at 99 (by decide +kernel) rfl, rfl, tyX3_ok, nmX3, (fun _ => rfl), (fun h => by cases h), by decide⟩
theorem xf_2_34 : xfP (2, 34, 8, 3, 2, 2) := ⟨(RX8, TX8, 7), rfl, by decide, rfl, by decide, fun w h => lz_tb2 (uwX8 w h) (ugX8 w h), lw_at 304 (by decide +kernel) rfl, rfl, tyX8_ok, nmX8, (fun h => by cases h), (fun h => by cases h), by decide⟩
theorem xf_3_11 : xfP (3, 11, 3, 1, 2, 1) := ⟨(RX3, TX3, 5), rfl, by decide, rfl, by decide, fun w h => lz_tb2 (uwX3 w h) (ugX3 w h), lw_at 101 (by decide +kernel) rfl, rfl, tyX3_ok, nmX3, (fun h => by cases h), (fun _ => ⟨rfl, rfl⟩), by decide⟩
theorem xf_3_17 : xfP (3, 17, 3, 2, 2, 1) := ⟨(RX3, TX3, 5), rfl, by decide, rfl, by decide, fun w h => lz_tb2 (uwX3 w h) (ugX3 w h), lw_at 102 (by decide +kernel) rfl, rfl, tyX3_ok, nmX3, (fun h => by cases h), (fun _ => ⟨rfl, rfl⟩), by decide⟩
theorem xf_3_21 : xfP (3, 21, 3, 3, 2, 1) := ⟨(RX3, TX3, 5), rfl, by decide, rfl, by decide, fun w h => lz_tb2 (uwX3 w h) (ugX3 w h), lw_at 103 (by decide +kernel) rfl, rfl, tyX3_ok, nmX3, (fun h => by cases h), (fun _ => ⟨rfl, rfl⟩), by decide⟩
theorem xf_3_25 : xfP (3, 25, 3, 4, 2, 1) := ⟨(RX3, TX3, 5), rfl, by decide, rfl, by decide, fun w h => lz_tb2 (uwX3 w h) (ugX3 w h), lw_at 104 (by decide +kernel) rfl, rfl, tyX3_ok, nmX3, (fun h => by cases h), (fun _ => ⟨rfl, rfl⟩), by decide⟩
theorem xf_3_28 : xfP (3, 28, 3, 0, 0, 0) := ⟨(RX3, TX3, 5), rfl, by decide, rfl, by decide, fun w h => lz_tb2 (uwX3 w h) (ugX3 w h), lw_at 96 (by decide +kernel) rfl, rfl, tyX3_ok, nmX3, (fun _ => rfl), (fun h => by cases h), by decide⟩
theorem xf_3_32 : xfP (3, 32, 8, 4, 2, 2) := ⟨(RX8, TX8, 7), rfl, by decide, rfl, by decide, fun w h => lz_tb2 (uwX8 w h) (ugX8 w h), lw_at 309 (by decide +kernel) rfl, rfl, tyX8_ok, nmX8, (fun h => by cases h), (fun h => by cases h), by decide⟩
theorem xf_3_36 : xfP (3, 36, 5, 0, 2, 0) := ⟨(RX5, TX5, 8), rfl, by decide, rfl, by decide, fun w h => lz_tb2 (uwX5 w h) (ugX5 w h), lw_at 263 (by decide +kernel) rfl, rfl, tyX5_ok, nmX5, (fun _ => rfl), (fun h => by cases h), by decide⟩
theorem xf_3_64 : xfP (3, 64, 8, 1, 0, 2) := ⟨(RX8, TX8, 7), rfl, by decide, rfl, by decide, fun w h => lz_tb2 (uwX8 w h) (ugX8 w h), lw_at 299 (by decide +kernel) rfl, rfl, tyX8_ok, nmX8, (fun h => by cases h), (fun h => by cases h), by decide⟩
theorem xf_4_9 : xfP (4, 9, 4, 0, 0, 1) := ⟨(RX4, TX4, 4), rfl, by decide, rfl, by decide, fun w h => lz_tb2 (uwX4 w h) (ugX4 w h), lw_at 479 (by decide +kernel) rfl, rfl, tyX4_ok, nmX4, (fun h => by cases h), (fun _ => ⟨rfl, rfl⟩), by decide⟩
theorem xf_4_15 : xfP (4, 15, 4, 1, 0, 1) := ⟨(RX4, TX4, 4), rfl, by decide, rfl, by decide, fun w h => lz_tb2 (uwX4 w h) (ugX4 w h), lw_at 482 (by decide +kernel) rfl, rfl, tyX4_ok, nmX4, (fun h => by cases h), (fun _ => ⟨rfl, rfl⟩), by decide⟩
theorem xf_4_18 : xfP (4, 18, 4, 2, 2, 1) := ⟨(RX4, TX4, 4), rfl, by decide, rfl, by decide, fun w h => lz_tb2 (uwX4 w h) (ugX4 w h), lw_at 484 (by decide +kernel) rfl, rfl, tyX4_ok, nmX4, (fun h => by cases h), (fun _ => ⟨rfl, rfl⟩), by decide⟩
theorem xf_4_26 : xfP (4, 26, 4, 3, 0, 0) := ⟨(RX4, TX4, 4), rfl, by decide, rfl, by decide, fun w h => lz_tb2 (uwX4 w h) (ugX4 w h), lw_at 485 (by decide +kernel) rfl, rfl, tyX4_ok, nmX4, (fun _ => rfl), (fun h => by cases h), by decide⟩
theorem xf_5_11 : xfP (5, 11, 5, 7, 2, 1) := ⟨(RX5, TX5, 8), rfl, by decide, rfl, by decide, fun w h => lz_tb2 (uwX5 w h) (ugX5 w h), lw_at 276 (by decide +kernel) rfl, rfl, tyX5_ok, nmX5, (fun h => by cases h), (fun _ => ⟨rfl, rfl⟩), by decide⟩
theorem xf_5_17 : xfP (5, 17, 5, 0, 2, 0) := ⟨(RX5, TX5, 8), rfl, by decide, rfl, by decide, fun w h => lz_tb2 (uwX5 w h) (ugX5 w h), lw_at 261 (by decide +kernel) rfl, rfl, tyX5_ok, nmX5, (fun _ => rfl), (fun h => by cases h), by decide⟩
theorem xf_5_21 : xfP (5, 21, 5, 1, 0, 0) := ⟨(RX5, TX5, 8), rfl, by decide, rfl, by decide, fun w h => lz_tb2 (uwX5 w h) (ugX5 w h), lw_at 264 (by decide +kernel) rfl, rfl, tyX5_ok, nmX5, (fun _ => rfl), (fun h => by cases h), by decide⟩
theorem xf_5_25 : xfP (5, 25, 5, 2, 1, 0) := ⟨(RX5, TX5, 8), rfl, by decide, rfl, by decide, fun w h => lz_tb2 (uwX5 w h) (ugX5 w h), lw_at 266 (by decide +kernel) rfl, rfl, tyX5_ok, nmX5, (fun _ => rfl), (fun h => by cases h), by decide⟩
theorem xf_5_29 : xfP (5, 29, 5, 3, 1, 0) := ⟨(RX5, TX5, 8), rfl, by decide, rfl, by decide, fun w h => lz_tb2 (uwX5 w h) (ugX5 w h), lw_at 268 (by decide +kernel) rfl, rfl, tyX5_ok, nmX5, (fun _ => rfl), (fun h => by cases h), by decide⟩
theorem xf_5_32 : xfP (5, 32, 5, 4, 0, 0) := ⟨(RX5, TX5, 8), rfl, by decide, rfl, by decide, fun w h => lz_tb2 (uwX5 w h) (ugX5 w h), lw_at 270 (by decide +kernel) rfl, rfl, tyX5_ok, nmX5, (fun _ => rfl), (fun h => by cases h), by decide⟩
theorem xf_5_35 : xfP (5, 35, 5, 5, 0, 0) := ⟨(RX5, TX5, 8), rfl, by decide, rfl, by decide, fun w h => lz_tb2 (uwX5 w h) (ugX5 w h), lw_at 272 (by decide +kernel) rfl, rfl, tyX5_ok, nmX5, (fun _ => rfl), (fun h => by cases h), by decide⟩
theorem xf_5_38 : xfP (5, 38, 5, 6, 0, 0) := ⟨(RX5, TX5, 8), rfl, by decide, rfl, by decide, fun w h => lz_tb2 (uwX5 w h) (ugX5 w h), lw_at 274 (by decide +kernel) rfl, rfl, tyX5_ok, nmX5, (fun _ => rfl), (fun h => by cases h), by decide⟩
theorem xf_6_11 : xfP (6, 11, 6, 0, 2, 1) := ⟨(RX6, TX6, 2), rfl, by decide, rfl, by decide, fun w h => lz_tb2 (uwX6 w h) (ugX6 w h), lw_at 126 (by decide +kernel) rfl, rfl, tyX6_ok, nmX6, (fun h => by cases h), (fun _ => ⟨rfl, rfl⟩), by decide⟩
theorem xf_6_16 : xfP (6, 16, 6, 1, 2, 1) := ⟨(RX6, TX6, 2), rfl, by decide, rfl, by decide, fun w h => lz_tb2 (uwX6 w h) (ugX6 w h), lw_at 127 (by decide +kernel) rfl, rfl, tyX6_ok, nmX6, (fun h => by cases h), (fun _ => ⟨rfl, rfl⟩), by decide⟩
theorem xf_7_11 : xfP (7, 11, 7, 1, 2, 1) := ⟨(RX7, TX7, 2), rfl, by decide, rfl, by decide, fun w h => lz_tb2 (uwX7 w h) (ugX7 w h), lw_at 157 (by decide +kernel) rfl, rfl, tyX7_ok, nmX7, (fun h => by cases h), (fun _ => ⟨rfl, rfl⟩), by decide⟩
theorem xf_7_17 : xfP (7, 17, 7, 0, 0, 0) := ⟨(RX7, TX7, 2), rfl, by decide, rfl, by decide, fun w h => lz_tb2 (uwX7 w h) (ugX7 w h), lw_at 155 (by decide +kernel) rfl, rfl, tyX7_ok, nmX7, (fun _ => rfl), (fun h => by cases h), by decide⟩
theorem xf_8_9 : xfP (8, 9, 8, 3, 2, 1) := ⟨(RX8, TX8, 7), rfl, by decide, rfl, by decide, fun w h => lz_tb2 (uwX8 w h) (ugX8 w h), lw_at 303 (by decide +kernel) rfl, rfl, tyX8_ok, nmX8, (fun h => by cases h), (fun _ => ⟨rfl, rfl⟩), by decide⟩
theorem xf_8_18 : xfP (8, 18, 8, 4, 2, 1) := ⟨(RX8, TX8, 7), rfl, by decide, rfl, by decide, fun w h => lz_tb2 (uwX8 w h) (ugX8 w h), lw_at 307 (by decide +kernel) rfl, rfl, tyX8_ok, nmX8, (fun h => by cases h), (fun _ => ⟨rfl, rfl⟩), by decide⟩
theorem xf_8_22 : xfP (8, 22, 8, 6, 2, 1) := ⟨(RX8, TX8, 7), rfl, by decide, rfl, by decide, fun w h => lz_tb2 (uwX8 w h) (ugX8 w h), lw_at 312 (by decide +kernel) rfl, rfl, tyX8_ok, nmX8, (fun h => by cases h), (fun _ => ⟨rfl, rfl⟩), by decide⟩
theorem xf_8_26 : xfP (8, 26, 8, 0, 0, 1) := ⟨(RX8, TX8, 7), rfl, by decide, rfl, by decide, fun w h => lz_tb2 (uwX8 w h) (ugX8 w h), lw_at 295 (by decide +kernel) rfl, rfl, tyX8_ok, nmX8, (fun h => by cases h), (fun _ => ⟨rfl, rfl⟩), by decide⟩
theorem xf_8_30 : xfP (8, 30, 8, 1, 0, 1) := ⟨(RX8, TX8, 7), rfl, by decide, rfl, by decide, fun w h => lz_tb2 (uwX8 w h) (ugX8 w h), lw_at 297 (by decide +kernel) rfl, rfl, tyX8_ok, nmX8, (fun h => by cases h), (fun _ => ⟨rfl, rfl⟩), by decide⟩
theorem xf_8_33 : xfP (8, 33, 8, 2, 0, 1) := ⟨(RX8, TX8, 7), rfl, by decide, rfl, by decide, fun w h => lz_tb2 (uwX8 w h) (ugX8 w h), lw_at 301 (by decide +kernel) rfl, rfl, tyX8_ok, nmX8, (fun h => by cases h), (fun _ => ⟨rfl, rfl⟩), by decide⟩
theorem xf_8_36 : xfP (8, 36, 8, 5, 2, 1) := ⟨(RX8, TX8, 7), rfl, by decide, rfl, by decide, fun w h => lz_tb2 (uwX8 w h) (ugX8 w h), lw_at 311 (by decide +kernel) rfl, rfl, tyX8_ok, nmX8, (fun h => by cases h), (fun _ => ⟨rfl, rfl⟩), by decide⟩
theorem xf_9_12 : xfP (9, 12, 9, 0, 2, 1) := ⟨(RX9, TX9, 6), rfl, by decide, rfl, by decide, fun w h => lz_tb2 (uwX9 w h) (ugX9 w h), lw_at 218 (by decide +kernel) rfl, rfl, tyX9_ok, nmX9, (fun h => by cases h), (fun _ => ⟨rfl, rfl⟩), by decide⟩
theorem xf_9_19 : xfP (9, 19, 9, 1, 2, 1) := ⟨(RX9, TX9, 6), rfl, by decide, rfl, by decide, fun w h => lz_tb2 (uwX9 w h) (ugX9 w h), lw_at 219 (by decide +kernel) rfl, rfl, tyX9_ok, nmX9, (fun h => by cases h), (fun _ => ⟨rfl, rfl⟩), by decide⟩
theorem xf_9_26 : xfP (9, 26, 9, 2, 2, 1) := ⟨(RX9, TX9, 6), rfl, by decide, rfl, by decide, fun w h => lz_tb2 (uwX9 w h) (ugX9 w h), lw_at 220 (by decide +kernel) rfl, rfl, tyX9_ok, nmX9, (fun h => by cases h), (fun _ => ⟨rfl, rfl⟩), by decide⟩
theorem xf_9_33 : xfP (9, 33, 9, 3, 2, 1) := ⟨(RX9, TX9, 6), rfl, by decide, rfl, by decide, fun w h => lz_tb2 (uwX9 w h) (ugX9 w h), lw_at 221 (by decide +kernel) rfl, rfl, tyX9_ok, nmX9, (fun h => by cases h), (fun _ => ⟨rfl, rfl⟩), by decide⟩
theorem xf_9_42 : xfP (9, 42, 9, 4, 2, 1) := ⟨(RX9, TX9, 6), rfl, by decide, rfl, by decide, fun w h => lz_tb2 (uwX9 w h) (ugX9 w h), lw_at 222 (by decide +kernel) rfl, rfl, tyX9_ok, nmX9, (fun h => by cases h), (fun _ => ⟨rfl, rfl⟩), by decide⟩
theorem xf_9_51 : xfP (9, 51, 9, 5, 2, 1) := ⟨(RX9, TX9, 6), rfl, by decide, rfl, by decide, fun w h => lz_tb2 (uwX9 w h) (ugX9 w h), lw_at 223 (by decide +kernel) rfl, rfl, tyX9_ok, nmX9, (fun h => by cases h), (fun _ => ⟨rfl, rfl⟩), by decide⟩
theorem xf_9_84 : xfP (9, 84, 8, 3, 2, 2) := ⟨(RX8, TX8, 7), rfl, by decide, rfl, by decide, fun w h => lz_tb2 (uwX8 w h) (ugX8 w h), lw_at 305 (by decide +kernel) rfl, rfl, tyX8_ok, nmX8, (fun h => by cases h), (fun h => by cases h), by decide⟩
theorem xf_9_118 : xfP (9, 118, 1, 1, 0, 0) := ⟨(RX1, TX1, 4), rfl, by decide, rfl, by decide, fun w h => lz_tb2 (uwX1 w h) (ugX1 w h), lw_at 172 (by decide +kernel) rfl, rfl, tyX1_ok, nmX1, (fun _ => rfl), (fun h => by cases h), by decide⟩
theorem xf_9_153 : xfP (9, 153, 4, 0, 0, 2) := ⟨(RX4, TX4, 4), rfl, by decide, rfl, by decide, fun w h => lz_tb2 (uwX4 w h) (ugX4 w h), lw_at 481 (by decide +kernel) rfl, rfl, tyX4_ok, nmX4, (fun h => by cases h), (fun h => by cases h), by decide⟩
theorem xf_9_156 : xfP (9, 156, 4, 1, 0, 2) := ⟨(RX4, TX4, 4), rfl, by decide, rfl, by decide, fun w h => lz_tb2 (uwX4 w h) (ugX4 w h), lw_at 483 (by decide +kernel) rfl, rfl, tyX4_ok, nmX4, (fun h => by cases h), (fun h => by cases h), by decide⟩
theorem xf_9_179 : xfP (9, 179, 0, 0, 0, 0) := ⟨(RX0, TX0, 8), rfl, by decide, rfl, by decide, fun w h => lz_tb2 (uwX0 w h) (ugX0 w h), lw_at 191 (by decide +kernel) rfl, rfl, tyX0_ok, nmX0, (fun _ => rfl), (fun h => by cases h), by decide⟩
theorem xf_9_182 : xfP (9, 182, 0, 1, 0, 0) := ⟨(RX0, TX0, 8), rfl, by decide, rfl, by decide, fun w h => lz_tb2 (uwX0 w h) (ugX0 w h), lw_at 193 (by decide +kernel) rfl, rfl, tyX0_ok, nmX0, (fun _ => rfl), (fun h => by cases h), by decide⟩
theorem xf_9_185 : xfP (9, 185, 0, 2, 0, 0) := ⟨(RX0, TX0, 8), rfl, by decide, rfl, by decide, fun w h => lz_tb2 (uwX0 w h) (ugX0 w h), lw_at 195 (by decide +kernel) rfl, rfl, tyX0_ok, nmX0, (fun _ => rfl), (fun h => by cases h), by decide⟩
theorem xf_9_188 : xfP (9, 188, 3, 0, 0, 0) := ⟨(RX3, TX3, 5), rfl, by decide, rfl, by decide, fun w h => lz_tb2 (uwX3 w h) (ugX3 w h), lw_at 100 (by decide +kernel) rfl, rfl, tyX3_ok, nmX3, (fun _ => rfl), (fun h => by cases h), by decide⟩
theorem xf_9_194 : xfP (9, 194, 1, 0, 0, 0) := ⟨(RX1, TX1, 4), rfl, by decide, rfl, by decide, fun w h => lz_tb2 (uwX1 w h) (ugX1 w h), lw_at 170 (by decide +kernel) rfl, rfl, tyX1_ok, nmX1, (fun _ => rfl), (fun h => by cases h), by decide⟩
theorem xf_9_197 : xfP (9, 197, 7, 0, 0, 0) := ⟨(RX7, TX7, 2), rfl, by decide, rfl, by decide, fun w h => lz_tb2 (uwX7 w h) (ugX7 w h), lw_at 156 (by decide +kernel) rfl, rfl, tyX7_ok, nmX7, (fun _ => rfl), (fun h => by cases h), by decide⟩
theorem xf_9_201 : xfP (9, 201, 8, 1, 0, 2) := ⟨(RX8, TX8, 7), rfl, by decide, rfl, by decide, fun w h => lz_tb2 (uwX8 w h) (ugX8 w h), lw_at 300 (by decide +kernel) rfl, rfl, tyX8_ok, nmX8, (fun h => by cases h), (fun h => by cases h), by decide⟩
theorem xf_9_202 : xfP (9, 202, 8, 4, 2, 2) := ⟨(RX8, TX8, 7), rfl, by decide, rfl, by decide, fun w h => lz_tb2 (uwX8 w h) (ugX8 w h), lw_at 310 (by decide +kernel) rfl, rfl, tyX8_ok, nmX8, (fun h => by cases h), (fun h => by cases h), by decide⟩
theorem xf_9_206 : xfP (9, 206, 5, 5, 0, 0) := ⟨(RX5, TX5, 8), rfl, by decide, rfl, by decide, fun w h => lz_tb2 (uwX5 w h) (ugX5 w h), lw_at 273 (by decide +kernel) rfl, rfl, tyX5_ok, nmX5, (fun _ => rfl), (fun h => by cases h), by decide⟩
theorem xf_10_7 : xfP (10, 7, 10, 1, 2, 1) := ⟨(RX10, TX10, 31), rfl, by decide, rfl, by decide, fun w h => lz_tb2 (uwX10 w h) (ugX10 w h), lw_at 780 (by decide +kernel) rfl, rfl, tyX10_ok, nmX10, (fun h => by cases h), (fun _ => ⟨rfl, rfl⟩), by decide⟩
theorem xf_10_13 : xfP (10, 13, 10, 2, 2, 1) := ⟨(RX10, TX10, 31), rfl, by decide, rfl, by decide, fun w h => lz_tb2 (uwX10 w h) (ugX10 w h), lw_at 781 (by decide +kernel) rfl, rfl, tyX10_ok, nmX10, (fun h => by cases h), (fun _ => ⟨rfl, rfl⟩), by decide⟩
theorem xf_10_17 : xfP (10, 17, 10, 4, 2, 1) := ⟨(RX10, TX10, 31), rfl, by decide, rfl, by decide, fun w h => lz_tb2 (uwX10 w h) (ugX10 w h), lw_at 783 (by decide +kernel) rfl, rfl, tyX10_ok, nmX10, (fun h => by cases h), (fun _ => ⟨rfl, rfl⟩), by decide⟩
theorem xf_10_20 : xfP (10, 20, 10, 5, 2, 1) := ⟨(RX10, TX10, 31), rfl, by decide, rfl, by decide, fun w h => lz_tb2 (uwX10 w h) (ugX10 w h), lw_at 784 (by decide +kernel) rfl, rfl, tyX10_ok, nmX10, (fun h => by cases h), (fun _ => ⟨rfl, rfl⟩), by decide⟩
theorem xf_10_23 : xfP (10, 23, 10, 6, 2, 1) := ⟨(RX10, TX10, 31), rfl, by decide, rfl, by decide, fun w h => lz_tb2 (uwX10 w h) (ugX10 w h), lw_at 785 (by decide +kernel) rfl, rfl, tyX10_ok, nmX10, (fun h => by cases h), (fun _ => ⟨rfl, rfl⟩), by decide⟩
theorem xf_10_26 : xfP (10, 26, 10, 7, 2, 1) := ⟨(RX10, TX10, 31), rfl, by decide, rfl, by decide, fun w h => lz_tb2 (uwX10 w h) (ugX10 w h), lw_at 786 (by decide +kernel) rfl, rfl, tyX10_ok, nmX10, (fun h => by cases h), (fun _ => ⟨rfl, rfl⟩), by decide⟩
theorem xf_10_29 : xfP (10, 29, 10, 8, 2, 1) := ⟨(RX10, TX10, 31), rfl, by decide, rfl, by decide, fun w h => lz_tb2 (uwX10 w h) (ugX10 w h), lw_at 787 (by decide +kernel) rfl, rfl, tyX10_ok, nmX10, (fun h => by cases h), (fun _ => ⟨rfl, rfl⟩), by decide⟩
theorem xf_10_32 : xfP (10, 32, 10, 9, 2, 1) := ⟨(RX10, TX10, 31), rfl, by decide, rfl, by decide, fun w h => lz_tb2 (uwX10 w h) (ugX10 w h), lw_at 788 (by decide +kernel) rfl, rfl, tyX10_ok, nmX10, (fun h => by cases h), (fun _ => ⟨rfl, rfl⟩), by decide⟩
theorem xf_10_35 : xfP (10, 35, 10, 13, 2, 1) := ⟨(RX10, TX10, 31), rfl, by decide, rfl, by decide, fun w h => lz_tb2 (uwX10 w h) (ugX10 w h), lw_at 792 (by decide +kernel) rfl, rfl, tyX10_ok, nmX10, (fun h => by cases h), (fun _ => ⟨rfl, rfl⟩), by decide⟩
theorem xf_10_38 : xfP (10, 38, 10, 14, 2, 1) := ⟨(RX10, TX10, 31), rfl, by decide, rfl, by decide, fun w h => lz_tb2 (uwX10 w h) (ugX10 w h), lw_at 793 (by decide +kernel) rfl, rfl, tyX10_ok, nmX10, (fun h => by cases h), (fun _ => ⟨rfl, rfl⟩), by decide⟩
theorem xf_10_41 : xfP (10, 41, 10, 20, 2, 1) := ⟨(RX10, TX10, 31), rfl, by decide, rfl, by decide, fun w h => lz_tb2 (uwX10 w h) (ugX10 w h), lw_at 799 (by decide +kernel) rfl, rfl, tyX10_ok, nmX10, (fun h => by cases h), (fun _ => ⟨rfl, rfl⟩), by decide⟩
theorem xf_10_44 : xfP (10, 44, 10, 21, 2, 1) := ⟨(RX10, TX10, 31), rfl, by decide, rfl, by decide, fun w h => lz_tb2 (uwX10 w h) (ugX10 w h), lw_at 800 (by decide +kernel) rfl, rfl, tyX10_ok, nmX10, (fun h => by cases h), (fun _ => ⟨rfl, rfl⟩), by decide⟩
theorem xf_10_47 : xfP (10, 47, 10, 23, 2, 1) := ⟨(RX10, TX10, 31), rfl, by decide, rfl, by decide, fun w h => lz_tb2 (uwX10 w h) (ugX10 w h), lw_at 802 (by decide +kernel) rfl, rfl, tyX10_ok, nmX10, (fun h => by cases h), (fun _ => ⟨rfl, rfl⟩), by decide⟩
theorem xf_10_50 : xfP (10, 50, 10, 24, 2, 1) := ⟨(RX10, TX10, 31), rfl, by decide, rfl, by decide, fun w h => lz_tb2 (uwX10 w h) (ugX10 w h), lw_at 803 (by decide +kernel) rfl, rfl, tyX10_ok, nmX10, (fun h => by cases h), (fun _ => ⟨rfl, rfl⟩), by decide⟩
theorem xf_10_53 : xfP (10, 53, 10, 25, 2, 1) := ⟨(RX10, TX10, 31), rfl, by decide, rfl, by decide, fun w h => lz_tb2 (uwX10 w h) (ugX10 w h), lw_at 804 (by decide +kernel) rfl, rfl, tyX10_ok, nmX10, (fun h => by cases h), (fun _ => ⟨rfl, rfl⟩), by decide⟩
theorem xf_10_56 : xfP (10, 56, 10, 26, 2, 1) := ⟨(RX10, TX10, 31), rfl, by decide, rfl, by decide, fun w h => lz_tb2 (uwX10 w h) (ugX10 w h), lw_at 805 (by decide +kernel) rfl, rfl, tyX10_ok, nmX10, (fun h => by cases h), (fun _ => ⟨rfl, rfl⟩), by decide⟩
theorem xf_10_59 : xfP (10, 59, 10, 27, 2, 1) := ⟨(RX10, TX10, 31), rfl, by decide, rfl, by decide, fun w h => lz_tb2 (uwX10 w h) (ugX10 w h), lw_at 806 (by decide +kernel) rfl, rfl, tyX10_ok, nmX10, (fun h => by cases h), (fun _ => ⟨rfl, rfl⟩), by decide⟩
theorem xf_10_62 : xfP (10, 62, 10, 29, 2, 1) := ⟨(RX10, TX10, 31), rfl, by decide, rfl, by decide, fun w h => lz_tb2 (uwX10 w h) (ugX10 w h), lw_at 808 (by decide +kernel) rfl, rfl, tyX10_ok, nmX10, (fun h => by cases h), (fun _ => ⟨rfl, rfl⟩), by decide⟩
theorem xf_10_65 : xfP (10, 65, 10, 30, 2, 1) := ⟨(RX10, TX10, 31), rfl, by decide, rfl, by decide, fun w h => lz_tb2 (uwX10 w h) (ugX10 w h), lw_at 809 (by decide +kernel) rfl, rfl, tyX10_ok, nmX10, (fun h => by cases h), (fun _ => ⟨rfl, rfl⟩), by decide⟩
theorem xf_10_68 : xfP (10, 68, 10, 3, 0, 0) := ⟨(RX10, TX10, 31), rfl, by decide, rfl, by decide, fun w h => lz_tb2 (uwX10 w h) (ugX10 w h), lw_at 782 (by decide +kernel) rfl, rfl, tyX10_ok, nmX10, (fun _ => rfl), (fun h => by cases h), by decide⟩
theorem xf_10_94 : xfP (10, 94, 10, 16, 0, 0) := ⟨(RX10, TX10, 31), rfl, by decide, rfl, by decide, fun w h => lz_tb2 (uwX10 w h) (ugX10 w h), lw_at 795 (by decide +kernel) rfl, rfl, tyX10_ok, nmX10, (fun _ => rfl), (fun h => by cases h), by decide⟩
theorem xf_10_97 : xfP (10, 97, 10, 17, 0, 0) := ⟨(RX10, TX10, 31), rfl, by decide, rfl, by decide, fun w h => lz_tb2 (uwX10 w h) (ugX10 w h), lw_at 796 (by decide +kernel) rfl, rfl, tyX10_ok, nmX10, (fun _ => rfl), (fun h => by cases h), by decide⟩
theorem xf_10_100 : xfP (10, 100, 10, 18, 0, 0) := ⟨(RX10, TX10, 31), rfl, by decide, rfl, by decide, fun w h => lz_tb2 (uwX10 w h) (ugX10 w h), lw_at 797 (by decide +kernel) rfl, rfl, tyX10_ok, nmX10, (fun _ => rfl), (fun h => by cases h), by decide⟩
theorem xf_10_128 : xfP (10, 128, 10, 19, 0, 0) := ⟨(RX10, TX10, 31), rfl, by decide, rfl, by decide, fun w h => lz_tb2 (uwX10 w h) (ugX10 w h), lw_at 798 (by decide +kernel) rfl, rfl, tyX10_ok, nmX10, (fun _ => rfl), (fun h => by cases h), by decide⟩
theorem xf_10_132 : xfP (10, 132, 10, 28, 0, 0) := ⟨(RX10, TX10, 31), rfl, by decide, rfl, by decide, fun w h => lz_tb2 (uwX10 w h) (ugX10 w h), lw_at 807 (by decide +kernel) rfl, rfl, tyX10_ok, nmX10, (fun _ => rfl), (fun h => by cases h), by decide⟩
theorem xf_10_210 : xfP (10, 210, 10, 15, 0, 0) := ⟨(RX10, TX10, 31), rfl, by decide, rfl, by decide, fun w h => lz_tb2 (uwX10 w h) (ugX10 w h), lw_at 794 (by decide +kernel) rfl, rfl, tyX10_ok, nmX10, (fun _ => rfl), (fun h => by cases h), by decide⟩
theorem xf_10_225 : xfP (10, 225, 10, 11, 0, 0) := ⟨(RX10, TX10, 31), rfl, by decide, rfl, by decide, fun w h => lz_tb2 (uwX10 w h) (ugX10 w h), lw_at 790 (by decide +kernel) rfl, rfl, tyX10_ok, nmX10, (fun _ => rfl), (fun h => by cases h), by decide⟩
theorem xf_10_228 : xfP (10, 228, 10, 12, 0, 0) := ⟨(RX10, TX10, 31), rfl, by decide, rfl, by decide, fun w h => lz_tb2 (uwX10 w h) (ugX10 w h), lw_at 791 (by decide +kernel) rfl, rfl, tyX10_ok, nmX10, (fun _ => rfl), (fun h => by cases h), by decide⟩
theorem xf_10_231 : xfP (10, 231, 10, 10, 0, 0) := ⟨(RX10, TX10, 31), rfl, by decide, rfl, by decide, fun w h => lz_tb2 (uwX10 w h) (ugX10 w h), lw_at 789 (by decide +kernel) rfl, rfl, tyX10_ok, nmX10, (fun _ => rfl), (fun h => by cases h), by decide⟩
theorem xf_10_234 : xfP (10, 234, 10, 22, 0, 0) := ⟨(RX10, TX10, 31), rfl, by decide, rfl, by decide, fun w h => lz_tb2 (uwX10 w h) (ugX10 w h), lw_at 801 (by decide +kernel) rfl, rfl, tyX10_ok, nmX10, (fun _ => rfl), (fun h => by cases h), by decide⟩
theorem xf_10_237 : xfP (10, 237, 10, 0, 0, 0) := ⟨(RX10, TX10, 31), rfl, by decide, rfl, by decide, fun w h => lz_tb2 (uwX10 w h) (ugX10 w h), lw_at 779 (by decide +kernel) rfl, rfl, tyX10_ok, nmX10, (fun _ => rfl), (fun h => by cases h), by decide⟩
theorem xf_ok : ∀ q ∈ xfL, xfP q := by
  unfold xfL
  exact List.forall_mem_cons.mpr ⟨xf_0_9, List.forall_mem_cons.mpr ⟨xf_0_15, List.forall_mem_cons.mpr ⟨xf_0_19, List.forall_mem_cons.mpr ⟨xf_0_23, List.forall_mem_cons.mpr ⟨xf_0_27, List.forall_mem_cons.mpr ⟨xf_0_30, List.forall_mem_cons.mpr ⟨xf_0_33, List.forall_mem_cons.mpr ⟨xf_0_46, List.forall_mem_cons.mpr ⟨xf_0_55, List.forall_mem_cons.mpr ⟨xf_0_58, List.forall_mem_cons.mpr ⟨xf_0_66, List.forall_mem_cons.mpr ⟨xf_0_78, List.forall_mem_cons.mpr ⟨xf_0_81, List.forall_mem_cons.mpr ⟨xf_0_84, List.forall_mem_cons.mpr ⟨xf_0_120, List.forall_mem_cons.mpr ⟨xf_0_133, List.forall_mem_cons.mpr ⟨xf_0_148, List.forall_mem_cons.mpr ⟨xf_0_154, List.forall_mem_cons.mpr ⟨xf_0_221, List.forall_mem_cons.mpr ⟨xf_0_227, List.forall_mem_cons.mpr ⟨xf_0_243, List.forall_mem_cons.mpr ⟨xf_1_9, List.forall_mem_cons.mpr ⟨xf_1_15, List.forall_mem_cons.mpr ⟨xf_1_25, List.forall_mem_cons.mpr ⟨xf_1_34, List.forall_mem_cons.mpr ⟨xf_1_43, List.forall_mem_cons.mpr ⟨xf_2_11, List.forall_mem_cons.mpr ⟨xf_2_16, List.forall_mem_cons.mpr ⟨xf_2_24, List.forall_mem_cons.mpr ⟨xf_2_34, List.forall_mem_cons.mpr ⟨xf_3_11, List.forall_mem_cons.mpr ⟨xf_3_17, List.forall_mem_cons.mpr ⟨xf_3_21, List.forall_mem_cons.mpr ⟨xf_3_25, List.forall_mem_cons.mpr ⟨xf_3_28, List.forall_mem_cons.mpr ⟨xf_3_32, List.forall_mem_cons.mpr ⟨xf_3_36, List.forall_mem_cons.mpr ⟨xf_3_64, List.forall_mem_cons.mpr ⟨xf_4_9, List.forall_mem_cons.mpr ⟨xf_4_15, List.forall_mem_cons.mpr ⟨xf_4_18, List.forall_mem_cons.mpr ⟨xf_4_26, List.forall_mem_cons.mpr ⟨xf_5_11, List.forall_mem_cons.mpr ⟨xf_5_17, List.forall_mem_cons.mpr ⟨xf_5_21, List.forall_mem_cons.mpr ⟨xf_5_25, List.forall_mem_cons.mpr ⟨xf_5_29, List.forall_mem_cons.mpr ⟨xf_5_32, List.forall_mem_cons.mpr ⟨xf_5_35, List.forall_mem_cons.mpr ⟨xf_5_38, List.forall_mem_cons.mpr ⟨xf_6_11, List.forall_mem_cons.mpr ⟨xf_6_16, List.forall_mem_cons.mpr ⟨xf_7_11, List.forall_mem_cons.mpr ⟨xf_7_17, List.forall_mem_cons.mpr ⟨xf_8_9, List.forall_mem_cons.mpr ⟨xf_8_18, List.forall_mem_cons.mpr ⟨xf_8_22, List.forall_mem_cons.mpr ⟨xf_8_26, List.forall_mem_cons.mpr ⟨xf_8_30, List.forall_mem_cons.mpr ⟨xf_8_33, List.forall_mem_cons.mpr ⟨xf_8_36, List.forall_mem_cons.mpr ⟨xf_9_12, List.forall_mem_cons.mpr ⟨xf_9_19, List.forall_mem_cons.mpr ⟨xf_9_26, List.forall_mem_cons.mpr ⟨xf_9_33, List.forall_mem_cons.mpr ⟨xf_9_42, List.forall_mem_cons.mpr ⟨xf_9_51, List.forall_mem_cons.mpr ⟨xf_9_84, List.forall_mem_cons.mpr ⟨xf_9_118, List.forall_mem_cons.mpr ⟨xf_9_153, List.forall_mem_cons.mpr ⟨xf_9_156, List.forall_mem_cons.mpr ⟨xf_9_179, List.forall_mem_cons.mpr ⟨xf_9_182, List.forall_mem_cons.mpr ⟨xf_9_185, List.forall_mem_cons.mpr ⟨xf_9_188, List.forall_mem_cons.mpr ⟨xf_9_194, List.forall_mem_cons.mpr ⟨xf_9_197, List.forall_mem_cons.mpr ⟨xf_9_201, List.forall_mem_cons.mpr ⟨xf_9_202, List.forall_mem_cons.mpr ⟨xf_9_206, List.forall_mem_cons.mpr ⟨xf_10_7, List.forall_mem_cons.mpr ⟨xf_10_13, List.forall_mem_cons.mpr ⟨xf_10_17, List.forall_mem_cons.mpr ⟨xf_10_20, List.forall_mem_cons.mpr ⟨xf_10_23, List.forall_mem_cons.mpr ⟨xf_10_26, List.forall_mem_cons.mpr ⟨xf_10_29, List.forall_mem_cons.mpr ⟨xf_10_32, List.forall_mem_cons.mpr ⟨xf_10_35, List.forall_mem_cons.mpr ⟨xf_10_38, List.forall_mem_cons.mpr ⟨xf_10_41, List.forall_mem_cons.mpr ⟨xf_10_44, List.forall_mem_cons.mpr ⟨xf_10_47, List.forall_mem_cons.mpr ⟨xf_10_50, List.forall_mem_cons.mpr ⟨xf_10_53, List.forall_mem_cons.mpr ⟨xf_10_56, List.forall_mem_cons.mpr ⟨xf_10_59, List.forall_mem_cons.mpr ⟨xf_10_62, List.forall_mem_cons.mpr ⟨xf_10_65, List.forall_mem_cons.mpr ⟨xf_10_68, List.forall_mem_cons.mpr ⟨xf_10_94, List.forall_mem_cons.mpr ⟨xf_10_97, List.forall_mem_cons.mpr ⟨xf_10_100, List.forall_mem_cons.mpr ⟨xf_10_128, List.forall_mem_cons.mpr ⟨xf_10_132, List.forall_mem_cons.mpr ⟨xf_10_210, List.forall_mem_cons.mpr ⟨xf_10_225, List.forall_mem_cons.mpr ⟨xf_10_228, List.forall_mem_cons.mpr ⟨xf_10_231, List.forall_mem_cons.mpr ⟨xf_10_234, List.forall_mem_cons.mpr ⟨xf_10_237, fun _ h => absurd h List.not_mem_nil⟩⟩⟩⟩⟩⟩⟩⟩⟩⟩⟩⟩⟩⟩⟩⟩⟩⟩⟩⟩⟩⟩⟩⟩⟩⟩⟩⟩⟩⟩⟩⟩⟩⟩⟩⟩⟩⟩⟩⟩⟩⟩⟩⟩⟩⟩⟩⟩⟩⟩⟩⟩⟩⟩⟩⟩⟩⟩⟩⟩⟩⟩⟩⟩⟩⟩⟩⟩⟩⟩⟩⟩⟩⟩⟩⟩⟩⟩⟩⟩⟩⟩⟩⟩⟩⟩⟩⟩⟩⟩⟩⟩⟩⟩⟩⟩⟩⟩⟩⟩⟩⟩⟩⟩⟩⟩⟩⟩⟩⟩⟩
def xnL : List (Nat × Nat × Nat) := [(0, 134, 4), (3, 9, 8), (8, 15, 5), (9, 9, 3), (9, 16, 6), (9, 23, 2), (9, 30, 7), (9, 37, 1), (9, 46, 0)]
def xaL : List (Nat × Nat × Nat) := [(3, 9, 5), (5, 9, 3), (7, 9, 3), (8, 15, 4)]
def xiL : List (Nat × Nat × Int) := [(0, 177, -2147483648), (0, 234, 2147483647), (10, 131, -2147483648), (11, 265, 1431655765), (11, 266, 858993459), (11, 267, 252645135)]
def xdL : List (Nat × Nat × UInt64) := [(0, 192, 4643211215818981376), (0, 225, 4620693217682128896), (9, 211, 4696837146684686336), (9, 213, 13920209183539462144), (10, 110, 4696837146684686336), (10, 112, 13920209183539462144), (10, 122, 4643211215818981376), (10, 138, 4620693217682128896)]
def xjL : List (Nat × Nat × Int) := [(10, 114, 32767), (10, 116, 2147483647)]
def xoL : List (Nat × Nat × Unit) := [(0, 3, ()), (1, 3, ()), (2, 3, ()), (3, 3, ()), (4, 3, ()), (5, 3, ()), (6, 3, ()), (7, 3, ()), (8, 3, ()), (9, 3, ()), (10, 1, ())]
def xyL : List (Nat × Nat × Unit) := [(2, 38, ())]
def xgL : List (Nat × Nat × Unit) := [(2, 9, ()), (6, 9, ())]
theorem xn_ok : ∀ q ∈ xnL, lz_N (xcls q.1) q.2.1 q.2.2 := by
  unfold xnL
  exact List.forall_mem_cons.mpr ⟨⟨by decide, (RX4, TX4, 4), rfl, rfl, fun w h => lz_tb2 (uwX4 w h) (ugX4 w h), tyX4_ok, lw_at 473 (by decide +kernel) rfl, lw_at 474 (by decide +kernel) rfl, lw_at 76 (by decide +kernel) rfl, by decide⟩, List.forall_mem_cons.mpr ⟨⟨by decide, (RX8, TX8, 7), rfl, rfl, fun w h => lz_tb2 (uwX8 w h) (ugX8 w h), tyX8_ok, lw_at 94 (by decide +kernel) rfl, lw_at 249 (by decide +kernel) rfl, lw_at 74 (by decide +kernel) rfl, by decide⟩, List.forall_mem_cons.mpr ⟨⟨by decide, (RX5, TX5, 8), rfl, rfl, fun w h => lz_tb2 (uwX5 w h) (ugX5 w h), tyX5_ok, lw_at 254 (by decide +kernel) rfl, lw_at 255 (by decide +kernel) rfl, lw_at 75 (by decide +kernel) rfl, by decide⟩, List.forall_mem_cons.mpr ⟨⟨by decide, (RX3, TX3, 5), rfl, rfl, fun w h => lz_tb2 (uwX3 w h) (ugX3 w h), tyX3_ok, lw_at 88 (by decide +kernel) rfl, lw_at 89 (by decide +kernel) rfl, lw_at 67 (by decide +kernel) rfl, by decide⟩, List.forall_mem_cons.mpr ⟨⟨by decide, (RX6, TX6, 2), rfl, rfl, fun w h => lz_tb2 (uwX6 w h) (ugX6 w h), tyX6_ok, lw_at 118 (by decide +kernel) rfl, lw_at 119 (by decide +kernel) rfl, lw_at 68 (by decide +kernel) rfl, by decide⟩, List.forall_mem_cons.mpr ⟨⟨by decide, (RX2, TX2, 2), rfl, rfl, fun w h => lz_tb2 (uwX2 w h) (ugX2 w h), tyX2_ok, lw_at 133 (by decide +kernel) rfl, lw_at 134 (by decide +kernel) rfl, lw_at 69 (by decide +kernel) rfl, by decide⟩, List.forall_mem_cons.mpr ⟨⟨by decide, (RX7, TX7, 2), rfl, rfl, fun w h => lz_tb2 (uwX7 w h) (ugX7 w h), tyX7_ok, lw_at 147 (by decide +kernel) rfl, lw_at 148 (by decide +kernel) rfl, lw_at 70 (by decide +kernel) rfl, by decide⟩, List.forall_mem_cons.mpr ⟨⟨by decide, (RX1, TX1, 4), rfl, rfl, fun w h => lz_tb2 (uwX1 w h) (ugX1 w h), tyX1_ok, lw_at 163 (by decide +kernel) rfl, lw_at 164 (by decide +kernel) rfl, lw_at 71 (by decide +kernel) rfl, by decide⟩, List.forall_mem_cons.mpr ⟨⟨by decide, (RX0, TX0, 8), rfl, rfl, fun w h => lz_tb2 (uwX0 w h) (ugX0 w h), tyX0_ok, lw_at 184 (by decide +kernel) rfl, lw_at 185 (by decide +kernel) rfl, lw_at 72 (by decide +kernel) rfl, by decide⟩, fun _ h => absurd h List.not_mem_nil⟩⟩⟩⟩⟩⟩⟩⟩⟩
def xaC (t : Nat) : String := match t with
  | 3 => "CordBay$Row"
  | 4 => "CordBay$State"
  | _ => "CordBay$Unit"
theorem xa_ok : ∀ q ∈ xaL, Cond.classLink (xcls q.1) q.2.1 (xaC q.2.2) ∈ lw_tb2 ∧ 3 ≤ q.2.2 ∧ q.2.2 < 6 := by
  unfold xaL
  exact List.forall_mem_cons.mpr ⟨⟨lw_at 94 (by decide +kernel) rfl, by decide, by decide⟩, List.forall_mem_cons.mpr ⟨⟨lw_at 260 (by decide +kernel) rfl, by decide, by decide⟩, List.forall_mem_cons.mpr ⟨⟨lw_at 153 (by decide +kernel) rfl, by decide, by decide⟩, List.forall_mem_cons.mpr ⟨⟨lw_at 254 (by decide +kernel) rfl, by decide, by decide⟩, fun _ h => absurd h List.not_mem_nil⟩⟩⟩⟩
theorem xi_ok : ∀ q ∈ xiL, Cond.constant (xcls q.1) q.2.1 (Int32.ofInt q.2.2) ∈ lw_tb2 := by
  unfold xiL
  exact List.forall_mem_cons.mpr ⟨lw_at 509 (by decide +kernel) rfl, List.forall_mem_cons.mpr ⟨lw_at 583 (by decide +kernel) rfl, List.forall_mem_cons.mpr ⟨lw_at 944 (by decide +kernel) rfl, List.forall_mem_cons.mpr ⟨lw_at 731 (by decide +kernel) rfl, List.forall_mem_cons.mpr ⟨lw_at 732 (by decide +kernel) rfl, List.forall_mem_cons.mpr ⟨lw_at 733 (by decide +kernel) rfl, fun _ h => absurd h List.not_mem_nil⟩⟩⟩⟩⟩⟩
theorem xd_ok : ∀ q ∈ xdL, Cond.constantDouble (xcls q.1) q.2.1 q.2.2 ∈ lw_tb2 := by
  unfold xdL
  exact List.forall_mem_cons.mpr ⟨lw_at 530 (by decide +kernel) rfl, List.forall_mem_cons.mpr ⟨lw_at 577 (by decide +kernel) rfl, List.forall_mem_cons.mpr ⟨lw_at 534 (by decide +kernel) rfl, List.forall_mem_cons.mpr ⟨lw_at 535 (by decide +kernel) rfl, List.forall_mem_cons.mpr ⟨lw_at 959 (by decide +kernel) rfl, List.forall_mem_cons.mpr ⟨lw_at 960 (by decide +kernel) rfl, List.forall_mem_cons.mpr ⟨lw_at 955 (by decide +kernel) rfl, List.forall_mem_cons.mpr ⟨lw_at 1013 (by decide +kernel) rfl, fun _ h => absurd h List.not_mem_nil⟩⟩⟩⟩⟩⟩⟩⟩
theorem xj_ok : ∀ q ∈ xjL, Cond.constantLong (xcls q.1) q.2.1 (Int64.ofInt q.2.2) ∈ lw_tb2 := by
  unfold xjL
  exact List.forall_mem_cons.mpr ⟨lw_at 953 (by decide +kernel) rfl, List.forall_mem_cons.mpr ⟨lw_at 954 (by decide +kernel) rfl, fun _ h => absurd h List.not_mem_nil⟩⟩
theorem xo_ok : ∀ q ∈ xoL, Cond.methodLink (xcls q.1) q.2.1 Lib.objectInit ∈ lw_tb2 := by
  unfold xoL
  exact List.forall_mem_cons.mpr ⟨lw_at 189 (by decide +kernel) rfl, List.forall_mem_cons.mpr ⟨lw_at 168 (by decide +kernel) rfl, List.forall_mem_cons.mpr ⟨lw_at 138 (by decide +kernel) rfl, List.forall_mem_cons.mpr ⟨lw_at 93 (by decide +kernel) rfl, List.forall_mem_cons.mpr ⟨lw_at 478 (by decide +kernel) rfl, List.forall_mem_cons.mpr ⟨lw_at 259 (by decide +kernel) rfl, List.forall_mem_cons.mpr ⟨lw_at 123 (by decide +kernel) rfl, List.forall_mem_cons.mpr ⟨lw_at 152 (by decide +kernel) rfl, List.forall_mem_cons.mpr ⟨lw_at 253 (by decide +kernel) rfl, List.forall_mem_cons.mpr ⟨lw_at 85 (by decide +kernel) rfl, List.forall_mem_cons.mpr ⟨lw_at 778 (by decide +kernel) rfl, fun _ h => absurd h List.not_mem_nil⟩⟩⟩⟩⟩⟩⟩⟩⟩⟩⟩
theorem xo_ok2 : Cond.instanceMethod Lib.objectInit ∈ lw_tb2 ∧ Cond.code Lib.objectInit ⟨#[0xb1]⟩ 1 none ∈ lw_tb2 := ⟨lw_at 86 (by decide +kernel) rfl, lw_at 87 (by decide +kernel) rfl⟩
theorem xy_ok : ∀ q ∈ xyL, Cond.methodLink (xcls q.1) q.2.1 arraycopyName ∈ lw_tb2 := by
  unfold xyL
  exact List.forall_mem_cons.mpr ⟨lw_at 671 (by decide +kernel) rfl, fun _ h => absurd h List.not_mem_nil⟩
theorem xy_ok2 : Cond.native arraycopyName ∈ lw_tb2 ∧ Cond.static arraycopyName ∈ lw_tb2 ∧ Cond.initialized "java/lang/System" ∈ lw_tb2 := ⟨lw_at 673 (by decide +kernel) rfl, lw_at 672 (by decide +kernel) rfl, lw_at 78 (by decide +kernel) rfl⟩
theorem xg_ok : ∀ q ∈ xgL, Cond.classLink (xcls q.1) q.2.1 ("[" ++ (FieldType.array .int).toString) ∈ lw_tb2 := by
  unfold xgL
  exact List.forall_mem_cons.mpr ⟨lw_at 139 (by decide +kernel) rfl, List.forall_mem_cons.mpr ⟨lw_at 124 (by decide +kernel) rfl, fun _ h => absurd h List.not_mem_nil⟩⟩
end
section
/-! 12.xmet: the methods that are called (written by wip/whole/xgen.py) -/
/-- the method's own words -/
def xq_ok (q : xq) : Prop := (xqy q).cls = xcls (xqk q) ∧ plainFor (xqy q) = true ∧ Cond.initialized (xqy q).cls ∈ lw_tb2 ∧ Cond.code (xqy q) (xqc q) (xqn q) (xqr q) ∈ lw_tb2 ∧ (xqy q).cls ≠ "java/lang/invoke/MethodHandle" ∧ (xqy q).cls ≠ "java/lang/invoke/VarHandle"
theorem okX0_init : xq_ok qX0_init := ⟨rfl, plainFor_of_name (by decide), lw_at 72 (by decide +kernel) rfl, lw_at 188 (by decide +kernel) rfl, by decide, by decide⟩
theorem okX0_markAt : xq_ok qX0_markAt := ⟨rfl, plainFor_of_name (by decide), lw_at 72 (by decide +kernel) rfl, lw_at 756 (by decide +kernel) rfl, by decide, by decide⟩
theorem okX0_perform : xq_ok qX0_perform := ⟨rfl, plainFor_of_name (by decide), lw_at 72 (by decide +kernel) rfl, lw_at 449 (by decide +kernel) rfl, by decide, by decide⟩
theorem okX0_mark : xq_ok qX0_mark := ⟨rfl, plainFor_of_name (by decide), lw_at 72 (by decide +kernel) rfl, lw_at 458 (by decide +kernel) rfl, by decide, by decide⟩
theorem okX0_closeAll : xq_ok qX0_closeAll := ⟨rfl, plainFor_of_name (by decide), lw_at 72 (by decide +kernel) rfl, lw_at 625 (by decide +kernel) rfl, by decide, by decide⟩
theorem okX0_finish : xq_ok qX0_finish := ⟨rfl, plainFor_of_name (by decide), lw_at 72 (by decide +kernel) rfl, lw_at 629 (by decide +kernel) rfl, by decide, by decide⟩
theorem okX0_newRowOf : xq_ok qX0_newRowOf := ⟨rfl, plainFor_of_name (by decide), lw_at 72 (by decide +kernel) rfl, lw_at 462 (by decide +kernel) rfl, by decide, by decide⟩
theorem okX0_fail : xq_ok qX0_fail := ⟨rfl, plainFor_of_name (by decide), lw_at 72 (by decide +kernel) rfl, lw_at 471 (by decide +kernel) rfl, by decide, by decide⟩
theorem okX0_rowAt : xq_ok qX0_rowAt := ⟨rfl, plainFor_of_name (by decide), lw_at 72 (by decide +kernel) rfl, lw_at 551 (by decide +kernel) rfl, by decide, by decide⟩
theorem okX0_wantedRow : xq_ok qX0_wantedRow := ⟨rfl, plainFor_of_name (by decide), lw_at 72 (by decide +kernel) rfl, lw_at 546 (by decide +kernel) rfl, by decide, by decide⟩
theorem okX0_endsAhead : xq_ok qX0_endsAhead := ⟨rfl, plainFor_of_name (by decide), lw_at 72 (by decide +kernel) rfl, lw_at 559 (by decide +kernel) rfl, by decide, by decide⟩
theorem okX0_playTable : xq_ok qX0_playTable := ⟨rfl, plainFor_of_name (by decide), lw_at 72 (by decide +kernel) rfl, lw_at 466 (by decide +kernel) rfl, by decide, by decide⟩
theorem okX0_putFromTable : xq_ok qX0_putFromTable := ⟨rfl, plainFor_of_name (by decide), lw_at 72 (by decide +kernel) rfl, lw_at 504 (by decide +kernel) rfl, by decide, by decide⟩
theorem okX0_putWhole : xq_ok qX0_putWhole := ⟨rfl, plainFor_of_name (by decide), lw_at 72 (by decide +kernel) rfl, lw_at 521 (by decide +kernel) rfl, by decide, by decide⟩
theorem okX0_shape : xq_ok qX0_shape := ⟨rfl, plainFor_of_name (by decide), lw_at 72 (by decide +kernel) rfl, lw_at 542 (by decide +kernel) rfl, by decide, by decide⟩
theorem okX0_shapedSample : xq_ok qX0_shapedSample := ⟨rfl, plainFor_of_name (by decide), lw_at 72 (by decide +kernel) rfl, lw_at 572 (by decide +kernel) rfl, by decide, by decide⟩
theorem okX0_gainAt : xq_ok qX0_gainAt := ⟨rfl, plainFor_of_name (by decide), lw_at 72 (by decide +kernel) rfl, lw_at 576 (by decide +kernel) rfl, by decide, by decide⟩
theorem okX0_mix : xq_ok qX0_mix := ⟨rfl, plainFor_of_name (by decide), lw_at 72 (by decide +kernel) rfl, lw_at 581 (by decide +kernel) rfl, by decide, by decide⟩
theorem okX0_sumAt : xq_ok qX0_sumAt := ⟨rfl, plainFor_of_name (by decide), lw_at 72 (by decide +kernel) rfl, lw_at 587 (by decide +kernel) rfl, by decide, by decide⟩
theorem okX0_openGate : xq_ok qX0_openGate := ⟨rfl, plainFor_of_name (by decide), lw_at 72 (by decide +kernel) rfl, lw_at 601 (by decide +kernel) rfl, by decide, by decide⟩
theorem okX0_upAfter : xq_ok qX0_upAfter := ⟨rfl, plainFor_of_name (by decide), lw_at 72 (by decide +kernel) rfl, lw_at 605 (by decide +kernel) rfl, by decide, by decide⟩
theorem okX0_turn : xq_ok qX0_turn := ⟨rfl, plainFor_of_name (by decide), lw_at 72 (by decide +kernel) rfl, lw_at 609 (by decide +kernel) rfl, by decide, by decide⟩
theorem okX0_putFloating : xq_ok qX0_putFloating := ⟨rfl, plainFor_of_name (by decide), lw_at 72 (by decide +kernel) rfl, lw_at 613 (by decide +kernel) rfl, by decide, by decide⟩
theorem okX0_passOn : xq_ok qX0_passOn := ⟨rfl, plainFor_of_name (by decide), lw_at 72 (by decide +kernel) rfl, lw_at 617 (by decide +kernel) rfl, by decide, by decide⟩
theorem okX0_average : xq_ok qX0_average := ⟨rfl, plainFor_of_name (by decide), lw_at 72 (by decide +kernel) rfl, lw_at 621 (by decide +kernel) rfl, by decide, by decide⟩
theorem okX1_init : xq_ok qX1_init := ⟨rfl, plainFor_of_name (by decide), lw_at 71 (by decide +kernel) rfl, lw_at 167 (by decide +kernel) rfl, by decide, by decide⟩
theorem okX1_remember : xq_ok qX1_remember := ⟨rfl, plainFor_of_name (by decide), lw_at 71 (by decide +kernel) rfl, lw_at 436 (by decide +kernel) rfl, by decide, by decide⟩
theorem okX1_advance : xq_ok qX1_advance := ⟨rfl, plainFor_of_name (by decide), lw_at 71 (by decide +kernel) rfl, lw_at 637 (by decide +kernel) rfl, by decide, by decide⟩
theorem okX1_undo : xq_ok qX1_undo := ⟨rfl, plainFor_of_name (by decide), lw_at 71 (by decide +kernel) rfl, lw_at 642 (by decide +kernel) rfl, by decide, by decide⟩
theorem okX1_goBack : xq_ok qX1_goBack := ⟨rfl, plainFor_of_name (by decide), lw_at 71 (by decide +kernel) rfl, lw_at 654 (by decide +kernel) rfl, by decide, by decide⟩
theorem okX2_init : xq_ok qX2_init := ⟨rfl, plainFor_of_name (by decide), lw_at 69 (by decide +kernel) rfl, lw_at 137 (by decide +kernel) rfl, by decide, by decide⟩
theorem okX2_has : xq_ok qX2_has := ⟨rfl, plainFor_of_name (by decide), lw_at 69 (by decide +kernel) rfl, lw_at 664 (by decide +kernel) rfl, by decide, by decide⟩
theorem okX2_isUnused : xq_ok qX2_isUnused := ⟨rfl, plainFor_of_name (by decide), lw_at 69 (by decide +kernel) rfl, lw_at 681 (by decide +kernel) rfl, by decide, by decide⟩
theorem okX2_store : xq_ok qX2_store := ⟨rfl, plainFor_of_name (by decide), lw_at 69 (by decide +kernel) rfl, lw_at 668 (by decide +kernel) rfl, by decide, by decide⟩
theorem okX2_restore : xq_ok qX2_restore := ⟨rfl, plainFor_of_name (by decide), lw_at 69 (by decide +kernel) rfl, lw_at 685 (by decide +kernel) rfl, by decide, by decide⟩
theorem okX3_init : xq_ok qX3_init := ⟨rfl, plainFor_of_name (by decide), lw_at 67 (by decide +kernel) rfl, lw_at 92 (by decide +kernel) rfl, by decide, by decide⟩
theorem okX3_isFull : xq_ok qX3_isFull := ⟨rfl, plainFor_of_name (by decide), lw_at 67 (by decide +kernel) rfl, lw_at 244 (by decide +kernel) rfl, by decide, by decide⟩
theorem okX3_at : xq_ok qX3_at := ⟨rfl, plainFor_of_name (by decide), lw_at 67 (by decide +kernel) rfl, lw_at 363 (by decide +kernel) rfl, by decide, by decide⟩
theorem okX3_givenBy : xq_ok qX3_givenBy := ⟨rfl, plainFor_of_name (by decide), lw_at 67 (by decide +kernel) rfl, lw_at 555 (by decide +kernel) rfl, by decide, by decide⟩
theorem okX3_inLine : xq_ok qX3_inLine := ⟨rfl, plainFor_of_name (by decide), lw_at 67 (by decide +kernel) rfl, lw_at 453 (by decide +kernel) rfl, by decide, by decide⟩
theorem okX3_add : xq_ok qX3_add := ⟨rfl, plainFor_of_name (by decide), lw_at 67 (by decide +kernel) rfl, lw_at 248 (by decide +kernel) rfl, by decide, by decide⟩
theorem okX3_join : xq_ok qX3_join := ⟨rfl, plainFor_of_name (by decide), lw_at 67 (by decide +kernel) rfl, lw_at 381 (by decide +kernel) rfl, by decide, by decide⟩
theorem okX3_cordCount : xq_ok qX3_cordCount := ⟨rfl, plainFor_of_name (by decide), lw_at 67 (by decide +kernel) rfl, lw_at 768 (by decide +kernel) rfl, by decide, by decide⟩
theorem okX3_shortestLoop : xq_ok qX3_shortestLoop := ⟨rfl, plainFor_of_name (by decide), lw_at 67 (by decide +kernel) rfl, lw_at 368 (by decide +kernel) rfl, by decide, by decide⟩
theorem okX3_stepOn : xq_ok qX3_stepOn := ⟨rfl, plainFor_of_name (by decide), lw_at 67 (by decide +kernel) rfl, lw_at 373 (by decide +kernel) rfl, by decide, by decide⟩
theorem okX3_isFedAtStep : xq_ok qX3_isFedAtStep := ⟨rfl, plainFor_of_name (by decide), lw_at 67 (by decide +kernel) rfl, lw_at 377 (by decide +kernel) rfl, by decide, by decide⟩
theorem okX3_lineUp : xq_ok qX3_lineUp := ⟨rfl, plainFor_of_name (by decide), lw_at 67 (by decide +kernel) rfl, lw_at 331 (by decide +kernel) rfl, by decide, by decide⟩
theorem okX3_placeNext : xq_ok qX3_placeNext := ⟨rfl, plainFor_of_name (by decide), lw_at 67 (by decide +kernel) rfl, lw_at 335 (by decide +kernel) rfl, by decide, by decide⟩
theorem okX3_leastReady : xq_ok qX3_leastReady := ⟨rfl, plainFor_of_name (by decide), lw_at 67 (by decide +kernel) rfl, lw_at 339 (by decide +kernel) rfl, by decide, by decide⟩
theorem okX3_isReady : xq_ok qX3_isReady := ⟨rfl, plainFor_of_name (by decide), lw_at 67 (by decide +kernel) rfl, lw_at 343 (by decide +kernel) rfl, by decide, by decide⟩
theorem okX4_init : xq_ok qX4_init := ⟨rfl, plainFor_of_name (by decide), lw_at 76 (by decide +kernel) rfl, lw_at 477 (by decide +kernel) rfl, by decide, by decide⟩
theorem okX4_isFloating : xq_ok qX4_isFloating := ⟨rfl, plainFor_of_name (by decide), lw_at 76 (by decide +kernel) rfl, lw_at 508 (by decide +kernel) rfl, by decide, by decide⟩
theorem okX4_has : xq_ok qX4_has := ⟨rfl, plainFor_of_name (by decide), lw_at 76 (by decide +kernel) rfl, lw_at 517 (by decide +kernel) rfl, by decide, by decide⟩
theorem okX4_valueAt : xq_ok qX4_valueAt := ⟨rfl, plainFor_of_name (by decide), lw_at 76 (by decide +kernel) rfl, lw_at 568 (by decide +kernel) rfl, by decide, by decide⟩
theorem okX4_lacksNumberAt : xq_ok qX4_lacksNumberAt := ⟨rfl, plainFor_of_name (by decide), lw_at 76 (by decide +kernel) rfl, lw_at 564 (by decide +kernel) rfl, by decide, by decide⟩
theorem okX4_put : xq_ok qX4_put := ⟨rfl, plainFor_of_name (by decide), lw_at 76 (by decide +kernel) rfl, lw_at 525 (by decide +kernel) rfl, by decide, by decide⟩
theorem okX4_putNoNumber : xq_ok qX4_putNoNumber := ⟨rfl, plainFor_of_name (by decide), lw_at 76 (by decide +kernel) rfl, lw_at 513 (by decide +kernel) rfl, by decide, by decide⟩
theorem okX4_noneCount : xq_ok qX4_noneCount := ⟨rfl, plainFor_of_name (by decide), lw_at 76 (by decide +kernel) rfl, lw_at 727 (by decide +kernel) rfl, by decide, by decide⟩
theorem okX4_isSilent : xq_ok qX4_isSilent := ⟨rfl, plainFor_of_name (by decide), lw_at 76 (by decide +kernel) rfl, lw_at 723 (by decide +kernel) rfl, by decide, by decide⟩
theorem okX4_isSameAs : xq_ok qX4_isSameAs := ⟨rfl, plainFor_of_name (by decide), lw_at 76 (by decide +kernel) rfl, lw_at 711 (by decide +kernel) rfl, by decide, by decide⟩
theorem okX4_haveSameBits : xq_ok qX4_haveSameBits := ⟨rfl, plainFor_of_name (by decide), lw_at 76 (by decide +kernel) rfl, lw_at 715 (by decide +kernel) rfl, by decide, by decide⟩
theorem okX5_init : xq_ok qX5_init := ⟨rfl, plainFor_of_name (by decide), lw_at 75 (by decide +kernel) rfl, lw_at 258 (by decide +kernel) rfl, by decide, by decide⟩
theorem okX5_copyFrom : xq_ok qX5_copyFrom := ⟨rfl, plainFor_of_name (by decide), lw_at 75 (by decide +kernel) rfl, lw_at 445 (by decide +kernel) rfl, by decide, by decide⟩
theorem okX5_feed : xq_ok qX5_feed := ⟨rfl, plainFor_of_name (by decide), lw_at 75 (by decide +kernel) rfl, lw_at 633 (by decide +kernel) rfl, by decide, by decide⟩
theorem okX5_fedAgo : xq_ok qX5_fedAgo := ⟨rfl, plainFor_of_name (by decide), lw_at 75 (by decide +kernel) rfl, lw_at 591 (by decide +kernel) rfl, by decide, by decide⟩
theorem okX5_heldWithin : xq_ok qX5_heldWithin := ⟨rfl, plainFor_of_name (by decide), lw_at 75 (by decide +kernel) rfl, lw_at 529 (by decide +kernel) rfl, by decide, by decide⟩
theorem okX6_init : xq_ok qX6_init := ⟨rfl, plainFor_of_name (by decide), lw_at 68 (by decide +kernel) rfl, lw_at 122 (by decide +kernel) rfl, by decide, by decide⟩
theorem okX6_has : xq_ok qX6_has := ⟨rfl, plainFor_of_name (by decide), lw_at 68 (by decide +kernel) rfl, lw_at 402 (by decide +kernel) rfl, by decide, by decide⟩
theorem okX6_lengthOf : xq_ok qX6_lengthOf := ⟨rfl, plainFor_of_name (by decide), lw_at 68 (by decide +kernel) rfl, lw_at 419 (by decide +kernel) rfl, by decide, by decide⟩
theorem okX6_isMissing : xq_ok qX6_isMissing := ⟨rfl, plainFor_of_name (by decide), lw_at 68 (by decide +kernel) rfl, lw_at 415 (by decide +kernel) rfl, by decide, by decide⟩
theorem okX6_hasPlace : xq_ok qX6_hasPlace := ⟨rfl, plainFor_of_name (by decide), lw_at 68 (by decide +kernel) rfl, lw_at 423 (by decide +kernel) rfl, by decide, by decide⟩
theorem okX6_renew : xq_ok qX6_renew := ⟨rfl, plainFor_of_name (by decide), lw_at 68 (by decide +kernel) rfl, lw_at 406 (by decide +kernel) rfl, by decide, by decide⟩
theorem okX6_put : xq_ok qX6_put := ⟨rfl, plainFor_of_name (by decide), lw_at 68 (by decide +kernel) rfl, lw_at 427 (by decide +kernel) rfl, by decide, by decide⟩
theorem okX6_at : xq_ok qX6_at := ⟨rfl, plainFor_of_name (by decide), lw_at 68 (by decide +kernel) rfl, lw_at 500 (by decide +kernel) rfl, by decide, by decide⟩
theorem okX7_init : xq_ok qX7_init := ⟨rfl, plainFor_of_name (by decide), lw_at 70 (by decide +kernel) rfl, lw_at 151 (by decide +kernel) rfl, by decide, by decide⟩
theorem okX7_isFull : xq_ok qX7_isFull := ⟨rfl, plainFor_of_name (by decide), lw_at 70 (by decide +kernel) rfl, lw_at 695 (by decide +kernel) rfl, by decide, by decide⟩
theorem okX7_add : xq_ok qX7_add := ⟨rfl, plainFor_of_name (by decide), lw_at 70 (by decide +kernel) rfl, lw_at 699 (by decide +kernel) rfl, by decide, by decide⟩
theorem okX7_at : xq_ok qX7_at := ⟨rfl, plainFor_of_name (by decide), lw_at 70 (by decide +kernel) rfl, lw_at 707 (by decide +kernel) rfl, by decide, by decide⟩
theorem okX8_init : xq_ok qX8_init := ⟨rfl, plainFor_of_name (by decide), lw_at 74 (by decide +kernel) rfl, lw_at 252 (by decide +kernel) rfl, by decide, by decide⟩
theorem okX8_hasIn : xq_ok qX8_hasIn := ⟨rfl, plainFor_of_name (by decide), lw_at 74 (by decide +kernel) rfl, lw_at 355 (by decide +kernel) rfl, by decide, by decide⟩
theorem okX8_inCount : xq_ok qX8_inCount := ⟨rfl, plainFor_of_name (by decide), lw_at 74 (by decide +kernel) rfl, lw_at 347 (by decide +kernel) rfl, by decide, by decide⟩
theorem okX8_cordOf : xq_ok qX8_cordOf := ⟨rfl, plainFor_of_name (by decide), lw_at 74 (by decide +kernel) rfl, lw_at 351 (by decide +kernel) rfl, by decide, by decide⟩
theorem okX8_setCord : xq_ok qX8_setCord := ⟨rfl, plainFor_of_name (by decide), lw_at 74 (by decide +kernel) rfl, lw_at 385 (by decide +kernel) rfl, by decide, by decide⟩
theorem okX8_remember : xq_ok qX8_remember := ⟨rfl, plainFor_of_name (by decide), lw_at 74 (by decide +kernel) rfl, lw_at 441 (by decide +kernel) rfl, by decide, by decide⟩
theorem okX8_becomeAsIn : xq_ok qX8_becomeAsIn := ⟨rfl, plainFor_of_name (by decide), lw_at 74 (by decide +kernel) rfl, lw_at 646 (by decide +kernel) rfl, by decide, by decide⟩
theorem okX9_init : xq_ok qX9_init := ⟨rfl, plainFor_of_name (by decide), lw_at 66 (by decide +kernel) rfl, lw_at 84 (by decide +kernel) rfl, by decide, by decide⟩
theorem okX9_module : xq_ok qX9_module := ⟨rfl, plainFor_of_name (by decide), lw_at 66 (by decide +kernel) rfl, lw_at 240 (by decide +kernel) rfl, by decide, by decide⟩
theorem okX9_cord : xq_ok qX9_cord := ⟨rfl, plainFor_of_name (by decide), lw_at 66 (by decide +kernel) rfl, lw_at 359 (by decide +kernel) rfl, by decide, by decide⟩
theorem okX9_from : xq_ok qX9_from := ⟨rfl, plainFor_of_name (by decide), lw_at 66 (by decide +kernel) rfl, lw_at 389 (by decide +kernel) rfl, by decide, by decide⟩
theorem okX9_knob : xq_ok qX9_knob := ⟨rfl, plainFor_of_name (by decide), lw_at 66 (by decide +kernel) rfl, lw_at 394 (by decide +kernel) rfl, by decide, by decide⟩
theorem okX9_table : xq_ok qX9_table := ⟨rfl, plainFor_of_name (by decide), lw_at 66 (by decide +kernel) rfl, lw_at 398 (by decide +kernel) rfl, by decide, by decide⟩
theorem okX9_write : xq_ok qX9_write := ⟨rfl, plainFor_of_name (by decide), lw_at 66 (by decide +kernel) rfl, lw_at 411 (by decide +kernel) rfl, by decide, by decide⟩
theorem okX9_block : xq_ok qX9_block := ⟨rfl, plainFor_of_name (by decide), lw_at 66 (by decide +kernel) rfl, lw_at 432 (by decide +kernel) rfl, by decide, by decide⟩
theorem okX9_back : xq_ok qX9_back := ⟨rfl, plainFor_of_name (by decide), lw_at 66 (by decide +kernel) rfl, lw_at 650 (by decide +kernel) rfl, by decide, by decide⟩
theorem okX9_keep : xq_ok qX9_keep := ⟨rfl, plainFor_of_name (by decide), lw_at 66 (by decide +kernel) rfl, lw_at 660 (by decide +kernel) rfl, by decide, by decide⟩
theorem okX9_recall : xq_ok qX9_recall := ⟨rfl, plainFor_of_name (by decide), lw_at 66 (by decide +kernel) rfl, lw_at 677 (by decide +kernel) rfl, by decide, by decide⟩
theorem okX9_take : xq_ok qX9_take := ⟨rfl, plainFor_of_name (by decide), lw_at 66 (by decide +kernel) rfl, lw_at 690 (by decide +kernel) rfl, by decide, by decide⟩
theorem okX9_equal : xq_ok qX9_equal := ⟨rfl, plainFor_of_name (by decide), lw_at 66 (by decide +kernel) rfl, lw_at 703 (by decide +kernel) rfl, by decide, by decide⟩
theorem okX9_row : xq_ok qX9_row := ⟨rfl, plainFor_of_name (by decide), lw_at 66 (by decide +kernel) rfl, lw_at 719 (by decide +kernel) rfl, by decide, by decide⟩
theorem okX9_sample : xq_ok qX9_sample := ⟨rfl, plainFor_of_name (by decide), lw_at 66 (by decide +kernel) rfl, lw_at 737 (by decide +kernel) rfl, by decide, by decide⟩
theorem okX9_isNone : xq_ok qX9_isNone := ⟨rfl, plainFor_of_name (by decide), lw_at 66 (by decide +kernel) rfl, lw_at 742 (by decide +kernel) rfl, by decide, by decide⟩
theorem okX9_order : xq_ok qX9_order := ⟨rfl, plainFor_of_name (by decide), lw_at 66 (by decide +kernel) rfl, lw_at 747 (by decide +kernel) rfl, by decide, by decide⟩
theorem okX9_trace : xq_ok qX9_trace := ⟨rfl, plainFor_of_name (by decide), lw_at 66 (by decide +kernel) rfl, lw_at 752 (by decide +kernel) rfl, by decide, by decide⟩
theorem okX9_finding : xq_ok qX9_finding := ⟨rfl, plainFor_of_name (by decide), lw_at 66 (by decide +kernel) rfl, lw_at 760 (by decide +kernel) rfl, by decide, by decide⟩
theorem okX9_count : xq_ok qX9_count := ⟨rfl, plainFor_of_name (by decide), lw_at 66 (by decide +kernel) rfl, lw_at 764 (by decide +kernel) rfl, by decide, by decide⟩
theorem okX9_countOfModule : xq_ok qX9_countOfModule := ⟨rfl, plainFor_of_name (by decide), lw_at 66 (by decide +kernel) rfl, lw_at 772 (by decide +kernel) rfl, by decide, by decide⟩
theorem okX9_heldFloating : xq_ok qX9_heldFloating := ⟨rfl, plainFor_of_name (by decide), lw_at 66 (by decide +kernel) rfl, lw_at 533 (by decide +kernel) rfl, by decide, by decide⟩
theorem okX10_init : xq_ok qX10_init := ⟨rfl, plainFor_of_name (by decide), lw_at 73 (by decide +kernel) rfl, lw_at 777 (by decide +kernel) rfl, by decide, by decide⟩
theorem okX10_isIn : xq_ok qX10_isIn := ⟨rfl, plainFor_of_name (by decide), lw_at 73 (by decide +kernel) rfl, lw_at 879 (by decide +kernel) rfl, by decide, by decide⟩
theorem okX10_isModule : xq_ok qX10_isModule := ⟨rfl, plainFor_of_name (by decide), lw_at 73 (by decide +kernel) rfl, lw_at 891 (by decide +kernel) rfl, by decide, by decide⟩
theorem okX10_hasIn : xq_ok qX10_hasIn := ⟨rfl, plainFor_of_name (by decide), lw_at 73 (by decide +kernel) rfl, lw_at 887 (by decide +kernel) rfl, by decide, by decide⟩
theorem okX10_module : xq_ok qX10_module := ⟨rfl, plainFor_of_name (by decide), lw_at 73 (by decide +kernel) rfl, lw_at 876 (by decide +kernel) rfl, by decide, by decide⟩
theorem okX10_leads : xq_ok qX10_leads := ⟨rfl, plainFor_of_name (by decide), lw_at 73 (by decide +kernel) rfl, lw_at 899 (by decide +kernel) rfl, by decide, by decide⟩
theorem okX10_way : xq_ok qX10_way := ⟨rfl, plainFor_of_name (by decide), lw_at 73 (by decide +kernel) rfl, lw_at 895 (by decide +kernel) rfl, by decide, by decide⟩
theorem okX10_cord : xq_ok qX10_cord := ⟨rfl, plainFor_of_name (by decide), lw_at 73 (by decide +kernel) rfl, lw_at 883 (by decide +kernel) rfl, by decide, by decide⟩
theorem okX10_from : xq_ok qX10_from := ⟨rfl, plainFor_of_name (by decide), lw_at 73 (by decide +kernel) rfl, lw_at 903 (by decide +kernel) rfl, by decide, by decide⟩
theorem okX10_knob : xq_ok qX10_knob := ⟨rfl, plainFor_of_name (by decide), lw_at 73 (by decide +kernel) rfl, lw_at 907 (by decide +kernel) rfl, by decide, by decide⟩
theorem okX10_table : xq_ok qX10_table := ⟨rfl, plainFor_of_name (by decide), lw_at 73 (by decide +kernel) rfl, lw_at 911 (by decide +kernel) rfl, by decide, by decide⟩
theorem okX10_write : xq_ok qX10_write := ⟨rfl, plainFor_of_name (by decide), lw_at 73 (by decide +kernel) rfl, lw_at 915 (by decide +kernel) rfl, by decide, by decide⟩
theorem okX10_rowAt : xq_ok qX10_rowAt := ⟨rfl, plainFor_of_name (by decide), lw_at 73 (by decide +kernel) rfl, lw_at 968 (by decide +kernel) rfl, by decide, by decide⟩
theorem okX10_kindOf : xq_ok qX10_kindOf := ⟨rfl, plainFor_of_name (by decide), lw_at 73 (by decide +kernel) rfl, lw_at 976 (by decide +kernel) rfl, by decide, by decide⟩
theorem okX10_copyRow : xq_ok qX10_copyRow := ⟨rfl, plainFor_of_name (by decide), lw_at 73 (by decide +kernel) rfl, lw_at 1000 (by decide +kernel) rfl, by decide, by decide⟩
theorem okX10_noRow : xq_ok qX10_noRow := ⟨rfl, plainFor_of_name (by decide), lw_at 73 (by decide +kernel) rfl, lw_at 992 (by decide +kernel) rfl, by decide, by decide⟩
theorem okX10_copyState : xq_ok qX10_copyState := ⟨rfl, plainFor_of_name (by decide), lw_at 73 (by decide +kernel) rfl, lw_at 923 (by decide +kernel) rfl, by decide, by decide⟩
theorem okX10_fails : xq_ok qX10_fails := ⟨rfl, plainFor_of_name (by decide), lw_at 73 (by decide +kernel) rfl, lw_at 943 (by decide +kernel) rfl, by decide, by decide⟩
theorem okX10_hasRow : xq_ok qX10_hasRow := ⟨rfl, plainFor_of_name (by decide), lw_at 73 (by decide +kernel) rfl, lw_at 1008 (by decide +kernel) rfl, by decide, by decide⟩
theorem okX10_hasSample : xq_ok qX10_hasSample := ⟨rfl, plainFor_of_name (by decide), lw_at 73 (by decide +kernel) rfl, lw_at 984 (by decide +kernel) rfl, by decide, by decide⟩
theorem okX10_sampleOf : xq_ok qX10_sampleOf := ⟨rfl, plainFor_of_name (by decide), lw_at 73 (by decide +kernel) rfl, lw_at 988 (by decide +kernel) rfl, by decide, by decide⟩
theorem okX10_isNoneOf : xq_ok qX10_isNoneOf := ⟨rfl, plainFor_of_name (by decide), lw_at 73 (by decide +kernel) rfl, lw_at 1012 (by decide +kernel) rfl, by decide, by decide⟩
theorem okX10_held : xq_ok qX10_held := ⟨rfl, plainFor_of_name (by decide), lw_at 73 (by decide +kernel) rfl, lw_at 958 (by decide +kernel) rfl, by decide, by decide⟩
theorem okX10_heldTo : xq_ok qX10_heldTo := ⟨rfl, plainFor_of_name (by decide), lw_at 73 (by decide +kernel) rfl, lw_at 952 (by decide +kernel) rfl, by decide, by decide⟩
theorem okX10_wholeInto : xq_ok qX10_wholeInto := ⟨rfl, plainFor_of_name (by decide), lw_at 73 (by decide +kernel) rfl, lw_at 948 (by decide +kernel) rfl, by decide, by decide⟩
theorem okX10_floatingInto : xq_ok qX10_floatingInto := ⟨rfl, plainFor_of_name (by decide), lw_at 73 (by decide +kernel) rfl, lw_at 1021 (by decide +kernel) rfl, by decide, by decide⟩
theorem okX10_source : xq_ok qX10_source := ⟨rfl, plainFor_of_name (by decide), lw_at 73 (by decide +kernel) rfl, lw_at 939 (by decide +kernel) rfl, by decide, by decide⟩
theorem okX10_shaped : xq_ok qX10_shaped := ⟨rfl, plainFor_of_name (by decide), lw_at 73 (by decide +kernel) rfl, lw_at 1037 (by decide +kernel) rfl, by decide, by decide⟩
theorem okX10_filtered : xq_ok qX10_filtered := ⟨rfl, plainFor_of_name (by decide), lw_at 73 (by decide +kernel) rfl, lw_at 1041 (by decide +kernel) rfl, by decide, by decide⟩
theorem okX10_late : xq_ok qX10_late := ⟨rfl, plainFor_of_name (by decide), lw_at 73 (by decide +kernel) rfl, lw_at 1045 (by decide +kernel) rfl, by decide, by decide⟩
theorem okX10_shape : xq_ok qX10_shape := ⟨rfl, plainFor_of_name (by decide), lw_at 73 (by decide +kernel) rfl, lw_at 1033 (by decide +kernel) rfl, by decide, by decide⟩
theorem okX10_counts : xq_ok qX10_counts := ⟨rfl, plainFor_of_name (by decide), lw_at 73 (by decide +kernel) rfl, lw_at 972 (by decide +kernel) rfl, by decide, by decide⟩
theorem okX10_mix : xq_ok qX10_mix := ⟨rfl, plainFor_of_name (by decide), lw_at 73 (by decide +kernel) rfl, lw_at 980 (by decide +kernel) rfl, by decide, by decide⟩
theorem okX10_gate : xq_ok qX10_gate := ⟨rfl, plainFor_of_name (by decide), lw_at 73 (by decide +kernel) rfl, lw_at 1004 (by decide +kernel) rfl, by decide, by decide⟩
theorem okX10_turn : xq_ok qX10_turn := ⟨rfl, plainFor_of_name (by decide), lw_at 73 (by decide +kernel) rfl, lw_at 1017 (by decide +kernel) rfl, by decide, by decide⟩
theorem okX10_mean : xq_ok qX10_mean := ⟨rfl, plainFor_of_name (by decide), lw_at 73 (by decide +kernel) rfl, lw_at 1029 (by decide +kernel) rfl, by decide, by decide⟩
theorem okX10_give : xq_ok qX10_give := ⟨rfl, plainFor_of_name (by decide), lw_at 73 (by decide +kernel) rfl, lw_at 964 (by decide +kernel) rfl, by decide, by decide⟩
theorem okX10_doesSwitch : xq_ok qX10_doesSwitch := ⟨rfl, plainFor_of_name (by decide), lw_at 73 (by decide +kernel) rfl, lw_at 1025 (by decide +kernel) rfl, by decide, by decide⟩
theorem okX10_delay : xq_ok qX10_delay := ⟨rfl, plainFor_of_name (by decide), lw_at 73 (by decide +kernel) rfl, lw_at 996 (by decide +kernel) rfl, by decide, by decide⟩
theorem okX10_acts : xq_ok qX10_acts := ⟨rfl, plainFor_of_name (by decide), lw_at 73 (by decide +kernel) rfl, lw_at 935 (by decide +kernel) rfl, by decide, by decide⟩
theorem okX10_feed : xq_ok qX10_feed := ⟨rfl, plainFor_of_name (by decide), lw_at 73 (by decide +kernel) rfl, lw_at 1049 (by decide +kernel) rfl, by decide, by decide⟩
theorem okX10_hasActed : xq_ok qX10_hasActed := ⟨rfl, plainFor_of_name (by decide), lw_at 73 (by decide +kernel) rfl, lw_at 931 (by decide +kernel) rfl, by decide, by decide⟩
theorem okX10_setOrder : xq_ok qX10_setOrder := ⟨rfl, plainFor_of_name (by decide), lw_at 73 (by decide +kernel) rfl, lw_at 927 (by decide +kernel) rfl, by decide, by decide⟩
theorem okX10_block : xq_ok qX10_block := ⟨rfl, plainFor_of_name (by decide), lw_at 73 (by decide +kernel) rfl, lw_at 919 (by decide +kernel) rfl, by decide, by decide⟩
theorem okX10_back : xq_ok qX10_back := ⟨rfl, plainFor_of_name (by decide), lw_at 73 (by decide +kernel) rfl, lw_at 1053 (by decide +kernel) rfl, by decide, by decide⟩
theorem okX10_keep : xq_ok qX10_keep := ⟨rfl, plainFor_of_name (by decide), lw_at 73 (by decide +kernel) rfl, lw_at 1057 (by decide +kernel) rfl, by decide, by decide⟩
theorem okX10_recall : xq_ok qX10_recall := ⟨rfl, plainFor_of_name (by decide), lw_at 73 (by decide +kernel) rfl, lw_at 1061 (by decide +kernel) rfl, by decide, by decide⟩
theorem okX10_take : xq_ok qX10_take := ⟨rfl, plainFor_of_name (by decide), lw_at 73 (by decide +kernel) rfl, lw_at 1065 (by decide +kernel) rfl, by decide, by decide⟩
theorem okX10_takeOf : xq_ok qX10_takeOf := ⟨rfl, plainFor_of_name (by decide), lw_at 73 (by decide +kernel) rfl, lw_at 1073 (by decide +kernel) rfl, by decide, by decide⟩
theorem okX10_hasMinus : xq_ok qX10_hasMinus := ⟨rfl, plainFor_of_name (by decide), lw_at 73 (by decide +kernel) rfl, lw_at 1076 (by decide +kernel) rfl, by decide, by decide⟩
theorem okX10_equal : xq_ok qX10_equal := ⟨rfl, plainFor_of_name (by decide), lw_at 73 (by decide +kernel) rfl, lw_at 1069 (by decide +kernel) rfl, by decide, by decide⟩
theorem okX10_row : xq_ok qX10_row := ⟨rfl, plainFor_of_name (by decide), lw_at 73 (by decide +kernel) rfl, lw_at 1080 (by decide +kernel) rfl, by decide, by decide⟩
theorem okX10_hasGiven : xq_ok qX10_hasGiven := ⟨rfl, plainFor_of_name (by decide), lw_at 73 (by decide +kernel) rfl, lw_at 1088 (by decide +kernel) rfl, by decide, by decide⟩
theorem okX10_sample : xq_ok qX10_sample := ⟨rfl, plainFor_of_name (by decide), lw_at 73 (by decide +kernel) rfl, lw_at 1092 (by decide +kernel) rfl, by decide, by decide⟩
theorem okX10_isNone : xq_ok qX10_isNone := ⟨rfl, plainFor_of_name (by decide), lw_at 73 (by decide +kernel) rfl, lw_at 1084 (by decide +kernel) rfl, by decide, by decide⟩
theorem okX10_order : xq_ok qX10_order := ⟨rfl, plainFor_of_name (by decide), lw_at 73 (by decide +kernel) rfl, lw_at 1097 (by decide +kernel) rfl, by decide, by decide⟩
theorem okX10_trace : xq_ok qX10_trace := ⟨rfl, plainFor_of_name (by decide), lw_at 73 (by decide +kernel) rfl, lw_at 1101 (by decide +kernel) rfl, by decide, by decide⟩
theorem okX10_finding : xq_ok qX10_finding := ⟨rfl, plainFor_of_name (by decide), lw_at 73 (by decide +kernel) rfl, lw_at 1105 (by decide +kernel) rfl, by decide, by decide⟩
theorem okX10_count : xq_ok qX10_count := ⟨rfl, plainFor_of_name (by decide), lw_at 73 (by decide +kernel) rfl, lw_at 1109 (by decide +kernel) rfl, by decide, by decide⟩
theorem okJ6_bitCount_0f7a4 : xq_ok qJ6_bitCount_0f7a4 := ⟨rfl, plainFor_of_name (by decide), lw_at 79 (by decide +kernel) rfl, lw_at 730 (by decide +kernel) rfl, by decide, by decide⟩
theorem okJ9_floorMod_7cf53 : xq_ok qJ9_floorMod_7cf53 := ⟨rfl, by decide +kernel, lw_at 77 (by decide +kernel) rfl, lw_at 538 (by decide +kernel) rfl, by decide, by decide⟩
theorem okJ9_max_7cf53 : xq_ok qJ9_max_7cf53 := ⟨rfl, by decide +kernel, lw_at 77 (by decide +kernel) rfl, lw_at 597 (by decide +kernel) rfl, by decide, by decide⟩
theorem okJ9_min_7cf53 : xq_ok qJ9_min_7cf53 := ⟨rfl, by decide +kernel, lw_at 77 (by decide +kernel) rfl, lw_at 594 (by decide +kernel) rfl, by decide, by decide⟩
/-- kind 0 static, 1 virtual, 2 constructor, 3 and 4: static, constructor of a nest mate; how many arguments; the method -/
def xmL : List (Nat × Nat × Nat × Nat × xq) := [(0, 38, 1, 1, qX3_inLine), (0, 42, 1, 1, qX3_at), (0, 51, 1, 1, qX0_mark), (0, 62, 1, 1, qX0_newRowOf), (0, 72, 1, 0, qX0_closeAll), (0, 75, 1, 0, qX0_finish), (0, 87, 1, 2, qX0_rowAt), (0, 91, 1, 1, qX5_feed), (0, 95, 1, 1, qX0_playTable), (0, 98, 1, 1, qX0_shape), (0, 101, 1, 1, qX0_mix), (0, 104, 1, 1, qX5_fedAgo), (0, 108, 1, 1, qX0_openGate), (0, 111, 1, 1, qX0_turn), (0, 114, 1, 1, qX0_passOn), (0, 117, 1, 1, qX0_average), (0, 123, 1, 1, qX8_cordOf), (0, 126, 1, 1, qX3_givenBy), (0, 129, 1, 2, qX0_fail), (0, 136, 1, 1, qX4_has), (0, 140, 1, 1, qX6_isMissing), (0, 145, 1, 1, qX6_lengthOf), (0, 151, 2, 2, qX4_init), (0, 157, 1, 2, qX6_hasPlace), (0, 161, 1, 2, qX6_at), (0, 164, 1, 4, qX0_putFromTable), (0, 168, 0, 2, qJ9_floorMod_7cf53), (0, 173, 1, 0, qX4_isFloating), (0, 178, 1, 1, qX4_putNoNumber), (0, 181, 1, 4, qX0_putWhole), (0, 184, 1, 2, qX4_put), (0, 188, 1, 3, qX5_heldWithin), (0, 194, 3, 1, qX9_heldFloating), (0, 198, 1, 3, qX0_wantedRow), (0, 202, 1, 2, qX0_endsAhead), (0, 206, 1, 1, qX4_lacksNumberAt), (0, 209, 1, 1, qX4_valueAt), (0, 213, 1, 3, qX0_shapedSample), (0, 217, 1, 2, qX0_gainAt), (0, 230, 1, 0, qX8_inCount), (0, 235, 1, 2, qX0_sumAt), (0, 239, 1, 2, qX0_upAfter), (0, 246, 1, 4, qX0_putFloating), (1, 21, 1, 1, qX3_at), (1, 28, 1, 1, qX8_remember), (1, 37, 0, 2, qJ9_min_7cf53), (1, 46, 1, 1, qX8_becomeAsIn), (1, 49, 0, 2, qJ9_floorMod_7cf53), (1, 52, 1, 0, qX1_undo), (2, 20, 1, 1, qX2_has), (2, 30, 1, 1, qX3_at), (2, 44, 1, 1, qX2_isUnused), (3, 42, 2, 3, qX8_init), (3, 45, 1, 0, qX3_lineUp), (3, 48, 1, 2, qX8_setCord), (3, 52, 1, 0, qX8_inCount), (3, 56, 1, 1, qX8_cordOf), (3, 60, 1, 1, qX3_at), (3, 67, 1, 1, qX3_stepOn), (3, 71, 1, 2, qX3_isFedAtStep), (3, 75, 1, 1, qX3_placeNext), (3, 78, 1, 0, qX3_leastReady), (3, 81, 1, 1, qX3_isReady), (4, 22, 1, 1, qX4_has), (4, 29, 0, 1, qJ6_bitCount_0f7a4), (4, 35, 1, 1, qX4_valueAt), (4, 39, 0, 2, qX4_haveSameBits), (5, 41, 0, 2, qJ9_min_7cf53), (5, 47, 0, 2, qJ9_max_7cf53), (6, 20, 1, 1, qX6_has), (6, 24, 1, 1, qX6_lengthOf), (6, 28, 1, 2, qX6_hasPlace), (8, 17, 4, 0, qX5_init), (8, 39, 1, 1, qX8_hasIn), (8, 43, 1, 1, qX5_copyFrom), (9, 11, 4, 0, qX3_init), (9, 18, 2, 0, qX6_init), (9, 25, 2, 0, qX2_init), (9, 32, 4, 0, qX7_init), (9, 39, 2, 1, qX1_init), (9, 48, 2, 2, qX0_init), (9, 55, 1, 0, qX3_isFull), (9, 59, 1, 2, qX3_add), (9, 63, 1, 1, qX3_at), (9, 67, 1, 1, qX8_hasIn), (9, 73, 1, 2, qX3_shortestLoop), (9, 76, 1, 3, qX3_join), (9, 80, 1, 1, qX8_cordOf), (9, 88, 1, 1, qX6_has), (9, 91, 1, 2, qX6_renew), (9, 95, 1, 1, qX6_isMissing), (9, 98, 1, 2, qX6_hasPlace), (9, 102, 1, 3, qX6_put), (9, 106, 1, 0, qX1_remember), (9, 109, 1, 1, qX0_perform), (9, 112, 1, 0, qX1_advance), (9, 115, 1, 0, qX1_undo), (9, 122, 1, 1, qX1_goBack), (9, 126, 1, 1, qX2_has), (9, 127, 1, 2, qX2_store), (9, 131, 1, 1, qX2_isUnused), (9, 134, 1, 2, qX2_restore), (9, 137, 1, 1, qX3_givenBy), (9, 141, 1, 0, qX7_isFull), (9, 142, 1, 1, qX7_add), (9, 145, 1, 1, qX7_at), (9, 147, 1, 1, qX4_isSameAs), (9, 159, 1, 0, qX4_isSilent), (9, 162, 1, 0, qX4_noneCount), (9, 166, 1, 1, qX4_valueAt), (9, 170, 1, 1, qX4_lacksNumberAt), (9, 173, 1, 1, qX3_inLine), (9, 176, 1, 1, qX0_markAt), (9, 191, 1, 0, qX3_cordCount), (9, 198, 1, 1, qX9_countOfModule), (10, 72, 0, 3, qX10_isIn), (10, 76, 1, 1, qX10_isModule), (10, 80, 1, 2, qX10_leads), (10, 84, 1, 2, qX10_hasIn), (10, 87, 1, 2, qX10_way), (10, 91, 1, 2, qX10_rowAt), (10, 103, 1, 3, qX10_fails), (10, 106, 1, 1, qX10_kindOf), (10, 118, 1, 3, qX10_heldTo), (10, 124, 0, 1, qX10_held), (10, 135, 1, 3, qX10_wholeInto), (10, 140, 1, 3, qX10_hasRow), (10, 143, 1, 3, qX10_hasSample), (10, 146, 1, 3, qX10_isNoneOf), (10, 149, 1, 3, qX10_sampleOf), (10, 153, 1, 3, qX10_shaped), (10, 157, 1, 2, qX10_filtered), (10, 161, 1, 2, qX10_late), (10, 164, 1, 2, qX10_counts), (10, 167, 1, 3, qX10_floatingInto), (10, 171, 1, 4, qX10_copyRow), (10, 175, 1, 2, qX10_noRow), (10, 179, 1, 1, qX10_source), (10, 182, 1, 2, qX10_give), (10, 185, 1, 1, qX10_mix), (10, 188, 1, 1, qX10_delay), (10, 192, 1, 1, qX10_gate), (10, 195, 1, 1, qX10_turn), (10, 198, 1, 1, qX10_doesSwitch), (10, 201, 1, 1, qX10_mean), (10, 204, 1, 1, qX10_shape), (10, 207, 1, 2, qX10_hasActed), (10, 213, 1, 2, qX10_copyState), (10, 216, 1, 0, qX10_setOrder), (10, 219, 1, 1, qX10_acts), (10, 222, 1, 0, qX10_feed), (10, 240, 1, 1, qX10_takeOf), (10, 243, 0, 1, qX10_hasMinus), (10, 247, 1, 2, qX10_isNone), (10, 250, 1, 2, qX10_hasGiven)]
def xmP (q : Nat × Nat × Nat × Nat × xq) : Prop := xq_ok q.2.2.2.2 ∧ (parseMethodDescriptor (xqy q.2.2.2.2).desc).map (fun d => d.parameters.length) = some q.2.2.2.1 ∧
  (q.2.2.1 = 0 → Cond.methodLink (xcls q.1) q.2.1 (xqy q.2.2.2.2) ∈ lw_tb2 ∧ Cond.static (xqy q.2.2.2.2) ∈ lw_tb2) ∧
  (q.2.2.1 = 1 → Cond.methodLink (xcls q.1) q.2.1 (xqy q.2.2.2.2) ∈ lw_tb2 ∧ Cond.instanceMethod (xqy q.2.2.2.2) ∈ lw_tb2 ∧ Cond.selects (xqy q.2.2.2.2).cls (xqy q.2.2.2.2) (xqy q.2.2.2.2) ∈ lw_tb2 ∧ xqk q.2.2.2.2 < 11 ∧ ∃ r : vw_C, vwCl[xqk q.2.2.2.2]? = some r ∧ (xqy q.2.2.2.2).cls = r.1) ∧
  (q.2.2.1 = 2 → Cond.methodLink (xcls q.1) q.2.1 (xqy q.2.2.2.2) ∈ lw_tb2 ∧ Cond.instanceMethod (xqy q.2.2.2.2) ∈ lw_tb2 ∧ (xqy q.2.2.2.2).name = "<init>" ∧ xqr q.2.2.2.2 = none) ∧
  (q.2.2.1 = 3 → (xcls q.1, q.2.1, xqy q.2.2.2.2, "CordBay") ∈ lz_nests ∧ Cond.static (xqy q.2.2.2.2) ∈ lw_tb2) ∧
  (q.2.2.1 = 4 → (xcls q.1, q.2.1, xqy q.2.2.2.2, "CordBay") ∈ lz_nests ∧ Cond.instanceMethod (xqy q.2.2.2.2) ∈ lw_tb2 ∧ (xqy q.2.2.2.2).name = "<init>" ∧ xqr q.2.2.2.2 = none)
theorem xm_0_38 : xmP (0, 38, 1, 1, qX3_inLine) := ⟨okX3_inLine, by decide +kernel, (fun h => by cases h), (fun _ => ⟨lw_at 450 (by decide +kernel) rfl, lw_at 451 (by decide +kernel) rfl, lw_at 452 (by decide +kernel) rfl, by decide, _, rfl, rfl⟩), (fun h => by cases h), (fun h => by cases h), (fun h => by cases h)⟩
theorem xm_0_42 : xmP (0, 42, 1, 1, qX3_at) := ⟨okX3_at, by decide +kernel, (fun h => by cases h), (fun _ => ⟨lw_at 454 (by decide +kernel) rfl, lw_at 361 (by decide +kernel) rfl, lw_at 362 (by decide +kernel) rfl, by decide, _, rfl, rfl⟩), (fun h => by cases h), (fun h => by cases h), (fun h => by cases h)⟩
theorem xm_0_51 : xmP (0, 51, 1, 1, qX0_mark) := ⟨okX0_mark, by decide +kernel, (fun h => by cases h), (fun _ => ⟨lw_at 455 (by decide +kernel) rfl, lw_at 457 (by decide +kernel) rfl, lw_at 6 (by decide +kernel) rfl, by decide, _, rfl, rfl⟩), (fun h => by cases h), (fun h => by cases h), (fun h => by cases h)⟩
theorem xm_0_62 : xmP (0, 62, 1, 1, qX0_newRowOf) := ⟨okX0_newRowOf, by decide +kernel, (fun h => by cases h), (fun _ => ⟨lw_at 459 (by decide +kernel) rfl, lw_at 461 (by decide +kernel) rfl, lw_at 7 (by decide +kernel) rfl, by decide, _, rfl, rfl⟩), (fun h => by cases h), (fun h => by cases h), (fun h => by cases h)⟩
theorem xm_0_72 : xmP (0, 72, 1, 0, qX0_closeAll) := ⟨okX0_closeAll, by decide +kernel, (fun h => by cases h), (fun _ => ⟨lw_at 622 (by decide +kernel) rfl, lw_at 624 (by decide +kernel) rfl, lw_at 26 (by decide +kernel) rfl, by decide, _, rfl, rfl⟩), (fun h => by cases h), (fun h => by cases h), (fun h => by cases h)⟩
theorem xm_0_75 : xmP (0, 75, 1, 0, qX0_finish) := ⟨okX0_finish, by decide +kernel, (fun h => by cases h), (fun _ => ⟨lw_at 626 (by decide +kernel) rfl, lw_at 628 (by decide +kernel) rfl, lw_at 27 (by decide +kernel) rfl, by decide, _, rfl, rfl⟩), (fun h => by cases h), (fun h => by cases h), (fun h => by cases h)⟩
theorem xm_0_87 : xmP (0, 87, 1, 2, qX0_rowAt) := ⟨okX0_rowAt, by decide +kernel, (fun h => by cases h), (fun _ => ⟨lw_at 548 (by decide +kernel) rfl, lw_at 550 (by decide +kernel) rfl, lw_at 14 (by decide +kernel) rfl, by decide, _, rfl, rfl⟩), (fun h => by cases h), (fun h => by cases h), (fun h => by cases h)⟩
theorem xm_0_91 : xmP (0, 91, 1, 1, qX5_feed) := ⟨okX5_feed, by decide +kernel, (fun h => by cases h), (fun _ => ⟨lw_at 630 (by decide +kernel) rfl, lw_at 631 (by decide +kernel) rfl, lw_at 632 (by decide +kernel) rfl, by decide, _, rfl, rfl⟩), (fun h => by cases h), (fun h => by cases h), (fun h => by cases h)⟩
theorem xm_0_95 : xmP (0, 95, 1, 1, qX0_playTable) := ⟨okX0_playTable, by decide +kernel, (fun h => by cases h), (fun _ => ⟨lw_at 463 (by decide +kernel) rfl, lw_at 465 (by decide +kernel) rfl, lw_at 8 (by decide +kernel) rfl, by decide, _, rfl, rfl⟩), (fun h => by cases h), (fun h => by cases h), (fun h => by cases h)⟩
theorem xm_0_98 : xmP (0, 98, 1, 1, qX0_shape) := ⟨okX0_shape, by decide +kernel, (fun h => by cases h), (fun _ => ⟨lw_at 539 (by decide +kernel) rfl, lw_at 541 (by decide +kernel) rfl, lw_at 12 (by decide +kernel) rfl, by decide, _, rfl, rfl⟩), (fun h => by cases h), (fun h => by cases h), (fun h => by cases h)⟩
theorem xm_0_101 : xmP (0, 101, 1, 1, qX0_mix) := ⟨okX0_mix, by decide +kernel, (fun h => by cases h), (fun _ => ⟨lw_at 578 (by decide +kernel) rfl, lw_at 580 (by decide +kernel) rfl, lw_at 18 (by decide +kernel) rfl, by decide, _, rfl, rfl⟩), (fun h => by cases h), (fun h => by cases h), (fun h => by cases h)⟩
theorem xm_0_104 : xmP (0, 104, 1, 1, qX5_fedAgo) := ⟨okX5_fedAgo, by decide +kernel, (fun h => by cases h), (fun _ => ⟨lw_at 588 (by decide +kernel) rfl, lw_at 589 (by decide +kernel) rfl, lw_at 590 (by decide +kernel) rfl, by decide, _, rfl, rfl⟩), (fun h => by cases h), (fun h => by cases h), (fun h => by cases h)⟩
theorem xm_0_108 : xmP (0, 108, 1, 1, qX0_openGate) := ⟨okX0_openGate, by decide +kernel, (fun h => by cases h), (fun _ => ⟨lw_at 598 (by decide +kernel) rfl, lw_at 600 (by decide +kernel) rfl, lw_at 20 (by decide +kernel) rfl, by decide, _, rfl, rfl⟩), (fun h => by cases h), (fun h => by cases h), (fun h => by cases h)⟩
theorem xm_0_111 : xmP (0, 111, 1, 1, qX0_turn) := ⟨okX0_turn, by decide +kernel, (fun h => by cases h), (fun _ => ⟨lw_at 606 (by decide +kernel) rfl, lw_at 608 (by decide +kernel) rfl, lw_at 22 (by decide +kernel) rfl, by decide, _, rfl, rfl⟩), (fun h => by cases h), (fun h => by cases h), (fun h => by cases h)⟩
theorem xm_0_114 : xmP (0, 114, 1, 1, qX0_passOn) := ⟨okX0_passOn, by decide +kernel, (fun h => by cases h), (fun _ => ⟨lw_at 614 (by decide +kernel) rfl, lw_at 616 (by decide +kernel) rfl, lw_at 24 (by decide +kernel) rfl, by decide, _, rfl, rfl⟩), (fun h => by cases h), (fun h => by cases h), (fun h => by cases h)⟩
theorem xm_0_117 : xmP (0, 117, 1, 1, qX0_average) := ⟨okX0_average, by decide +kernel, (fun h => by cases h), (fun _ => ⟨lw_at 618 (by decide +kernel) rfl, lw_at 620 (by decide +kernel) rfl, lw_at 25 (by decide +kernel) rfl, by decide, _, rfl, rfl⟩), (fun h => by cases h), (fun h => by cases h), (fun h => by cases h)⟩
theorem xm_0_123 : xmP (0, 123, 1, 1, qX8_cordOf) := ⟨okX8_cordOf, by decide +kernel, (fun h => by cases h), (fun _ => ⟨lw_at 547 (by decide +kernel) rfl, lw_at 349 (by decide +kernel) rfl, lw_at 350 (by decide +kernel) rfl, by decide, _, rfl, rfl⟩), (fun h => by cases h), (fun h => by cases h), (fun h => by cases h)⟩
theorem xm_0_126 : xmP (0, 126, 1, 1, qX3_givenBy) := ⟨okX3_givenBy, by decide +kernel, (fun h => by cases h), (fun _ => ⟨lw_at 552 (by decide +kernel) rfl, lw_at 553 (by decide +kernel) rfl, lw_at 554 (by decide +kernel) rfl, by decide, _, rfl, rfl⟩), (fun h => by cases h), (fun h => by cases h), (fun h => by cases h)⟩
theorem xm_0_129 : xmP (0, 129, 1, 2, qX0_fail) := ⟨okX0_fail, by decide +kernel, (fun h => by cases h), (fun _ => ⟨lw_at 468 (by decide +kernel) rfl, lw_at 470 (by decide +kernel) rfl, lw_at 9 (by decide +kernel) rfl, by decide, _, rfl, rfl⟩), (fun h => by cases h), (fun h => by cases h), (fun h => by cases h)⟩
theorem xm_0_136 : xmP (0, 136, 1, 1, qX4_has) := ⟨okX4_has, by decide +kernel, (fun h => by cases h), (fun _ => ⟨lw_at 560 (by decide +kernel) rfl, lw_at 515 (by decide +kernel) rfl, lw_at 516 (by decide +kernel) rfl, by decide, _, rfl, rfl⟩), (fun h => by cases h), (fun h => by cases h), (fun h => by cases h)⟩
theorem xm_0_140 : xmP (0, 140, 1, 1, qX6_isMissing) := ⟨okX6_isMissing, by decide +kernel, (fun h => by cases h), (fun _ => ⟨lw_at 467 (by decide +kernel) rfl, lw_at 413 (by decide +kernel) rfl, lw_at 414 (by decide +kernel) rfl, by decide, _, rfl, rfl⟩), (fun h => by cases h), (fun h => by cases h), (fun h => by cases h)⟩
theorem xm_0_145 : xmP (0, 145, 1, 1, qX6_lengthOf) := ⟨okX6_lengthOf, by decide +kernel, (fun h => by cases h), (fun _ => ⟨lw_at 472 (by decide +kernel) rfl, lw_at 417 (by decide +kernel) rfl, lw_at 418 (by decide +kernel) rfl, by decide, _, rfl, rfl⟩), (fun h => by cases h), (fun h => by cases h), (fun h => by cases h)⟩
theorem xm_0_151 : xmP (0, 151, 2, 2, qX4_init) := ⟨okX4_init, by decide +kernel, (fun h => by cases h), (fun h => by cases h), (fun _ => ⟨lw_at 475 (by decide +kernel) rfl, lw_at 476 (by decide +kernel) rfl, rfl, rfl⟩), (fun h => by cases h), (fun h => by cases h)⟩
theorem xm_0_157 : xmP (0, 157, 1, 2, qX6_hasPlace) := ⟨okX6_hasPlace, by decide +kernel, (fun h => by cases h), (fun _ => ⟨lw_at 496 (by decide +kernel) rfl, lw_at 421 (by decide +kernel) rfl, lw_at 422 (by decide +kernel) rfl, by decide, _, rfl, rfl⟩), (fun h => by cases h), (fun h => by cases h), (fun h => by cases h)⟩
theorem xm_0_161 : xmP (0, 161, 1, 2, qX6_at) := ⟨okX6_at, by decide +kernel, (fun h => by cases h), (fun _ => ⟨lw_at 497 (by decide +kernel) rfl, lw_at 498 (by decide +kernel) rfl, lw_at 499 (by decide +kernel) rfl, by decide, _, rfl, rfl⟩), (fun h => by cases h), (fun h => by cases h), (fun h => by cases h)⟩
theorem xm_0_164 : xmP (0, 164, 1, 4, qX0_putFromTable) := ⟨okX0_putFromTable, by decide +kernel, (fun h => by cases h), (fun _ => ⟨lw_at 501 (by decide +kernel) rfl, lw_at 503 (by decide +kernel) rfl, lw_at 10 (by decide +kernel) rfl, by decide, _, rfl, rfl⟩), (fun h => by cases h), (fun h => by cases h), (fun h => by cases h)⟩
theorem xm_0_168 : xmP (0, 168, 0, 2, qJ9_floorMod_7cf53) := ⟨okJ9_floorMod_7cf53, by decide +kernel, (fun _ => ⟨lw_at 536 (by decide +kernel) rfl, lw_at 537 (by decide +kernel) rfl⟩), (fun h => by cases h), (fun h => by cases h), (fun h => by cases h), (fun h => by cases h)⟩
theorem xm_0_173 : xmP (0, 173, 1, 0, qX4_isFloating) := ⟨okX4_isFloating, by decide +kernel, (fun h => by cases h), (fun _ => ⟨lw_at 505 (by decide +kernel) rfl, lw_at 506 (by decide +kernel) rfl, lw_at 507 (by decide +kernel) rfl, by decide, _, rfl, rfl⟩), (fun h => by cases h), (fun h => by cases h), (fun h => by cases h)⟩
theorem xm_0_178 : xmP (0, 178, 1, 1, qX4_putNoNumber) := ⟨okX4_putNoNumber, by decide +kernel, (fun h => by cases h), (fun _ => ⟨lw_at 510 (by decide +kernel) rfl, lw_at 511 (by decide +kernel) rfl, lw_at 512 (by decide +kernel) rfl, by decide, _, rfl, rfl⟩), (fun h => by cases h), (fun h => by cases h), (fun h => by cases h)⟩
theorem xm_0_181 : xmP (0, 181, 1, 4, qX0_putWhole) := ⟨okX0_putWhole, by decide +kernel, (fun h => by cases h), (fun _ => ⟨lw_at 518 (by decide +kernel) rfl, lw_at 520 (by decide +kernel) rfl, lw_at 11 (by decide +kernel) rfl, by decide, _, rfl, rfl⟩), (fun h => by cases h), (fun h => by cases h), (fun h => by cases h)⟩
theorem xm_0_184 : xmP (0, 184, 1, 2, qX4_put) := ⟨okX4_put, by decide +kernel, (fun h => by cases h), (fun _ => ⟨lw_at 522 (by decide +kernel) rfl, lw_at 523 (by decide +kernel) rfl, lw_at 524 (by decide +kernel) rfl, by decide, _, rfl, rfl⟩), (fun h => by cases h), (fun h => by cases h), (fun h => by cases h)⟩
theorem xm_0_188 : xmP (0, 188, 1, 3, qX5_heldWithin) := ⟨okX5_heldWithin, by decide +kernel, (fun h => by cases h), (fun _ => ⟨lw_at 526 (by decide +kernel) rfl, lw_at 527 (by decide +kernel) rfl, lw_at 528 (by decide +kernel) rfl, by decide, _, rfl, rfl⟩), (fun h => by cases h), (fun h => by cases h), (fun h => by cases h)⟩
theorem xm_0_194 : xmP (0, 194, 3, 1, qX9_heldFloating) := ⟨okX9_heldFloating, by decide +kernel, (fun h => by cases h), (fun h => by cases h), (fun h => by cases h), (fun _ => ⟨by decide +kernel, lw_at 532 (by decide +kernel) rfl⟩), (fun h => by cases h)⟩
theorem xm_0_198 : xmP (0, 198, 1, 3, qX0_wantedRow) := ⟨okX0_wantedRow, by decide +kernel, (fun h => by cases h), (fun _ => ⟨lw_at 543 (by decide +kernel) rfl, lw_at 545 (by decide +kernel) rfl, lw_at 13 (by decide +kernel) rfl, by decide, _, rfl, rfl⟩), (fun h => by cases h), (fun h => by cases h), (fun h => by cases h)⟩
theorem xm_0_202 : xmP (0, 202, 1, 2, qX0_endsAhead) := ⟨okX0_endsAhead, by decide +kernel, (fun h => by cases h), (fun _ => ⟨lw_at 556 (by decide +kernel) rfl, lw_at 558 (by decide +kernel) rfl, lw_at 15 (by decide +kernel) rfl, by decide, _, rfl, rfl⟩), (fun h => by cases h), (fun h => by cases h), (fun h => by cases h)⟩
theorem xm_0_206 : xmP (0, 206, 1, 1, qX4_lacksNumberAt) := ⟨okX4_lacksNumberAt, by decide +kernel, (fun h => by cases h), (fun _ => ⟨lw_at 561 (by decide +kernel) rfl, lw_at 562 (by decide +kernel) rfl, lw_at 563 (by decide +kernel) rfl, by decide, _, rfl, rfl⟩), (fun h => by cases h), (fun h => by cases h), (fun h => by cases h)⟩
theorem xm_0_209 : xmP (0, 209, 1, 1, qX4_valueAt) := ⟨okX4_valueAt, by decide +kernel, (fun h => by cases h), (fun _ => ⟨lw_at 565 (by decide +kernel) rfl, lw_at 566 (by decide +kernel) rfl, lw_at 567 (by decide +kernel) rfl, by decide, _, rfl, rfl⟩), (fun h => by cases h), (fun h => by cases h), (fun h => by cases h)⟩
theorem xm_0_213 : xmP (0, 213, 1, 3, qX0_shapedSample) := ⟨okX0_shapedSample, by decide +kernel, (fun h => by cases h), (fun _ => ⟨lw_at 569 (by decide +kernel) rfl, lw_at 571 (by decide +kernel) rfl, lw_at 16 (by decide +kernel) rfl, by decide, _, rfl, rfl⟩), (fun h => by cases h), (fun h => by cases h), (fun h => by cases h)⟩
theorem xm_0_217 : xmP (0, 217, 1, 2, qX0_gainAt) := ⟨okX0_gainAt, by decide +kernel, (fun h => by cases h), (fun _ => ⟨lw_at 573 (by decide +kernel) rfl, lw_at 575 (by decide +kernel) rfl, lw_at 17 (by decide +kernel) rfl, by decide, _, rfl, rfl⟩), (fun h => by cases h), (fun h => by cases h), (fun h => by cases h)⟩
theorem xm_0_230 : xmP (0, 230, 1, 0, qX8_inCount) := ⟨okX8_inCount, by decide +kernel, (fun h => by cases h), (fun _ => ⟨lw_at 582 (by decide +kernel) rfl, lw_at 345 (by decide +kernel) rfl, lw_at 346 (by decide +kernel) rfl, by decide, _, rfl, rfl⟩), (fun h => by cases h), (fun h => by cases h), (fun h => by cases h)⟩
theorem xm_0_235 : xmP (0, 235, 1, 2, qX0_sumAt) := ⟨okX0_sumAt, by decide +kernel, (fun h => by cases h), (fun _ => ⟨lw_at 584 (by decide +kernel) rfl, lw_at 586 (by decide +kernel) rfl, lw_at 19 (by decide +kernel) rfl, by decide, _, rfl, rfl⟩), (fun h => by cases h), (fun h => by cases h), (fun h => by cases h)⟩
theorem xm_0_239 : xmP (0, 239, 1, 2, qX0_upAfter) := ⟨okX0_upAfter, by decide +kernel, (fun h => by cases h), (fun _ => ⟨lw_at 602 (by decide +kernel) rfl, lw_at 604 (by decide +kernel) rfl, lw_at 21 (by decide +kernel) rfl, by decide, _, rfl, rfl⟩), (fun h => by cases h), (fun h => by cases h), (fun h => by cases h)⟩
theorem xm_0_246 : xmP (0, 246, 1, 4, qX0_putFloating) := ⟨okX0_putFloating, by decide +kernel, (fun h => by cases h), (fun _ => ⟨lw_at 610 (by decide +kernel) rfl, lw_at 612 (by decide +kernel) rfl, lw_at 23 (by decide +kernel) rfl, by decide, _, rfl, rfl⟩), (fun h => by cases h), (fun h => by cases h), (fun h => by cases h)⟩
theorem xm_1_21 : xmP (1, 21, 1, 1, qX3_at) := ⟨okX3_at, by decide +kernel, (fun h => by cases h), (fun _ => ⟨lw_at 437 (by decide +kernel) rfl, lw_at 361 (by decide +kernel) rfl, lw_at 362 (by decide +kernel) rfl, by decide, _, rfl, rfl⟩), (fun h => by cases h), (fun h => by cases h), (fun h => by cases h)⟩
theorem xm_1_28 : xmP (1, 28, 1, 1, qX8_remember) := ⟨okX8_remember, by decide +kernel, (fun h => by cases h), (fun _ => ⟨lw_at 438 (by decide +kernel) rfl, lw_at 439 (by decide +kernel) rfl, lw_at 440 (by decide +kernel) rfl, by decide, _, rfl, rfl⟩), (fun h => by cases h), (fun h => by cases h), (fun h => by cases h)⟩
theorem xm_1_37 : xmP (1, 37, 0, 2, qJ9_min_7cf53) := ⟨okJ9_min_7cf53, by decide +kernel, (fun _ => ⟨lw_at 638 (by decide +kernel) rfl, lw_at 593 (by decide +kernel) rfl⟩), (fun h => by cases h), (fun h => by cases h), (fun h => by cases h), (fun h => by cases h)⟩
theorem xm_1_46 : xmP (1, 46, 1, 1, qX8_becomeAsIn) := ⟨okX8_becomeAsIn, by decide +kernel, (fun h => by cases h), (fun _ => ⟨lw_at 643 (by decide +kernel) rfl, lw_at 644 (by decide +kernel) rfl, lw_at 645 (by decide +kernel) rfl, by decide, _, rfl, rfl⟩), (fun h => by cases h), (fun h => by cases h), (fun h => by cases h)⟩
theorem xm_1_49 : xmP (1, 49, 0, 2, qJ9_floorMod_7cf53) := ⟨okJ9_floorMod_7cf53, by decide +kernel, (fun _ => ⟨lw_at 655 (by decide +kernel) rfl, lw_at 537 (by decide +kernel) rfl⟩), (fun h => by cases h), (fun h => by cases h), (fun h => by cases h), (fun h => by cases h)⟩
theorem xm_1_52 : xmP (1, 52, 1, 0, qX1_undo) := ⟨okX1_undo, by decide +kernel, (fun h => by cases h), (fun _ => ⟨lw_at 656 (by decide +kernel) rfl, lw_at 640 (by decide +kernel) rfl, lw_at 641 (by decide +kernel) rfl, by decide, _, rfl, rfl⟩), (fun h => by cases h), (fun h => by cases h), (fun h => by cases h)⟩
theorem xm_2_20 : xmP (2, 20, 1, 1, qX2_has) := ⟨okX2_has, by decide +kernel, (fun h => by cases h), (fun _ => ⟨lw_at 669 (by decide +kernel) rfl, lw_at 662 (by decide +kernel) rfl, lw_at 663 (by decide +kernel) rfl, by decide, _, rfl, rfl⟩), (fun h => by cases h), (fun h => by cases h), (fun h => by cases h)⟩
theorem xm_2_30 : xmP (2, 30, 1, 1, qX3_at) := ⟨okX3_at, by decide +kernel, (fun h => by cases h), (fun _ => ⟨lw_at 670 (by decide +kernel) rfl, lw_at 361 (by decide +kernel) rfl, lw_at 362 (by decide +kernel) rfl, by decide, _, rfl, rfl⟩), (fun h => by cases h), (fun h => by cases h), (fun h => by cases h)⟩
theorem xm_2_44 : xmP (2, 44, 1, 1, qX2_isUnused) := ⟨okX2_isUnused, by decide +kernel, (fun h => by cases h), (fun _ => ⟨lw_at 686 (by decide +kernel) rfl, lw_at 679 (by decide +kernel) rfl, lw_at 680 (by decide +kernel) rfl, by decide, _, rfl, rfl⟩), (fun h => by cases h), (fun h => by cases h), (fun h => by cases h)⟩
theorem xm_3_42 : xmP (3, 42, 2, 3, qX8_init) := ⟨okX8_init, by decide +kernel, (fun h => by cases h), (fun h => by cases h), (fun _ => ⟨lw_at 250 (by decide +kernel) rfl, lw_at 251 (by decide +kernel) rfl, rfl, rfl⟩), (fun h => by cases h), (fun h => by cases h)⟩
theorem xm_3_45 : xmP (3, 45, 1, 0, qX3_lineUp) := ⟨okX3_lineUp, by decide +kernel, (fun h => by cases h), (fun _ => ⟨lw_at 328 (by decide +kernel) rfl, lw_at 330 (by decide +kernel) rfl, lw_at 0 (by decide +kernel) rfl, by decide, _, rfl, rfl⟩), (fun h => by cases h), (fun h => by cases h), (fun h => by cases h)⟩
theorem xm_3_48 : xmP (3, 48, 1, 2, qX8_setCord) := ⟨okX8_setCord, by decide +kernel, (fun h => by cases h), (fun _ => ⟨lw_at 382 (by decide +kernel) rfl, lw_at 383 (by decide +kernel) rfl, lw_at 384 (by decide +kernel) rfl, by decide, _, rfl, rfl⟩), (fun h => by cases h), (fun h => by cases h), (fun h => by cases h)⟩
theorem xm_3_52 : xmP (3, 52, 1, 0, qX8_inCount) := ⟨okX8_inCount, by decide +kernel, (fun h => by cases h), (fun _ => ⟨lw_at 344 (by decide +kernel) rfl, lw_at 345 (by decide +kernel) rfl, lw_at 346 (by decide +kernel) rfl, by decide, _, rfl, rfl⟩), (fun h => by cases h), (fun h => by cases h), (fun h => by cases h)⟩
theorem xm_3_56 : xmP (3, 56, 1, 1, qX8_cordOf) := ⟨okX8_cordOf, by decide +kernel, (fun h => by cases h), (fun _ => ⟨lw_at 348 (by decide +kernel) rfl, lw_at 349 (by decide +kernel) rfl, lw_at 350 (by decide +kernel) rfl, by decide, _, rfl, rfl⟩), (fun h => by cases h), (fun h => by cases h), (fun h => by cases h)⟩
theorem xm_3_60 : xmP (3, 60, 1, 1, qX3_at) := ⟨okX3_at, by decide +kernel, (fun h => by cases h), (fun _ => ⟨lw_at 369 (by decide +kernel) rfl, lw_at 361 (by decide +kernel) rfl, lw_at 362 (by decide +kernel) rfl, by decide, _, rfl, rfl⟩), (fun h => by cases h), (fun h => by cases h), (fun h => by cases h)⟩
theorem xm_3_67 : xmP (3, 67, 1, 1, qX3_stepOn) := ⟨okX3_stepOn, by decide +kernel, (fun h => by cases h), (fun _ => ⟨lw_at 370 (by decide +kernel) rfl, lw_at 372 (by decide +kernel) rfl, lw_at 4 (by decide +kernel) rfl, by decide, _, rfl, rfl⟩), (fun h => by cases h), (fun h => by cases h), (fun h => by cases h)⟩
theorem xm_3_71 : xmP (3, 71, 1, 2, qX3_isFedAtStep) := ⟨okX3_isFedAtStep, by decide +kernel, (fun h => by cases h), (fun _ => ⟨lw_at 374 (by decide +kernel) rfl, lw_at 376 (by decide +kernel) rfl, lw_at 5 (by decide +kernel) rfl, by decide, _, rfl, rfl⟩), (fun h => by cases h), (fun h => by cases h), (fun h => by cases h)⟩
theorem xm_3_75 : xmP (3, 75, 1, 1, qX3_placeNext) := ⟨okX3_placeNext, by decide +kernel, (fun h => by cases h), (fun _ => ⟨lw_at 332 (by decide +kernel) rfl, lw_at 334 (by decide +kernel) rfl, lw_at 1 (by decide +kernel) rfl, by decide, _, rfl, rfl⟩), (fun h => by cases h), (fun h => by cases h), (fun h => by cases h)⟩
theorem xm_3_78 : xmP (3, 78, 1, 0, qX3_leastReady) := ⟨okX3_leastReady, by decide +kernel, (fun h => by cases h), (fun _ => ⟨lw_at 336 (by decide +kernel) rfl, lw_at 338 (by decide +kernel) rfl, lw_at 2 (by decide +kernel) rfl, by decide, _, rfl, rfl⟩), (fun h => by cases h), (fun h => by cases h), (fun h => by cases h)⟩
theorem xm_3_81 : xmP (3, 81, 1, 1, qX3_isReady) := ⟨okX3_isReady, by decide +kernel, (fun h => by cases h), (fun _ => ⟨lw_at 340 (by decide +kernel) rfl, lw_at 342 (by decide +kernel) rfl, lw_at 3 (by decide +kernel) rfl, by decide, _, rfl, rfl⟩), (fun h => by cases h), (fun h => by cases h), (fun h => by cases h)⟩
theorem xm_4_22 : xmP (4, 22, 1, 1, qX4_has) := ⟨okX4_has, by decide +kernel, (fun h => by cases h), (fun _ => ⟨lw_at 514 (by decide +kernel) rfl, lw_at 515 (by decide +kernel) rfl, lw_at 516 (by decide +kernel) rfl, by decide, _, rfl, rfl⟩), (fun h => by cases h), (fun h => by cases h), (fun h => by cases h)⟩
theorem xm_4_29 : xmP (4, 29, 0, 1, qJ6_bitCount_0f7a4) := ⟨okJ6_bitCount_0f7a4, by decide +kernel, (fun _ => ⟨lw_at 728 (by decide +kernel) rfl, lw_at 729 (by decide +kernel) rfl⟩), (fun h => by cases h), (fun h => by cases h), (fun h => by cases h), (fun h => by cases h)⟩
theorem xm_4_35 : xmP (4, 35, 1, 1, qX4_valueAt) := ⟨okX4_valueAt, by decide +kernel, (fun h => by cases h), (fun _ => ⟨lw_at 712 (by decide +kernel) rfl, lw_at 566 (by decide +kernel) rfl, lw_at 567 (by decide +kernel) rfl, by decide, _, rfl, rfl⟩), (fun h => by cases h), (fun h => by cases h), (fun h => by cases h)⟩
theorem xm_4_39 : xmP (4, 39, 0, 2, qX4_haveSameBits) := ⟨okX4_haveSameBits, by decide +kernel, (fun _ => ⟨lw_at 713 (by decide +kernel) rfl, lw_at 714 (by decide +kernel) rfl⟩), (fun h => by cases h), (fun h => by cases h), (fun h => by cases h), (fun h => by cases h)⟩
theorem xm_5_41 : xmP (5, 41, 0, 2, qJ9_min_7cf53) := ⟨okJ9_min_7cf53, by decide +kernel, (fun _ => ⟨lw_at 592 (by decide +kernel) rfl, lw_at 593 (by decide +kernel) rfl⟩), (fun h => by cases h), (fun h => by cases h), (fun h => by cases h), (fun h => by cases h)⟩
theorem xm_5_47 : xmP (5, 47, 0, 2, qJ9_max_7cf53) := ⟨okJ9_max_7cf53, by decide +kernel, (fun _ => ⟨lw_at 595 (by decide +kernel) rfl, lw_at 596 (by decide +kernel) rfl⟩), (fun h => by cases h), (fun h => by cases h), (fun h => by cases h), (fun h => by cases h)⟩
theorem xm_6_20 : xmP (6, 20, 1, 1, qX6_has) := ⟨okX6_has, by decide +kernel, (fun h => by cases h), (fun _ => ⟨lw_at 407 (by decide +kernel) rfl, lw_at 400 (by decide +kernel) rfl, lw_at 401 (by decide +kernel) rfl, by decide, _, rfl, rfl⟩), (fun h => by cases h), (fun h => by cases h), (fun h => by cases h)⟩
theorem xm_6_24 : xmP (6, 24, 1, 1, qX6_lengthOf) := ⟨okX6_lengthOf, by decide +kernel, (fun h => by cases h), (fun _ => ⟨lw_at 416 (by decide +kernel) rfl, lw_at 417 (by decide +kernel) rfl, lw_at 418 (by decide +kernel) rfl, by decide, _, rfl, rfl⟩), (fun h => by cases h), (fun h => by cases h), (fun h => by cases h)⟩
theorem xm_6_28 : xmP (6, 28, 1, 2, qX6_hasPlace) := ⟨okX6_hasPlace, by decide +kernel, (fun h => by cases h), (fun _ => ⟨lw_at 428 (by decide +kernel) rfl, lw_at 421 (by decide +kernel) rfl, lw_at 422 (by decide +kernel) rfl, by decide, _, rfl, rfl⟩), (fun h => by cases h), (fun h => by cases h), (fun h => by cases h)⟩
theorem xm_8_17 : xmP (8, 17, 4, 0, qX5_init) := ⟨okX5_init, by decide +kernel, (fun h => by cases h), (fun h => by cases h), (fun h => by cases h), (fun h => by cases h), (fun _ => ⟨by decide +kernel, lw_at 257 (by decide +kernel) rfl, rfl, rfl⟩)⟩
theorem xm_8_39 : xmP (8, 39, 1, 1, qX8_hasIn) := ⟨okX8_hasIn, by decide +kernel, (fun h => by cases h), (fun _ => ⟨lw_at 352 (by decide +kernel) rfl, lw_at 353 (by decide +kernel) rfl, lw_at 354 (by decide +kernel) rfl, by decide, _, rfl, rfl⟩), (fun h => by cases h), (fun h => by cases h), (fun h => by cases h)⟩
theorem xm_8_43 : xmP (8, 43, 1, 1, qX5_copyFrom) := ⟨okX5_copyFrom, by decide +kernel, (fun h => by cases h), (fun _ => ⟨lw_at 442 (by decide +kernel) rfl, lw_at 443 (by decide +kernel) rfl, lw_at 444 (by decide +kernel) rfl, by decide, _, rfl, rfl⟩), (fun h => by cases h), (fun h => by cases h), (fun h => by cases h)⟩
theorem xm_9_11 : xmP (9, 11, 4, 0, qX3_init) := ⟨okX3_init, by decide +kernel, (fun h => by cases h), (fun h => by cases h), (fun h => by cases h), (fun h => by cases h), (fun _ => ⟨by decide +kernel, lw_at 91 (by decide +kernel) rfl, rfl, rfl⟩)⟩
theorem xm_9_18 : xmP (9, 18, 2, 0, qX6_init) := ⟨okX6_init, by decide +kernel, (fun h => by cases h), (fun h => by cases h), (fun _ => ⟨lw_at 120 (by decide +kernel) rfl, lw_at 121 (by decide +kernel) rfl, rfl, rfl⟩), (fun h => by cases h), (fun h => by cases h)⟩
theorem xm_9_25 : xmP (9, 25, 2, 0, qX2_init) := ⟨okX2_init, by decide +kernel, (fun h => by cases h), (fun h => by cases h), (fun _ => ⟨lw_at 135 (by decide +kernel) rfl, lw_at 136 (by decide +kernel) rfl, rfl, rfl⟩), (fun h => by cases h), (fun h => by cases h)⟩
theorem xm_9_32 : xmP (9, 32, 4, 0, qX7_init) := ⟨okX7_init, by decide +kernel, (fun h => by cases h), (fun h => by cases h), (fun h => by cases h), (fun h => by cases h), (fun _ => ⟨by decide +kernel, lw_at 150 (by decide +kernel) rfl, rfl, rfl⟩)⟩
theorem xm_9_39 : xmP (9, 39, 2, 1, qX1_init) := ⟨okX1_init, by decide +kernel, (fun h => by cases h), (fun h => by cases h), (fun _ => ⟨lw_at 165 (by decide +kernel) rfl, lw_at 166 (by decide +kernel) rfl, rfl, rfl⟩), (fun h => by cases h), (fun h => by cases h)⟩
theorem xm_9_48 : xmP (9, 48, 2, 2, qX0_init) := ⟨okX0_init, by decide +kernel, (fun h => by cases h), (fun h => by cases h), (fun _ => ⟨lw_at 186 (by decide +kernel) rfl, lw_at 187 (by decide +kernel) rfl, rfl, rfl⟩), (fun h => by cases h), (fun h => by cases h)⟩
theorem xm_9_55 : xmP (9, 55, 1, 0, qX3_isFull) := ⟨okX3_isFull, by decide +kernel, (fun h => by cases h), (fun _ => ⟨lw_at 241 (by decide +kernel) rfl, lw_at 242 (by decide +kernel) rfl, lw_at 243 (by decide +kernel) rfl, by decide, _, rfl, rfl⟩), (fun h => by cases h), (fun h => by cases h), (fun h => by cases h)⟩
theorem xm_9_59 : xmP (9, 59, 1, 2, qX3_add) := ⟨okX3_add, by decide +kernel, (fun h => by cases h), (fun _ => ⟨lw_at 245 (by decide +kernel) rfl, lw_at 246 (by decide +kernel) rfl, lw_at 247 (by decide +kernel) rfl, by decide, _, rfl, rfl⟩), (fun h => by cases h), (fun h => by cases h), (fun h => by cases h)⟩
theorem xm_9_63 : xmP (9, 63, 1, 1, qX3_at) := ⟨okX3_at, by decide +kernel, (fun h => by cases h), (fun _ => ⟨lw_at 360 (by decide +kernel) rfl, lw_at 361 (by decide +kernel) rfl, lw_at 362 (by decide +kernel) rfl, by decide, _, rfl, rfl⟩), (fun h => by cases h), (fun h => by cases h), (fun h => by cases h)⟩
theorem xm_9_67 : xmP (9, 67, 1, 1, qX8_hasIn) := ⟨okX8_hasIn, by decide +kernel, (fun h => by cases h), (fun _ => ⟨lw_at 364 (by decide +kernel) rfl, lw_at 353 (by decide +kernel) rfl, lw_at 354 (by decide +kernel) rfl, by decide, _, rfl, rfl⟩), (fun h => by cases h), (fun h => by cases h), (fun h => by cases h)⟩
theorem xm_9_73 : xmP (9, 73, 1, 2, qX3_shortestLoop) := ⟨okX3_shortestLoop, by decide +kernel, (fun h => by cases h), (fun _ => ⟨lw_at 365 (by decide +kernel) rfl, lw_at 366 (by decide +kernel) rfl, lw_at 367 (by decide +kernel) rfl, by decide, _, rfl, rfl⟩), (fun h => by cases h), (fun h => by cases h), (fun h => by cases h)⟩
theorem xm_9_76 : xmP (9, 76, 1, 3, qX3_join) := ⟨okX3_join, by decide +kernel, (fun h => by cases h), (fun _ => ⟨lw_at 378 (by decide +kernel) rfl, lw_at 379 (by decide +kernel) rfl, lw_at 380 (by decide +kernel) rfl, by decide, _, rfl, rfl⟩), (fun h => by cases h), (fun h => by cases h), (fun h => by cases h)⟩
theorem xm_9_80 : xmP (9, 80, 1, 1, qX8_cordOf) := ⟨okX8_cordOf, by decide +kernel, (fun h => by cases h), (fun _ => ⟨lw_at 390 (by decide +kernel) rfl, lw_at 349 (by decide +kernel) rfl, lw_at 350 (by decide +kernel) rfl, by decide, _, rfl, rfl⟩), (fun h => by cases h), (fun h => by cases h), (fun h => by cases h)⟩
theorem xm_9_88 : xmP (9, 88, 1, 1, qX6_has) := ⟨okX6_has, by decide +kernel, (fun h => by cases h), (fun _ => ⟨lw_at 399 (by decide +kernel) rfl, lw_at 400 (by decide +kernel) rfl, lw_at 401 (by decide +kernel) rfl, by decide, _, rfl, rfl⟩), (fun h => by cases h), (fun h => by cases h), (fun h => by cases h)⟩
theorem xm_9_91 : xmP (9, 91, 1, 2, qX6_renew) := ⟨okX6_renew, by decide +kernel, (fun h => by cases h), (fun _ => ⟨lw_at 403 (by decide +kernel) rfl, lw_at 404 (by decide +kernel) rfl, lw_at 405 (by decide +kernel) rfl, by decide, _, rfl, rfl⟩), (fun h => by cases h), (fun h => by cases h), (fun h => by cases h)⟩
theorem xm_9_95 : xmP (9, 95, 1, 1, qX6_isMissing) := ⟨okX6_isMissing, by decide +kernel, (fun h => by cases h), (fun _ => ⟨lw_at 412 (by decide +kernel) rfl, lw_at 413 (by decide +kernel) rfl, lw_at 414 (by decide +kernel) rfl, by decide, _, rfl, rfl⟩), (fun h => by cases h), (fun h => by cases h), (fun h => by cases h)⟩
theorem xm_9_98 : xmP (9, 98, 1, 2, qX6_hasPlace) := ⟨okX6_hasPlace, by decide +kernel, (fun h => by cases h), (fun _ => ⟨lw_at 420 (by decide +kernel) rfl, lw_at 421 (by decide +kernel) rfl, lw_at 422 (by decide +kernel) rfl, by decide, _, rfl, rfl⟩), (fun h => by cases h), (fun h => by cases h), (fun h => by cases h)⟩
theorem xm_9_102 : xmP (9, 102, 1, 3, qX6_put) := ⟨okX6_put, by decide +kernel, (fun h => by cases h), (fun _ => ⟨lw_at 424 (by decide +kernel) rfl, lw_at 425 (by decide +kernel) rfl, lw_at 426 (by decide +kernel) rfl, by decide, _, rfl, rfl⟩), (fun h => by cases h), (fun h => by cases h), (fun h => by cases h)⟩
theorem xm_9_106 : xmP (9, 106, 1, 0, qX1_remember) := ⟨okX1_remember, by decide +kernel, (fun h => by cases h), (fun _ => ⟨lw_at 433 (by decide +kernel) rfl, lw_at 434 (by decide +kernel) rfl, lw_at 435 (by decide +kernel) rfl, by decide, _, rfl, rfl⟩), (fun h => by cases h), (fun h => by cases h), (fun h => by cases h)⟩
theorem xm_9_109 : xmP (9, 109, 1, 1, qX0_perform) := ⟨okX0_perform, by decide +kernel, (fun h => by cases h), (fun _ => ⟨lw_at 446 (by decide +kernel) rfl, lw_at 447 (by decide +kernel) rfl, lw_at 448 (by decide +kernel) rfl, by decide, _, rfl, rfl⟩), (fun h => by cases h), (fun h => by cases h), (fun h => by cases h)⟩
theorem xm_9_112 : xmP (9, 112, 1, 0, qX1_advance) := ⟨okX1_advance, by decide +kernel, (fun h => by cases h), (fun _ => ⟨lw_at 634 (by decide +kernel) rfl, lw_at 635 (by decide +kernel) rfl, lw_at 636 (by decide +kernel) rfl, by decide, _, rfl, rfl⟩), (fun h => by cases h), (fun h => by cases h), (fun h => by cases h)⟩
theorem xm_9_115 : xmP (9, 115, 1, 0, qX1_undo) := ⟨okX1_undo, by decide +kernel, (fun h => by cases h), (fun _ => ⟨lw_at 639 (by decide +kernel) rfl, lw_at 640 (by decide +kernel) rfl, lw_at 641 (by decide +kernel) rfl, by decide, _, rfl, rfl⟩), (fun h => by cases h), (fun h => by cases h), (fun h => by cases h)⟩
theorem xm_9_122 : xmP (9, 122, 1, 1, qX1_goBack) := ⟨okX1_goBack, by decide +kernel, (fun h => by cases h), (fun _ => ⟨lw_at 651 (by decide +kernel) rfl, lw_at 652 (by decide +kernel) rfl, lw_at 653 (by decide +kernel) rfl, by decide, _, rfl, rfl⟩), (fun h => by cases h), (fun h => by cases h), (fun h => by cases h)⟩
theorem xm_9_126 : xmP (9, 126, 1, 1, qX2_has) := ⟨okX2_has, by decide +kernel, (fun h => by cases h), (fun _ => ⟨lw_at 661 (by decide +kernel) rfl, lw_at 662 (by decide +kernel) rfl, lw_at 663 (by decide +kernel) rfl, by decide, _, rfl, rfl⟩), (fun h => by cases h), (fun h => by cases h), (fun h => by cases h)⟩
theorem xm_9_127 : xmP (9, 127, 1, 2, qX2_store) := ⟨okX2_store, by decide +kernel, (fun h => by cases h), (fun _ => ⟨lw_at 665 (by decide +kernel) rfl, lw_at 666 (by decide +kernel) rfl, lw_at 667 (by decide +kernel) rfl, by decide, _, rfl, rfl⟩), (fun h => by cases h), (fun h => by cases h), (fun h => by cases h)⟩
theorem xm_9_131 : xmP (9, 131, 1, 1, qX2_isUnused) := ⟨okX2_isUnused, by decide +kernel, (fun h => by cases h), (fun _ => ⟨lw_at 678 (by decide +kernel) rfl, lw_at 679 (by decide +kernel) rfl, lw_at 680 (by decide +kernel) rfl, by decide, _, rfl, rfl⟩), (fun h => by cases h), (fun h => by cases h), (fun h => by cases h)⟩
theorem xm_9_134 : xmP (9, 134, 1, 2, qX2_restore) := ⟨okX2_restore, by decide +kernel, (fun h => by cases h), (fun _ => ⟨lw_at 682 (by decide +kernel) rfl, lw_at 683 (by decide +kernel) rfl, lw_at 684 (by decide +kernel) rfl, by decide, _, rfl, rfl⟩), (fun h => by cases h), (fun h => by cases h), (fun h => by cases h)⟩
theorem xm_9_137 : xmP (9, 137, 1, 1, qX3_givenBy) := ⟨okX3_givenBy, by decide +kernel, (fun h => by cases h), (fun _ => ⟨lw_at 691 (by decide +kernel) rfl, lw_at 553 (by decide +kernel) rfl, lw_at 554 (by decide +kernel) rfl, by decide, _, rfl, rfl⟩), (fun h => by cases h), (fun h => by cases h), (fun h => by cases h)⟩
theorem xm_9_141 : xmP (9, 141, 1, 0, qX7_isFull) := ⟨okX7_isFull, by decide +kernel, (fun h => by cases h), (fun _ => ⟨lw_at 692 (by decide +kernel) rfl, lw_at 693 (by decide +kernel) rfl, lw_at 694 (by decide +kernel) rfl, by decide, _, rfl, rfl⟩), (fun h => by cases h), (fun h => by cases h), (fun h => by cases h)⟩
theorem xm_9_142 : xmP (9, 142, 1, 1, qX7_add) := ⟨okX7_add, by decide +kernel, (fun h => by cases h), (fun _ => ⟨lw_at 696 (by decide +kernel) rfl, lw_at 697 (by decide +kernel) rfl, lw_at 698 (by decide +kernel) rfl, by decide, _, rfl, rfl⟩), (fun h => by cases h), (fun h => by cases h), (fun h => by cases h)⟩
theorem xm_9_145 : xmP (9, 145, 1, 1, qX7_at) := ⟨okX7_at, by decide +kernel, (fun h => by cases h), (fun _ => ⟨lw_at 704 (by decide +kernel) rfl, lw_at 705 (by decide +kernel) rfl, lw_at 706 (by decide +kernel) rfl, by decide, _, rfl, rfl⟩), (fun h => by cases h), (fun h => by cases h), (fun h => by cases h)⟩
theorem xm_9_147 : xmP (9, 147, 1, 1, qX4_isSameAs) := ⟨okX4_isSameAs, by decide +kernel, (fun h => by cases h), (fun _ => ⟨lw_at 708 (by decide +kernel) rfl, lw_at 709 (by decide +kernel) rfl, lw_at 710 (by decide +kernel) rfl, by decide, _, rfl, rfl⟩), (fun h => by cases h), (fun h => by cases h), (fun h => by cases h)⟩
theorem xm_9_159 : xmP (9, 159, 1, 0, qX4_isSilent) := ⟨okX4_isSilent, by decide +kernel, (fun h => by cases h), (fun _ => ⟨lw_at 720 (by decide +kernel) rfl, lw_at 721 (by decide +kernel) rfl, lw_at 722 (by decide +kernel) rfl, by decide, _, rfl, rfl⟩), (fun h => by cases h), (fun h => by cases h), (fun h => by cases h)⟩
theorem xm_9_162 : xmP (9, 162, 1, 0, qX4_noneCount) := ⟨okX4_noneCount, by decide +kernel, (fun h => by cases h), (fun _ => ⟨lw_at 724 (by decide +kernel) rfl, lw_at 725 (by decide +kernel) rfl, lw_at 726 (by decide +kernel) rfl, by decide, _, rfl, rfl⟩), (fun h => by cases h), (fun h => by cases h), (fun h => by cases h)⟩
theorem xm_9_166 : xmP (9, 166, 1, 1, qX4_valueAt) := ⟨okX4_valueAt, by decide +kernel, (fun h => by cases h), (fun _ => ⟨lw_at 738 (by decide +kernel) rfl, lw_at 566 (by decide +kernel) rfl, lw_at 567 (by decide +kernel) rfl, by decide, _, rfl, rfl⟩), (fun h => by cases h), (fun h => by cases h), (fun h => by cases h)⟩
theorem xm_9_170 : xmP (9, 170, 1, 1, qX4_lacksNumberAt) := ⟨okX4_lacksNumberAt, by decide +kernel, (fun h => by cases h), (fun _ => ⟨lw_at 743 (by decide +kernel) rfl, lw_at 562 (by decide +kernel) rfl, lw_at 563 (by decide +kernel) rfl, by decide, _, rfl, rfl⟩), (fun h => by cases h), (fun h => by cases h), (fun h => by cases h)⟩
theorem xm_9_173 : xmP (9, 173, 1, 1, qX3_inLine) := ⟨okX3_inLine, by decide +kernel, (fun h => by cases h), (fun _ => ⟨lw_at 748 (by decide +kernel) rfl, lw_at 451 (by decide +kernel) rfl, lw_at 452 (by decide +kernel) rfl, by decide, _, rfl, rfl⟩), (fun h => by cases h), (fun h => by cases h), (fun h => by cases h)⟩
theorem xm_9_176 : xmP (9, 176, 1, 1, qX0_markAt) := ⟨okX0_markAt, by decide +kernel, (fun h => by cases h), (fun _ => ⟨lw_at 753 (by decide +kernel) rfl, lw_at 754 (by decide +kernel) rfl, lw_at 755 (by decide +kernel) rfl, by decide, _, rfl, rfl⟩), (fun h => by cases h), (fun h => by cases h), (fun h => by cases h)⟩
theorem xm_9_191 : xmP (9, 191, 1, 0, qX3_cordCount) := ⟨okX3_cordCount, by decide +kernel, (fun h => by cases h), (fun _ => ⟨lw_at 765 (by decide +kernel) rfl, lw_at 766 (by decide +kernel) rfl, lw_at 767 (by decide +kernel) rfl, by decide, _, rfl, rfl⟩), (fun h => by cases h), (fun h => by cases h), (fun h => by cases h)⟩
theorem xm_9_198 : xmP (9, 198, 1, 1, qX9_countOfModule) := ⟨okX9_countOfModule, by decide +kernel, (fun h => by cases h), (fun _ => ⟨lw_at 769 (by decide +kernel) rfl, lw_at 771 (by decide +kernel) rfl, lw_at 28 (by decide +kernel) rfl, by decide, _, rfl, rfl⟩), (fun h => by cases h), (fun h => by cases h), (fun h => by cases h)⟩
theorem xm_10_72 : xmP (10, 72, 0, 3, qX10_isIn) := ⟨okX10_isIn, by decide +kernel, (fun _ => ⟨lw_at 877 (by decide +kernel) rfl, lw_at 878 (by decide +kernel) rfl⟩), (fun h => by cases h), (fun h => by cases h), (fun h => by cases h), (fun h => by cases h)⟩
theorem xm_10_76 : xmP (10, 76, 1, 1, qX10_isModule) := ⟨okX10_isModule, by decide +kernel, (fun h => by cases h), (fun _ => ⟨lw_at 888 (by decide +kernel) rfl, lw_at 890 (by decide +kernel) rfl, lw_at 30 (by decide +kernel) rfl, by decide, _, rfl, rfl⟩), (fun h => by cases h), (fun h => by cases h), (fun h => by cases h)⟩
theorem xm_10_80 : xmP (10, 80, 1, 2, qX10_leads) := ⟨okX10_leads, by decide +kernel, (fun h => by cases h), (fun _ => ⟨lw_at 896 (by decide +kernel) rfl, lw_at 898 (by decide +kernel) rfl, lw_at 32 (by decide +kernel) rfl, by decide, _, rfl, rfl⟩), (fun h => by cases h), (fun h => by cases h), (fun h => by cases h)⟩
theorem xm_10_84 : xmP (10, 84, 1, 2, qX10_hasIn) := ⟨okX10_hasIn, by decide +kernel, (fun h => by cases h), (fun _ => ⟨lw_at 884 (by decide +kernel) rfl, lw_at 886 (by decide +kernel) rfl, lw_at 29 (by decide +kernel) rfl, by decide, _, rfl, rfl⟩), (fun h => by cases h), (fun h => by cases h), (fun h => by cases h)⟩
theorem xm_10_87 : xmP (10, 87, 1, 2, qX10_way) := ⟨okX10_way, by decide +kernel, (fun h => by cases h), (fun _ => ⟨lw_at 892 (by decide +kernel) rfl, lw_at 894 (by decide +kernel) rfl, lw_at 31 (by decide +kernel) rfl, by decide, _, rfl, rfl⟩), (fun h => by cases h), (fun h => by cases h), (fun h => by cases h)⟩
theorem xm_10_91 : xmP (10, 91, 1, 2, qX10_rowAt) := ⟨okX10_rowAt, by decide +kernel, (fun h => by cases h), (fun _ => ⟨lw_at 965 (by decide +kernel) rfl, lw_at 967 (by decide +kernel) rfl, lw_at 42 (by decide +kernel) rfl, by decide, _, rfl, rfl⟩), (fun h => by cases h), (fun h => by cases h), (fun h => by cases h)⟩
theorem xm_10_103 : xmP (10, 103, 1, 3, qX10_fails) := ⟨okX10_fails, by decide +kernel, (fun h => by cases h), (fun _ => ⟨lw_at 940 (by decide +kernel) rfl, lw_at 942 (by decide +kernel) rfl, lw_at 38 (by decide +kernel) rfl, by decide, _, rfl, rfl⟩), (fun h => by cases h), (fun h => by cases h), (fun h => by cases h)⟩
theorem xm_10_106 : xmP (10, 106, 1, 1, qX10_kindOf) := ⟨okX10_kindOf, by decide +kernel, (fun h => by cases h), (fun _ => ⟨lw_at 973 (by decide +kernel) rfl, lw_at 975 (by decide +kernel) rfl, lw_at 44 (by decide +kernel) rfl, by decide, _, rfl, rfl⟩), (fun h => by cases h), (fun h => by cases h), (fun h => by cases h)⟩
theorem xm_10_118 : xmP (10, 118, 1, 3, qX10_heldTo) := ⟨okX10_heldTo, by decide +kernel, (fun h => by cases h), (fun _ => ⟨lw_at 949 (by decide +kernel) rfl, lw_at 951 (by decide +kernel) rfl, lw_at 40 (by decide +kernel) rfl, by decide, _, rfl, rfl⟩), (fun h => by cases h), (fun h => by cases h), (fun h => by cases h)⟩
theorem xm_10_124 : xmP (10, 124, 0, 1, qX10_held) := ⟨okX10_held, by decide +kernel, (fun _ => ⟨lw_at 956 (by decide +kernel) rfl, lw_at 957 (by decide +kernel) rfl⟩), (fun h => by cases h), (fun h => by cases h), (fun h => by cases h), (fun h => by cases h)⟩
theorem xm_10_135 : xmP (10, 135, 1, 3, qX10_wholeInto) := ⟨okX10_wholeInto, by decide +kernel, (fun h => by cases h), (fun _ => ⟨lw_at 945 (by decide +kernel) rfl, lw_at 947 (by decide +kernel) rfl, lw_at 39 (by decide +kernel) rfl, by decide, _, rfl, rfl⟩), (fun h => by cases h), (fun h => by cases h), (fun h => by cases h)⟩
theorem xm_10_140 : xmP (10, 140, 1, 3, qX10_hasRow) := ⟨okX10_hasRow, by decide +kernel, (fun h => by cases h), (fun _ => ⟨lw_at 1005 (by decide +kernel) rfl, lw_at 1007 (by decide +kernel) rfl, lw_at 52 (by decide +kernel) rfl, by decide, _, rfl, rfl⟩), (fun h => by cases h), (fun h => by cases h), (fun h => by cases h)⟩
theorem xm_10_143 : xmP (10, 143, 1, 3, qX10_hasSample) := ⟨okX10_hasSample, by decide +kernel, (fun h => by cases h), (fun _ => ⟨lw_at 981 (by decide +kernel) rfl, lw_at 983 (by decide +kernel) rfl, lw_at 46 (by decide +kernel) rfl, by decide, _, rfl, rfl⟩), (fun h => by cases h), (fun h => by cases h), (fun h => by cases h)⟩
theorem xm_10_146 : xmP (10, 146, 1, 3, qX10_isNoneOf) := ⟨okX10_isNoneOf, by decide +kernel, (fun h => by cases h), (fun _ => ⟨lw_at 1009 (by decide +kernel) rfl, lw_at 1011 (by decide +kernel) rfl, lw_at 53 (by decide +kernel) rfl, by decide, _, rfl, rfl⟩), (fun h => by cases h), (fun h => by cases h), (fun h => by cases h)⟩
theorem xm_10_149 : xmP (10, 149, 1, 3, qX10_sampleOf) := ⟨okX10_sampleOf, by decide +kernel, (fun h => by cases h), (fun _ => ⟨lw_at 985 (by decide +kernel) rfl, lw_at 987 (by decide +kernel) rfl, lw_at 47 (by decide +kernel) rfl, by decide, _, rfl, rfl⟩), (fun h => by cases h), (fun h => by cases h), (fun h => by cases h)⟩
theorem xm_10_153 : xmP (10, 153, 1, 3, qX10_shaped) := ⟨okX10_shaped, by decide +kernel, (fun h => by cases h), (fun _ => ⟨lw_at 1034 (by decide +kernel) rfl, lw_at 1036 (by decide +kernel) rfl, lw_at 59 (by decide +kernel) rfl, by decide, _, rfl, rfl⟩), (fun h => by cases h), (fun h => by cases h), (fun h => by cases h)⟩
theorem xm_10_157 : xmP (10, 157, 1, 2, qX10_filtered) := ⟨okX10_filtered, by decide +kernel, (fun h => by cases h), (fun _ => ⟨lw_at 1038 (by decide +kernel) rfl, lw_at 1040 (by decide +kernel) rfl, lw_at 60 (by decide +kernel) rfl, by decide, _, rfl, rfl⟩), (fun h => by cases h), (fun h => by cases h), (fun h => by cases h)⟩
theorem xm_10_161 : xmP (10, 161, 1, 2, qX10_late) := ⟨okX10_late, by decide +kernel, (fun h => by cases h), (fun _ => ⟨lw_at 1042 (by decide +kernel) rfl, lw_at 1044 (by decide +kernel) rfl, lw_at 61 (by decide +kernel) rfl, by decide, _, rfl, rfl⟩), (fun h => by cases h), (fun h => by cases h), (fun h => by cases h)⟩
theorem xm_10_164 : xmP (10, 164, 1, 2, qX10_counts) := ⟨okX10_counts, by decide +kernel, (fun h => by cases h), (fun _ => ⟨lw_at 969 (by decide +kernel) rfl, lw_at 971 (by decide +kernel) rfl, lw_at 43 (by decide +kernel) rfl, by decide, _, rfl, rfl⟩), (fun h => by cases h), (fun h => by cases h), (fun h => by cases h)⟩
theorem xm_10_167 : xmP (10, 167, 1, 3, qX10_floatingInto) := ⟨okX10_floatingInto, by decide +kernel, (fun h => by cases h), (fun _ => ⟨lw_at 1018 (by decide +kernel) rfl, lw_at 1020 (by decide +kernel) rfl, lw_at 55 (by decide +kernel) rfl, by decide, _, rfl, rfl⟩), (fun h => by cases h), (fun h => by cases h), (fun h => by cases h)⟩
theorem xm_10_171 : xmP (10, 171, 1, 4, qX10_copyRow) := ⟨okX10_copyRow, by decide +kernel, (fun h => by cases h), (fun _ => ⟨lw_at 997 (by decide +kernel) rfl, lw_at 999 (by decide +kernel) rfl, lw_at 50 (by decide +kernel) rfl, by decide, _, rfl, rfl⟩), (fun h => by cases h), (fun h => by cases h), (fun h => by cases h)⟩
theorem xm_10_175 : xmP (10, 175, 1, 2, qX10_noRow) := ⟨okX10_noRow, by decide +kernel, (fun h => by cases h), (fun _ => ⟨lw_at 989 (by decide +kernel) rfl, lw_at 991 (by decide +kernel) rfl, lw_at 48 (by decide +kernel) rfl, by decide, _, rfl, rfl⟩), (fun h => by cases h), (fun h => by cases h), (fun h => by cases h)⟩
theorem xm_10_179 : xmP (10, 179, 1, 1, qX10_source) := ⟨okX10_source, by decide +kernel, (fun h => by cases h), (fun _ => ⟨lw_at 936 (by decide +kernel) rfl, lw_at 938 (by decide +kernel) rfl, lw_at 37 (by decide +kernel) rfl, by decide, _, rfl, rfl⟩), (fun h => by cases h), (fun h => by cases h), (fun h => by cases h)⟩
theorem xm_10_182 : xmP (10, 182, 1, 2, qX10_give) := ⟨okX10_give, by decide +kernel, (fun h => by cases h), (fun _ => ⟨lw_at 961 (by decide +kernel) rfl, lw_at 963 (by decide +kernel) rfl, lw_at 41 (by decide +kernel) rfl, by decide, _, rfl, rfl⟩), (fun h => by cases h), (fun h => by cases h), (fun h => by cases h)⟩
theorem xm_10_185 : xmP (10, 185, 1, 1, qX10_mix) := ⟨okX10_mix, by decide +kernel, (fun h => by cases h), (fun _ => ⟨lw_at 977 (by decide +kernel) rfl, lw_at 979 (by decide +kernel) rfl, lw_at 45 (by decide +kernel) rfl, by decide, _, rfl, rfl⟩), (fun h => by cases h), (fun h => by cases h), (fun h => by cases h)⟩
theorem xm_10_188 : xmP (10, 188, 1, 1, qX10_delay) := ⟨okX10_delay, by decide +kernel, (fun h => by cases h), (fun _ => ⟨lw_at 993 (by decide +kernel) rfl, lw_at 995 (by decide +kernel) rfl, lw_at 49 (by decide +kernel) rfl, by decide, _, rfl, rfl⟩), (fun h => by cases h), (fun h => by cases h), (fun h => by cases h)⟩
theorem xm_10_192 : xmP (10, 192, 1, 1, qX10_gate) := ⟨okX10_gate, by decide +kernel, (fun h => by cases h), (fun _ => ⟨lw_at 1001 (by decide +kernel) rfl, lw_at 1003 (by decide +kernel) rfl, lw_at 51 (by decide +kernel) rfl, by decide, _, rfl, rfl⟩), (fun h => by cases h), (fun h => by cases h), (fun h => by cases h)⟩
theorem xm_10_195 : xmP (10, 195, 1, 1, qX10_turn) := ⟨okX10_turn, by decide +kernel, (fun h => by cases h), (fun _ => ⟨lw_at 1014 (by decide +kernel) rfl, lw_at 1016 (by decide +kernel) rfl, lw_at 54 (by decide +kernel) rfl, by decide, _, rfl, rfl⟩), (fun h => by cases h), (fun h => by cases h), (fun h => by cases h)⟩
theorem xm_10_198 : xmP (10, 198, 1, 1, qX10_doesSwitch) := ⟨okX10_doesSwitch, by decide +kernel, (fun h => by cases h), (fun _ => ⟨lw_at 1022 (by decide +kernel) rfl, lw_at 1024 (by decide +kernel) rfl, lw_at 56 (by decide +kernel) rfl, by decide, _, rfl, rfl⟩), (fun h => by cases h), (fun h => by cases h), (fun h => by cases h)⟩
theorem xm_10_201 : xmP (10, 201, 1, 1, qX10_mean) := ⟨okX10_mean, by decide +kernel, (fun h => by cases h), (fun _ => ⟨lw_at 1026 (by decide +kernel) rfl, lw_at 1028 (by decide +kernel) rfl, lw_at 57 (by decide +kernel) rfl, by decide, _, rfl, rfl⟩), (fun h => by cases h), (fun h => by cases h), (fun h => by cases h)⟩
theorem xm_10_204 : xmP (10, 204, 1, 1, qX10_shape) := ⟨okX10_shape, by decide +kernel, (fun h => by cases h), (fun _ => ⟨lw_at 1030 (by decide +kernel) rfl, lw_at 1032 (by decide +kernel) rfl, lw_at 58 (by decide +kernel) rfl, by decide, _, rfl, rfl⟩), (fun h => by cases h), (fun h => by cases h), (fun h => by cases h)⟩
theorem xm_10_207 : xmP (10, 207, 1, 2, qX10_hasActed) := ⟨okX10_hasActed, by decide +kernel, (fun h => by cases h), (fun _ => ⟨lw_at 928 (by decide +kernel) rfl, lw_at 930 (by decide +kernel) rfl, lw_at 35 (by decide +kernel) rfl, by decide, _, rfl, rfl⟩), (fun h => by cases h), (fun h => by cases h), (fun h => by cases h)⟩
theorem xm_10_213 : xmP (10, 213, 1, 2, qX10_copyState) := ⟨okX10_copyState, by decide +kernel, (fun h => by cases h), (fun _ => ⟨lw_at 920 (by decide +kernel) rfl, lw_at 922 (by decide +kernel) rfl, lw_at 33 (by decide +kernel) rfl, by decide, _, rfl, rfl⟩), (fun h => by cases h), (fun h => by cases h), (fun h => by cases h)⟩
theorem xm_10_216 : xmP (10, 216, 1, 0, qX10_setOrder) := ⟨okX10_setOrder, by decide +kernel, (fun h => by cases h), (fun _ => ⟨lw_at 924 (by decide +kernel) rfl, lw_at 926 (by decide +kernel) rfl, lw_at 34 (by decide +kernel) rfl, by decide, _, rfl, rfl⟩), (fun h => by cases h), (fun h => by cases h), (fun h => by cases h)⟩
theorem xm_10_219 : xmP (10, 219, 1, 1, qX10_acts) := ⟨okX10_acts, by decide +kernel, (fun h => by cases h), (fun _ => ⟨lw_at 932 (by decide +kernel) rfl, lw_at 934 (by decide +kernel) rfl, lw_at 36 (by decide +kernel) rfl, by decide, _, rfl, rfl⟩), (fun h => by cases h), (fun h => by cases h), (fun h => by cases h)⟩
theorem xm_10_222 : xmP (10, 222, 1, 0, qX10_feed) := ⟨okX10_feed, by decide +kernel, (fun h => by cases h), (fun _ => ⟨lw_at 1046 (by decide +kernel) rfl, lw_at 1048 (by decide +kernel) rfl, lw_at 62 (by decide +kernel) rfl, by decide, _, rfl, rfl⟩), (fun h => by cases h), (fun h => by cases h), (fun h => by cases h)⟩
theorem xm_10_240 : xmP (10, 240, 1, 1, qX10_takeOf) := ⟨okX10_takeOf, by decide +kernel, (fun h => by cases h), (fun _ => ⟨lw_at 1070 (by decide +kernel) rfl, lw_at 1072 (by decide +kernel) rfl, lw_at 63 (by decide +kernel) rfl, by decide, _, rfl, rfl⟩), (fun h => by cases h), (fun h => by cases h), (fun h => by cases h)⟩
theorem xm_10_243 : xmP (10, 243, 0, 1, qX10_hasMinus) := ⟨okX10_hasMinus, by decide +kernel, (fun _ => ⟨lw_at 1074 (by decide +kernel) rfl, lw_at 1075 (by decide +kernel) rfl⟩), (fun h => by cases h), (fun h => by cases h), (fun h => by cases h), (fun h => by cases h)⟩
theorem xm_10_247 : xmP (10, 247, 1, 2, qX10_isNone) := ⟨okX10_isNone, by decide +kernel, (fun h => by cases h), (fun _ => ⟨lw_at 1081 (by decide +kernel) rfl, lw_at 1082 (by decide +kernel) rfl, lw_at 1083 (by decide +kernel) rfl, by decide, _, rfl, rfl⟩), (fun h => by cases h), (fun h => by cases h), (fun h => by cases h)⟩
theorem xm_10_250 : xmP (10, 250, 1, 2, qX10_hasGiven) := ⟨okX10_hasGiven, by decide +kernel, (fun h => by cases h), (fun _ => ⟨lw_at 1085 (by decide +kernel) rfl, lw_at 1087 (by decide +kernel) rfl, lw_at 64 (by decide +kernel) rfl, by decide, _, rfl, rfl⟩), (fun h => by cases h), (fun h => by cases h), (fun h => by cases h)⟩
theorem xm_ok : ∀ q ∈ xmL, xmP q := by
  unfold xmL
  exact List.forall_mem_cons.mpr ⟨xm_0_38, List.forall_mem_cons.mpr ⟨xm_0_42, List.forall_mem_cons.mpr ⟨xm_0_51, List.forall_mem_cons.mpr ⟨xm_0_62, List.forall_mem_cons.mpr ⟨xm_0_72, List.forall_mem_cons.mpr ⟨xm_0_75, List.forall_mem_cons.mpr ⟨xm_0_87, List.forall_mem_cons.mpr ⟨xm_0_91, List.forall_mem_cons.mpr ⟨xm_0_95, List.forall_mem_cons.mpr ⟨xm_0_98, List.forall_mem_cons.mpr ⟨xm_0_101, List.forall_mem_cons.mpr ⟨xm_0_104, List.forall_mem_cons.mpr ⟨xm_0_108, List.forall_mem_cons.mpr ⟨xm_0_111, List.forall_mem_cons.mpr ⟨xm_0_114, List.forall_mem_cons.mpr ⟨xm_0_117, List.forall_mem_cons.mpr ⟨xm_0_123, List.forall_mem_cons.mpr ⟨xm_0_126, List.forall_mem_cons.mpr ⟨xm_0_129, List.forall_mem_cons.mpr ⟨xm_0_136, List.forall_mem_cons.mpr ⟨xm_0_140, List.forall_mem_cons.mpr ⟨xm_0_145, List.forall_mem_cons.mpr ⟨xm_0_151, List.forall_mem_cons.mpr ⟨xm_0_157, List.forall_mem_cons.mpr ⟨xm_0_161, List.forall_mem_cons.mpr ⟨xm_0_164, List.forall_mem_cons.mpr ⟨xm_0_168, List.forall_mem_cons.mpr ⟨xm_0_173, List.forall_mem_cons.mpr ⟨xm_0_178, List.forall_mem_cons.mpr ⟨xm_0_181, List.forall_mem_cons.mpr ⟨xm_0_184, List.forall_mem_cons.mpr ⟨xm_0_188, List.forall_mem_cons.mpr ⟨xm_0_194, List.forall_mem_cons.mpr ⟨xm_0_198, List.forall_mem_cons.mpr ⟨xm_0_202, List.forall_mem_cons.mpr ⟨xm_0_206, List.forall_mem_cons.mpr ⟨xm_0_209, List.forall_mem_cons.mpr ⟨xm_0_213, List.forall_mem_cons.mpr ⟨xm_0_217, List.forall_mem_cons.mpr ⟨xm_0_230, List.forall_mem_cons.mpr ⟨xm_0_235, List.forall_mem_cons.mpr ⟨xm_0_239, List.forall_mem_cons.mpr ⟨xm_0_246, List.forall_mem_cons.mpr ⟨xm_1_21, List.forall_mem_cons.mpr ⟨xm_1_28, List.forall_mem_cons.mpr ⟨xm_1_37, List.forall_mem_cons.mpr ⟨xm_1_46, List.forall_mem_cons.mpr ⟨xm_1_49, List.forall_mem_cons.mpr ⟨xm_1_52, List.forall_mem_cons.mpr ⟨xm_2_20, List.forall_mem_cons.mpr ⟨xm_2_30, List.forall_mem_cons.mpr ⟨xm_2_44, List.forall_mem_cons.mpr ⟨xm_3_42, List.forall_mem_cons.mpr ⟨xm_3_45, List.forall_mem_cons.mpr ⟨xm_3_48, List.forall_mem_cons.mpr ⟨xm_3_52, List.forall_mem_cons.mpr ⟨xm_3_56, List.forall_mem_cons.mpr ⟨xm_3_60, List.forall_mem_cons.mpr ⟨xm_3_67, List.forall_mem_cons.mpr ⟨xm_3_71, List.forall_mem_cons.mpr ⟨xm_3_75, List.forall_mem_cons.mpr ⟨xm_3_78, List.forall_mem_cons.mpr ⟨xm_3_81, List.forall_mem_cons.mpr ⟨xm_4_22, List.forall_mem_cons.mpr ⟨xm_4_29, List.forall_mem_cons.mpr ⟨xm_4_35, List.forall_mem_cons.mpr ⟨xm_4_39, List.forall_mem_cons.mpr ⟨xm_5_41, List.forall_mem_cons.mpr ⟨xm_5_47, List.forall_mem_cons.mpr ⟨xm_6_20, List.forall_mem_cons.mpr ⟨xm_6_24, List.forall_mem_cons.mpr ⟨xm_6_28, List.forall_mem_cons.mpr ⟨xm_8_17, List.forall_mem_cons.mpr ⟨xm_8_39, List.forall_mem_cons.mpr ⟨xm_8_43, List.forall_mem_cons.mpr ⟨xm_9_11, List.forall_mem_cons.mpr ⟨xm_9_18, List.forall_mem_cons.mpr ⟨xm_9_25, List.forall_mem_cons.mpr ⟨xm_9_32, List.forall_mem_cons.mpr ⟨xm_9_39, List.forall_mem_cons.mpr ⟨xm_9_48, List.forall_mem_cons.mpr ⟨xm_9_55, List.forall_mem_cons.mpr ⟨xm_9_59, List.forall_mem_cons.mpr ⟨xm_9_63, List.forall_mem_cons.mpr ⟨xm_9_67, List.forall_mem_cons.mpr ⟨xm_9_73, List.forall_mem_cons.mpr ⟨xm_9_76, List.forall_mem_cons.mpr ⟨xm_9_80, List.forall_mem_cons.mpr ⟨xm_9_88, List.forall_mem_cons.mpr ⟨xm_9_91, List.forall_mem_cons.mpr ⟨xm_9_95, List.forall_mem_cons.mpr ⟨xm_9_98, List.forall_mem_cons.mpr ⟨xm_9_102, List.forall_mem_cons.mpr ⟨xm_9_106, List.forall_mem_cons.mpr ⟨xm_9_109, List.forall_mem_cons.mpr ⟨xm_9_112, List.forall_mem_cons.mpr ⟨xm_9_115, List.forall_mem_cons.mpr ⟨xm_9_122, List.forall_mem_cons.mpr ⟨xm_9_126, List.forall_mem_cons.mpr ⟨xm_9_127, List.forall_mem_cons.mpr ⟨xm_9_131, List.forall_mem_cons.mpr ⟨xm_9_134, List.forall_mem_cons.mpr ⟨xm_9_137, List.forall_mem_cons.mpr ⟨xm_9_141, List.forall_mem_cons.mpr ⟨xm_9_142, List.forall_mem_cons.mpr ⟨xm_9_145, List.forall_mem_cons.mpr ⟨xm_9_147, List.forall_mem_cons.mpr ⟨xm_9_159, List.forall_mem_cons.mpr ⟨xm_9_162, List.forall_mem_cons.mpr ⟨xm_9_166, List.forall_mem_cons.mpr ⟨xm_9_170, List.forall_mem_cons.mpr ⟨xm_9_173, List.forall_mem_cons.mpr ⟨xm_9_176, List.forall_mem_cons.mpr ⟨xm_9_191, List.forall_mem_cons.mpr ⟨xm_9_198, List.forall_mem_cons.mpr ⟨xm_10_72, List.forall_mem_cons.mpr ⟨xm_10_76, List.forall_mem_cons.mpr ⟨xm_10_80, List.forall_mem_cons.mpr ⟨xm_10_84, List.forall_mem_cons.mpr ⟨xm_10_87, List.forall_mem_cons.mpr ⟨xm_10_91, List.forall_mem_cons.mpr ⟨xm_10_103, List.forall_mem_cons.mpr ⟨xm_10_106, List.forall_mem_cons.mpr ⟨xm_10_118, List.forall_mem_cons.mpr ⟨xm_10_124, List.forall_mem_cons.mpr ⟨xm_10_135, List.forall_mem_cons.mpr ⟨xm_10_140, List.forall_mem_cons.mpr ⟨xm_10_143, List.forall_mem_cons.mpr ⟨xm_10_146, List.forall_mem_cons.mpr ⟨xm_10_149, List.forall_mem_cons.mpr ⟨xm_10_153, List.forall_mem_cons.mpr ⟨xm_10_157, List.forall_mem_cons.mpr ⟨xm_10_161, List.forall_mem_cons.mpr ⟨xm_10_164, List.forall_mem_cons.mpr ⟨xm_10_167, List.forall_mem_cons.mpr ⟨xm_10_171, List.forall_mem_cons.mpr ⟨xm_10_175, List.forall_mem_cons.mpr ⟨xm_10_179, List.forall_mem_cons.mpr ⟨xm_10_182, List.forall_mem_cons.mpr ⟨xm_10_185, List.forall_mem_cons.mpr ⟨xm_10_188, List.forall_mem_cons.mpr ⟨xm_10_192, List.forall_mem_cons.mpr ⟨xm_10_195, List.forall_mem_cons.mpr ⟨xm_10_198, List.forall_mem_cons.mpr ⟨xm_10_201, List.forall_mem_cons.mpr ⟨xm_10_204, List.forall_mem_cons.mpr ⟨xm_10_207, List.forall_mem_cons.mpr ⟨xm_10_213, List.forall_mem_cons.mpr ⟨xm_10_216, List.forall_mem_cons.mpr ⟨xm_10_219, List.forall_mem_cons.mpr ⟨xm_10_222, List.forall_mem_cons.mpr ⟨xm_10_240, List.forall_mem_cons.mpr ⟨xm_10_243, List.forall_mem_cons.mpr ⟨xm_10_247, List.forall_mem_cons.mpr ⟨xm_10_250, fun _ h => absurd h List.not_mem_nil⟩⟩⟩⟩⟩⟩⟩⟩⟩⟩⟩⟩⟩⟩⟩⟩⟩⟩⟩⟩⟩⟩⟩⟩⟩⟩⟩⟩⟩⟩⟩⟩⟩⟩⟩⟩⟩⟩⟩⟩⟩⟩⟩⟩⟩⟩⟩⟩⟩⟩⟩⟩⟩⟩⟩⟩⟩⟩⟩⟩⟩⟩⟩⟩⟩⟩⟩⟩⟩⟩⟩⟩⟩⟩⟩⟩⟩⟩⟩⟩⟩⟩⟩⟩⟩⟩⟩⟩⟩⟩⟩⟩⟩⟩⟩⟩⟩⟩⟩⟩⟩⟩⟩⟩⟩⟩⟩⟩⟩⟩⟩⟩⟩⟩⟩⟩⟩⟩⟩⟩⟩⟩⟩⟩⟩⟩⟩⟩⟩⟩⟩⟩⟩⟩⟩⟩⟩⟩⟩⟩⟩⟩⟩⟩⟩⟩⟩⟩⟩⟩⟩⟩⟩⟩⟩
end
section
/-! 13.xstep: the small machine's steps, its runs, and Wp -/
def xcol (q : xq) (pc : Nat) : Nat := 512 * xqi q + pc
def xld (chk : xv → Bool) (k pc : Nat) (lv st : List xv) (M : xm) : Option xo := if chk (gv k lv) = true then xgo pc lv (gv k lv :: st) M else none
def xst (chk : xv → Bool) (k pc nL : Nat) (lv st : List xv) (M : xm) : Option xo := match st with
  | v :: t => if chk v = true ∧ k < nL then xgo pc (st1 k v lv) t M else none
  | [] => none
def xsw (chk : xv → Bool) (k pc nL : Nat) (lv st : List xv) (M : xm) : Option xo := match st with
  | v :: t => if chk v = true ∧ k + 1 < nL then xgo pc (st2 k v lv) t M else none
  | [] => none
def xbr (c : Bool) (pc : Nat) (off : Int) (lv st : List xv) (M : xm) : Option xo := if 0 ≤ (pc : Int) + off then xgo (if c = true then ((pc : Int) + off).toNat else pc + 3) lv st M else none
def xtk : Nat → List xv → List xv → Option (List xv × List xv)
  | 0, acc, st => some (acc, st)
  | n + 1, acc, v :: st => xtk n (v :: acc) st
  | _ + 1, _, [] => none
def xcall (q q1 : xq) (pc : Nat) (av lv rest : List xv) (M : xm) : Option xo :=
  if xqF q1 + 1 ≤ xqF q ∧ 8 + (xqn q1 + 11) + xqW q1 ≤ xqW q ∧ cs rest ≤ 8 ∧ (xfl av).length ≤ xqn q1 then some (.inr (.inr (q1, xloc av (xqn q1), (pc + 3, lv, rest, M)))) else none
/-- a call of the kind kd (or its nest mate's kind kn), with a receiver or without -/
def xinv (q : xq) (pc kd kn : Nat) (rcv : Bool) (idx : Nat) (lv st : List xv) (M : xm) : Option xo := match xlk xmL (xqk q) idx with
  | some (kind, na, q1) => if kind = kd ∨ kind = kn then (match xtk na [] st with
    | some (av, rest) => if rcv = true then xR1 rest (fun L rest => if tg L = 1 + xqk q1 ∧ ¬ L = 0 then xcall q q1 pc (vR L :: av) lv rest M else none) else xcall q q1 pc av lv rest M
    | none => none) else none
  | none => none
def xlen (i : Instr) (n : Nat) : Nat := match i with
  | .iload _ | .lload _ | .dload _ | .aload _ | .istore _ | .lstore _ | .dstore _ | .astore _ | .bipush _ | .ldc _ | .newarray _ => 2
  | .sipush _ | .ldc_w _ | .ldc2_w _ | .iinc _ _ | .ifCond _ _ | .if_icmp _ _ | .ifnull _ | .ifnonnull _ | .goto _ | .getfield _ | .putfield _ | .invokevirtual _ | .invokespecial _ | .invokestatic _ | .new _ | .anewarray _ => 3
  | .multianewarray _ _ => 4
  | .tableswitch _ _ _ _ => n
  | _ => 1
def xins (q : xq) (pc : Nat) (lv st : List xv) (M : xm) (i : Instr) : Option xo := match i with
  | .iload_n k => xld isI k (pc + 1) lv st M
  | .iload k => xld isI k (pc + 2) lv st M
  | .lload_n k => xld isJ k (pc + 1) lv st M
  | .lload k => xld isJ k (pc + 2) lv st M
  | .dload_n k => xld isD k (pc + 1) lv st M
  | .dload k => xld isD k (pc + 2) lv st M
  | .aload_n k => xld isR k (pc + 1) lv st M
  | .aload k => xld isR k (pc + 2) lv st M
  | .istore_n k => xst isI k (pc + 1) (xqn q) lv st M
  | .istore k => xst isI k (pc + 2) (xqn q) lv st M
  | .astore_n k => xst isR k (pc + 1) (xqn q) lv st M
  | .astore k => xst isR k (pc + 2) (xqn q) lv st M
  | .lstore_n k => xsw isJ k (pc + 1) (xqn q) lv st M
  | .lstore k => xsw isJ k (pc + 2) (xqn q) lv st M
  | .dstore_n k => xsw isD k (pc + 1) (xqn q) lv st M
  | .dstore k => xsw isD k (pc + 2) (xqn q) lv st M
  | .iinc k c => (match gv k lv with
    | .inl x => if k < xqn q then xgo (pc + 3) (st1 k (vI (x + c)) lv) st M else none
    | _ => none)
  | .iadd => xI2 st (fun a b t => xgo (pc + 1) lv (vI (a + b) :: t) M)
  | .isub => xI2 st (fun a b t => xgo (pc + 1) lv (vI (a - b) :: t) M)
  | .imul => xI2 st (fun a b t => xgo (pc + 1) lv (vI (a * b) :: t) M)
  | .iand => xI2 st (fun a b t => xgo (pc + 1) lv (vI (xiand a b) :: t) M)
  | .ior => xI2 st (fun a b t => xgo (pc + 1) lv (vI (xior a b) :: t) M)
  | .ixor => xI2 st (fun a b t => xgo (pc + 1) lv (vI (xixor a b) :: t) M)
  | .ishl => xI2 st (fun a b t => xgo (pc + 1) lv (vI (xishl a b) :: t) M)
  | .ishr => xI2 st (fun a b t => xgo (pc + 1) lv (vI (xishr a b) :: t) M)
  | .iushr => xI2 st (fun a b t => xgo (pc + 1) lv (vI (xiushr a b) :: t) M)
  | .irem => xI2 st (fun a b t => if wr b = 0 then none else xgo (pc + 1) lv (vI ((wr a).tmod (wr b)) :: t) M)
  | .ineg => xI1 st (fun a t => xgo (pc + 1) lv (vI (-a) :: t) M)
  | .ladd => xJ2 st (fun a b t => xgo (pc + 1) lv (vJ (a + b) :: t) M)
  | .lsub => xJ2 st (fun a b t => xgo (pc + 1) lv (vJ (a - b) :: t) M)
  | .lneg => xJ1 st (fun a t => xgo (pc + 1) lv (vJ (-a) :: t) M)
  | .ldiv => xJ2 st (fun a b t => if w64 b = 0 then none else xgo (pc + 1) lv (vJ ((w64 a).tdiv (w64 b)) :: t) M)
  | .lcmp => xJ2 st (fun a b t => xgo (pc + 1) lv (vI (xlcmp (w64 a) (w64 b)) :: t) M)
  | .dadd => xD2 st (fun a b t => if isNaN64 (FP.dadd a b) = false then xgo (pc + 1) lv (vD (FP.dadd a b) :: t) M else none)
  | .dmul => xD2 st (fun a b t => if isNaN64 (FP.dmul a b) = false then xgo (pc + 1) lv (vD (FP.dmul a b) :: t) M else none)
  | .ddiv => xD2 st (fun a b t => if isNaN64 (FP.ddiv a b) = false then xgo (pc + 1) lv (vD (FP.ddiv a b) :: t) M else none)
  | .dcmp op => xD2 st (fun a b t => xgo (pc + 1) lv (vI (Op.cmpValue (FP.dcmp a b) op).toInt :: t) M)
  | .i2l => xI1 st (fun a t => xgo (pc + 1) lv (vJ (wr a) :: t) M)
  | .l2i => xJ1 st (fun a t => xgo (pc + 1) lv (vI a :: t) M)
  | .i2d => xI1 st (fun a t => xgo (pc + 1) lv (vD (FP.i2d (Int32.ofInt a)) :: t) M)
  | .l2d => xJ1 st (fun a t => xgo (pc + 1) lv (vD (FP.l2d (Int64.ofInt a)) :: t) M)
  | .d2i => xD1 st (fun a t => xgo (pc + 1) lv (vI (FP.d2i a).toInt :: t) M)
  | .d2l => xD1 st (fun a t => xgo (pc + 1) lv (vJ (FP.d2l a).toInt :: t) M)
  | .d2f => xD1 st (fun a t => if isNaN32 (FP.d2f a) = false then xgo (pc + 1) lv (vF (FP.d2f a) :: t) M else none)
  | .f2d => xF1 st (fun a t => if isNaN64 (FP.f2d a) = false then xgo (pc + 1) lv (vD (FP.f2d a) :: t) M else none)
  | .iconst c => xgo (pc + 1) lv (vI c :: st) M
  | .bipush c => xgo (pc + 2) lv (vI (Int8.ofInt c).toInt32.toInt :: st) M
  | .sipush c => xgo (pc + 3) lv (vI (Int16.ofInt c).toInt32.toInt :: st) M
  | .lconst c => xgo (pc + 1) lv (vJ (c : Nat) :: st) M
  | .dconst c => xgo (pc + 1) lv (vD (if (c : Nat) = 0 then FP.dconst0 else FP.dconst1) :: st) M
  | .aconst_null => xgo (pc + 1) lv (vR 0 :: st) M
  | .ldc k => (match xlk xiL (xqk q) k with
    | some v => xgo (pc + 2) lv (vI v :: st) M
    | none => none)
  | .ldc_w k => (match xlk xiL (xqk q) k with
    | some v => xgo (pc + 3) lv (vI v :: st) M
    | none => none)
  | .ldc2_w k => (match xlk xdL (xqk q) k with
    | some v => xgo (pc + 3) lv (vD v :: st) M
    | none => (match xlk xjL (xqk q) k with
      | some v => xgo (pc + 3) lv (vJ v :: st) M
      | none => none))
  | .dup => (match st with
    | v :: t => if xc2 v = false then xgo (pc + 1) lv (v :: v :: t) M else none
    | [] => none)
  | .dup2 => (match st with
    | v :: u :: t => if xc2 v = false ∧ xc2 u = false then xgo (pc + 1) lv (v :: u :: v :: u :: t) M else none
    | _ => none)
  | .pop => (match st with
    | v :: t => if xc2 v = false then xgo (pc + 1) lv t M else none
    | [] => none)
  | .goto off => xjmp pc off lv st M
  | .ifCond c off => xI1 st (fun a t => xbr (xcnd c (wr a) 0) pc off lv t M)
  | .if_icmp c off => xI2 st (fun a b t => xbr (xcnd c (wr a) (wr b)) pc off lv t M)
  | .ifnull off => xR1 st (fun L t => xbr (decide (L = 0)) pc off lv t M)
  | .ifnonnull off => xR1 st (fun L t => xbr (decide (¬ L = 0)) pc off lv t M)
  | .tableswitch dflt lo hi offs => xI1 st (fun a t => if lo ≤ wr a ∧ wr a ≤ hi then (match offs[(wr a - lo).toNat]? with
    | some off => xjmp pc off lv t M
    | none => none) else xjmp pc dflt lv t M)
  | .getfield k => (match xlk xfL (xqk q) k with
    | some (ci, j, kd, _) => xR1 st (fun L t => if tg L = 1 + ci ∧ ¬ L = 0 then (match kd with
      | 0 => xgo (pc + 3) lv (vI (mA M L j) :: t) M
      | 1 => xgo (pc + 3) lv (vD (mB M L j) :: t) M
      | _ => xgo (pc + 3) lv (vR (mR M L j) :: t) M) else none)
    | none => none)
  | .putfield k => (match xlk xfL (xqk q) k with
    | some (ci, j, kd, fin) => if fin = 0 ∨ (fin = 1 ∧ (xqy q).name = "<init>") then (match kd with
      | 0 => xI1 st (fun x t => xR1 t (fun L t => if tg L = 1 + ci ∧ ¬ L = 0 then xgo (pc + 3) lv t (wA M L j x) else none))
      | 1 => xD1 st (fun x t => xR1 t (fun L t => if tg L = 1 + ci ∧ ¬ L = 0 then xgo (pc + 3) lv t (wB M L j x) else none))
      | _ => xR1 st (fun x t => xR1 t (fun L t => if tg L = 1 + ci ∧ ¬ L = 0 then xgo (pc + 3) lv t (wR M L j x) else none))) else none
    | none => none)
  | .arraylength => xR1 st (fun L t => if 32 ≤ tg L ∧ tg L < 39 ∧ ¬ L = 0 then xgo (pc + 1) lv (vI (ln L) :: t) M else none)
  | .iaload => xI1 st (fun i t => xR1 t (fun L t => if tg L = 32 ∧ 0 ≤ wr i ∧ wr i < ln L then xgo (pc + 1) lv (vI (mA M L (wr i).toNat) :: t) M else none))
  | .baload => xI1 st (fun i t => xR1 t (fun L t => if tg L = 34 ∧ 0 ≤ wr i ∧ wr i < ln L then xgo (pc + 1) lv (vI (mA M L (wr i).toNat) :: t) M else none))
  | .daload => xI1 st (fun i t => xR1 t (fun L t => if tg L = 33 ∧ 0 ≤ wr i ∧ wr i < ln L then xgo (pc + 1) lv (vD (mB M L (wr i).toNat) :: t) M else none))
  | .aaload => xI1 st (fun i t => xR1 t (fun L t => if (35 ≤ tg L ∧ tg L < 39) ∧ 0 ≤ wr i ∧ wr i < ln L then xgo (pc + 1) lv (vR (mR M L (wr i).toNat) :: t) M else none))
  | .iastore => xI1 st (fun x t => xI1 t (fun i t => xR1 t (fun L t => if tg L = 32 ∧ 0 ≤ wr i ∧ wr i < ln L then xgo (pc + 1) lv t (wA M L (wr i).toNat x) else none)))
  | .bastore => xI1 st (fun x t => xI1 t (fun i t => xR1 t (fun L t => if tg L = 34 ∧ 0 ≤ wr i ∧ wr i < ln L ∧ (x = 0 ∨ x = 1) then xgo (pc + 1) lv t (wA M L (wr i).toNat x) else none)))
  | .dastore => xD1 st (fun x t => xI1 t (fun i t => xR1 t (fun L t => if tg L = 33 ∧ 0 ≤ wr i ∧ wr i < ln L then xgo (pc + 1) lv t (wB M L (wr i).toNat x) else none)))
  | .aastore => xR1 st (fun x t => xI1 t (fun i t => xR1 t (fun L t => if (35 ≤ tg L ∧ tg L < 38) ∧ 0 ≤ wr i ∧ wr i < ln L ∧ (x = 0 ∨ tg x = xel (tg L)) then xgo (pc + 1) lv t (wR M L (wr i).toNat x) else none)))
  | .new k => (match xlk xnL (xqk q) k with
    | some ci => if xcol q pc < 131072 then xgo (pc + 3) lv (vR (na M (1 + ci) 0 (xcol q pc)) :: st) (nw M (1 + ci) 0 (xcol q pc) (lz_nF ci)) else none
    | none => none)
  | .newarray .int => xI1 st (fun x t => if 0 ≤ wr x ∧ wr x < 32768 ∧ xcol q pc < 131072 then xgo (pc + 2) lv (vR (na M 32 (wr x).toNat (xcol q pc)) :: t) (nw M 32 (wr x).toNat (xcol q pc) (wr x).toNat) else none)
  | .newarray .double => xI1 st (fun x t => if 0 ≤ wr x ∧ wr x < 32768 ∧ xcol q pc < 131072 then xgo (pc + 2) lv (vR (na M 33 (wr x).toNat (xcol q pc)) :: t) (nw M 33 (wr x).toNat (xcol q pc) (wr x).toNat) else none)
  | .newarray .boolean => xI1 st (fun x t => if 0 ≤ wr x ∧ wr x < 32768 ∧ xcol q pc < 131072 then xgo (pc + 2) lv (vR (na M 34 (wr x).toNat (xcol q pc)) :: t) (nw M 34 (wr x).toNat (xcol q pc) (wr x).toNat) else none)
  | .anewarray k => (match xlk xaL (xqk q) k with
    | some ty => xI1 st (fun x t => if 0 ≤ wr x ∧ wr x < 32768 ∧ xcol q pc < 131072 then xgo (pc + 3) lv (vR (na M (32 + ty) (wr x).toNat (xcol q pc)) :: t) (nw M (32 + ty) (wr x).toNat (xcol q pc) (wr x).toNat) else none)
    | none => none)
  | .multianewarray k d => (match xlk xgL (xqk q) k with
    | some _ => xI2 st (fun x y t => if d = 2 ∧ (0 ≤ wr x ∧ wr x < 32768) ∧ (0 ≤ wr y ∧ wr y < 32768) ∧ xcol q pc < 131072 then xgo (pc + 4) lv (vR (na M 38 (wr x).toNat (xcol q pc)) :: t) (nws (nw M 38 (wr x).toNat (xcol q pc) (wr x).toNat) (na M 38 (wr x).toNat (xcol q pc)) (wr y).toNat (xcol q pc) (wr x).toNat) else none)
    | none => none)
  | .ireturn => (match st with
    | [.inl x] => (match xqr q with
      | some .int => xrt (some (vI x)) M
      | some .boolean => if x = 0 ∨ x = 1 then xrt (some (vI x)) M else none
      | _ => none)
    | _ => none)
  | .lreturn => (match st with
    | [.inr (.inl x)] => (match xqr q with
      | some .long => xrt (some (vJ x)) M
      | _ => none)
    | _ => none)
  | .dreturn => (match st with
    | [.inr (.inr (.inl x))] => (match xqr q with
      | some .double => xrt (some (vD x)) M
      | _ => none)
    | _ => none)
  | .areturn => (match st with
    | [.inr (.inr (.inr (.inr (.inl x))))] => (match xqr q with
      | some (.object _) => xrt (some (vR x)) M
      | _ => none)
    | _ => none)
  | .return_ => (match st with
    | [] => (match xqr q with
      | none => xrt none M
      | _ => none)
    | _ => none)
  | .invokevirtual k => xinv q pc 1 1 true k lv st M
  | .invokestatic k => (match xlk xyL (xqk q) k with
    | some _ => (match st with
      | .inl n :: .inl dp :: .inr (.inr (.inr (.inr (.inl Ld)))) :: .inl sp :: .inr (.inr (.inr (.inr (.inl Ls)))) :: t => if (tg Ls = 32 ∧ tg Ld = 32 ∧ 0 ≤ wr sp ∧ 0 ≤ wr dp ∧ 0 ≤ wr n ∧ wr sp + wr n ≤ ln Ls ∧ wr dp + wr n ≤ ln Ld) ∧ 1 ≤ xqF q ∧ cs t + 18 ≤ xqW q then xgo (pc + 3) lv t (wC M Ls (wr sp).toNat Ld (wr dp).toNat (wr n).toNat) else none
      | _ => none)
    | none => xinv q pc 0 3 false k lv st M)
  | .invokespecial k => (match xlk xoL (xqk q) k with
    | some _ => xR1 st (fun L t => if ¬ L = 0 ∧ 1 ≤ xqF q ∧ cs t + 12 ≤ xqW q then xgo (pc + 3) lv t M else none)
    | none => xinv q pc 2 4 true k lv st M)
  | _ => none
def xstep (q : xq) (pc : Nat) (lv st : List xv) (M : xm) : Option xo := match decode (xqc q) pc with
  | .ok (i, n) => if n = xlen i n then xins q pc lv st M i else none
  | .error _ => none
def xex : Nat → xq → Nat → List xv → List xv → xm → Option (Option xv × xm)
  | 0, _, _, _, _, _ => none
  | f + 1, q, pc, lv, st, M => match xstep q pc lv st M with
    | none => none
    | some (.inl (pc', lv', st', M')) => xex f q pc' lv' st' M'
    | some (.inr (.inl r)) => some r
    | some (.inr (.inr (q', lv0, (pc', lv', st', M')))) => match xex f q' 0 lv0 [] M' with
      | none => none
      | some (r, M1) => xex f q pc' lv' (r.toList ++ st') M1
theorem xex_mono : ∀ (f : Nat) (q : xq) (pc : Nat) (lv st : List xv) (M : xm) (x : Option xv × xm), xex f q pc lv st M = some x → xex (f + 1) q pc lv st M = some x
  | 0, _, _, _, _, _, _, h => by cases h
  | f + 1, q, pc, lv, st, M, x, h => by
    rw [xex] at h ⊢
    cases hs : xstep q pc lv st M with
    | none => rw [hs] at h; cases h
    | some o =>
      rw [hs] at h
      rcases o with ⟨pc', lv', st', M'⟩ | r | ⟨q', lv0, pc', lv', st', M'⟩
      · exact xex_mono f _ _ _ _ _ _ h
      · exact h
      · simp only [] at h ⊢
        cases h1 : xex f q' 0 lv0 [] M' with
        | none => rw [h1] at h; cases h
        | some y =>
          rw [h1] at h
          rw [xex_mono f _ _ _ _ _ _ h1]
          exact xex_mono f _ _ _ _ _ _ h
theorem xex_le {f g : Nat} (hfg : f ≤ g) {q : xq} {pc : Nat} {lv st : List xv} {M : xm} {x : Option xv × xm} (h : xex f q pc lv st M = some x) : xex g q pc lv st M = some x := by
  induction hfg with
  | refl => exact h
  | step _ ih => exact xex_mono _ _ _ _ _ _ _ ih
def Wp (q : xq) (pc : Nat) (lv st : List xv) (M : xm) (Q : Option xv → xm → Prop) : Prop := ∃ (f : Nat) (r : Option xv) (M' : xm), xex f q pc lv st M = some (r, M') ∧ Q r M'
def cont (q : xq) (pc : Nat) (lv st : List xv) (Q : Option xv → xm → Prop) (r : Option xv) (M : xm) : Prop := Wp q pc lv (r.toList ++ st) M Q
theorem cont_n {q : xq} {pc : Nat} {lv st : List xv} {Q : Option xv → xm → Prop} {M : xm} : cont q pc lv st Q none M ↔ Wp q pc lv st M Q := Iff.rfl
theorem cont_s {q : xq} {pc : Nat} {lv st : List xv} {Q : Option xv → xm → Prop} {M : xm} {v : xv} : cont q pc lv st Q (some v) M ↔ Wp q pc lv (v :: st) M Q := Iff.rfl
theorem Wp_mono {q : xq} {pc : Nat} {lv st : List xv} {M : xm} {Q Q' : Option xv → xm → Prop} (h : Wp q pc lv st M Q) (hq : ∀ r M', Q r M' → Q' r M') : Wp q pc lv st M Q' := by
  obtain ⟨f, r, M', h1, h2⟩ := h
  exact ⟨f, r, M', h1, hq r M' h2⟩
theorem Wp_go {q : xq} {pc pc' : Nat} {lv st lv' st' : List xv} {M M' : xm} {Q : Option xv → xm → Prop} (h : xstep q pc lv st M = xgo pc' lv' st' M') : Wp q pc lv st M Q ↔ Wp q pc' lv' st' M' Q := by
  constructor
  · rintro ⟨f, r, M1, h1, h2⟩
    cases f with
    | zero => cases h1
    | succ f =>
      rw [xex, h] at h1
      exact ⟨f, r, M1, h1, h2⟩
  · rintro ⟨f, r, M1, h1, h2⟩
    refine ⟨f + 1, r, M1, ?_, h2⟩
    rw [xex, h]
    exact h1
theorem Wp_no {q : xq} {pc : Nat} {lv st : List xv} {M : xm} {Q : Option xv → xm → Prop} (h : xstep q pc lv st M = none) : ¬ Wp q pc lv st M Q := by
  rintro ⟨f, r, M1, h1, h2⟩
  cases f with
  | zero => cases h1
  | succ f =>
    rw [xex, h] at h1
    cases h1
theorem Wp_ret {q : xq} {pc : Nat} {lv st : List xv} {M M' : xm} {r : Option xv} {Q : Option xv → xm → Prop} (h : xstep q pc lv st M = xrt r M') : Wp q pc lv st M Q ↔ Q r M' := by
  constructor
  · rintro ⟨f, r, M1, h1, h2⟩
    cases f with
    | zero => cases h1
    | succ f =>
      rw [xex, h] at h1
      cases h1
      exact h2
  · intro h2
    refine ⟨1, r, M', ?_, h2⟩
    rw [xex, h]
    rfl
theorem Wp_call {q q1 : xq} {pc pc' : Nat} {lv st lv0 lv' st' : List xv} {M M' : xm} {Q : Option xv → xm → Prop} (h : xstep q pc lv st M = some (.inr (.inr (q1, lv0, (pc', lv', st', M'))))) : Wp q pc lv st M Q ↔ Wp q1 0 lv0 [] M' (cont q pc' lv' st' Q) := by
  constructor
  · rintro ⟨f, r, M1, h1, h2⟩
    cases f with
    | zero => cases h1
    | succ f =>
      rw [xex, h] at h1
      simp only [] at h1
      cases h3 : xex f q1 0 lv0 [] M' with
      | none => rw [h3] at h1; cases h1
      | some y =>
        rw [h3] at h1
        exact ⟨f, y.1, y.2, h3, f, r, M1, h1, h2⟩
  · rintro ⟨f, r1, M1, h1, g, r, M2, h2, h3⟩
    refine ⟨f + g + 1, r, M2, ?_, h3⟩
    rw [xex, h]
    simp only []
    rw [xex_le (Nat.le_add_right f g) h1]
    exact xex_le (Nat.le_add_left g f) h2
theorem Wp_if {q : xq} {pc pc' : Nat} {lv st lv' st' : List xv} {M M' : xm} {Q : Option xv → xm → Prop} {c : Prop} [Decidable c] (h : xstep q pc lv st M = if c then xgo pc' lv' st' M' else none) : Wp q pc lv st M Q ↔ c ∧ Wp q pc' lv' st' M' Q := by
  by_cases hc : c
  · rw [if_pos hc] at h
    rw [Wp_go h]
    exact ⟨fun x => ⟨hc, x⟩, fun x => x.2⟩
  · rw [if_neg hc] at h
    exact ⟨fun x => absurd x (Wp_no h), fun x => absurd x.1 hc⟩
end
section
/-! 14.sim: what the small machine does, the machine does -/
def xlv : Nat → List xv → List (Nat × Value)
  | _, [] => []
  | i, v :: l => if isX v = true then xlv (i + 1) l else (i, xval v) :: xlv (i + 1) l
def xA (M : xm) : lz_A := fun L k => Int32.ofInt (mA M L k)
def xR (M : xm) : lz_R := fun L k => if mR M L k = 0 then none else some (mR M L k)
def xT (M : xm) : lz_T := fun L => if L % 64 ≠ 0 ∧ L / 274877906944 < mC M (L % 274877906944) then (L % 64, L / 64 % 32768) else (0, 0)
theorem xT_of {M : xm} {L : Nat} (h : (xT M L).1 ≠ 0) : xT M L = (tg L, ln L) := by
  unfold xT at h ⊢
  split at h
  · rename_i hq
    rw [if_pos hq]
    rfl
  · exact absurd rfl h
theorem xval_cat (v : xv) : (xval v).category = if xc2 v = true then 2 else 1 := by
  rcases v with x | x | x | x | x | x
  · rfl
  · rfl
  · rfl
  · rfl
  · show (if x = 0 then Value.null else Value.ref x).category = 1
    split <;> rfl
  · rfl
theorem xval_r {L : Nat} (h : ¬ L = 0) : xval (vR L) = .ref L := if_neg h
theorem xval_0 : xval (vR 0) = .null := rfl
theorem xval_rf (L : Nat) : xval (vR L) = va_rf (if L = 0 then none else some L) := by
  by_cases h : L = 0
  · subst h; rfl
  · rw [xval_r h, if_neg h]; rfl
theorem xlv_ge : ∀ (l : List xv) (i : Nat) (q : Nat × Value), q ∈ xlv i l → i ≤ q.1
  | [], _, _, h => absurd h List.not_mem_nil
  | v :: l, i, q, h => by
    unfold xlv at h
    split at h
    · have := xlv_ge l (i + 1) q h
      omega
    · rcases List.mem_cons.mp h with e | e
      · rw [e]; exact Nat.le_refl _
      · have := xlv_ge l (i + 1) q e
        omega
theorem xlv_at : ∀ (l : List xv) (i k : Nat), isX (gv k l) = false → (i + k, xval (gv k l)) ∈ xlv i l
  | [], _, _, h => by simp [gv, vX, isX] at h
  | v :: l, i, 0, h => by
    unfold xlv
    rw [if_neg (by rw [show isX v = false from h]; simp)]
    exact List.mem_cons_self
  | v :: l, i, k + 1, h => by
    have ih := xlv_at l (i + 1) k h
    rw [show i + 1 + k = i + (k + 1) by omega] at ih
    unfold xlv
    split
    · exact ih
    · exact List.mem_cons_of_mem _ ih
theorem xlv_pos {l : List xv} {k : Nat} (h : isX (gv k l) = false) : ∃ j : Nat, (xlv 0 l)[j]? = some (k, xval (gv k l)) := by
  have := xlv_at l 0 k h
  rw [Nat.zero_add] at this
  exact List.getElem?_of_mem this
theorem xlv_in {v : xv} {l : List xv} {i : Nat} {q : Nat × Value} (h : q ∈ xlv i (v :: l)) : (isX v = false ∧ q = (i, xval v)) ∨ q ∈ xlv (i + 1) l := by
  unfold xlv at h
  split at h
  · exact Or.inr h
  · rename_i hv
    rcases List.mem_cons.mp h with e | e
    · exact Or.inl ⟨by simpa using hv, e⟩
    · exact Or.inr e
theorem xlv_cons {v : xv} {l : List xv} {i : Nat} {q : Nat × Value} (h : q ∈ xlv (i + 1) l) : q ∈ xlv i (v :: l) := by
  unfold xlv
  split
  · exact h
  · exact List.mem_cons_of_mem _ h
theorem xlv_hd {v : xv} {l : List xv} {i : Nat} (h : isX v = false) : (i, xval v) ∈ xlv i (v :: l) := by
  unfold xlv
  rw [if_neg (by rw [h]; simp)]
  exact List.mem_cons_self
theorem cl_in {a : xv} (h : isX (cl a) = false) : xc2 a = false ∧ isX a = false ∧ cl a = a := by
  unfold cl at h ⊢
  split at h
  · simp [vX, isX] at h
  · rename_i hc
    rw [if_neg hc]
    exact ⟨by simpa using hc, h, rfl⟩
theorem lz_p1_i {i : Nat} {q : Nat × Value} (h1 : q.1 ≠ i) (h2 : q.1 + 1 = i → ¬ q.2.category = 2) : lz_p1 i q = true := by
  unfold lz_p1
  by_cases h : q.1 + 1 = i
  · simp [h1, h2 h]
  · simp [h1, h]
theorem lz_p2_i {i : Nat} {q : Nat × Value} (h1 : q.1 ≠ i) (h3 : q.1 ≠ i + 1) (h2 : q.1 + 1 = i → ¬ q.2.category = 2) : lz_p2 i q = true := by
  unfold lz_p2
  by_cases h : q.1 + 1 = i
  · simp [h1, h3, h2 h]
  · simp [h1, h3, h]
theorem xlv_st1 (v : xv) : ∀ (k : Nat) (l : List xv) (i : Nat) (q : Nat × Value), q ∈ xlv i (st1 k v l) → q = (i + k, xval v) ∨ (q ∈ xlv i l ∧ lz_p1 (i + k) q = true)
  | 0, [], _, _, h => absurd h List.not_mem_nil
  | 1, [], _, _, h => absurd h List.not_mem_nil
  | _ + 2, [], _, _, h => absurd h List.not_mem_nil
  | 0, a :: l, i, q, h => by
    rcases xlv_in (show q ∈ xlv i (v :: l) from h) with ⟨_, e⟩ | e
    · exact Or.inl e
    · have := xlv_ge _ _ _ e
      exact Or.inr ⟨xlv_cons e, lz_p1_i (by omega) (by omega)⟩
  | 1, a :: l, i, q, h => by
    rcases xlv_in (show q ∈ xlv i (cl a :: st1 0 v l) from h) with ⟨hx, e⟩ | e
    · obtain ⟨h1, h2, h3⟩ := cl_in hx
      rw [h3] at e
      subst e
      refine Or.inr ⟨xlv_hd h2, lz_p1_i (by show i ≠ i + 1; omega) (fun _ => ?_)⟩
      rw [xval_cat, h1]
      decide
    · rcases xlv_st1 v 0 l (i + 1) q e with r | ⟨r1, r2⟩
      · exact Or.inl r
      · exact Or.inr ⟨xlv_cons r1, r2⟩
  | k + 2, a :: l, i, q, h => by
    rcases xlv_in (show q ∈ xlv i (a :: st1 (k + 1) v l) from h) with ⟨hx, e⟩ | e
    · subst e
      exact Or.inr ⟨xlv_hd hx, lz_p1_i (by show i ≠ i + (k + 2); omega) (fun z => by have z : i + 1 = i + (k + 2) := z; omega)⟩
    · rcases xlv_st1 v (k + 1) l (i + 1) q e with r | ⟨r1, r2⟩
      · rw [show i + 1 + (k + 1) = i + (k + 2) by omega] at r
        exact Or.inl r
      · rw [show i + 1 + (k + 1) = i + (k + 2) by omega] at r2
        exact Or.inr ⟨xlv_cons r1, r2⟩
theorem xlv_st2 (v : xv) : ∀ (k : Nat) (l : List xv) (i : Nat) (q : Nat × Value), q ∈ xlv i (st2 k v l) → q = (i + k, xval v) ∨ (q ∈ xlv i l ∧ lz_p2 (i + k) q = true)
  | 0, [], _, _, h => absurd h List.not_mem_nil
  | 0, [_], _, _, h => absurd h List.not_mem_nil
  | 1, [], _, _, h => absurd h List.not_mem_nil
  | _ + 2, [], _, _, h => absurd h List.not_mem_nil
  | 0, a :: a2 :: l, i, q, h => by
    rcases xlv_in (show q ∈ xlv i (v :: vX :: l) from h) with ⟨_, e⟩ | e
    · exact Or.inl e
    · rcases xlv_in e with ⟨h0, _⟩ | e
      · simp [vX, isX] at h0
      · have := xlv_ge _ _ _ e
        exact Or.inr ⟨xlv_cons (xlv_cons e), lz_p2_i (by omega) (by omega) (by omega)⟩
  | 1, a :: l, i, q, h => by
    have h : q ∈ xlv i (cl a :: st2 0 v l) := by
      cases l <;> exact h
    rcases xlv_in h with ⟨hx, e⟩ | e
    · obtain ⟨h1, h2, h3⟩ := cl_in hx
      rw [h3] at e
      subst e
      refine Or.inr ⟨xlv_hd h2, lz_p2_i (by show i ≠ i + 1; omega) (by show i ≠ i + 1 + 1; omega) (fun _ => ?_)⟩
      rw [xval_cat, h1]
      decide
    · rcases xlv_st2 v 0 l (i + 1) q e with r | ⟨r1, r2⟩
      · exact Or.inl r
      · exact Or.inr ⟨xlv_cons r1, r2⟩
  | k + 2, a :: l, i, q, h => by
    have h : q ∈ xlv i (a :: st2 (k + 1) v l) := by
      cases l <;> exact h
    rcases xlv_in h with ⟨hx, e⟩ | e
    · subst e
      exact Or.inr ⟨xlv_hd hx, lz_p2_i (by show i ≠ i + (k + 2); omega) (by show i ≠ i + (k + 2) + 1; omega) (fun z => by have z : i + 1 = i + (k + 2) := z; omega)⟩
    · rcases xlv_st2 v (k + 1) l (i + 1) q e with r | ⟨r1, r2⟩
      · rw [show i + 1 + (k + 1) = i + (k + 2) by omega] at r
        exact Or.inl r
      · rw [show i + 1 + (k + 1) = i + (k + 2) by omega] at r2
        exact Or.inr ⟨xlv_cons r1, r2⟩
theorem xlv_s1 {k : Nat} {v : xv} {l : List xv} : ∀ q ∈ xlv 0 (st1 k v l), q ∈ (k, xval v) :: (xlv 0 l).filter (lz_p1 k) := fun q hq => by
  rcases xlv_st1 v k l 0 q hq with e | ⟨e1, e2⟩
  · rw [Nat.zero_add] at e
    rw [e]
    exact List.mem_cons_self
  · rw [Nat.zero_add] at e2
    exact List.mem_cons_of_mem _ (List.mem_filter.mpr ⟨e1, e2⟩)
theorem xlv_s2 {k : Nat} {v : xv} {l : List xv} : ∀ q ∈ xlv 0 (st2 k v l), q ∈ (k, xval v) :: (xlv 0 l).filter (lz_p2 k) := fun q hq => by
  rcases xlv_st2 v k l 0 q hq with e | ⟨e1, e2⟩
  · rw [Nat.zero_add] at e
    rw [e]
    exact List.mem_cons_self
  · rw [Nat.zero_add] at e2
    exact List.mem_cons_of_mem _ (List.mem_filter.mpr ⟨e1, e2⟩)
theorem xlv_rep : ∀ (n i : Nat), xlv i (List.replicate n vX) = []
  | 0, _ => rfl
  | n + 1, i => by
    rw [List.replicate_succ]
    unfold xlv
    rw [if_pos (show isX vX = true from rfl)]
    exact xlv_rep n (i + 1)
theorem xlv_args : ∀ (av : List xv) (i n : Nat), ∀ q ∈ xlv i (xfl av ++ List.replicate n vX), q ∈ lv_args i (av.map xval)
  | [], i, n, q, h => by
    rw [show xfl [] ++ List.replicate n vX = List.replicate n vX from rfl, xlv_rep] at h
    exact absurd h List.not_mem_nil
  | v :: l, i, n, q, h => by
    rw [List.map_cons]
    unfold lv_args
    rw [xval_cat]
    unfold xfl at h
    by_cases hc : xc2 v = true
    · rw [if_pos hc] at h
      rw [if_pos hc, if_pos rfl]
      rcases xlv_in h with ⟨_, e⟩ | e
      · rw [e]; exact List.mem_cons_self
      · rcases xlv_in e with ⟨h0, _⟩ | e
        · simp [vX, isX] at h0
        · exact List.mem_cons_of_mem _ (xlv_args l (i + 2) n q e)
    · rw [if_neg hc] at h
      rw [if_neg hc, if_neg (by decide)]
      rcases xlv_in h with ⟨_, e⟩ | e
      · rw [e]; exact List.mem_cons_self
      · exact List.mem_cons_of_mem _ (xlv_args l (i + 1) n q e)
theorem xfl_len : ∀ av : List xv, (lg_sl (av.map xval)).length = (xfl av).length
  | [] => rfl
  | v :: l => by
    have ih := xfl_len l
    unfold lg_sl at ih ⊢
    rw [List.map_cons, List.flatMap_cons, List.length_append, ih, xval_cat, show xfl (v :: l) = if xc2 v = true then v :: vX :: xfl l else v :: xfl l from rfl]
    by_cases hc : xc2 v = true
    · rw [if_pos hc, if_pos hc, if_pos rfl, List.length_cons, List.length_cons, List.length_cons, List.length_cons, List.length_nil]
      omega
    · rw [if_neg hc, if_neg hc, if_neg (by decide), List.length_cons, List.length_cons, List.length_nil]
      omega
theorem cs_sum : ∀ st : List xv, ((st.map xval).map fun v => v.category).sum = cs st
  | [] => rfl
  | v :: l => by
    rw [List.map_cons, List.map_cons, List.sum_cons, cs_sum l, xval_cat]
    rfl
theorem xtk_st : ∀ (n : Nat) (acc st a r : List xv), xtk n acc st = some (a, r) → acc.reverse ++ st = a.reverse ++ r ∧ a.length = acc.length + n
  | 0, acc, st, a, r, h => by
    cases h
    exact ⟨rfl, rfl⟩
  | n + 1, acc, [], a, r, h => by cases h
  | n + 1, acc, v :: st, a, r, h => by
    obtain ⟨h1, h2⟩ := xtk_st n (v :: acc) st a r h
    refine ⟨?_, by rw [h2, List.length_cons]; omega⟩
    rw [← h1]
    simp
/-! numbers -/
theorem wr_eq (x : Int) : (Int32.ofInt x).toInt = wr x := by
  rw [Int32.toInt_ofInt]
  unfold wr
  show Int.bmod x 4294967296 = _
  rw [Int.bmod_def]
  split <;> omega
theorem w64_eq (x : Int) : (Int64.ofInt x).toInt = w64 x := by
  rw [Int64.toInt_ofInt]
  unfold w64
  show Int.bmod x 18446744073709551616 = _
  rw [Int.bmod_def]
  split <;> omega
theorem xvt (x : Int32) : xval (vI x.toInt) = .int x := by
  show Value.int (Int32.ofInt x.toInt) = _
  rw [Int32.ofInt_toInt]
theorem xvtJ (x : Int64) : xval (vJ x.toInt) = .long x := by
  show Value.long (Int64.ofInt x.toInt) = _
  rw [Int64.ofInt_toInt]
theorem wr_lt (a b : Int) : (Int32.ofInt a < Int32.ofInt b) ↔ wr a < wr b := by rw [← wr_eq, ← wr_eq]; exact Int32.lt_iff_toInt_lt
theorem wr_le (a b : Int) : (Int32.ofInt a ≤ Int32.ofInt b) ↔ wr a ≤ wr b := by rw [← wr_eq, ← wr_eq]; exact Int32.le_iff_toInt_le
theorem wr_eqi (a b : Int) : (Int32.ofInt a = Int32.ofInt b) ↔ wr a = wr b := by rw [← wr_eq, ← wr_eq]; exact Int32.toInt_inj.symm
theorem wr_0 : wr 0 = 0 := by decide
theorem xrem {a b : Int} : Int32.ofInt a - Int32.ofInt a / Int32.ofInt b * Int32.ofInt b = Int32.ofInt ((wr a).tmod (wr b)) := by
  rw [← wr_eq a, ← wr_eq b, ← rem_toInt, Int32.ofInt_toInt]
theorem xdivJ {a b : Int} : Int64.ofInt a / Int64.ofInt b = Int64.ofInt ((w64 a).tdiv (w64 b)) := by
  apply Int64.toInt_inj.mp
  rw [Int64.toInt_div, w64_eq a, w64_eq b, Int64.toInt_ofInt]
theorem xcmpJ {a b : Int} : lg_cmp (Int64.ofInt a) (Int64.ofInt b) = Int32.ofInt (xlcmp (w64 a) (w64 b)) := by
  unfold lg_cmp xlcmp
  have h1 : (Int64.ofInt a > Int64.ofInt b) ↔ w64 b < w64 a := by rw [← w64_eq, ← w64_eq]; exact Int64.lt_iff_toInt_lt
  have h2 : (Int64.ofInt a = Int64.ofInt b) ↔ w64 a = w64 b := by rw [← w64_eq, ← w64_eq]; exact Int64.toInt_inj.symm
  by_cases c1 : w64 b < w64 a
  · rw [if_pos (h1.mpr c1), if_neg (by omega), if_neg (by omega)]
    rfl
  · rw [if_neg (fun z => c1 (h1.mp z))]
    by_cases c2 : w64 a = w64 b
    · rw [if_pos (h2.mpr c2), if_neg (by omega), if_pos c2]
      rfl
    · rw [if_neg (fun z => c2 (h2.mp z)), if_pos (by omega)]
      rfl
theorem n64_of {x : UInt64} (h : isNaN64 x = false) : vf_n64 x := by
  unfold isNaN64 at h
  unfold vf_n64
  simpa using h
theorem n32_of {x : UInt32} (h : isNaN32 x = false) : vf_n32 x := by
  unfold isNaN32 at h
  unfold vf_n32
  simpa using h
theorem xi2l (a : Int) : (Int32.ofInt a).toInt64 = Int64.ofInt (wr a) := by
  rw [← wr_eq]
  apply Int64.toInt_inj.mp
  rw [Int32.toInt_toInt64, w64_eq]
  have := Int32.toInt_lt (Int32.ofInt a)
  have := Int32.le_toInt (Int32.ofInt a)
  unfold w64
  omega
theorem xl2i (a : Int) : (Int64.ofInt a).toInt32 = Int32.ofInt a := by
  apply Int32.toInt_inj.mp
  rw [Int64.toInt_toInt32, w64_eq, Int32.toInt_ofInt]
  show Int.bmod _ 4294967296 = Int.bmod _ 4294967296
  rw [Int.bmod_def, Int.bmod_def]
  unfold w64
  split <;> split <;> omega
theorem xnI {i : Int} (h0 : 0 ≤ wr i) : Int32.ofInt i = nI (wr i).toNat := by
  apply Int32.toInt_inj.mp
  have h1 : wr i < 2147483648 := by unfold wr; omega
  rw [nI_toInt (by omega), wr_eq]
  omega
theorem wr_ltz (a : Int) : (Int32.ofInt a < 0) ↔ wr a < 0 := by have h := wr_lt a 0; rwa [wr_0] at h
theorem wr_lez (a : Int) : (Int32.ofInt a ≤ 0) ↔ wr a ≤ 0 := by have h := wr_le a 0; rwa [wr_0] at h
theorem wr_gtz (a : Int) : (0 < Int32.ofInt a) ↔ 0 < wr a := by have h := wr_lt 0 a; rwa [wr_0] at h
theorem wr_gez (a : Int) : (0 ≤ Int32.ofInt a) ↔ 0 ≤ wr a := by have h := wr_le 0 a; rwa [wr_0] at h
theorem wr_eqz (a : Int) : (Int32.ofInt a = 0) ↔ wr a = 0 := by have h := wr_eqi a 0; rwa [wr_0] at h
theorem xT_tag {M : xm} {L t : Nat} (h : lz_ok (xT M) (xval (vR L))) (ht : tg L = t) (h0 : ¬ t = 0) : xT M L = (t, ln L) := by
  have hL : ¬ L = 0 := fun z => h0 (by rw [← ht, z]; rfl)
  rw [xval_r hL] at h
  rw [xT_of (h L rfl), ht]
end
section
/-! 15.grow: a row an instruction, over the small machine's state (written by wip/whole/grow.py) -/
section GR
variable {p : Program} {l : Launch} {e : Env} {Rm : Room} {s : State} {m : MethodId} {args : Array Value} {below : List Frame} {meth : Method} {c : Code} {D : va_G} {dA : Nat → ClassId} {b : Nat} {T0 : lz_T} {ad0 : Nat → Nat} {Q : State → Prop} {kc ks : Nat} {M : xm} {pc : Nat} {lv st : List xv} {q : xq}
abbrev ZC (q : xq) (p : Program) (s : State) (m : MethodId) (args : Array Value) (meth : Method) (c : Code) (D : va_G) (dA : Nat → ClassId) (b : Nat) : Prop := lz_C p s m args meth c D dA b (xqy q) (xqc q) (xqn q) (xqr q)
abbrev ZZ (q : xq) (p : Program) (l : Launch) (e : Env) (Rm : Room) (s : State) (m : MethodId) (args : Array Value) (below : List Frame) (meth : Method) (c : Code) (D : va_G) (dA : Nat → ClassId) (b : Nat) (T0 : lz_T) (ad0 : Nat → Nat) (Q : State → Prop) (kc ks : Nat) (M : xm) (pc : Nat) (lv st : List xv) : Prop :=
  lz_Z p l e Rm s m args below meth c D dA b (xqn q) T0 ad0 Q kc ks (xT M) (xA M) (mB M) (xR M) pc (xlv 0 lv) (st.map xval)
theorem g_iadd (C : ZC q p s m args meth c D dA b) {x y : Int} (hd : decode (xqc q) pc = .ok (.iadd, 1))  (kk : ZZ q p l e Rm s m args below meth c D dA b T0 ad0 Q kc ks M (pc + 1) lv (vI (x + y) :: st)) : ZZ q p l e Rm s m args below meth c D dA b T0 ad0 Q kc ks M pc lv (vI y :: vI x :: st) := z_iadd C hd (by rw [← Int32.ofInt_add]; exact kk)
theorem g_isub (C : ZC q p s m args meth c D dA b) {x y : Int} (hd : decode (xqc q) pc = .ok (.isub, 1))  (kk : ZZ q p l e Rm s m args below meth c D dA b T0 ad0 Q kc ks M (pc + 1) lv (vI (x - y) :: st)) : ZZ q p l e Rm s m args below meth c D dA b T0 ad0 Q kc ks M pc lv (vI y :: vI x :: st) := z_isub C hd (by rw [← Int32.ofInt_sub]; exact kk)
theorem g_imul (C : ZC q p s m args meth c D dA b) {x y : Int} (hd : decode (xqc q) pc = .ok (.imul, 1))  (kk : ZZ q p l e Rm s m args below meth c D dA b T0 ad0 Q kc ks M (pc + 1) lv (vI (x * y) :: st)) : ZZ q p l e Rm s m args below meth c D dA b T0 ad0 Q kc ks M pc lv (vI y :: vI x :: st) := z_imul C hd (by rw [← Int32.ofInt_mul]; exact kk)
theorem g_iand (C : ZC q p s m args meth c D dA b) {x y : Int} (hd : decode (xqc q) pc = .ok (.iand, 1))  (kk : ZZ q p l e Rm s m args below meth c D dA b T0 ad0 Q kc ks M (pc + 1) lv (vI (xiand x y) :: st)) : ZZ q p l e Rm s m args below meth c D dA b T0 ad0 Q kc ks M pc lv (vI y :: vI x :: st) := z_iand C hd (by unfold ZZ at kk; rw [List.map_cons, xiand, xvt] at kk; exact kk)
theorem g_ior (C : ZC q p s m args meth c D dA b) {x y : Int} (hd : decode (xqc q) pc = .ok (.ior, 1))  (kk : ZZ q p l e Rm s m args below meth c D dA b T0 ad0 Q kc ks M (pc + 1) lv (vI (xior x y) :: st)) : ZZ q p l e Rm s m args below meth c D dA b T0 ad0 Q kc ks M pc lv (vI y :: vI x :: st) := z_ior C hd (by unfold ZZ at kk; rw [List.map_cons, xior, xvt] at kk; exact kk)
theorem g_ixor (C : ZC q p s m args meth c D dA b) {x y : Int} (hd : decode (xqc q) pc = .ok (.ixor, 1))  (kk : ZZ q p l e Rm s m args below meth c D dA b T0 ad0 Q kc ks M (pc + 1) lv (vI (xixor x y) :: st)) : ZZ q p l e Rm s m args below meth c D dA b T0 ad0 Q kc ks M pc lv (vI y :: vI x :: st) := z_ixor C hd (by unfold ZZ at kk; rw [List.map_cons, xixor, xvt] at kk; exact kk)
theorem g_ishl (C : ZC q p s m args meth c D dA b) {x y : Int} (hd : decode (xqc q) pc = .ok (.ishl, 1))  (kk : ZZ q p l e Rm s m args below meth c D dA b T0 ad0 Q kc ks M (pc + 1) lv (vI (xishl x y) :: st)) : ZZ q p l e Rm s m args below meth c D dA b T0 ad0 Q kc ks M pc lv (vI y :: vI x :: st) := z_ishl C hd (by unfold ZZ at kk; rw [List.map_cons, xishl, xvt] at kk; exact kk)
theorem g_ishr (C : ZC q p s m args meth c D dA b) {x y : Int} (hd : decode (xqc q) pc = .ok (.ishr, 1))  (kk : ZZ q p l e Rm s m args below meth c D dA b T0 ad0 Q kc ks M (pc + 1) lv (vI (xishr x y) :: st)) : ZZ q p l e Rm s m args below meth c D dA b T0 ad0 Q kc ks M pc lv (vI y :: vI x :: st) := z_ishr C hd (by unfold ZZ at kk; rw [List.map_cons, xishr, xvt] at kk; exact kk)
theorem g_iushr (C : ZC q p s m args meth c D dA b) {x y : Int} (hd : decode (xqc q) pc = .ok (.iushr, 1))  (kk : ZZ q p l e Rm s m args below meth c D dA b T0 ad0 Q kc ks M (pc + 1) lv (vI (xiushr x y) :: st)) : ZZ q p l e Rm s m args below meth c D dA b T0 ad0 Q kc ks M pc lv (vI y :: vI x :: st) := z_iushr C hd (by unfold ZZ at kk; rw [List.map_cons, xiushr, xvt] at kk; exact kk)
theorem g_irem (C : ZC q p s m args meth c D dA b) {x y : Int} (hd : decode (xqc q) pc = .ok (.irem, 1)) (h0 : ¬ wr y = 0) (kk : ZZ q p l e Rm s m args below meth c D dA b T0 ad0 Q kc ks M (pc + 1) lv (vI ((wr x).tmod (wr y)) :: st)) : ZZ q p l e Rm s m args below meth c D dA b T0 ad0 Q kc ks M pc lv (vI y :: vI x :: st) := z_irem C hd (fun z => h0 (by rw [← wr_eq, z]; rfl)) (by rw [xrem]; exact kk)
theorem g_ineg (C : ZC q p s m args meth c D dA b) {x : Int} (hd : decode (xqc q) pc = .ok (.ineg, 1))  (kk : ZZ q p l e Rm s m args below meth c D dA b T0 ad0 Q kc ks M (pc + 1) lv (vI (-x) :: st)) : ZZ q p l e Rm s m args below meth c D dA b T0 ad0 Q kc ks M pc lv (vI x :: st) := z_ineg C hd (by rw [← Int32.ofInt_neg]; exact kk)
theorem g_ladd (C : ZC q p s m args meth c D dA b) {x y : Int} (hd : decode (xqc q) pc = .ok (.ladd, 1))  (kk : ZZ q p l e Rm s m args below meth c D dA b T0 ad0 Q kc ks M (pc + 1) lv (vJ (x + y) :: st)) : ZZ q p l e Rm s m args below meth c D dA b T0 ad0 Q kc ks M pc lv (vJ y :: vJ x :: st) := z_ladd C hd (by rw [← Int64.ofInt_add]; exact kk)
theorem g_lsub (C : ZC q p s m args meth c D dA b) {x y : Int} (hd : decode (xqc q) pc = .ok (.lsub, 1))  (kk : ZZ q p l e Rm s m args below meth c D dA b T0 ad0 Q kc ks M (pc + 1) lv (vJ (x - y) :: st)) : ZZ q p l e Rm s m args below meth c D dA b T0 ad0 Q kc ks M pc lv (vJ y :: vJ x :: st) := z_lsub C hd (by rw [← Int64.ofInt_sub]; exact kk)
theorem g_lneg (C : ZC q p s m args meth c D dA b) {x : Int} (hd : decode (xqc q) pc = .ok (.lneg, 1))  (kk : ZZ q p l e Rm s m args below meth c D dA b T0 ad0 Q kc ks M (pc + 1) lv (vJ (-x) :: st)) : ZZ q p l e Rm s m args below meth c D dA b T0 ad0 Q kc ks M pc lv (vJ x :: st) := z_lneg C hd (by rw [← Int64.ofInt_neg]; exact kk)
theorem g_ldiv (C : ZC q p s m args meth c D dA b) {x y : Int} (hd : decode (xqc q) pc = .ok (.ldiv, 1)) (h0 : ¬ w64 y = 0) (kk : ZZ q p l e Rm s m args below meth c D dA b T0 ad0 Q kc ks M (pc + 1) lv (vJ ((w64 x).tdiv (w64 y)) :: st)) : ZZ q p l e Rm s m args below meth c D dA b T0 ad0 Q kc ks M pc lv (vJ y :: vJ x :: st) := z_ldiv C hd (fun z => h0 (by rw [← w64_eq, z]; rfl)) (by rw [xdivJ]; exact kk)
theorem g_lcmp (C : ZC q p s m args meth c D dA b) {x y : Int} (hd : decode (xqc q) pc = .ok (.lcmp, 1))  (kk : ZZ q p l e Rm s m args below meth c D dA b T0 ad0 Q kc ks M (pc + 1) lv (vI (xlcmp (w64 x) (w64 y)) :: st)) : ZZ q p l e Rm s m args below meth c D dA b T0 ad0 Q kc ks M pc lv (vJ y :: vJ x :: st) := z_lcmp C hd (by rw [xcmpJ]; exact kk)
theorem g_dadd (C : ZC q p s m args meth c D dA b) {x y : UInt64} (hd : decode (xqc q) pc = .ok (.dadd, 1)) (h0 : isNaN64 (FP.dadd x y) = false) (kk : ZZ q p l e Rm s m args below meth c D dA b T0 ad0 Q kc ks M (pc + 1) lv (vD (FP.dadd x y) :: st)) : ZZ q p l e Rm s m args below meth c D dA b T0 ad0 Q kc ks M pc lv (vD y :: vD x :: st) := z_dadd C hd (n64_of h0) kk
theorem g_dmul (C : ZC q p s m args meth c D dA b) {x y : UInt64} (hd : decode (xqc q) pc = .ok (.dmul, 1)) (h0 : isNaN64 (FP.dmul x y) = false) (kk : ZZ q p l e Rm s m args below meth c D dA b T0 ad0 Q kc ks M (pc + 1) lv (vD (FP.dmul x y) :: st)) : ZZ q p l e Rm s m args below meth c D dA b T0 ad0 Q kc ks M pc lv (vD y :: vD x :: st) := z_dmul C hd (n64_of h0) kk
theorem g_ddiv (C : ZC q p s m args meth c D dA b) {x y : UInt64} (hd : decode (xqc q) pc = .ok (.ddiv, 1)) (h0 : isNaN64 (FP.ddiv x y) = false) (kk : ZZ q p l e Rm s m args below meth c D dA b T0 ad0 Q kc ks M (pc + 1) lv (vD (FP.ddiv x y) :: st)) : ZZ q p l e Rm s m args below meth c D dA b T0 ad0 Q kc ks M pc lv (vD y :: vD x :: st) := z_ddiv C hd (n64_of h0) kk
theorem g_dcmp (C : ZC q p s m args meth c D dA b) {x y : UInt64} {op : CmpOp} (hd : decode (xqc q) pc = .ok (.dcmp op, 1))  (kk : ZZ q p l e Rm s m args below meth c D dA b T0 ad0 Q kc ks M (pc + 1) lv (vI (Op.cmpValue (FP.dcmp x y) op).toInt :: st)) : ZZ q p l e Rm s m args below meth c D dA b T0 ad0 Q kc ks M pc lv (vD y :: vD x :: st) := z_dcmp C hd (by unfold ZZ at kk; rw [List.map_cons, xvt] at kk; exact kk)
theorem g_i2l (C : ZC q p s m args meth c D dA b) {x : Int} (hd : decode (xqc q) pc = .ok (.i2l, 1))  (kk : ZZ q p l e Rm s m args below meth c D dA b T0 ad0 Q kc ks M (pc + 1) lv (vJ (wr x) :: st)) : ZZ q p l e Rm s m args below meth c D dA b T0 ad0 Q kc ks M pc lv (vI x :: st) := z_i2l C hd (by rw [xi2l]; exact kk)
theorem g_l2i (C : ZC q p s m args meth c D dA b) {x : Int} (hd : decode (xqc q) pc = .ok (.l2i, 1))  (kk : ZZ q p l e Rm s m args below meth c D dA b T0 ad0 Q kc ks M (pc + 1) lv (vI x :: st)) : ZZ q p l e Rm s m args below meth c D dA b T0 ad0 Q kc ks M pc lv (vJ x :: st) := z_l2i C hd (by rw [xl2i]; exact kk)
theorem g_i2d (C : ZC q p s m args meth c D dA b) {x : Int} (hd : decode (xqc q) pc = .ok (.i2d, 1))  (kk : ZZ q p l e Rm s m args below meth c D dA b T0 ad0 Q kc ks M (pc + 1) lv (vD (FP.i2d (Int32.ofInt x)) :: st)) : ZZ q p l e Rm s m args below meth c D dA b T0 ad0 Q kc ks M pc lv (vI x :: st) := z_i2d C hd kk
theorem g_l2d (C : ZC q p s m args meth c D dA b) {x : Int} (hd : decode (xqc q) pc = .ok (.l2d, 1))  (kk : ZZ q p l e Rm s m args below meth c D dA b T0 ad0 Q kc ks M (pc + 1) lv (vD (FP.l2d (Int64.ofInt x)) :: st)) : ZZ q p l e Rm s m args below meth c D dA b T0 ad0 Q kc ks M pc lv (vJ x :: st) := z_l2d C hd kk
theorem g_d2i (C : ZC q p s m args meth c D dA b) {x : UInt64} (hd : decode (xqc q) pc = .ok (.d2i, 1))  (kk : ZZ q p l e Rm s m args below meth c D dA b T0 ad0 Q kc ks M (pc + 1) lv (vI (FP.d2i x).toInt :: st)) : ZZ q p l e Rm s m args below meth c D dA b T0 ad0 Q kc ks M pc lv (vD x :: st) := z_d2i C hd (by unfold ZZ at kk; rw [List.map_cons, xvt] at kk; exact kk)
theorem g_d2l (C : ZC q p s m args meth c D dA b) {x : UInt64} (hd : decode (xqc q) pc = .ok (.d2l, 1))  (kk : ZZ q p l e Rm s m args below meth c D dA b T0 ad0 Q kc ks M (pc + 1) lv (vJ (FP.d2l x).toInt :: st)) : ZZ q p l e Rm s m args below meth c D dA b T0 ad0 Q kc ks M pc lv (vD x :: st) := z_d2l C hd (by unfold ZZ at kk; rw [List.map_cons, xvtJ] at kk; exact kk)
theorem g_d2f (C : ZC q p s m args meth c D dA b) {x : UInt64} (hd : decode (xqc q) pc = .ok (.d2f, 1)) (h0 : isNaN32 (FP.d2f x) = false) (kk : ZZ q p l e Rm s m args below meth c D dA b T0 ad0 Q kc ks M (pc + 1) lv (vF (FP.d2f x) :: st)) : ZZ q p l e Rm s m args below meth c D dA b T0 ad0 Q kc ks M pc lv (vD x :: st) := z_d2f C hd (n32_of h0) kk
theorem g_f2d (C : ZC q p s m args meth c D dA b) {x : UInt32} (hd : decode (xqc q) pc = .ok (.f2d, 1)) (h0 : isNaN64 (FP.f2d x) = false) (kk : ZZ q p l e Rm s m args below meth c D dA b T0 ad0 Q kc ks M (pc + 1) lv (vD (FP.f2d x) :: st)) : ZZ q p l e Rm s m args below meth c D dA b T0 ad0 Q kc ks M pc lv (vF x :: st) := z_f2d C hd (n64_of h0) kk
theorem g_iconst (C : ZC q p s m args meth c D dA b) {x : Int} (hd : decode (xqc q) pc = .ok (.iconst x, 1))  (kk : ZZ q p l e Rm s m args below meth c D dA b T0 ad0 Q kc ks M (pc + 1) lv (vI x :: st)) : ZZ q p l e Rm s m args below meth c D dA b T0 ad0 Q kc ks M pc lv (st) := z_iconst C hd rfl kk
theorem g_bipush (C : ZC q p s m args meth c D dA b) {x : Int} (hd : decode (xqc q) pc = .ok (.bipush x, 2))  (kk : ZZ q p l e Rm s m args below meth c D dA b T0 ad0 Q kc ks M (pc + 2) lv (vI (Int8.ofInt x).toInt32.toInt :: st)) : ZZ q p l e Rm s m args below meth c D dA b T0 ad0 Q kc ks M pc lv (st) := z_bipush C hd rfl (by unfold ZZ at kk; rw [List.map_cons, xvt] at kk; exact kk)
theorem g_sipush (C : ZC q p s m args meth c D dA b) {x : Int} (hd : decode (xqc q) pc = .ok (.sipush x, 3))  (kk : ZZ q p l e Rm s m args below meth c D dA b T0 ad0 Q kc ks M (pc + 3) lv (vI (Int16.ofInt x).toInt32.toInt :: st)) : ZZ q p l e Rm s m args below meth c D dA b T0 ad0 Q kc ks M pc lv (st) := z_sipush C hd rfl (by unfold ZZ at kk; rw [List.map_cons, xvt] at kk; exact kk)
theorem g_lconst (C : ZC q p s m args meth c D dA b) {x : Fin 2} (hd : decode (xqc q) pc = .ok (.lconst x, 1))  (kk : ZZ q p l e Rm s m args below meth c D dA b T0 ad0 Q kc ks M (pc + 1) lv (vJ (x : Nat) :: st)) : ZZ q p l e Rm s m args below meth c D dA b T0 ad0 Q kc ks M pc lv (st) := z_lconst C hd rfl kk
theorem g_dconst (C : ZC q p s m args meth c D dA b) {x : Fin 2} (hd : decode (xqc q) pc = .ok (.dconst x, 1)) (kk : ZZ q p l e Rm s m args below meth c D dA b T0 ad0 Q kc ks M (pc + 1) lv (vD (if (x : Nat) = 0 then FP.dconst0 else FP.dconst1) :: st)) : ZZ q p l e Rm s m args below meth c D dA b T0 ad0 Q kc ks M pc lv st := by
  match x, hd, kk with
  | 0, hd, kk => exact z_dconst0 C hd kk
  | 1, hd, kk => exact z_dconst1 C hd kk
theorem g_null (C : ZC q p s m args meth c D dA b)  (hd : decode (xqc q) pc = .ok (.aconst_null, 1))  (kk : ZZ q p l e Rm s m args below meth c D dA b T0 ad0 Q kc ks M (pc + 1) lv (vR 0 :: st)) : ZZ q p l e Rm s m args below meth c D dA b T0 ad0 Q kc ks M pc lv (st) := z_null C hd kk
theorem g_ldc (C : ZC q p s m args meth c D dA b) {k : Nat} {x : Int} (hd : decode (xqc q) pc = .ok (.ldc k, 2)) (hw : Cond.constant (xqy q).cls k (Int32.ofInt x) ∈ lw_tb2) (kk : ZZ q p l e Rm s m args below meth c D dA b T0 ad0 Q kc ks M (pc + 2) lv (vI x :: st)) : ZZ q p l e Rm s m args below meth c D dA b T0 ad0 Q kc ks M pc lv (st) := z_ldc C hd hw kk
theorem g_ldcw (C : ZC q p s m args meth c D dA b) {k : Nat} {x : Int} (hd : decode (xqc q) pc = .ok (.ldc_w k, 3)) (hw : Cond.constant (xqy q).cls k (Int32.ofInt x) ∈ lw_tb2) (kk : ZZ q p l e Rm s m args below meth c D dA b T0 ad0 Q kc ks M (pc + 3) lv (vI x :: st)) : ZZ q p l e Rm s m args below meth c D dA b T0 ad0 Q kc ks M pc lv (st) := z_ldcw C hd hw kk
theorem g_ldc2d (C : ZC q p s m args meth c D dA b) {k : Nat} {x : UInt64} (hd : decode (xqc q) pc = .ok (.ldc2_w k, 3)) (hw : Cond.constantDouble (xqy q).cls k x ∈ lw_tb2) (kk : ZZ q p l e Rm s m args below meth c D dA b T0 ad0 Q kc ks M (pc + 3) lv (vD x :: st)) : ZZ q p l e Rm s m args below meth c D dA b T0 ad0 Q kc ks M pc lv (st) := z_ldc2d C hd hw kk
theorem g_ldc2l (C : ZC q p s m args meth c D dA b) {k : Nat} {x : Int} (hd : decode (xqc q) pc = .ok (.ldc2_w k, 3)) (hw : Cond.constantLong (xqy q).cls k (Int64.ofInt x) ∈ lw_tb2) (kk : ZZ q p l e Rm s m args below meth c D dA b T0 ad0 Q kc ks M (pc + 3) lv (vJ x :: st)) : ZZ q p l e Rm s m args below meth c D dA b T0 ad0 Q kc ks M pc lv (st) := z_ldc2l C hd hw kk
theorem g_iload_n (C : ZC q p s m args meth c D dA b) {k : Fin 4} (hd : decode (xqc q) pc = .ok (.iload_n k, 1)) (h0 : isI (gv (k : Nat) lv) = true) (kk : ZZ q p l e Rm s m args below meth c D dA b T0 ad0 Q kc ks M (pc + 1) lv (gv (k : Nat) lv :: st)) : ZZ q p l e Rm s m args below meth c D dA b T0 ad0 Q kc ks M pc lv st := by
  have hx : isX (gv (k : Nat) lv) = false := by
    generalize gv (k : Nat) lv = v at h0 ⊢
    rcases v with x | x | x | x | x | x <;> first | rfl | cases h0
  obtain ⟨j, hj⟩ := xlv_pos hx
  generalize gv (k : Nat) lv = v at h0 kk hj
  rcases v with x | x | x | x | x | x <;> try cases h0
  exact z_iload_n C j hd hj kk
theorem g_iload (C : ZC q p s m args meth c D dA b) {k : Nat} (hd : decode (xqc q) pc = .ok (.iload k, 2)) (h0 : isI (gv k lv) = true) (kk : ZZ q p l e Rm s m args below meth c D dA b T0 ad0 Q kc ks M (pc + 2) lv (gv k lv :: st)) : ZZ q p l e Rm s m args below meth c D dA b T0 ad0 Q kc ks M pc lv st := by
  have hx : isX (gv k lv) = false := by
    generalize gv k lv = v at h0 ⊢
    rcases v with x | x | x | x | x | x <;> first | rfl | cases h0
  obtain ⟨j, hj⟩ := xlv_pos hx
  generalize gv k lv = v at h0 kk hj
  rcases v with x | x | x | x | x | x <;> try cases h0
  exact z_iload C j hd hj kk
theorem g_lload_n (C : ZC q p s m args meth c D dA b) {k : Fin 4} (hd : decode (xqc q) pc = .ok (.lload_n k, 1)) (h0 : isJ (gv (k : Nat) lv) = true) (kk : ZZ q p l e Rm s m args below meth c D dA b T0 ad0 Q kc ks M (pc + 1) lv (gv (k : Nat) lv :: st)) : ZZ q p l e Rm s m args below meth c D dA b T0 ad0 Q kc ks M pc lv st := by
  have hx : isX (gv (k : Nat) lv) = false := by
    generalize gv (k : Nat) lv = v at h0 ⊢
    rcases v with x | x | x | x | x | x <;> first | rfl | cases h0
  obtain ⟨j, hj⟩ := xlv_pos hx
  generalize gv (k : Nat) lv = v at h0 kk hj
  rcases v with x | x | x | x | x | x <;> try cases h0
  exact z_lload_n C j hd hj kk
theorem g_lload (C : ZC q p s m args meth c D dA b) {k : Nat} (hd : decode (xqc q) pc = .ok (.lload k, 2)) (h0 : isJ (gv k lv) = true) (kk : ZZ q p l e Rm s m args below meth c D dA b T0 ad0 Q kc ks M (pc + 2) lv (gv k lv :: st)) : ZZ q p l e Rm s m args below meth c D dA b T0 ad0 Q kc ks M pc lv st := by
  have hx : isX (gv k lv) = false := by
    generalize gv k lv = v at h0 ⊢
    rcases v with x | x | x | x | x | x <;> first | rfl | cases h0
  obtain ⟨j, hj⟩ := xlv_pos hx
  generalize gv k lv = v at h0 kk hj
  rcases v with x | x | x | x | x | x <;> try cases h0
  exact z_lload C j hd hj kk
theorem g_dload_n (C : ZC q p s m args meth c D dA b) {k : Fin 4} (hd : decode (xqc q) pc = .ok (.dload_n k, 1)) (h0 : isD (gv (k : Nat) lv) = true) (kk : ZZ q p l e Rm s m args below meth c D dA b T0 ad0 Q kc ks M (pc + 1) lv (gv (k : Nat) lv :: st)) : ZZ q p l e Rm s m args below meth c D dA b T0 ad0 Q kc ks M pc lv st := by
  have hx : isX (gv (k : Nat) lv) = false := by
    generalize gv (k : Nat) lv = v at h0 ⊢
    rcases v with x | x | x | x | x | x <;> first | rfl | cases h0
  obtain ⟨j, hj⟩ := xlv_pos hx
  generalize gv (k : Nat) lv = v at h0 kk hj
  rcases v with x | x | x | x | x | x <;> try cases h0
  exact z_dload_n C j hd hj kk
theorem g_dload (C : ZC q p s m args meth c D dA b) {k : Nat} (hd : decode (xqc q) pc = .ok (.dload k, 2)) (h0 : isD (gv k lv) = true) (kk : ZZ q p l e Rm s m args below meth c D dA b T0 ad0 Q kc ks M (pc + 2) lv (gv k lv :: st)) : ZZ q p l e Rm s m args below meth c D dA b T0 ad0 Q kc ks M pc lv st := by
  have hx : isX (gv k lv) = false := by
    generalize gv k lv = v at h0 ⊢
    rcases v with x | x | x | x | x | x <;> first | rfl | cases h0
  obtain ⟨j, hj⟩ := xlv_pos hx
  generalize gv k lv = v at h0 kk hj
  rcases v with x | x | x | x | x | x <;> try cases h0
  exact z_dload C j hd hj kk
theorem g_aload_n (C : ZC q p s m args meth c D dA b) {k : Fin 4} (hd : decode (xqc q) pc = .ok (.aload_n k, 1)) (h0 : isR (gv (k : Nat) lv) = true) (kk : ZZ q p l e Rm s m args below meth c D dA b T0 ad0 Q kc ks M (pc + 1) lv (gv (k : Nat) lv :: st)) : ZZ q p l e Rm s m args below meth c D dA b T0 ad0 Q kc ks M pc lv st := by
  have hx : isX (gv (k : Nat) lv) = false := by
    generalize gv (k : Nat) lv = v at h0 ⊢
    rcases v with x | x | x | x | x | x <;> first | rfl | cases h0
  obtain ⟨j, hj⟩ := xlv_pos hx
  generalize gv (k : Nat) lv = v at h0 kk hj
  rcases v with x | x | x | x | x | x <;> try cases h0
  by_cases hz : x = 0
  · subst hz
    exact z_aload_nN C j hd hj kk
  · rw [show xval (.inr (.inr (.inr (.inr (.inl x))))) = .ref x from if_neg hz] at hj
    unfold ZZ at kk; rw [List.map_cons, show xval (.inr (.inr (.inr (.inr (.inl x))))) = .ref x from if_neg hz] at kk
    exact z_aload_n C j hd hj kk
theorem g_aload (C : ZC q p s m args meth c D dA b) {k : Nat} (hd : decode (xqc q) pc = .ok (.aload k, 2)) (h0 : isR (gv k lv) = true) (kk : ZZ q p l e Rm s m args below meth c D dA b T0 ad0 Q kc ks M (pc + 2) lv (gv k lv :: st)) : ZZ q p l e Rm s m args below meth c D dA b T0 ad0 Q kc ks M pc lv st := by
  have hx : isX (gv k lv) = false := by
    generalize gv k lv = v at h0 ⊢
    rcases v with x | x | x | x | x | x <;> first | rfl | cases h0
  obtain ⟨j, hj⟩ := xlv_pos hx
  generalize gv k lv = v at h0 kk hj
  rcases v with x | x | x | x | x | x <;> try cases h0
  by_cases hz : x = 0
  · subst hz
    exact z_aloadN C j hd hj kk
  · rw [show xval (.inr (.inr (.inr (.inr (.inl x))))) = .ref x from if_neg hz] at hj
    unfold ZZ at kk; rw [List.map_cons, show xval (.inr (.inr (.inr (.inr (.inl x))))) = .ref x from if_neg hz] at kk
    exact z_aload C j hd hj kk
theorem g_istore_n (C : ZC q p s m args meth c D dA b) {k : Fin 4} {v : xv} (hd : decode (xqc q) pc = .ok (.istore_n k, 1)) (h0 : isI v = true) (hn : (k : Nat) < xqn q) (kk : ZZ q p l e Rm s m args below meth c D dA b T0 ad0 Q kc ks M (pc + 1) (st1 (k : Nat) v lv) st) : ZZ q p l e Rm s m args below meth c D dA b T0 ad0 Q kc ks M pc lv (v :: st) := by
  have kk := z_lv (lv := ((k : Nat), xval v) :: (xlv 0 lv).filter (lz_p1 (k : Nat))) xlv_s1 kk
  rcases v with x | x | x | x | x | x <;> try cases h0
  exact z_istore_n C hd hn rfl kk
theorem g_istore (C : ZC q p s m args meth c D dA b) {k : Nat} {v : xv} (hd : decode (xqc q) pc = .ok (.istore k, 2)) (h0 : isI v = true) (hn : k < xqn q) (kk : ZZ q p l e Rm s m args below meth c D dA b T0 ad0 Q kc ks M (pc + 2) (st1 k v lv) st) : ZZ q p l e Rm s m args below meth c D dA b T0 ad0 Q kc ks M pc lv (v :: st) := by
  have kk := z_lv (lv := (k, xval v) :: (xlv 0 lv).filter (lz_p1 k)) xlv_s1 kk
  rcases v with x | x | x | x | x | x <;> try cases h0
  exact z_istore C hd hn rfl kk
theorem g_lstore_n (C : ZC q p s m args meth c D dA b) {k : Fin 4} {v : xv} (hd : decode (xqc q) pc = .ok (.lstore_n k, 1)) (h0 : isJ v = true) (hn : (k : Nat) + 1 < xqn q) (kk : ZZ q p l e Rm s m args below meth c D dA b T0 ad0 Q kc ks M (pc + 1) (st2 (k : Nat) v lv) st) : ZZ q p l e Rm s m args below meth c D dA b T0 ad0 Q kc ks M pc lv (v :: st) := by
  have kk := z_lv (lv := ((k : Nat), xval v) :: (xlv 0 lv).filter (lz_p2 (k : Nat))) xlv_s2 kk
  rcases v with x | x | x | x | x | x <;> try cases h0
  exact z_lstore_n C hd hn rfl kk
theorem g_lstore (C : ZC q p s m args meth c D dA b) {k : Nat} {v : xv} (hd : decode (xqc q) pc = .ok (.lstore k, 2)) (h0 : isJ v = true) (hn : k + 1 < xqn q) (kk : ZZ q p l e Rm s m args below meth c D dA b T0 ad0 Q kc ks M (pc + 2) (st2 k v lv) st) : ZZ q p l e Rm s m args below meth c D dA b T0 ad0 Q kc ks M pc lv (v :: st) := by
  have kk := z_lv (lv := (k, xval v) :: (xlv 0 lv).filter (lz_p2 k)) xlv_s2 kk
  rcases v with x | x | x | x | x | x <;> try cases h0
  exact z_lstore C hd hn rfl kk
theorem g_dstore_n (C : ZC q p s m args meth c D dA b) {k : Fin 4} {v : xv} (hd : decode (xqc q) pc = .ok (.dstore_n k, 1)) (h0 : isD v = true) (hn : (k : Nat) + 1 < xqn q) (kk : ZZ q p l e Rm s m args below meth c D dA b T0 ad0 Q kc ks M (pc + 1) (st2 (k : Nat) v lv) st) : ZZ q p l e Rm s m args below meth c D dA b T0 ad0 Q kc ks M pc lv (v :: st) := by
  have kk := z_lv (lv := ((k : Nat), xval v) :: (xlv 0 lv).filter (lz_p2 (k : Nat))) xlv_s2 kk
  rcases v with x | x | x | x | x | x <;> try cases h0
  exact z_dstore_n C hd hn rfl kk
theorem g_dstore (C : ZC q p s m args meth c D dA b) {k : Nat} {v : xv} (hd : decode (xqc q) pc = .ok (.dstore k, 2)) (h0 : isD v = true) (hn : k + 1 < xqn q) (kk : ZZ q p l e Rm s m args below meth c D dA b T0 ad0 Q kc ks M (pc + 2) (st2 k v lv) st) : ZZ q p l e Rm s m args below meth c D dA b T0 ad0 Q kc ks M pc lv (v :: st) := by
  have kk := z_lv (lv := (k, xval v) :: (xlv 0 lv).filter (lz_p2 k)) xlv_s2 kk
  rcases v with x | x | x | x | x | x <;> try cases h0
  exact z_dstore C hd hn rfl kk
theorem g_astore_n (C : ZC q p s m args meth c D dA b) {k : Fin 4} {v : xv} (hd : decode (xqc q) pc = .ok (.astore_n k, 1)) (h0 : isR v = true) (hn : (k : Nat) < xqn q) (kk : ZZ q p l e Rm s m args below meth c D dA b T0 ad0 Q kc ks M (pc + 1) (st1 (k : Nat) v lv) st) : ZZ q p l e Rm s m args below meth c D dA b T0 ad0 Q kc ks M pc lv (v :: st) := by
  have kk := z_lv (lv := ((k : Nat), xval v) :: (xlv 0 lv).filter (lz_p1 (k : Nat))) xlv_s1 kk
  rcases v with x | x | x | x | x | x <;> try cases h0
  by_cases hz : x = 0
  · subst hz
    exact z_astore_nN C hd hn rfl kk
  · rw [show xval (.inr (.inr (.inr (.inr (.inl x))))) = .ref x from if_neg hz] at kk
    show lz_Z _ _ _ _ _ _ _ _ _ _ _ _ _ _ _ _ _ _ _ _ _ _ _ _ _ (xval (.inr (.inr (.inr (.inr (.inl x))))) :: st.map xval)
    rw [show xval (.inr (.inr (.inr (.inr (.inl x))))) = .ref x from if_neg hz]
    exact z_astore_n C hd hn rfl kk
theorem g_astore (C : ZC q p s m args meth c D dA b) {k : Nat} {v : xv} (hd : decode (xqc q) pc = .ok (.astore k, 2)) (h0 : isR v = true) (hn : k < xqn q) (kk : ZZ q p l e Rm s m args below meth c D dA b T0 ad0 Q kc ks M (pc + 2) (st1 k v lv) st) : ZZ q p l e Rm s m args below meth c D dA b T0 ad0 Q kc ks M pc lv (v :: st) := by
  have kk := z_lv (lv := (k, xval v) :: (xlv 0 lv).filter (lz_p1 k)) xlv_s1 kk
  rcases v with x | x | x | x | x | x <;> try cases h0
  by_cases hz : x = 0
  · subst hz
    exact z_astoreN C hd hn rfl kk
  · rw [show xval (.inr (.inr (.inr (.inr (.inl x))))) = .ref x from if_neg hz] at kk
    show lz_Z _ _ _ _ _ _ _ _ _ _ _ _ _ _ _ _ _ _ _ _ _ _ _ _ _ (xval (.inr (.inr (.inr (.inr (.inl x))))) :: st.map xval)
    rw [show xval (.inr (.inr (.inr (.inr (.inl x))))) = .ref x from if_neg hz]
    exact z_astore C hd hn rfl kk
theorem g_iinc (C : ZC q p s m args meth c D dA b) {k : Nat} {x n : Int} (hd : decode (xqc q) pc = .ok (.iinc k n, 3)) (h0 : gv k lv = vI x) (hn : k < xqn q) (kk : ZZ q p l e Rm s m args below meth c D dA b T0 ad0 Q kc ks M (pc + 3) (st1 k (vI (x + n)) lv) st) : ZZ q p l e Rm s m args below meth c D dA b T0 ad0 Q kc ks M pc lv st := by
  obtain ⟨j, hj⟩ := xlv_pos (l := lv) (k := k) (by rw [h0]; rfl)
  rw [h0] at hj
  exact z_iinc C j hd hj (v := Int32.ofInt (x + n)) (by rw [Int32.ofInt_add]) hn rfl (z_lv (lv := (k, xval (vI (x + n))) :: (xlv 0 lv).filter (lz_p1 k)) xlv_s1 kk)
theorem g_dup (C : ZC q p s m args meth c D dA b) {v : xv} (hd : decode (xqc q) pc = .ok (.dup, 1)) (h0 : xc2 v = false) (kk : ZZ q p l e Rm s m args below meth c D dA b T0 ad0 Q kc ks M (pc + 1) lv (v :: v :: st)) : ZZ q p l e Rm s m args below meth c D dA b T0 ad0 Q kc ks M pc lv (v :: st) := z_dup C hd (by rw [xval_cat, h0]; rfl) kk
theorem g_dup2 (C : ZC q p s m args meth c D dA b) {v u : xv} (hd : decode (xqc q) pc = .ok (.dup2, 1)) (h0 : xc2 v = false) (h1 : xc2 u = false) (kk : ZZ q p l e Rm s m args below meth c D dA b T0 ad0 Q kc ks M (pc + 1) lv (v :: u :: v :: u :: st)) : ZZ q p l e Rm s m args below meth c D dA b T0 ad0 Q kc ks M pc lv (v :: u :: st) := z_dup2 C hd (by rw [xval_cat, h0]; rfl) (by rw [xval_cat, h1]; rfl) kk
theorem g_pop (C : ZC q p s m args meth c D dA b) {v : xv} (hd : decode (xqc q) pc = .ok (.pop, 1)) (h0 : xc2 v = false) (kk : ZZ q p l e Rm s m args below meth c D dA b T0 ad0 Q kc ks M (pc + 1) lv st) : ZZ q p l e Rm s m args below meth c D dA b T0 ad0 Q kc ks M pc lv (v :: st) := z_pop C hd (by rw [xval_cat, h0]; rfl) kk
theorem xtgt {pc : Nat} {off : Int} (h : 0 ≤ (pc : Int) + off) : (pc : Int) + off = (((pc : Int) + off).toNat : Nat) := by omega
theorem g_goto (C : ZC q p s m args meth c D dA b) {off : Int} (hd : decode (xqc q) pc = .ok (.goto off, 3)) (h0 : 0 ≤ (pc : Int) + off) (kk : ZZ q p l e Rm s m args below meth c D dA b T0 ad0 Q kc ks M ((pc : Int) + off).toNat lv st) : ZZ q p l e Rm s m args below meth c D dA b T0 ad0 Q kc ks M pc lv st := z_goto C _ hd (xtgt h0) kk
theorem g_icmp_eq (C : ZC q p s m args meth c D dA b) {x y : Int} {off : Int} (hd : decode (xqc q) pc = .ok (.if_icmp .eq off, 3)) (h0 : 0 ≤ (pc : Int) + off) (kt : wr x = wr y → ZZ q p l e Rm s m args below meth c D dA b T0 ad0 Q kc ks M ((pc : Int) + off).toNat lv st) (kf : ¬ (wr x = wr y) → ZZ q p l e Rm s m args below meth c D dA b T0 ad0 Q kc ks M (pc + 3) lv st) : ZZ q p l e Rm s m args below meth c D dA b T0 ad0 Q kc ks M pc lv (vI y :: vI x :: st) := z_icmp_eq C _ hd (xtgt h0) (fun z => kt ((wr_eqi x y).mp z)) (fun z => kf (fun h => z ((wr_eqi x y).mpr h)))
theorem g_if_eq (C : ZC q p s m args meth c D dA b) {x : Int} {off : Int} (hd : decode (xqc q) pc = .ok (.ifCond .eq off, 3)) (h0 : 0 ≤ (pc : Int) + off) (kt : wr x = 0 → ZZ q p l e Rm s m args below meth c D dA b T0 ad0 Q kc ks M ((pc : Int) + off).toNat lv st) (kf : ¬ (wr x = 0) → ZZ q p l e Rm s m args below meth c D dA b T0 ad0 Q kc ks M (pc + 3) lv st) : ZZ q p l e Rm s m args below meth c D dA b T0 ad0 Q kc ks M pc lv (vI x :: st) := z_if_eq C _ hd (xtgt h0) (fun z => kt ((wr_eqz x).mp z)) (fun z => kf (fun h => z ((wr_eqz x).mpr h)))
theorem g_icmp_ne (C : ZC q p s m args meth c D dA b) {x y : Int} {off : Int} (hd : decode (xqc q) pc = .ok (.if_icmp .ne off, 3)) (h0 : 0 ≤ (pc : Int) + off) (kt : ¬ wr x = wr y → ZZ q p l e Rm s m args below meth c D dA b T0 ad0 Q kc ks M ((pc : Int) + off).toNat lv st) (kf : ¬ (¬ wr x = wr y) → ZZ q p l e Rm s m args below meth c D dA b T0 ad0 Q kc ks M (pc + 3) lv st) : ZZ q p l e Rm s m args below meth c D dA b T0 ad0 Q kc ks M pc lv (vI y :: vI x :: st) := z_icmp_ne C _ hd (xtgt h0) (fun z => kt (fun h => z ((wr_eqi x y).mpr h))) (fun z => kf (fun h => h ((wr_eqi x y).mp z)))
theorem g_if_ne (C : ZC q p s m args meth c D dA b) {x : Int} {off : Int} (hd : decode (xqc q) pc = .ok (.ifCond .ne off, 3)) (h0 : 0 ≤ (pc : Int) + off) (kt : ¬ wr x = 0 → ZZ q p l e Rm s m args below meth c D dA b T0 ad0 Q kc ks M ((pc : Int) + off).toNat lv st) (kf : ¬ (¬ wr x = 0) → ZZ q p l e Rm s m args below meth c D dA b T0 ad0 Q kc ks M (pc + 3) lv st) : ZZ q p l e Rm s m args below meth c D dA b T0 ad0 Q kc ks M pc lv (vI x :: st) := z_if_ne C _ hd (xtgt h0) (fun z => kt (fun h => z ((wr_eqz x).mpr h))) (fun z => kf (fun h => h ((wr_eqz x).mp z)))
theorem g_icmp_lt (C : ZC q p s m args meth c D dA b) {x y : Int} {off : Int} (hd : decode (xqc q) pc = .ok (.if_icmp .lt off, 3)) (h0 : 0 ≤ (pc : Int) + off) (kt : wr x < wr y → ZZ q p l e Rm s m args below meth c D dA b T0 ad0 Q kc ks M ((pc : Int) + off).toNat lv st) (kf : ¬ (wr x < wr y) → ZZ q p l e Rm s m args below meth c D dA b T0 ad0 Q kc ks M (pc + 3) lv st) : ZZ q p l e Rm s m args below meth c D dA b T0 ad0 Q kc ks M pc lv (vI y :: vI x :: st) := z_icmp_lt C _ hd (xtgt h0) (fun z => kt ((wr_lt x y).mp z)) (fun z => kf (fun h => z ((wr_lt x y).mpr h)))
theorem g_if_lt (C : ZC q p s m args meth c D dA b) {x : Int} {off : Int} (hd : decode (xqc q) pc = .ok (.ifCond .lt off, 3)) (h0 : 0 ≤ (pc : Int) + off) (kt : wr x < 0 → ZZ q p l e Rm s m args below meth c D dA b T0 ad0 Q kc ks M ((pc : Int) + off).toNat lv st) (kf : ¬ (wr x < 0) → ZZ q p l e Rm s m args below meth c D dA b T0 ad0 Q kc ks M (pc + 3) lv st) : ZZ q p l e Rm s m args below meth c D dA b T0 ad0 Q kc ks M pc lv (vI x :: st) := z_if_lt C _ hd (xtgt h0) (fun z => kt ((wr_ltz x).mp z)) (fun z => kf (fun h => z ((wr_ltz x).mpr h)))
theorem g_icmp_ge (C : ZC q p s m args meth c D dA b) {x y : Int} {off : Int} (hd : decode (xqc q) pc = .ok (.if_icmp .ge off, 3)) (h0 : 0 ≤ (pc : Int) + off) (kt : wr y ≤ wr x → ZZ q p l e Rm s m args below meth c D dA b T0 ad0 Q kc ks M ((pc : Int) + off).toNat lv st) (kf : ¬ (wr y ≤ wr x) → ZZ q p l e Rm s m args below meth c D dA b T0 ad0 Q kc ks M (pc + 3) lv st) : ZZ q p l e Rm s m args below meth c D dA b T0 ad0 Q kc ks M pc lv (vI y :: vI x :: st) := z_icmp_ge C _ hd (xtgt h0) (fun z => kt ((wr_le y x).mp z)) (fun z => kf (fun h => z ((wr_le y x).mpr h)))
theorem g_if_ge (C : ZC q p s m args meth c D dA b) {x : Int} {off : Int} (hd : decode (xqc q) pc = .ok (.ifCond .ge off, 3)) (h0 : 0 ≤ (pc : Int) + off) (kt : 0 ≤ wr x → ZZ q p l e Rm s m args below meth c D dA b T0 ad0 Q kc ks M ((pc : Int) + off).toNat lv st) (kf : ¬ (0 ≤ wr x) → ZZ q p l e Rm s m args below meth c D dA b T0 ad0 Q kc ks M (pc + 3) lv st) : ZZ q p l e Rm s m args below meth c D dA b T0 ad0 Q kc ks M pc lv (vI x :: st) := z_if_ge C _ hd (xtgt h0) (fun z => kt ((wr_gez x).mp z)) (fun z => kf (fun h => z ((wr_gez x).mpr h)))
theorem g_icmp_gt (C : ZC q p s m args meth c D dA b) {x y : Int} {off : Int} (hd : decode (xqc q) pc = .ok (.if_icmp .gt off, 3)) (h0 : 0 ≤ (pc : Int) + off) (kt : wr y < wr x → ZZ q p l e Rm s m args below meth c D dA b T0 ad0 Q kc ks M ((pc : Int) + off).toNat lv st) (kf : ¬ (wr y < wr x) → ZZ q p l e Rm s m args below meth c D dA b T0 ad0 Q kc ks M (pc + 3) lv st) : ZZ q p l e Rm s m args below meth c D dA b T0 ad0 Q kc ks M pc lv (vI y :: vI x :: st) := z_icmp_gt C _ hd (xtgt h0) (fun z => kt ((wr_lt y x).mp z)) (fun z => kf (fun h => z ((wr_lt y x).mpr h)))
theorem g_if_gt (C : ZC q p s m args meth c D dA b) {x : Int} {off : Int} (hd : decode (xqc q) pc = .ok (.ifCond .gt off, 3)) (h0 : 0 ≤ (pc : Int) + off) (kt : 0 < wr x → ZZ q p l e Rm s m args below meth c D dA b T0 ad0 Q kc ks M ((pc : Int) + off).toNat lv st) (kf : ¬ (0 < wr x) → ZZ q p l e Rm s m args below meth c D dA b T0 ad0 Q kc ks M (pc + 3) lv st) : ZZ q p l e Rm s m args below meth c D dA b T0 ad0 Q kc ks M pc lv (vI x :: st) := z_if_gt C _ hd (xtgt h0) (fun z => kt ((wr_gtz x).mp z)) (fun z => kf (fun h => z ((wr_gtz x).mpr h)))
theorem g_icmp_le (C : ZC q p s m args meth c D dA b) {x y : Int} {off : Int} (hd : decode (xqc q) pc = .ok (.if_icmp .le off, 3)) (h0 : 0 ≤ (pc : Int) + off) (kt : wr x ≤ wr y → ZZ q p l e Rm s m args below meth c D dA b T0 ad0 Q kc ks M ((pc : Int) + off).toNat lv st) (kf : ¬ (wr x ≤ wr y) → ZZ q p l e Rm s m args below meth c D dA b T0 ad0 Q kc ks M (pc + 3) lv st) : ZZ q p l e Rm s m args below meth c D dA b T0 ad0 Q kc ks M pc lv (vI y :: vI x :: st) := z_icmp_le C _ hd (xtgt h0) (fun z => kt ((wr_le x y).mp z)) (fun z => kf (fun h => z ((wr_le x y).mpr h)))
theorem g_if_le (C : ZC q p s m args meth c D dA b) {x : Int} {off : Int} (hd : decode (xqc q) pc = .ok (.ifCond .le off, 3)) (h0 : 0 ≤ (pc : Int) + off) (kt : wr x ≤ 0 → ZZ q p l e Rm s m args below meth c D dA b T0 ad0 Q kc ks M ((pc : Int) + off).toNat lv st) (kf : ¬ (wr x ≤ 0) → ZZ q p l e Rm s m args below meth c D dA b T0 ad0 Q kc ks M (pc + 3) lv st) : ZZ q p l e Rm s m args below meth c D dA b T0 ad0 Q kc ks M pc lv (vI x :: st) := z_if_le C _ hd (xtgt h0) (fun z => kt ((wr_lez x).mp z)) (fun z => kf (fun h => z ((wr_lez x).mpr h)))
theorem g_ifnull (C : ZC q p s m args meth c D dA b) {L : Nat} {off : Int} (hd : decode (xqc q) pc = .ok (.ifnull off, 3)) (h0 : 0 ≤ (pc : Int) + off) (kt : L = 0 → ZZ q p l e Rm s m args below meth c D dA b T0 ad0 Q kc ks M ((pc : Int) + off).toNat lv st) (kf : ¬ L = 0 → ZZ q p l e Rm s m args below meth c D dA b T0 ad0 Q kc ks M (pc + 3) lv st) : ZZ q p l e Rm s m args below meth c D dA b T0 ad0 Q kc ks M pc lv (vR L :: st) := by
  by_cases hz : L = 0
  · subst hz
    exact z_ifnullN C _ hd (xtgt h0) (kt rfl)
  · show lz_Z _ _ _ _ _ _ _ _ _ _ _ _ _ _ _ _ _ _ _ _ _ _ _ _ _ (xval (vR L) :: st.map xval)
    rw [xval_r hz]
    exact z_ifnull C hd (kf hz)
theorem g_ifnonnull (C : ZC q p s m args meth c D dA b) {L : Nat} {off : Int} (hd : decode (xqc q) pc = .ok (.ifnonnull off, 3)) (h0 : 0 ≤ (pc : Int) + off) (kt : ¬ L = 0 → ZZ q p l e Rm s m args below meth c D dA b T0 ad0 Q kc ks M ((pc : Int) + off).toNat lv st) (kf : L = 0 → ZZ q p l e Rm s m args below meth c D dA b T0 ad0 Q kc ks M (pc + 3) lv st) : ZZ q p l e Rm s m args below meth c D dA b T0 ad0 Q kc ks M pc lv (vR L :: st) := by
  by_cases hz : L = 0
  · subst hz
    exact z_ifnonnullN C hd (kf rfl)
  · show lz_Z _ _ _ _ _ _ _ _ _ _ _ _ _ _ _ _ _ _ _ _ _ _ _ _ _ (xval (vR L) :: st.map xval)
    rw [xval_r hz]
    exact z_ifnonnull C _ hd (xtgt h0) (kt hz)
theorem g_tableIn (C : ZC q p s m args meth c D dA b) {dflt lo hi : Int} {offs : Array Int} {len : Nat} {x off : Int} (hd : decode (xqc q) pc = .ok (.tableswitch dflt lo hi offs, len)) (g1 : lo ≤ wr x) (g2 : wr x ≤ hi) (ho : offs[(wr x - lo).toNat]? = some off) (h0 : 0 ≤ (pc : Int) + off) (kk : ZZ q p l e Rm s m args below meth c D dA b T0 ad0 Q kc ks M ((pc : Int) + off).toNat lv st) : ZZ q p l e Rm s m args below meth c D dA b T0 ad0 Q kc ks M pc lv (vI x :: st) := z_tableIn C _ hd (by rw [wr_eq]; omega) (by rw [wr_eq]; omega) (by rw [wr_eq]; exact ho) (xtgt h0) kk
theorem g_tableOut (C : ZC q p s m args meth c D dA b) {dflt lo hi : Int} {offs : Array Int} {len : Nat} {x : Int} (hd : decode (xqc q) pc = .ok (.tableswitch dflt lo hi offs, len)) (g1 : ¬ (lo ≤ wr x ∧ wr x ≤ hi)) (h0 : 0 ≤ (pc : Int) + dflt) (kk : ZZ q p l e Rm s m args below meth c D dA b T0 ad0 Q kc ks M ((pc : Int) + dflt).toNat lv st) : ZZ q p l e Rm s m args below meth c D dA b T0 ad0 Q kc ks M pc lv (vI x :: st) := z_tableOut C _ hd (by rw [wr_eq]; omega) (xtgt h0) kk
theorem xup_A (L k : Nat) (x : Int) : xA (wA M L k x) = lz_up (xA M) L k (Int32.ofInt x) := by
  funext a j
  show Int32.ofInt (lz_up M.2.1 L k x a j) = _
  unfold lz_up
  split <;> rfl
theorem xup_R (L k x : Nat) : xR (wR M L k x) = lz_up (xR M) L k (if x = 0 then none else some x) := by
  funext a j
  show (if lz_up M.2.2.2.1 L k x a j = 0 then none else some (lz_up M.2.2.2.1 L k x a j)) = _
  unfold lz_up
  split <;> rfl
abbrev ZS (M : xm) (st : List xv) : Prop := lz_oks (xT M) (st.map xval)
theorem g_asm (h : ZS M st → ZZ q p l e Rm s m args below meth c D dA b T0 ad0 Q kc ks M pc lv st) : ZZ q p l e Rm s m args below meth c D dA b T0 ad0 Q kc ks M pc lv st := lz_asm h
theorem g_stk {st2 : List Value} (hs : st.map xval = st2) (h : lz_Z p l e Rm s m args below meth c D dA b (xqn q) T0 ad0 Q kc ks (xT M) (xA M) (mB M) (xR M) pc (xlv 0 lv) st2) : ZZ q p l e Rm s m args below meth c D dA b T0 ad0 Q kc ks M pc lv st := by
  show lz_Z _ _ _ _ _ _ _ _ _ _ _ _ _ _ _ _ _ _ _ _ _ _ _ _ _ _
  rw [hs]
  exact h
theorem zs_hd {v : xv} (h : ZS M (v :: st)) : lz_ok (xT M) (xval v) := (lz_oks_cons.mp h).1
theorem zs_tl {v : xv} (h : ZS M (v :: st)) : ZS M st := (lz_oks_cons.mp h).2
theorem g_get0 (C : ZC q p s m args meth c D dA b) {L k ci j : Nat} (F : lz_F (xqy q).cls k ci j 0) (hd : decode (xqc q) pc = .ok (.getfield k, 3)) (ht : tg L = 1 + ci) (kk : ZZ q p l e Rm s m args below meth c D dA b T0 ad0 Q kc ks M (pc + 3) lv (vI (mA M L j) :: st)) : ZZ q p l e Rm s m args below meth c D dA b T0 ad0 Q kc ks M pc lv (vR L :: st) := by
  refine g_asm (fun hz => ?_)
  have hL : ¬ L = 0 := fun z => by rw [z] at ht; unfold tg at ht; omega
  exact g_stk (by rw [List.map_cons, xval_r hL]) (z_geti C F (xT_tag (zs_hd hz) ht (by omega)) rfl hd kk)
theorem g_get1 (C : ZC q p s m args meth c D dA b) {L k ci j : Nat} (F : lz_F (xqy q).cls k ci j 1) (hd : decode (xqc q) pc = .ok (.getfield k, 3)) (ht : tg L = 1 + ci) (kk : ZZ q p l e Rm s m args below meth c D dA b T0 ad0 Q kc ks M (pc + 3) lv (vD (mB M L j) :: st)) : ZZ q p l e Rm s m args below meth c D dA b T0 ad0 Q kc ks M pc lv (vR L :: st) := by
  refine g_asm (fun hz => ?_)
  have hL : ¬ L = 0 := fun z => by rw [z] at ht; unfold tg at ht; omega
  exact g_stk (by rw [List.map_cons, xval_r hL]) (z_getd C F (xT_tag (zs_hd hz) ht (by omega)) rfl hd kk)
theorem g_get2 (C : ZC q p s m args meth c D dA b) {L k ci j : Nat} (F : lz_F (xqy q).cls k ci j 2) (hd : decode (xqc q) pc = .ok (.getfield k, 3)) (ht : tg L = 1 + ci) (kk : ZZ q p l e Rm s m args below meth c D dA b T0 ad0 Q kc ks M (pc + 3) lv (vR (mR M L j) :: st)) : ZZ q p l e Rm s m args below meth c D dA b T0 ad0 Q kc ks M pc lv (vR L :: st) := by
  refine g_asm (fun hz => ?_)
  have hL : ¬ L = 0 := fun z => by rw [z] at ht; unfold tg at ht; omega
  refine g_stk (by rw [List.map_cons, xval_r hL]) ?_
  by_cases hn : mR M L j = 0
  · exact z_getn C F (xT_tag (zs_hd hz) ht (by omega)) (by unfold xR; rw [if_pos hn]) hd (by rw [hn] at kk; exact kk)
  · exact z_getr C F (xT_tag (zs_hd hz) ht (by omega)) (by unfold xR; rw [if_neg hn]) hd (by unfold ZZ at kk; rw [List.map_cons, xval_r hn] at kk; exact kk)
theorem g_put0 (C : ZC q p s m args meth c D dA b) {L k ci j : Nat} {x : Int} (F : lz_G (xqy q) k ci j 0) (hd : decode (xqc q) pc = .ok (.putfield k, 3)) (ht : tg L = 1 + ci) (kk : ZZ q p l e Rm s m args below meth c D dA b T0 ad0 Q kc ks (wA M L j x) (pc + 3) lv st) : ZZ q p l e Rm s m args below meth c D dA b T0 ad0 Q kc ks M pc lv (vI x :: vR L :: st) := by
  refine g_asm (fun hz => ?_)
  have hL : ¬ L = 0 := fun z => by rw [z] at ht; unfold tg at ht; omega
  refine g_stk (by rw [List.map_cons, List.map_cons, xval_r hL]; rfl) (z_puti C F (xT_tag (zs_hd (zs_tl hz)) ht (by omega)) hd ?_)
  rw [← xup_A]
  exact kk
theorem g_put1 (C : ZC q p s m args meth c D dA b) {L k ci j : Nat} {x : UInt64} (F : lz_G (xqy q) k ci j 1) (hd : decode (xqc q) pc = .ok (.putfield k, 3)) (ht : tg L = 1 + ci) (kk : ZZ q p l e Rm s m args below meth c D dA b T0 ad0 Q kc ks (wB M L j x) (pc + 3) lv st) : ZZ q p l e Rm s m args below meth c D dA b T0 ad0 Q kc ks M pc lv (vD x :: vR L :: st) := by
  refine g_asm (fun hz => ?_)
  have hL : ¬ L = 0 := fun z => by rw [z] at ht; unfold tg at ht; omega
  exact g_stk (by rw [List.map_cons, List.map_cons, xval_r hL]; rfl) (z_putd C F (xT_tag (zs_hd (zs_tl hz)) ht (by omega)) hd kk)
theorem g_put2 (C : ZC q p s m args meth c D dA b) {L k ci j x : Nat} (F : lz_G (xqy q) k ci j 2) (hd : decode (xqc q) pc = .ok (.putfield k, 3)) (ht : tg L = 1 + ci) (kk : ZZ q p l e Rm s m args below meth c D dA b T0 ad0 Q kc ks (wR M L j x) (pc + 3) lv st) : ZZ q p l e Rm s m args below meth c D dA b T0 ad0 Q kc ks M pc lv (vR x :: vR L :: st) := by
  refine g_asm (fun hz => ?_)
  have hL : ¬ L = 0 := fun z => by rw [z] at ht; unfold tg at ht; omega
  refine g_stk (by rw [List.map_cons, List.map_cons, xval_r hL, xval_rf]) (z_putq C F (xT_tag (zs_hd (zs_tl hz)) ht (by omega)) hd ?_)
  rw [← xup_R]
  exact kk
theorem ln_lt (L : Nat) : ln L < 2 ^ 31 := by unfold ln; omega
theorem tg_ne {L t : Nat} (h : tg L = t) (h0 : 0 < t) : ¬ L = 0 := fun z => by rw [z] at h; unfold tg at h; omega
theorem g_iald (C : ZC q p s m args meth c D dA b) {L : Nat} {i : Int} (hd : decode (xqc q) pc = .ok (.iaload, 1)) (ht : tg L = 32) (h1 : 0 ≤ wr i) (h2 : wr i < ln L) (kk : ZZ q p l e Rm s m args below meth c D dA b T0 ad0 Q kc ks M (pc + 1) lv (vI (mA M L (wr i).toNat) :: st)) : ZZ q p l e Rm s m args below meth c D dA b T0 ad0 Q kc ks M pc lv (vI i :: vR L :: st) := by
  refine g_asm (fun hz => ?_)
  exact g_stk (by rw [List.map_cons, List.map_cons, xval_r (tg_ne ht (by omega))]; rfl) (z_iald C (xT_tag (zs_hd (zs_tl hz)) ht (by omega)) (xnI h1) (by omega) (ln_lt L) rfl hd kk)
theorem g_zald (C : ZC q p s m args meth c D dA b) {L : Nat} {i : Int} (hd : decode (xqc q) pc = .ok (.baload, 1)) (ht : tg L = 34) (h1 : 0 ≤ wr i) (h2 : wr i < ln L) (kk : ZZ q p l e Rm s m args below meth c D dA b T0 ad0 Q kc ks M (pc + 1) lv (vI (mA M L (wr i).toNat) :: st)) : ZZ q p l e Rm s m args below meth c D dA b T0 ad0 Q kc ks M pc lv (vI i :: vR L :: st) := by
  refine g_asm (fun hz => ?_)
  exact g_stk (by rw [List.map_cons, List.map_cons, xval_r (tg_ne ht (by omega))]; rfl) (z_zald C (xT_tag (zs_hd (zs_tl hz)) ht (by omega)) (xnI h1) (by omega) (ln_lt L) rfl hd kk)
theorem g_dald (C : ZC q p s m args meth c D dA b) {L : Nat} {i : Int} (hd : decode (xqc q) pc = .ok (.daload, 1)) (ht : tg L = 33) (h1 : 0 ≤ wr i) (h2 : wr i < ln L) (kk : ZZ q p l e Rm s m args below meth c D dA b T0 ad0 Q kc ks M (pc + 1) lv (vD (mB M L (wr i).toNat) :: st)) : ZZ q p l e Rm s m args below meth c D dA b T0 ad0 Q kc ks M pc lv (vI i :: vR L :: st) := by
  refine g_asm (fun hz => ?_)
  exact g_stk (by rw [List.map_cons, List.map_cons, xval_r (tg_ne ht (by omega))]; rfl) (z_dald C (xT_tag (zs_hd (zs_tl hz)) ht (by omega)) (xnI h1) (by omega) (ln_lt L) rfl hd kk)
theorem g_aald (C : ZC q p s m args meth c D dA b) {L : Nat} {i : Int} (hd : decode (xqc q) pc = .ok (.aaload, 1)) (ht : 35 ≤ tg L) (ht2 : tg L < 39) (h1 : 0 ≤ wr i) (h2 : wr i < ln L) (kk : ZZ q p l e Rm s m args below meth c D dA b T0 ad0 Q kc ks M (pc + 1) lv (vR (mR M L (wr i).toNat) :: st)) : ZZ q p l e Rm s m args below meth c D dA b T0 ad0 Q kc ks M pc lv (vI i :: vR L :: st) := by
  refine g_asm (fun hz => ?_)
  refine g_stk (by rw [List.map_cons, List.map_cons, xval_r (tg_ne rfl (by omega))]; rfl) (z_aldv C (t := tg L - 32) (by omega) (by omega) (xT_tag (t := 32 + (tg L - 32)) (zs_hd (zs_tl hz)) (by omega) (by omega)) (xnI h1) (by omega) (ln_lt L) hd ?_)
  unfold ZZ at kk; rw [List.map_cons, xval_rf] at kk
  exact kk
theorem g_alen (C : ZC q p s m args meth c D dA b) {L : Nat} (hd : decode (xqc q) pc = .ok (.arraylength, 1)) (ht : 32 ≤ tg L) (ht2 : tg L < 39) (kk : ZZ q p l e Rm s m args below meth c D dA b T0 ad0 Q kc ks M (pc + 1) lv (vI (ln L) :: st)) : ZZ q p l e Rm s m args below meth c D dA b T0 ad0 Q kc ks M pc lv (vR L :: st) := by
  refine g_asm (fun hz => ?_)
  refine g_stk (by rw [List.map_cons, xval_r (tg_ne rfl (by omega))]) (z_alen C (t := tg L - 32) (by omega) (xT_tag (t := 32 + (tg L - 32)) (zs_hd hz) (by omega) (by omega)) hd ?_)
  rw [show nI (ln L) = Int32.ofInt (ln L : Nat) from rfl]
  exact kk
theorem g_iast (C : ZC q p s m args meth c D dA b) {L : Nat} {i x : Int} (hd : decode (xqc q) pc = .ok (.iastore, 1)) (ht : tg L = 32) (h1 : 0 ≤ wr i) (h2 : wr i < ln L) (kk : ZZ q p l e Rm s m args below meth c D dA b T0 ad0 Q kc ks (wA M L (wr i).toNat x) (pc + 1) lv st) : ZZ q p l e Rm s m args below meth c D dA b T0 ad0 Q kc ks M pc lv (vI x :: vI i :: vR L :: st) := by
  refine g_asm (fun hz => ?_)
  refine g_stk (by rw [List.map_cons, List.map_cons, List.map_cons, xval_r (tg_ne ht (by omega))]; rfl) (z_iast C (xT_tag (zs_hd (zs_tl (zs_tl hz))) ht (by omega)) (xnI h1) (i := (wr i).toNat) (by omega) (ln_lt L) hd ?_)
  rw [← xup_A]
  exact kk
theorem g_zast (C : ZC q p s m args meth c D dA b) {L : Nat} {i x : Int} (hd : decode (xqc q) pc = .ok (.bastore, 1)) (ht : tg L = 34) (h1 : 0 ≤ wr i) (h2 : wr i < ln L) (hx : x = 0 ∨ x = 1) (kk : ZZ q p l e Rm s m args below meth c D dA b T0 ad0 Q kc ks (wA M L (wr i).toNat x) (pc + 1) lv st) : ZZ q p l e Rm s m args below meth c D dA b T0 ad0 Q kc ks M pc lv (vI x :: vI i :: vR L :: st) := by
  refine g_asm (fun hz => ?_)
  refine g_stk (by rw [List.map_cons, List.map_cons, List.map_cons, xval_r (tg_ne ht (by omega))]; rfl) (z_zast C (xT_tag (zs_hd (zs_tl (zs_tl hz))) ht (by omega)) (xnI h1) (i := (wr i).toNat) (by omega) (ln_lt L) (by rcases hx with rfl | rfl <;> rfl) hd ?_)
  rw [← xup_A]
  exact kk
theorem g_dast (C : ZC q p s m args meth c D dA b) {L : Nat} {i : Int} {x : UInt64} (hd : decode (xqc q) pc = .ok (.dastore, 1)) (ht : tg L = 33) (h1 : 0 ≤ wr i) (h2 : wr i < ln L) (kk : ZZ q p l e Rm s m args below meth c D dA b T0 ad0 Q kc ks (wB M L (wr i).toNat x) (pc + 1) lv st) : ZZ q p l e Rm s m args below meth c D dA b T0 ad0 Q kc ks M pc lv (vD x :: vI i :: vR L :: st) := by
  refine g_asm (fun hz => ?_)
  exact g_stk (by rw [List.map_cons, List.map_cons, List.map_cons, xval_r (tg_ne ht (by omega))]; rfl) (z_dast C (xT_tag (zs_hd (zs_tl (zs_tl hz))) ht (by omega)) (xnI h1) (i := (wr i).toNat) (by omega) (ln_lt L) hd kk)
theorem xel_in {t : Nat} (h1 : 35 ≤ t) (h2 : t < 38) : ∃ (k ci : Nat) (r : vw_C), t = 32 + k ∧ 3 ≤ k ∧ vwCl[ci]? = some r ∧ ci < 11 ∧ xel t = 1 + ci ∧ ∀ dA : Nat → ClassId, (lz_tys dA)[k]? = some (dA k, .object r.1) := by
  rcases (show t = 35 ∨ t = 36 ∨ t = 37 by omega) with rfl | rfl | rfl
  · exact ⟨3, 4, _, rfl, by omega, rfl, by omega, rfl, fun _ => rfl⟩
  · exact ⟨4, 5, _, rfl, by omega, rfl, by omega, rfl, fun _ => rfl⟩
  · exact ⟨5, 8, _, rfl, by omega, rfl, by omega, rfl, fun _ => rfl⟩
theorem g_aast (C : ZC q p s m args meth c D dA b) {L x : Nat} {i : Int} (hd : decode (xqc q) pc = .ok (.aastore, 1)) (ht : 35 ≤ tg L) (ht2 : tg L < 38) (h1 : 0 ≤ wr i) (h2 : wr i < ln L) (hx : x = 0 ∨ tg x = xel (tg L)) (kk : ZZ q p l e Rm s m args below meth c D dA b T0 ad0 Q kc ks (wR M L (wr i).toNat x) (pc + 1) lv st) : ZZ q p l e Rm s m args below meth c D dA b T0 ad0 Q kc ks M pc lv (vR x :: vI i :: vR L :: st) := by
  refine g_asm (fun hz => ?_)
  obtain ⟨k, ci, r, e1, e2, e3, e4, e5, e6⟩ := xel_in ht ht2
  have kk' : lz_Z p l e Rm s m args below meth c D dA b (xqn q) T0 ad0 Q kc ks (xT M) (xA M) (mB M) (lz_up (xR M) L (wr i).toNat (if x = 0 then none else some x)) (pc + 1) (xlv 0 lv) (st.map xval) := by
    rw [← xup_R]
    exact kk
  by_cases h0 : x = 0
  · subst h0
    exact g_stk (by rw [List.map_cons, List.map_cons, List.map_cons, xval_r (L := L) (tg_ne rfl (by omega))]; rfl) (z_aastN C (t := k) e2 e6 (xT_tag (zs_hd (zs_tl (zs_tl hz))) e1 (by omega)) (xnI h1) (i := (wr i).toNat) (by omega) (ln_lt L) hd kk')
  · rw [if_neg h0] at kk'
    exact g_stk (by rw [List.map_cons, List.map_cons, List.map_cons, xval_r (L := L) (tg_ne rfl (by omega)), xval_r h0]; rfl) (z_aast C (t := k) e3 e4 e2 e6 (xT_tag (zs_hd (zs_tl (zs_tl hz))) e1 (by omega)) (xT_tag (zs_hd hz) (by rcases hx with z | z; exact absurd z h0; rw [z, e5]) (by omega)) (xnI h1) (i := (wr i).toNat) (by omega) (ln_lt L) hd kk')
end GR
end
section
/-! 16.gnew: new cells, arraycopy, over the small machine's state -/
theorem na_key {M : xm} {t n c : Nat} (ht : t < 64) (hn : n < 32768) (hc : c < 131072) : na M t n c % 64 = t ∧ na M t n c / 64 % 32768 = n ∧ na M t n c % 274877906944 = ky t n c ∧ na M t n c / 274877906944 = mC M (ky t n c) := by
  unfold na ad
  generalize hk : mC M (ky t n c) = k
  unfold ky
  omega
theorem xT_na {M : xm} {t n c : Nat} (ht : t < 64) (hn : n < 32768) (hc : c < 131072) : (xT M (na M t n c)).1 = 0 := by
  obtain ⟨h1, h2, h3, h4⟩ := na_key (M := M) ht hn hc
  unfold xT
  rw [h3, h4, if_neg (fun z => absurd z.2 (Nat.lt_irrefl _))]
theorem xT_nw {M : xm} {t n c sl : Nat} (h0 : 0 < t) (ht : t < 64) (hn : n < 32768) (hc : c < 131072) : xT (nw M t n c sl) = lz_upT (xT M) (na M t n c) (t, n) := by
  obtain ⟨h1, h2, h3, h4⟩ := na_key (M := M) ht hn hc
  funext l
  unfold lz_upT
  by_cases hl : l = na M t n c
  · rw [if_pos hl, hl]
    unfold xT
    rw [h1, h2, h3, h4, if_pos]
    refine ⟨by omega, ?_⟩
    show mC M (ky t n c) < if ky t n c = ky t n c then mC M (ky t n c) + 1 else mC M (ky t n c)
    rw [if_pos rfl]
    omega
  · rw [if_neg hl]
    unfold xT
    have hm : mC (nw M t n c sl) (l % 274877906944) = if l % 274877906944 = ky t n c then mC M (l % 274877906944) + 1 else mC M (l % 274877906944) := rfl
    rw [hm]
    by_cases hk : l % 274877906944 = ky t n c
    · rw [if_pos hk]
      have hne : l / 274877906944 ≠ mC M (ky t n c) := fun z => hl (by
        have e1 := Nat.div_add_mod l 274877906944
        have e2 := Nat.div_add_mod (na M t n c) 274877906944
        rw [h3, h4] at e2
        rw [hk, z] at e1
        exact e1.symm.trans e2)
      rw [hk]
      by_cases hq : l % 64 ≠ 0 ∧ l / 274877906944 < mC M (ky t n c)
      · rw [if_pos hq, if_pos ⟨hq.1, by omega⟩]
      · rw [if_neg hq, if_neg (fun z => hq ⟨z.1, by omega⟩)]
    · rw [if_neg hk]
section GN
variable {p : Program} {l : Launch} {e : Env} {Rm : Room} {s : State} {m : MethodId} {args : Array Value} {below : List Frame} {meth : Method} {c : Code} {D : va_G} {dA : Nat → ClassId} {b nL : Nat} {T0 : lz_T} {ad0 : Nat → Nat} {Q : State → Prop} {kc ks : Nat} {M : xm} {pc : Nat} {lv st : List xv} {q : xq}
theorem lz_asmZ {T : lz_T} {A : lz_A} {B : lz_B} {R : lz_R} {lz : List (Nat × Value)} {vs : List Value} (h : (∀ L, (T L).1 = 0 → A L = (fun _ => 0) ∧ B L = (fun _ => 0) ∧ R L = fun _ => none) → lz_Z p l e Rm s m args below meth c D dA b nL T0 ad0 Q kc ks T A B R pc lz vs) : lz_Z p l e Rm s m args below meth c D dA b nL T0 ad0 Q kc ks T A B R pc lz vs :=
  fun H locs la cells slots ad h1 h2 h3 h4 h5 h6 h7 h8 => h (by obtain ⟨Ls, hmem, hP, hD, hcl, hz⟩ := id h3; exact hz) H locs la cells slots ad h1 h2 h3 h4 h5 h6 h7 h8
/-- the memory behind a new cell is, for the machine, the one before it, but for T -/
theorem xnw_same {t n c sl : Nat} (ht : t < 64) (hn : n < 32768) (hc : c < 131072) (hz : ∀ L, (xT M L).1 = 0 → xA M L = (fun _ => 0) ∧ mB M L = (fun _ => 0) ∧ xR M L = fun _ => none) : xA (nw M t n c sl) = xA M ∧ mB (nw M t n c sl) = mB M ∧ xR (nw M t n c sl) = xR M := by
  obtain ⟨z1, z2, z3⟩ := hz _ (xT_na (M := M) ht hn hc)
  refine ⟨?_, ?_, ?_⟩
  · funext L j
    show Int32.ofInt (if L = na M t n c then 0 else M.2.1 L j) = _
    by_cases hL : L = na M t n c
    · rw [if_pos hL, hL, z1]; rfl
    · rw [if_neg hL]; rfl
  · funext L j
    show (if L = na M t n c then 0 else M.2.2.1 L j) = _
    by_cases hL : L = na M t n c
    · rw [if_pos hL, hL, z2]
    · rw [if_neg hL]; rfl
  · funext L j
    show (if (if L = na M t n c then 0 else M.2.2.2.1 L j) = 0 then none else some (if L = na M t n c then 0 else M.2.2.2.1 L j)) = _
    by_cases hL : L = na M t n c
    · rw [if_pos hL, if_pos rfl, hL, z3]
    · rw [if_neg hL]; rfl
theorem na_ne {t n c : Nat} (h0 : 0 < t) (ht : t < 64) (hn : n < 32768) (hc : c < 131072) : ¬ na M t n c = 0 := fun z => by
  have := (na_key (M := M) ht hn hc).1
  rw [z] at this
  omega
theorem g_new (C : ZC q p s m args meth c D dA b) {k ci : Nat} (F : lz_N (xqy q).cls k ci) (hcol : xcol q pc < 131072) (hc : kc + 1 ≤ Rm.cells) (hs : ks + lz_nF ci ≤ Rm.slots) (hd : decode (xqc q) pc = .ok (.new k, 3))
    (kk : ZZ q p l e Rm s m args below meth c D dA b T0 ad0 Q (kc + 1) (ks + lz_nF ci) (nw M (1 + ci) 0 (xcol q pc) (lz_nF ci)) (pc + 3) lv (vR (na M (1 + ci) 0 (xcol q pc)) :: st)) : ZZ q p l e Rm s m args below meth c D dA b T0 ad0 Q kc ks M pc lv st := by
  have hci : ci < 11 := F.1
  refine lz_asmZ (fun hz => ?_)
  obtain ⟨s1, s2, s3⟩ := xnw_same (M := M) (t := 1 + ci) (n := 0) (c := xcol q pc) (sl := lz_nF ci) (by omega) (by omega) hcol hz
  refine z_new C (na M (1 + ci) 0 (xcol q pc)) F (xT_na (by omega) (by omega) hcol) hc hs hd ?_
  unfold ZZ at kk
  rw [s1, s2, s3, xT_nw (by omega) (by omega) (by omega) hcol, List.map_cons, xval_r (na_ne (by omega) (by omega) (by omega) hcol)] at kk
  exact kk
theorem g_newa (C : ZC q p s m args meth c D dA b) {at0 : ArrayType} {ty : FieldType} {t : Nat} {x : Int} (hw : Cond.arrayClass ty ∈ lw_tb2) (hty : newarray.typeOf at0 = ty) (ht : ∀ dA : Nat → ClassId, (lz_tys dA)[t]? = some (dA t, ty)) (ht3 : t < 3) (hdef : ∀ (L N : Nat) (ad : Nat → Nat) (cA : ClassId), vp_cell cA (lz_ar ad (fun _ _ => 0) (fun _ _ => 0) (fun _ _ => none) L t N) = arrV cA N (fun _ => defaultValue ty)) (hcb : componentBytes ty ≤ 8) (hcol : xcol q pc < 131072) (h1 : 0 ≤ wr x) (h2 : wr x < 32768) (hc : kc + 1 ≤ Rm.cells) (hs : ks + (wr x).toNat ≤ Rm.slots) (hd : decode (xqc q) pc = .ok (.newarray at0, 2))
    (kk : ZZ q p l e Rm s m args below meth c D dA b T0 ad0 Q (kc + 1) (ks + (wr x).toNat) (nw M (32 + t) (wr x).toNat (xcol q pc) (wr x).toNat) (pc + 2) lv (vR (na M (32 + t) (wr x).toNat (xcol q pc)) :: st)) : ZZ q p l e Rm s m args below meth c D dA b T0 ad0 Q kc ks M pc lv (vI x :: st) := by
  refine lz_asmZ (fun hz => ?_)
  obtain ⟨s1, s2, s3⟩ := xnw_same (M := M) (t := 32 + t) (n := (wr x).toNat) (c := xcol q pc) (sl := (wr x).toNat) (by omega) (by omega) hcol hz
  have hN : (wr x).toNat * componentBytes ty ≤ 536870912 := Nat.le_trans (Nat.mul_le_mul (show (wr x).toNat ≤ 32768 by omega) hcb) (by decide)
  refine z_newa C (t := t) (na M (32 + t) (wr x).toNat (xcol q pc)) hw hty ht (fun ad cA => hdef _ _ ad cA) (xnI h1) hN (by omega) (xT_na (by omega) (by omega) hcol) hc hs hd ?_
  unfold ZZ at kk
  rw [s1, s2, s3, xT_nw (by omega) (by omega) (by omega) hcol, List.map_cons, xval_r (na_ne (by omega) (by omega) (by omega) hcol)] at kk
  exact kk
theorem g_newq (C : ZC q p s m args meth c D dA b) {k t : Nat} {x : Int} {cn : String} (hao : ∀ U, lz_K D dA U → va_AO cn U) (hw : Cond.classLink (xqy q).cls k cn ∈ lw_tb2) (ht : ∀ dA : Nat → ClassId, (lz_tys dA)[t]? = some (dA t, .object cn)) (ht3 : 3 ≤ t) (ht6 : t < 7) (hcol : xcol q pc < 131072) (h1 : 0 ≤ wr x) (h2 : wr x < 32768) (hc : kc + 1 ≤ Rm.cells) (hs : ks + (wr x).toNat ≤ Rm.slots) (hd : decode (xqc q) pc = .ok (.anewarray k, 3))
    (kk : ZZ q p l e Rm s m args below meth c D dA b T0 ad0 Q (kc + 1) (ks + (wr x).toNat) (nw M (32 + t) (wr x).toNat (xcol q pc) (wr x).toNat) (pc + 3) lv (vR (na M (32 + t) (wr x).toNat (xcol q pc)) :: st)) : ZZ q p l e Rm s m args below meth c D dA b T0 ad0 Q kc ks M pc lv (vI x :: st) := by
  refine lz_asmZ (fun hz => ?_)
  obtain ⟨s1, s2, s3⟩ := xnw_same (M := M) (t := 32 + t) (n := (wr x).toNat) (c := xcol q pc) (sl := (wr x).toNat) (by omega) (by omega) hcol hz
  refine z_newq C (t := t) (na M (32 + t) (wr x).toNat (xcol q pc)) hao hw ht ht3 (xnI h1) (by omega) (by omega) (xT_na (by omega) (by omega) hcol) hc hs hd ?_
  unfold ZZ at kk
  rw [s1, s2, s3, xT_nw (by omega) (by omega) (by omega) hcol, List.map_cons, xval_r (na_ne (by omega) (by omega) (by omega) hcol)] at kk
  exact kk
theorem z_acopy {T : lz_T} {A : lz_A} {B : lz_B} {R : lz_R} {lz : List (Nat × Value)} {rest : List Value} {y : MethodName} {cc : ByteArray} {ret : Option FieldType} (C : lz_C p s m args meth c D dA b y cc nL ret) {Ls Ld n0 n1 idx sp dp n : Nat} {spi dpi ni : Int32} (G : Cond.methodLink y.cls idx arraycopyName ∈ lw_tb2) (G2 : Cond.native arraycopyName ∈ lw_tb2 ∧ Cond.static arraycopyName ∈ lw_tb2 ∧ Cond.initialized "java/lang/System" ∈ lw_tb2) (hT0 : T Ls = (32 + 0, n0)) (hT1 : T Ld = (32 + 0, n1))
    (e1 : spi = nI sp) (e2 : dpi = nI dp) (e3 : ni = nI n) (h4' : sp + n ≤ n0) (h5' : dp + n ≤ n1) (b0 : n0 < 2 ^ 31) (b1 : n1 < 2 ^ 31) (hF : 1 ≤ Rm.frames) (hW : (rest.map fun v => v.category).sum + 18 ≤ Rm.locals) (hdg : decode cc pc = .ok (.invokestatic idx, 3))
    (kk : lz_Z p l e Rm s m args below meth c D dA b nL T0 ad0 Q kc ks T (fun a j => if a = Ld ∧ dp ≤ j ∧ j < dp + n then A Ls (sp + (j - dp)) else A a j) B R (pc + 3) lz rest) : lz_Z p l e Rm s m args below meth c D dA b nL T0 ad0 Q kc ks T A B R pc lz (.int ni :: .int dpi :: .ref Ld :: .int spi :: .ref Ls :: rest) := by
  intro H locs la cells slots ad h1 h2 h3 h4 h5 h6 h7 h8
  obtain ⟨Ls', hmem, hP, hD, hcl, hz⟩ := id h3
  obtain ⟨k0, hk0⟩ := lz_pos hmem (lz_tag_a hT0)
  obtain ⟨k1, hk1⟩ := lz_pos hmem (lz_tag_a hT1)
  have he0 := lz_ws_at (dA := dA) (ad := ad) (T := T) (A := A) (B := B) (R := R) hk0
  have he1 := lz_ws_at (dA := dA) (ad := ad) (T := T) (A := A) (B := B) (R := R) hk1
  rw [lz_cell_a hT0] at he0
  rw [lz_cell_a hT1] at he1
  subst e1; subst e2; subst e3
  have c1 : (nI sp).toNatClampNeg = sp := nI_clamp (by omega)
  have c2 : (nI dp).toNatClampNeg = dp := nI_clamp (by omega)
  have c3 : (nI n).toNatClampNeg = n := nI_clamp (by omega)
  refine va_copyi (ty := .int) C.1 C.2.1 (by rw [C.2.2.1, h6.1]) C.2.2.2.1 (C.2.2.2.2.1 _ G) (C.2.2.2.2.1 _ G2.1) (C.2.2.2.2.1 _ G2.2.1) (C.2.2.2.2.1 _ G2.2.2) C.2.2.2.2.2.1.1 hP hD h5 k0 k1 0 0 he0 he1 rfl rfl rfl (nI_pos (by omega)) (nI_pos (by omega)) (nI_pos (by omega)) (by rw [c1, c3]; exact h4') (by rw [c2, c3]; exact h5') (fun i _ => rfl) hF ?_ hdg (fun H1 locs1 hP1 hD1 hS1 => ?_)
  · rw [lz_catsum, show nativeFrameWords "java/lang/System" "arraycopy" 5 = 7 by decide]
    exact hW
  · rw [c1, c2, c3] at hP1 hD1
    refine kk H1 locs1 la cells slots ad h1 h2 (lz_H_set hmem hD hz hk1 (lz_tag_a hT1) (fun a ha => ⟨?_, rfl, rfl⟩) hcl ?_ hP1 hD1) h4 hS1 h6 h7 (lz_oks_cons.mp (lz_oks_cons.mp (lz_oks_cons.mp (lz_oks_cons.mp (lz_oks_cons.mp h8).2).2).2).2).2
    · funext j
      exact if_neg (fun z => ha z.1)
    · rw [lz_cell_a hT1]
      congr 2
      show (n1, Sum.inl _) = (n1, Sum.inl _)
      congr 2
      funext j
      by_cases hj : dp ≤ j ∧ j < dp + n
      · rw [pk_cpy_in hj.1 hj.2]
        exact if_pos ⟨rfl, hj⟩
      · rw [pk_cpy_out (by omega)]
        exact if_neg (fun z => hj z.2)
theorem g_acopy (C : ZC q p s m args meth c D dA b) {Ls Ld idx : Nat} {sp dp n : Int} (G : Cond.methodLink (xqy q).cls idx arraycopyName ∈ lw_tb2) (t0 : tg Ls = 32) (t1 : tg Ld = 32) (a1 : 0 ≤ wr sp) (a2 : 0 ≤ wr dp) (a3 : 0 ≤ wr n) (a4 : wr sp + wr n ≤ ln Ls) (a5 : wr dp + wr n ≤ ln Ld) (hF : 1 ≤ Rm.frames) (hW : cs st + 18 ≤ Rm.locals) (hd : decode (xqc q) pc = .ok (.invokestatic idx, 3))
    (kk : ZZ q p l e Rm s m args below meth c D dA b T0 ad0 Q kc ks (wC M Ls (wr sp).toNat Ld (wr dp).toNat (wr n).toNat) (pc + 3) lv st) : ZZ q p l e Rm s m args below meth c D dA b T0 ad0 Q kc ks M pc lv (vI n :: vI dp :: vR Ld :: vI sp :: vR Ls :: st) := by
  refine g_asm (fun hz => ?_)
  refine g_stk (by rw [List.map_cons, List.map_cons, List.map_cons, List.map_cons, List.map_cons, xval_r (tg_ne t0 (by omega)), xval_r (tg_ne t1 (by omega))]; rfl) (z_acopy C G xy_ok2 (xT_tag (zs_hd (zs_tl (zs_tl (zs_tl (zs_tl hz))))) t0 (by omega)) (xT_tag (zs_hd (zs_tl (zs_tl hz))) t1 (by omega)) (xnI a1) (xnI a2) (xnI a3) (by omega) (by omega) (ln_lt Ls) (ln_lt Ld) hF (by rw [cs_sum]; exact hW) hd ?_)
  have hA : xA (wC M Ls (wr sp).toNat Ld (wr dp).toNat (wr n).toNat) = fun a j => if a = Ld ∧ (wr dp).toNat ≤ j ∧ j < (wr dp).toNat + (wr n).toNat then xA M Ls ((wr sp).toNat + (j - (wr dp).toNat)) else xA M a j := by
    funext a j
    show Int32.ofInt (if a = Ld ∧ (wr dp).toNat ≤ j ∧ j < (wr dp).toNat + (wr n).toNat then M.2.1 Ls ((wr sp).toNat + (j - (wr dp).toNat)) else M.2.1 a j) = _
    split <;> rfl
  rw [← hA]
  exact kk
end GN
end
section
/-! 17.multi: new int[n][k] -/
def lz_upTs (T : lz_T) (Li : Nat → Nat) (K : Nat) : Nat → lz_T
  | 0 => T
  | i + 1 => lz_upT (lz_upTs T Li K i) (Li i) (32, K)
theorem va_D_one {P : Nat → Prop} {x : Nat × va_E} (h : P x.1) : va_D P [x] := by
  refine ⟨fun i j a c hi hj _ => ?_, fun k a hk => ?_⟩
  · have h1 : i < 1 := (List.getElem?_eq_some_iff.mp hi).1
    have h2 : j < 1 := (List.getElem?_eq_some_iff.mp hj).1
    omega
  · have h1 : k < 1 := (List.getElem?_eq_some_iff.mp hk).1
    rw [show k = 0 by omega] at hk
    cases hk
    exact h
theorem lz_ws_in {dA : Nat → ClassId} {ad : Nat → Nat} {T : lz_T} {A : lz_A} {B : lz_B} {R : lz_R} {Ls : List Nat} {k : Nat} {x : Nat × va_E} (h : (lz_ws dA ad T A B R Ls)[k]? = some x) : ∃ L, L ∈ Ls ∧ x.1 = ad L := by
  unfold lz_ws at h
  obtain ⟨L, hL, rfl⟩ := List.mem_map.mp (List.mem_of_getElem? h)
  exact ⟨L, hL, rfl⟩
/-- a cell that is there already, not yet listed, comes to the logical address L -/
theorem lz_H_more {D : va_G} {dA : Nat → ClassId} {b : Nat} {ad : Nat → Nat} {T : lz_T} {A : lz_A} {B : lz_B} {R R' : lz_R} {H1 : Heap} {L q : Nat} {x : Nat × Nat} {cA : ClassId} {a : vp_A} (h3 : lz_H D dA b ad T A B R H1) (hL : (T L).1 = 0) (hx : x.1 ≠ 0) (ho : ∀ l, l ≠ L → R' l = R l) (hcl' : ∀ k q', R' L k = some q' → (T q').1 ≠ 0) (hen : lz_cell dA (va_up ad L q) (lz_upT T L x) A B R' L = .inl (cA, a)) (hat : H1[q]? = some (vp_cell cA a)) (hb : b ≤ q) (hnew : ∀ l, (T l).1 ≠ 0 → ad l ≠ q) : lz_H D dA b (va_up ad L q) (lz_upT T L x) A B R' H1 := by
  obtain ⟨Ls, hmem, hP, hD, hcl, hz⟩ := h3
  have hP1 : va_P D vwCl (lz_ws dA ad T A B R Ls ++ [(q, .inl (cA, a))]) H1 := hP.app (fun k9 y hy => by
    have h0 : k9 < 1 := (List.getElem?_eq_some_iff.mp hy).1
    rw [show k9 = 0 by omega] at hy
    cases hy
    exact hat)
  have hD1 : va_D (fun q => b ≤ q) (lz_ws dA ad T A B R Ls ++ [(q, .inl (cA, a))]) := va_D.app hD (va_D_one hb) (fun i j u v hu hv => by
    have h0 : j < 1 := (List.getElem?_eq_some_iff.mp hv).1
    rw [show j = 0 by omega] at hv
    cases hv
    obtain ⟨l, hl, e⟩ := lz_ws_in hu
    rw [e]
    exact hnew l ((hmem l).mp hl))
  have hw : lz_ws dA ad T A B R Ls ++ [(q, .inl (cA, a))] = lz_ws dA (va_up ad L q) (lz_upT T L x) A B R' (Ls ++ [L]) := by
    unfold lz_ws
    rw [List.map_append]
    congr 1
    · apply List.map_congr_left
      intro l hl
      have hne : l ≠ L := fun z => (hmem l).mp hl (by rw [z]; exact hL)
      have hc : lz_cell dA (va_up ad L q) (lz_upT T L x) A B R' l = lz_cell dA ad T A B R l := by
        rw [lz_cell_row (A := A) (B := B) (R := R) rfl rfl (ho l hne)]
        exact lz_cell_ad (lz_upT_ne T x hne) (fun k q' hq' => by
          have h1 : q' ≠ L := fun z => hcl l k q' hq' (by rw [z]; exact hL)
          simp [va_up, h1])
      rw [hc]
      simp [va_up, hne]
    · show [(q, Sum.inl (cA, a))] = [(va_up ad L q L, _)]
      rw [hen]
      simp [va_up]
  rw [hw] at hP1 hD1
  refine ⟨Ls ++ [L], fun l => ?_, hP1, hD1, fun l k q' hq' => ?_, fun l hl => ?_⟩
  · by_cases hl : l = L
    · subst hl
      rw [lz_upT_eq]
      simp [hx]
    · rw [lz_upT_ne T x hl, List.mem_append, List.mem_singleton, hmem]
      simp [hl]
  · have h0 : (T q').1 ≠ 0 := by
      by_cases hl : l = L
      · rw [hl] at hq'; exact hcl' k q' hq'
      · rw [ho l hl] at hq'; exact hcl l k q' hq'
    have h1 : q' ≠ L := fun z => h0 (by rw [z]; exact hL)
    rw [lz_upT_ne T x h1]
    exact h0
  · by_cases h1 : l = L
    · subst h1
      rw [lz_upT_eq] at hl
      exact absurd hl hx
    · rw [lz_upT_ne T x h1] at hl
      obtain ⟨z1, z2, z3⟩ := hz l hl
      exact ⟨z1, z2, by rw [ho l h1]; exact z3⟩
theorem lz_upTs_ne {T : lz_T} {Li : Nat → Nat} {K l : Nat} : ∀ i, (∀ j, j < i → l ≠ Li j) → lz_upTs T Li K i l = T l
  | 0, _ => rfl
  | i + 1, h => by
    unfold lz_upTs
    rw [lz_upT_ne _ _ (h i (by omega))]
    exact lz_upTs_ne i (fun j hj => h j (by omega))
theorem lz_pushN {D : va_G} {dA : Nat → ClassId} {b : Nat} {ad : Nat → Nat} {T : lz_T} {A : lz_A} {B : lz_B} {R : lz_R} {H H1 : Heap} {Li : Nat → Nat} {N K : Nat} (h3 : lz_H D dA b ad T A B R H1) (hold : ∀ l, (T l).1 ≠ 0 → ad l < H.size) (hz : ∀ L, (T L).1 = 0 → A L = (fun _ => 0) ∧ B L = (fun _ => 0) ∧ R L = fun _ => none) (hfi : ∀ i, i < N → (T (Li i)).1 = 0) (hinj : ∀ i j, i < N → j < N → Li i = Li j → i = j) (hb : b ≤ H.size) (hrow : ∀ j, j < N → H1[H.size + 1 + j]? = some (vp_cell (dA 0) (K, .inl (fun _ => 0)))) :
    ∀ i, i ≤ N → ∃ ad' : Nat → Nat, lz_H D dA b ad' (lz_upTs T Li K i) A B R H1 ∧ lz_E T ad (lz_upTs T Li K i) ad' ∧ (∀ j, j < i → ad' (Li j) = H.size + 1 + j) ∧ ∀ l, (lz_upTs T Li K i l).1 ≠ 0 → ad' l ≠ H.size ∧ ad' l < H.size + 1 + i
  | 0, _ => ⟨ad, h3, lz_E.refl T ad, fun j hj => absurd hj (Nat.not_lt_zero j), fun l hl => by have := hold l hl; omega⟩
  | i + 1, hi => by
    obtain ⟨ad', g1, g2, g3, g4⟩ := lz_pushN h3 hold hz hfi hinj hb hrow i (by omega)
    have hT0 : (lz_upTs T Li K i (Li i)).1 = 0 := by
      rw [lz_upTs_ne i (fun j hj z => by have := hinj i j (by omega) (by omega) z; omega)]
      exact hfi i (by omega)
    obtain ⟨z1, z2, z3⟩ := hz (Li i) (hfi i (by omega))
    have hnew : ∀ l, (lz_upTs T Li K i l).1 ≠ 0 → ad' l ≠ H.size + 1 + i := fun l hl => by have := (g4 l hl).2; omega
    have hE : lz_E (lz_upTs T Li K i) ad' (lz_upT (lz_upTs T Li K i) (Li i) (32, K)) (va_up ad' (Li i) (H.size + 1 + i)) := lz_E_new hT0
    refine ⟨va_up ad' (Li i) (H.size + 1 + i), lz_H_more (x := (32, K)) (cA := dA 0) (a := (K, .inl (fun _ => 0))) g1 hT0 (by decide) (fun _ _ => rfl) (fun k q' hq' => by rw [z3] at hq'; cases hq') ?_ (hrow i (by omega)) (by omega) hnew, g2.trans hE, fun j hj => ?_, fun l hl => ?_⟩
    · rw [lz_cell_a (show lz_upT (lz_upTs T Li K i) (Li i) (32, K) (Li i) = (32 + 0, K) from lz_upT_eq _ _ _)]
      show Sum.inl (dA 0, K, Sum.inl (A (Li i))) = _
      rw [z1]
    · by_cases hji : j = i
      · subst hji
        simp [va_up]
      · have hne : Li j ≠ Li i := fun z => hji (hinj j i (by omega) (by omega) z)
        have := g3 j (by omega)
        simp [va_up, hne, this]
    · by_cases hli : l = Li i
      · subst hli
        have : va_up ad' (Li i) (H.size + 1 + i) (Li i) = H.size + 1 + i := by simp [va_up]
        rw [this]
        omega
      · have hl' : (lz_upTs T Li K i l).1 ≠ 0 := by
          unfold lz_upTs at hl
          rwa [lz_upT_ne _ _ hli] at hl
        have := g4 l hl'
        have h2 : va_up ad' (Li i) (H.size + 1 + i) l = ad' l := by simp [va_up, hli]
        rw [h2]
        omega
theorem lz_outer (c : ClassId) (N h0 : Nat) : ∀ i : Nat, Jvm.Free.Multi.outerC c N h0 i = arrV c N (fun j => va_rf (if j < i then some (h0 + 1 + j) else none))
  | 0 => by
    show ({ cls := c, slots := Array.replicate N .null, vm := .none } : Cell) = _
    rw [arrV_new]
    refine congrArg (arrV c N) (funext fun j => ?_)
    simp [va_rf]
  | i + 1 => by
    show (Jvm.Free.Multi.outerC c N h0 i).setSlot i (.ref (h0 + 1 + i)) = _
    rw [lz_outer c N h0 i, arrV_store]
    refine congrArg (arrV c N) (funext fun j => ?_)
    by_cases e : j = i
    · subst e
      simp [updV, va_rf]
    · by_cases h : j < i
      · simp [updV, e, h, Nat.lt_succ_of_lt h]
      · simp [updV, e, h, show ¬ j < i + 1 by omega]
section ZM
variable {p : Program} {l : Launch} {e : Env} {Rm : Room} {s : State} {m : MethodId} {args : Array Value} {below : List Frame} {meth : Method} {c : Code} {D : va_G} {dA : Nat → ClassId} {b nL : Nat} {T0 : lz_T} {ad0 : Nat → Nat} {Q : State → Prop} {kc ks : Nat} {T : lz_T} {A : lz_A} {B : lz_B} {R : lz_R} {y : MethodName} {cc : ByteArray} {ret : Option FieldType} {pc : Nat} {lv : List (Nat × Value)} {rest : List Value}
theorem z_multi (C : lz_C p s m args meth c D dA b y cc nL ret) {idx N K : Nat} (L0 : Nat) (Li : Nat → Nat) (hf0 : (T L0).1 = 0) (hfi : ∀ i, i < N → (T (Li i)).1 = 0) (hinj : ∀ i j, i < N → j < N → Li i = Li j → i = j) (hne : ∀ i, i < N → Li i ≠ L0) (G : Cond.classLink y.cls idx ("[" ++ (FieldType.array .int).toString) ∈ lw_tb2) (G2 : Cond.arrayClass .int ∈ lw_tb2) (hN : N < 32768) (hK : K < 32768) (hc : kc + (1 + N) ≤ Rm.cells) (hs : ks + (N + N * K) ≤ Rm.slots) (hdg : decode cc pc = .ok (.multianewarray idx 2, 4))
    (kk : lz_Z p l e Rm s m args below meth c D dA b nL T0 ad0 Q (kc + (1 + N)) (ks + (N + N * K)) (lz_upT (lz_upTs T Li K N) L0 (38, N)) A B (fun a j => if a = L0 then (if j < N then some (Li j) else none) else R a j) (pc + 4) lv (.ref L0 :: rest)) : lz_Z p l e Rm s m args below meth c D dA b nL T0 ad0 Q kc ks T A B R pc lv (.int (nI K) :: .int (nI N) :: rest) := by
  intro H locs la cells slots ad h1 h2 h3 h4 h5 h6 h7 h8
  have cN : (nI N).toNatClampNeg = N := nI_clamp (by omega)
  have cK : (nI K).toNatClampNeg = K := nI_clamp (by omega)
  intro U hU Xs
  obtain ⟨vm₁, cA, comp, -, fA, fC, -, -, X', step⟩ := Xs.multianewarray2F (ty := .int) C.1 C.2.2.2.1 (C.2.2.2.2.1 _ G) (show (Cond.arrayOver (.array .int)).before args s = true from C.2.2.2.2.2.1.2.2.2.2.1) (C.2.2.2.2.1 _ G2) (g := F0 m pc la (.int (nI K) :: .int (nI N) :: rest.map (lz_iv ad))) rfl (by rw [C.2.1]; exact hdg) rfl (nI_pos (by omega)) (nI_pos (by omega)) (by rw [cN]; omega) (by rw [cK]; show K * 4 ≤ _; omega) (by rw [cK]; omega) rfl rfl (by rw [cN]; omega) (by rw [cN, cK]; omega)
  rw [cN, cK] at X' step
  have hcA : cA = dA 6 := lz_dA0 C rfl fA
  have hco : comp = dA 0 := lz_dA0 C (t := 0) (ty := .int) rfl fC
  subst hcA; subst hco
  generalize hF : Jvm.Free.Multi.fill (U.setVm vm₁) (dA 6) (dA 0) N K (defaultValue .int) N = F at X' step
  have hTh : (U.setVm vm₁).heap = H := hU
  obtain ⟨f1, f2, -, -⟩ := Jvm.Free.Multi.fill_facts (U.setVm vm₁) (dA 6) (dA 0) N K (defaultValue .int) N
  rw [hF, hTh] at f1 f2
  have hold : ∀ x : Nat, x < H.size → F.heap[x]? = H[x]? := fun x hx => by
    have := Jvm.Free.Multi.fill_old (U.setVm vm₁) (dA 6) (dA 0) N K (defaultValue .int) (a := x) (by rw [hTh]; exact hx) N
    rw [hF, hTh] at this
    exact this
  have hrow : ∀ j : Nat, j < N → F.heap[H.size + 1 + j]? = some (vp_cell (dA 0) (K, .inl (fun _ => 0))) := fun j hj => by
    have := Jvm.Free.Multi.fill_inner (U.setVm vm₁) (dA 6) (dA 0) N K (defaultValue .int) N j hj
    rw [hF, hTh] at this
    rw [this, vp_cell_i]
    show some ({ cls := dA 0, slots := Array.replicate K (.int 0), vm := .none } : Cell) = _
    rw [arrV_new]
  rw [lz_outer] at f2
  obtain ⟨Ls, hmem, hP, hD, hcl, hz⟩ := id h3
  have hlt : ∀ a, (T a).1 ≠ 0 → ad a < H.size := fun a ha => by
    obtain ⟨k0, hk0⟩ := lz_pos hmem ha
    exact (hP k0 _ (lz_ws_at hk0)).lt
  have h3' : lz_H D dA b ad T A B R F.heap := ⟨Ls, hmem, hP.kept (fun k9 x hx => hold x.1 ((hP k9 x hx).lt)), hD, hcl, hz⟩
  have hbH : b ≤ H.size := Nat.le_trans C.2.2.2.2.2.2.2.2.1 h5.1
  obtain ⟨ad', g1, g2, g3, g4⟩ := lz_pushN (N := N) (K := K) (Li := Li) (H := H) h3' hlt hz hfi hinj hbH hrow N (Nat.le_refl N)
  have hT0 : (lz_upTs T Li K N L0).1 = 0 := by
    rw [lz_upTs_ne N (fun j hj z => hne j hj z.symm)]
    exact hf0
  have hin : ∀ j, j < N → (lz_upTs T Li K N (Li j)).1 ≠ 0 := fun j hj => by
    have : ∀ i, j < i → i ≤ N → (lz_upTs T Li K i (Li j)).1 ≠ 0 := by
      intro i
      induction i with
      | zero => intro h; omega
      | succ i ih =>
        intro h1 h2
        unfold lz_upTs
        by_cases hji : Li j = Li i
        · rw [hji, lz_upT_eq]; decide
        · rw [lz_upT_ne _ _ hji]
          refine ih ?_ (by omega)
          rcases Nat.lt_or_ge j i with z | z
          · exact z
          · exact absurd (by rw [show j = i by omega]) hji
    exact this N hj (Nat.le_refl N)
  have hE2 : lz_E (lz_upTs T Li K N) ad' (lz_upT (lz_upTs T Li K N) L0 (38, N)) (va_up ad' L0 H.size) := lz_E_new hT0
  have hH : lz_H D dA b (va_up ad' L0 H.size) (lz_upT (lz_upTs T Li K N) L0 (38, N)) A B (fun a j => if a = L0 then (if j < N then some (Li j) else none) else R a j) F.heap := by
    refine lz_H_more (x := (38, N)) (cA := dA 6) (a := (N, .inr (.inr (.inr (.inr (fun j => if j < N then some (H.size + 1 + j) else none)))))) g1 hT0 (by decide) (fun a ha => by funext j; exact if_neg ha) (fun j q' hq' => ?_) ?_ (by rw [vp_cell_q]; exact f2) hbH (fun a ha => (g4 a ha).1)
    · have hq' : (if j < N then some (Li j) else none) = some q' := by simpa using hq'
      by_cases hj : j < N
      · rw [if_pos hj] at hq'
        cases hq'
        exact hin j hj
      · rw [if_neg hj] at hq'
        cases hq'
    · rw [lz_cell_a (show lz_upT (lz_upTs T Li K N) L0 (38, N) L0 = (32 + 6, N) from lz_upT_eq _ _ _), lz_ar_q _ _ _ _ _ _ (by omega)]
      congr 8
      funext j
      by_cases hj : j < N
      · have hne' : Li j ≠ L0 := hne j hj
        simp [hj, va_up, hne', g3 j hj]
      · simp [hj]
  have hEE := (g2.trans hE2)
  have go := kk F.heap locs la (cells + 1 + N) (slots + N + N * K) (va_up ad' L0 H.size) (by omega) (by omega) hH (h4.trans hEE) ⟨by rw [f1]; exact Nat.le_trans h5.1 (by omega), fun q g1 g2 => by rw [hold q (Nat.lt_of_lt_of_le g1 h5.1)]; exact h5.2.1 q g1 g2, h5.2.2⟩ (by rw [lz_lv_E hEE h7]; exact h6) (lz_okl_E hEE h7) (lz_oks_cons.mpr ⟨lz_ok_ref (by rw [lz_upT_eq]; decide), lz_oks_E hEE (lz_oks_cons.mp (lz_oks_cons.mp h8).2).2⟩)
  rw [List.map_cons, lz_st_E hEE (lz_oks_cons.mp (lz_oks_cons.mp h8).2).2, show lz_iv (va_up ad' L0 H.size) (.ref L0) = .ref H.size by simp [lz_iv, va_up]] at go
  obtain ⟨t2, a1, b1⟩ := go F rfl X'
  rw [hU] at step
  exact ⟨t2, step t2 a1, b1⟩
end ZM
end
