-- ===== PART A: goes FIRST, ahead of the names: the tables' words, and 'selects' of the private methods out of them =====
/-- a private method of a class that the tables say can be made, by its rows of tables_1 -/
def lw_okq (q : MethodName × Nat) : Prop := (q.1.cls ≠ "java/lang/invoke/MethodHandle" ∧ q.1.cls ≠ "java/lang/invoke/VarHandle") ∧ Cond.instantiable q.1.cls q.2 ∈ tables_1 ∧ Cond.privateMethod q.1 ∈ tables_1 ∧ Cond.instanceMethod q.1 ∈ tables_1
theorem lw_p0 : lw_okq (⟨"FacingPages", "forgetPlans", "()V"⟩, 11) := ⟨⟨by decide +kernel, by decide +kernel⟩, List.mem_of_getElem? (i := 13) (by decide +kernel), List.mem_of_getElem? (i := 218) (by decide +kernel), List.mem_of_getElem? (i := 219) (by decide +kernel)⟩
theorem lw_p1 : lw_okq (⟨"FacingPages", "refuse", "(I)I"⟩, 11) := ⟨⟨by decide +kernel, by decide +kernel⟩, List.mem_of_getElem? (i := 13) (by decide +kernel), List.mem_of_getElem? (i := 266) (by decide +kernel), List.mem_of_getElem? (i := 267) (by decide +kernel)⟩
theorem lw_p2 : lw_okq (⟨"FacingPages", "copyToTry", "()LFacingPages$Book;"⟩, 11) := ⟨⟨by decide +kernel, by decide +kernel⟩, List.mem_of_getElem? (i := 13) (by decide +kernel), List.mem_of_getElem? (i := 270) (by decide +kernel), List.mem_of_getElem? (i := 271) (by decide +kernel)⟩
theorem lw_p3 : lw_okq (⟨"FacingPages$Book", "takeFrom", "(LFacingPages$Book;)V"⟩, 9) := ⟨⟨by decide +kernel, by decide +kernel⟩, List.mem_of_getElem? (i := 21) (by decide +kernel), List.mem_of_getElem? (i := 274) (by decide +kernel), List.mem_of_getElem? (i := 275) (by decide +kernel)⟩
theorem lw_p4 : lw_okq (⟨"FacingPages$Book", "addParagraph", "(I[III)I"⟩, 9) := ⟨⟨by decide +kernel, by decide +kernel⟩, List.mem_of_getElem? (i := 21) (by decide +kernel), List.mem_of_getElem? (i := 287) (by decide +kernel), List.mem_of_getElem? (i := 288) (by decide +kernel)⟩
theorem lw_p5 : lw_okq (⟨"FacingPages$Book", "linesOfSide", "(I)I"⟩, 9) := ⟨⟨by decide +kernel, by decide +kernel⟩, List.mem_of_getElem? (i := 21) (by decide +kernel), List.mem_of_getElem? (i := 295) (by decide +kernel), List.mem_of_getElem? (i := 296) (by decide +kernel)⟩
theorem lw_p6 : lw_okq (⟨"FacingPages$Book", "linesIn", "(I)I"⟩, 9) := ⟨⟨by decide +kernel, by decide +kernel⟩, List.mem_of_getElem? (i := 21) (by decide +kernel), List.mem_of_getElem? (i := 299) (by decide +kernel), List.mem_of_getElem? (i := 300) (by decide +kernel)⟩
theorem lw_p7 : lw_okq (⟨"FacingPages$Book", "lineOf", "(II)I"⟩, 9) := ⟨⟨by decide +kernel, by decide +kernel⟩, List.mem_of_getElem? (i := 21) (by decide +kernel), List.mem_of_getElem? (i := 303) (by decide +kernel), List.mem_of_getElem? (i := 304) (by decide +kernel)⟩
theorem lw_p8 : lw_okq (⟨"FacingPages", "settle", "(I)I"⟩, 11) := ⟨⟨by decide +kernel, by decide +kernel⟩, List.mem_of_getElem? (i := 13) (by decide +kernel), List.mem_of_getElem? (i := 307) (by decide +kernel), List.mem_of_getElem? (i := 308) (by decide +kernel)⟩
theorem lw_p9 : lw_okq (⟨"FacingPages$States", "keep", "(LFacingPages$Book;)V"⟩, 2) := ⟨⟨by decide +kernel, by decide +kernel⟩, List.mem_of_getElem? (i := 70) (by decide +kernel), List.mem_of_getElem? (i := 311) (by decide +kernel), List.mem_of_getElem? (i := 312) (by decide +kernel)⟩
theorem lw_p10 : lw_okq (⟨"FacingPages$States", "loseOldest", "()V"⟩, 2) := ⟨⟨by decide +kernel, by decide +kernel⟩, List.mem_of_getElem? (i := 70) (by decide +kernel), List.mem_of_getElem? (i := 315) (by decide +kernel), List.mem_of_getElem? (i := 316) (by decide +kernel)⟩
theorem lw_p11 : lw_okq (⟨"FacingPages$Book", "dropParagraph", "(II)I"⟩, 9) := ⟨⟨by decide +kernel, by decide +kernel⟩, List.mem_of_getElem? (i := 21) (by decide +kernel), List.mem_of_getElem? (i := 324) (by decide +kernel), List.mem_of_getElem? (i := 325) (by decide +kernel)⟩
theorem lw_p12 : lw_okq (⟨"FacingPages$Book", "hasParagraph", "(II)Z"⟩, 9) := ⟨⟨by decide +kernel, by decide +kernel⟩, List.mem_of_getElem? (i := 21) (by decide +kernel), List.mem_of_getElem? (i := 328) (by decide +kernel), List.mem_of_getElem? (i := 329) (by decide +kernel)⟩
theorem lw_p13 : lw_okq (⟨"FacingPages$Book", "dropTiesOf", "([II)I"⟩, 9) := ⟨⟨by decide +kernel, by decide +kernel⟩, List.mem_of_getElem? (i := 21) (by decide +kernel), List.mem_of_getElem? (i := 333) (by decide +kernel), List.mem_of_getElem? (i := 334) (by decide +kernel)⟩
theorem lw_p14 : lw_okq (⟨"FacingPages$Book", "dropTie", "(I)I"⟩, 9) := ⟨⟨by decide +kernel, by decide +kernel⟩, List.mem_of_getElem? (i := 21) (by decide +kernel), List.mem_of_getElem? (i := 337) (by decide +kernel), List.mem_of_getElem? (i := 338) (by decide +kernel)⟩
theorem lw_p15 : lw_okq (⟨"FacingPages$Book", "hasTie", "(I)Z"⟩, 9) := ⟨⟨by decide +kernel, by decide +kernel⟩, List.mem_of_getElem? (i := 21) (by decide +kernel), List.mem_of_getElem? (i := 341) (by decide +kernel), List.mem_of_getElem? (i := 342) (by decide +kernel)⟩
def lw_privs_1 : List (MethodName × Nat) := [(⟨"FacingPages", "forgetPlans", "()V"⟩, 11), (⟨"FacingPages", "refuse", "(I)I"⟩, 11), (⟨"FacingPages", "copyToTry", "()LFacingPages$Book;"⟩, 11), (⟨"FacingPages$Book", "takeFrom", "(LFacingPages$Book;)V"⟩, 9), (⟨"FacingPages$Book", "addParagraph", "(I[III)I"⟩, 9), (⟨"FacingPages$Book", "linesOfSide", "(I)I"⟩, 9), (⟨"FacingPages$Book", "linesIn", "(I)I"⟩, 9), (⟨"FacingPages$Book", "lineOf", "(II)I"⟩, 9), (⟨"FacingPages", "settle", "(I)I"⟩, 11), (⟨"FacingPages$States", "keep", "(LFacingPages$Book;)V"⟩, 2), (⟨"FacingPages$States", "loseOldest", "()V"⟩, 2), (⟨"FacingPages$Book", "dropParagraph", "(II)I"⟩, 9), (⟨"FacingPages$Book", "hasParagraph", "(II)Z"⟩, 9), (⟨"FacingPages$Book", "dropTiesOf", "([II)I"⟩, 9), (⟨"FacingPages$Book", "dropTie", "(I)I"⟩, 9), (⟨"FacingPages$Book", "hasTie", "(I)Z"⟩, 9)]
theorem lw_r1 : ∀ q ∈ lw_privs_1, lw_okq q := List.forall_mem_cons.mpr ⟨lw_p0, List.forall_mem_cons.mpr ⟨lw_p1, List.forall_mem_cons.mpr ⟨lw_p2, List.forall_mem_cons.mpr ⟨lw_p3, List.forall_mem_cons.mpr ⟨lw_p4, List.forall_mem_cons.mpr ⟨lw_p5, List.forall_mem_cons.mpr ⟨lw_p6, List.forall_mem_cons.mpr ⟨lw_p7, List.forall_mem_cons.mpr ⟨lw_p8, List.forall_mem_cons.mpr ⟨lw_p9, List.forall_mem_cons.mpr ⟨lw_p10, List.forall_mem_cons.mpr ⟨lw_p11, List.forall_mem_cons.mpr ⟨lw_p12, List.forall_mem_cons.mpr ⟨lw_p13, List.forall_mem_cons.mpr ⟨lw_p14, List.forall_mem_cons.mpr ⟨lw_p15, fun _ h => absurd h List.not_mem_nil⟩⟩⟩⟩⟩⟩⟩⟩⟩⟩⟩⟩⟩⟩⟩⟩
theorem lw_p16 : lw_okq (⟨"FacingPages$Book", "changeWidth", "(II)I"⟩, 9) := ⟨⟨by decide +kernel, by decide +kernel⟩, List.mem_of_getElem? (i := 21) (by decide +kernel), List.mem_of_getElem? (i := 349) (by decide +kernel), List.mem_of_getElem? (i := 350) (by decide +kernel)⟩
theorem lw_p17 : lw_okq (⟨"FacingPages$Book", "changeSetting", "(II)I"⟩, 9) := ⟨⟨by decide +kernel, by decide +kernel⟩, List.mem_of_getElem? (i := 21) (by decide +kernel), List.mem_of_getElem? (i := 357) (by decide +kernel), List.mem_of_getElem? (i := 358) (by decide +kernel)⟩
theorem lw_p18 : lw_okq (⟨"FacingPages$Book", "addTie", "(III)I"⟩, 9) := ⟨⟨by decide +kernel, by decide +kernel⟩, List.mem_of_getElem? (i := 21) (by decide +kernel), List.mem_of_getElem? (i := 369) (by decide +kernel), List.mem_of_getElem? (i := 370) (by decide +kernel)⟩
theorem lw_p19 : lw_okq (⟨"FacingPages", "measure", "()V"⟩, 11) := ⟨⟨by decide +kernel, by decide +kernel⟩, List.mem_of_getElem? (i := 13) (by decide +kernel), List.mem_of_getElem? (i := 383) (by decide +kernel), List.mem_of_getElem? (i := 384) (by decide +kernel)⟩
theorem lw_p20 : lw_okq (⟨"FacingPages$Lines", "follow", "(LFacingPages$Book;I)V"⟩, 3) := ⟨⟨by decide +kernel, by decide +kernel⟩, List.mem_of_getElem? (i := 128) (by decide +kernel), List.mem_of_getElem? (i := 387) (by decide +kernel), List.mem_of_getElem? (i := 388) (by decide +kernel)⟩
theorem lw_p21 : lw_okq (⟨"FacingPages$Lines", "allowBreaks", "(II)V"⟩, 3) := ⟨⟨by decide +kernel, by decide +kernel⟩, List.mem_of_getElem? (i := 128) (by decide +kernel), List.mem_of_getElem? (i := 393) (by decide +kernel), List.mem_of_getElem? (i := 394) (by decide +kernel)⟩
theorem lw_p22 : lw_okq (⟨"FacingPages$Choice", "follow", "(LFacingPages$Book;)V"⟩, 4) := ⟨⟨by decide +kernel, by decide +kernel⟩, List.mem_of_getElem? (i := 151) (by decide +kernel), List.mem_of_getElem? (i := 397) (by decide +kernel), List.mem_of_getElem? (i := 398) (by decide +kernel)⟩
theorem lw_p23 : lw_okq (⟨"FacingPages$Choice", "findCrossed", "(LFacingPages$Book;)V"⟩, 4) := ⟨⟨by decide +kernel, by decide +kernel⟩, List.mem_of_getElem? (i := 151) (by decide +kernel), List.mem_of_getElem? (i := 401) (by decide +kernel), List.mem_of_getElem? (i := 402) (by decide +kernel)⟩
theorem lw_p24 : lw_okq (⟨"FacingPages$Book", "cross", "(II)Z"⟩, 9) := ⟨⟨by decide +kernel, by decide +kernel⟩, List.mem_of_getElem? (i := 21) (by decide +kernel), List.mem_of_getElem? (i := 405) (by decide +kernel), List.mem_of_getElem? (i := 406) (by decide +kernel)⟩
theorem lw_p25 : lw_okq (⟨"FacingPages$Choice", "weightOf", "(ILFacingPages$Book;)I"⟩, 4) := ⟨⟨by decide +kernel, by decide +kernel⟩, List.mem_of_getElem? (i := 151) (by decide +kernel), List.mem_of_getElem? (i := 409) (by decide +kernel), List.mem_of_getElem? (i := 410) (by decide +kernel)⟩
theorem lw_p26 : lw_okq (⟨"FacingPages$Book", "wordsIn", "(II)I"⟩, 9) := ⟨⟨by decide +kernel, by decide +kernel⟩, List.mem_of_getElem? (i := 21) (by decide +kernel), List.mem_of_getElem? (i := 419) (by decide +kernel), List.mem_of_getElem? (i := 420) (by decide +kernel)⟩
theorem lw_p27 : lw_okq (⟨"FacingPages", "layOut", "()LFacingPages$Layout;"⟩, 11) := ⟨⟨by decide +kernel, by decide +kernel⟩, List.mem_of_getElem? (i := 13) (by decide +kernel), List.mem_of_getElem? (i := 423) (by decide +kernel), List.mem_of_getElem? (i := 424) (by decide +kernel)⟩
theorem lw_p28 : lw_okq (⟨"FacingPages$Layout", "follow", "(LFacingPages$Book;LFacingPages$Lines;LFacingPages$Lines;I)V"⟩, 11) := ⟨⟨by decide +kernel, by decide +kernel⟩, List.mem_of_getElem? (i := 174) (by decide +kernel), List.mem_of_getElem? (i := 427) (by decide +kernel), List.mem_of_getElem? (i := 428) (by decide +kernel)⟩
theorem lw_p29 : lw_okq (⟨"FacingPages$Layout", "setTolls", "(I)V"⟩, 11) := ⟨⟨by decide +kernel, by decide +kernel⟩, List.mem_of_getElem? (i := 174) (by decide +kernel), List.mem_of_getElem? (i := 432) (by decide +kernel), List.mem_of_getElem? (i := 433) (by decide +kernel)⟩
theorem lw_p30 : lw_okq (⟨"FacingPages$Layout", "rankAll", "([Z[Z)V"⟩, 11) := ⟨⟨by decide +kernel, by decide +kernel⟩, List.mem_of_getElem? (i := 174) (by decide +kernel), List.mem_of_getElem? (i := 439) (by decide +kernel), List.mem_of_getElem? (i := 440) (by decide +kernel)⟩
theorem lw_p31 : lw_okq (⟨"FacingPages$Layout", "leastRank", "(II[Z)I"⟩, 11) := ⟨⟨by decide +kernel, by decide +kernel⟩, List.mem_of_getElem? (i := 174) (by decide +kernel), List.mem_of_getElem? (i := 443) (by decide +kernel), List.mem_of_getElem? (i := 444) (by decide +kernel)⟩
def lw_privs_2 : List (MethodName × Nat) := [(⟨"FacingPages$Book", "changeWidth", "(II)I"⟩, 9), (⟨"FacingPages$Book", "changeSetting", "(II)I"⟩, 9), (⟨"FacingPages$Book", "addTie", "(III)I"⟩, 9), (⟨"FacingPages", "measure", "()V"⟩, 11), (⟨"FacingPages$Lines", "follow", "(LFacingPages$Book;I)V"⟩, 3), (⟨"FacingPages$Lines", "allowBreaks", "(II)V"⟩, 3), (⟨"FacingPages$Choice", "follow", "(LFacingPages$Book;)V"⟩, 4), (⟨"FacingPages$Choice", "findCrossed", "(LFacingPages$Book;)V"⟩, 4), (⟨"FacingPages$Book", "cross", "(II)Z"⟩, 9), (⟨"FacingPages$Choice", "weightOf", "(ILFacingPages$Book;)I"⟩, 4), (⟨"FacingPages$Book", "wordsIn", "(II)I"⟩, 9), (⟨"FacingPages", "layOut", "()LFacingPages$Layout;"⟩, 11), (⟨"FacingPages$Layout", "follow", "(LFacingPages$Book;LFacingPages$Lines;LFacingPages$Lines;I)V"⟩, 11), (⟨"FacingPages$Layout", "setTolls", "(I)V"⟩, 11), (⟨"FacingPages$Layout", "rankAll", "([Z[Z)V"⟩, 11), (⟨"FacingPages$Layout", "leastRank", "(II[Z)I"⟩, 11)]
theorem lw_r2 : ∀ q ∈ lw_privs_2, lw_okq q := List.forall_mem_cons.mpr ⟨lw_p16, List.forall_mem_cons.mpr ⟨lw_p17, List.forall_mem_cons.mpr ⟨lw_p18, List.forall_mem_cons.mpr ⟨lw_p19, List.forall_mem_cons.mpr ⟨lw_p20, List.forall_mem_cons.mpr ⟨lw_p21, List.forall_mem_cons.mpr ⟨lw_p22, List.forall_mem_cons.mpr ⟨lw_p23, List.forall_mem_cons.mpr ⟨lw_p24, List.forall_mem_cons.mpr ⟨lw_p25, List.forall_mem_cons.mpr ⟨lw_p26, List.forall_mem_cons.mpr ⟨lw_p27, List.forall_mem_cons.mpr ⟨lw_p28, List.forall_mem_cons.mpr ⟨lw_p29, List.forall_mem_cons.mpr ⟨lw_p30, List.forall_mem_cons.mpr ⟨lw_p31, fun _ h => absurd h List.not_mem_nil⟩⟩⟩⟩⟩⟩⟩⟩⟩⟩⟩⟩⟩⟩⟩⟩
theorem lw_p32 : lw_okq (⟨"FacingPages$Layout", "rankBy", "(IIII)I"⟩, 11) := ⟨⟨by decide +kernel, by decide +kernel⟩, List.mem_of_getElem? (i := 174) (by decide +kernel), List.mem_of_getElem? (i := 448) (by decide +kernel), List.mem_of_getElem? (i := 449) (by decide +kernel)⟩
theorem lw_p33 : lw_okq (⟨"FacingPages$Layout", "walk", "()V"⟩, 11) := ⟨⟨by decide +kernel, by decide +kernel⟩, List.mem_of_getElem? (i := 174) (by decide +kernel), List.mem_of_getElem? (i := 452) (by decide +kernel), List.mem_of_getElem? (i := 453) (by decide +kernel)⟩
theorem lw_p34 : lw_okq (⟨"FacingPages$Layout", "takeMost", "(I)V"⟩, 11) := ⟨⟨by decide +kernel, by decide +kernel⟩, List.mem_of_getElem? (i := 174) (by decide +kernel), List.mem_of_getElem? (i := 456) (by decide +kernel), List.mem_of_getElem? (i := 457) (by decide +kernel)⟩
theorem lw_p35 : lw_okq (⟨"FacingPages$Layout", "openingWith", "(II)I"⟩, 11) := ⟨⟨by decide +kernel, by decide +kernel⟩, List.mem_of_getElem? (i := 174) (by decide +kernel), List.mem_of_getElem? (i := 460) (by decide +kernel), List.mem_of_getElem? (i := 461) (by decide +kernel)⟩
theorem lw_p36 : lw_okq (⟨"FacingPages$Book", "hasWord", "(III)Z"⟩, 9) := ⟨⟨by decide +kernel, by decide +kernel⟩, List.mem_of_getElem? (i := 21) (by decide +kernel), List.mem_of_getElem? (i := 468) (by decide +kernel), List.mem_of_getElem? (i := 469) (by decide +kernel)⟩
theorem lw_p37 : lw_okq (⟨"FacingPages$Book", "lengthOf", "(III)I"⟩, 9) := ⟨⟨by decide +kernel, by decide +kernel⟩, List.mem_of_getElem? (i := 21) (by decide +kernel), List.mem_of_getElem? (i := 473) (by decide +kernel), List.mem_of_getElem? (i := 474) (by decide +kernel)⟩
theorem lw_p38 : lw_okq (⟨"FacingPages$Layout", "taken0", "(I)I"⟩, 11) := ⟨⟨by decide +kernel, by decide +kernel⟩, List.mem_of_getElem? (i := 174) (by decide +kernel), List.mem_of_getElem? (i := 497) (by decide +kernel), List.mem_of_getElem? (i := 498) (by decide +kernel)⟩
theorem lw_p39 : lw_okq (⟨"FacingPages$Layout", "taken1", "(I)I"⟩, 11) := ⟨⟨by decide +kernel, by decide +kernel⟩, List.mem_of_getElem? (i := 174) (by decide +kernel), List.mem_of_getElem? (i := 501) (by decide +kernel), List.mem_of_getElem? (i := 502) (by decide +kernel)⟩
theorem lw_p40 : lw_okq (⟨"FacingPages$Layout", "costOf", "(I)I"⟩, 11) := ⟨⟨by decide +kernel, by decide +kernel⟩, List.mem_of_getElem? (i := 174) (by decide +kernel), List.mem_of_getElem? (i := 505) (by decide +kernel), List.mem_of_getElem? (i := 506) (by decide +kernel)⟩
theorem lw_p41 : lw_okq (⟨"FacingPages$Script", "append", "(I)Z"⟩, 9) := ⟨⟨by decide +kernel, by decide +kernel⟩, List.mem_of_getElem? (i := 87) (by decide +kernel), List.mem_of_getElem? (i := 519) (by decide +kernel), List.mem_of_getElem? (i := 520) (by decide +kernel)⟩
theorem lw_p42 : lw_okq (⟨"FacingPages$Script", "read", "()I"⟩, 9) := ⟨⟨by decide +kernel, by decide +kernel⟩, List.mem_of_getElem? (i := 87) (by decide +kernel), List.mem_of_getElem? (i := 531) (by decide +kernel), List.mem_of_getElem? (i := 532) (by decide +kernel)⟩
theorem lw_p43 : lw_okq (⟨"FacingPages$Script", "accepts", "(I)Z"⟩, 9) := ⟨⟨by decide +kernel, by decide +kernel⟩, List.mem_of_getElem? (i := 87) (by decide +kernel), List.mem_of_getElem? (i := 535) (by decide +kernel), List.mem_of_getElem? (i := 536) (by decide +kernel)⟩
theorem lw_p44 : lw_okq (⟨"FacingPages$Script", "endOrder", "()Z"⟩, 9) := ⟨⟨by decide +kernel, by decide +kernel⟩, List.mem_of_getElem? (i := 87) (by decide +kernel), List.mem_of_getElem? (i := 539) (by decide +kernel), List.mem_of_getElem? (i := 540) (by decide +kernel)⟩
theorem lw_p45 : lw_okq (⟨"FacingPages$Script", "numbersOfOrder", "()I"⟩, 9) := ⟨⟨by decide +kernel, by decide +kernel⟩, List.mem_of_getElem? (i := 87) (by decide +kernel), List.mem_of_getElem? (i := 543) (by decide +kernel), List.mem_of_getElem? (i := 544) (by decide +kernel)⟩
theorem lw_p46 : lw_okq (⟨"FacingPages$Script", "takeFigure", "(I)Z"⟩, 9) := ⟨⟨by decide +kernel, by decide +kernel⟩, List.mem_of_getElem? (i := 87) (by decide +kernel), List.mem_of_getElem? (i := 554) (by decide +kernel), List.mem_of_getElem? (i := 555) (by decide +kernel)⟩
theorem lw_p47 : lw_okq (⟨"FacingPages$Script", "beginOrder", "(I)Z"⟩, 9) := ⟨⟨by decide +kernel, by decide +kernel⟩, List.mem_of_getElem? (i := 87) (by decide +kernel), List.mem_of_getElem? (i := 558) (by decide +kernel), List.mem_of_getElem? (i := 559) (by decide +kernel)⟩
def lw_privs_3 : List (MethodName × Nat) := [(⟨"FacingPages$Layout", "rankBy", "(IIII)I"⟩, 11), (⟨"FacingPages$Layout", "walk", "()V"⟩, 11), (⟨"FacingPages$Layout", "takeMost", "(I)V"⟩, 11), (⟨"FacingPages$Layout", "openingWith", "(II)I"⟩, 11), (⟨"FacingPages$Book", "hasWord", "(III)Z"⟩, 9), (⟨"FacingPages$Book", "lengthOf", "(III)I"⟩, 9), (⟨"FacingPages$Layout", "taken0", "(I)I"⟩, 11), (⟨"FacingPages$Layout", "taken1", "(I)I"⟩, 11), (⟨"FacingPages$Layout", "costOf", "(I)I"⟩, 11), (⟨"FacingPages$Script", "append", "(I)Z"⟩, 9), (⟨"FacingPages$Script", "read", "()I"⟩, 9), (⟨"FacingPages$Script", "accepts", "(I)Z"⟩, 9), (⟨"FacingPages$Script", "endOrder", "()Z"⟩, 9), (⟨"FacingPages$Script", "numbersOfOrder", "()I"⟩, 9), (⟨"FacingPages$Script", "takeFigure", "(I)Z"⟩, 9), (⟨"FacingPages$Script", "beginOrder", "(I)Z"⟩, 9)]
theorem lw_r3 : ∀ q ∈ lw_privs_3, lw_okq q := List.forall_mem_cons.mpr ⟨lw_p32, List.forall_mem_cons.mpr ⟨lw_p33, List.forall_mem_cons.mpr ⟨lw_p34, List.forall_mem_cons.mpr ⟨lw_p35, List.forall_mem_cons.mpr ⟨lw_p36, List.forall_mem_cons.mpr ⟨lw_p37, List.forall_mem_cons.mpr ⟨lw_p38, List.forall_mem_cons.mpr ⟨lw_p39, List.forall_mem_cons.mpr ⟨lw_p40, List.forall_mem_cons.mpr ⟨lw_p41, List.forall_mem_cons.mpr ⟨lw_p42, List.forall_mem_cons.mpr ⟨lw_p43, List.forall_mem_cons.mpr ⟨lw_p44, List.forall_mem_cons.mpr ⟨lw_p45, List.forall_mem_cons.mpr ⟨lw_p46, List.forall_mem_cons.mpr ⟨lw_p47, fun _ h => absurd h List.not_mem_nil⟩⟩⟩⟩⟩⟩⟩⟩⟩⟩⟩⟩⟩⟩⟩⟩
theorem lw_p48 : lw_okq (⟨"FacingPages", "tryOrder", "(I)I"⟩, 11) := ⟨⟨by decide +kernel, by decide +kernel⟩, List.mem_of_getElem? (i := 13) (by decide +kernel), List.mem_of_getElem? (i := 562) (by decide +kernel), List.mem_of_getElem? (i := 563) (by decide +kernel)⟩
theorem lw_p49 : lw_okq (⟨"FacingPages$States", "giveBack", "(LFacingPages$Book;)Z"⟩, 2) := ⟨⟨by decide +kernel, by decide +kernel⟩, List.mem_of_getElem? (i := 70) (by decide +kernel), List.mem_of_getElem? (i := 570) (by decide +kernel), List.mem_of_getElem? (i := 571) (by decide +kernel)⟩
theorem lw_p50 : lw_okq (⟨"FacingPagesModel", "no", "()I"⟩, 22) := ⟨⟨by decide +kernel, by decide +kernel⟩, List.mem_of_getElem? (i := 589) (by decide +kernel), List.mem_of_getElem? (i := 666) (by decide +kernel), List.mem_of_getElem? (i := 667) (by decide +kernel)⟩
theorem lw_p51 : lw_okq (⟨"FacingPagesModel", "takes", "(I)V"⟩, 22) := ⟨⟨by decide +kernel, by decide +kernel⟩, List.mem_of_getElem? (i := 589) (by decide +kernel), List.mem_of_getElem? (i := 670) (by decide +kernel), List.mem_of_getElem? (i := 671) (by decide +kernel)⟩
theorem lw_p52 : lw_okq (⟨"FacingPagesModel", "canPara", "(II)I"⟩, 22) := ⟨⟨by decide +kernel, by decide +kernel⟩, List.mem_of_getElem? (i := 589) (by decide +kernel), List.mem_of_getElem? (i := 681) (by decide +kernel), List.mem_of_getElem? (i := 682) (by decide +kernel)⟩
theorem lw_p53 : lw_okq (⟨"FacingPagesModel", "many", "(I)I"⟩, 22) := ⟨⟨by decide +kernel, by decide +kernel⟩, List.mem_of_getElem? (i := 589) (by decide +kernel), List.mem_of_getElem? (i := 685) (by decide +kernel), List.mem_of_getElem? (i := 686) (by decide +kernel)⟩
theorem lw_p54 : lw_okq (⟨"FacingPagesModel", "counted", "(I)I"⟩, 22) := ⟨⟨by decide +kernel, by decide +kernel⟩, List.mem_of_getElem? (i := 589) (by decide +kernel), List.mem_of_getElem? (i := 689) (by decide +kernel), List.mem_of_getElem? (i := 690) (by decide +kernel)⟩
theorem lw_p55 : lw_okq (⟨"FacingPagesModel", "bad", "()I"⟩, 22) := ⟨⟨by decide +kernel, by decide +kernel⟩, List.mem_of_getElem? (i := 589) (by decide +kernel), List.mem_of_getElem? (i := 693) (by decide +kernel), List.mem_of_getElem? (i := 694) (by decide +kernel)⟩
theorem lw_p56 : lw_okq (⟨"FacingPagesModel", "full", "()I"⟩, 22) := ⟨⟨by decide +kernel, by decide +kernel⟩, List.mem_of_getElem? (i := 589) (by decide +kernel), List.mem_of_getElem? (i := 697) (by decide +kernel), List.mem_of_getElem? (i := 698) (by decide +kernel)⟩
theorem lw_p57 : lw_okq (⟨"FacingPagesModel", "puts", "(I)V"⟩, 22) := ⟨⟨by decide +kernel, by decide +kernel⟩, List.mem_of_getElem? (i := 589) (by decide +kernel), List.mem_of_getElem? (i := 701) (by decide +kernel), List.mem_of_getElem? (i := 702) (by decide +kernel)⟩
theorem lw_p58 : lw_okq (⟨"FacingPagesModel", "paraComes", "(II)I"⟩, 22) := ⟨⟨by decide +kernel, by decide +kernel⟩, List.mem_of_getElem? (i := 589) (by decide +kernel), List.mem_of_getElem? (i := 705) (by decide +kernel), List.mem_of_getElem? (i := 706) (by decide +kernel)⟩
theorem lw_p59 : lw_okq (⟨"FacingPagesModel", "isTooLong", "()Z"⟩, 22) := ⟨⟨by decide +kernel, by decide +kernel⟩, List.mem_of_getElem? (i := 589) (by decide +kernel), List.mem_of_getElem? (i := 712) (by decide +kernel), List.mem_of_getElem? (i := 713) (by decide +kernel)⟩
theorem lw_p60 : lw_okq (⟨"FacingPagesModel", "linesOfAll", "(I)I"⟩, 22) := ⟨⟨by decide +kernel, by decide +kernel⟩, List.mem_of_getElem? (i := 589) (by decide +kernel), List.mem_of_getElem? (i := 716) (by decide +kernel), List.mem_of_getElem? (i := 717) (by decide +kernel)⟩
theorem lw_p61 : lw_okq (⟨"FacingPagesModel", "firstOf", "(II)I"⟩, 22) := ⟨⟨by decide +kernel, by decide +kernel⟩, List.mem_of_getElem? (i := 589) (by decide +kernel), List.mem_of_getElem? (i := 720) (by decide +kernel), List.mem_of_getElem? (i := 721) (by decide +kernel)⟩
theorem lw_p62 : lw_okq (⟨"FacingPagesModel", "linesOf", "(II)I"⟩, 22) := ⟨⟨by decide +kernel, by decide +kernel⟩, List.mem_of_getElem? (i := 589) (by decide +kernel), List.mem_of_getElem? (i := 724) (by decide +kernel), List.mem_of_getElem? (i := 725) (by decide +kernel)⟩
theorem lw_p63 : lw_okq (⟨"FacingPagesModel", "wordsOf", "(II)I"⟩, 22) := ⟨⟨by decide +kernel, by decide +kernel⟩, List.mem_of_getElem? (i := 589) (by decide +kernel), List.mem_of_getElem? (i := 728) (by decide +kernel), List.mem_of_getElem? (i := 729) (by decide +kernel)⟩
def lw_privs_4 : List (MethodName × Nat) := [(⟨"FacingPages", "tryOrder", "(I)I"⟩, 11), (⟨"FacingPages$States", "giveBack", "(LFacingPages$Book;)Z"⟩, 2), (⟨"FacingPagesModel", "no", "()I"⟩, 22), (⟨"FacingPagesModel", "takes", "(I)V"⟩, 22), (⟨"FacingPagesModel", "canPara", "(II)I"⟩, 22), (⟨"FacingPagesModel", "many", "(I)I"⟩, 22), (⟨"FacingPagesModel", "counted", "(I)I"⟩, 22), (⟨"FacingPagesModel", "bad", "()I"⟩, 22), (⟨"FacingPagesModel", "full", "()I"⟩, 22), (⟨"FacingPagesModel", "puts", "(I)V"⟩, 22), (⟨"FacingPagesModel", "paraComes", "(II)I"⟩, 22), (⟨"FacingPagesModel", "isTooLong", "()Z"⟩, 22), (⟨"FacingPagesModel", "linesOfAll", "(I)I"⟩, 22), (⟨"FacingPagesModel", "firstOf", "(II)I"⟩, 22), (⟨"FacingPagesModel", "linesOf", "(II)I"⟩, 22), (⟨"FacingPagesModel", "wordsOf", "(II)I"⟩, 22)]
theorem lw_r4 : ∀ q ∈ lw_privs_4, lw_okq q := List.forall_mem_cons.mpr ⟨lw_p48, List.forall_mem_cons.mpr ⟨lw_p49, List.forall_mem_cons.mpr ⟨lw_p50, List.forall_mem_cons.mpr ⟨lw_p51, List.forall_mem_cons.mpr ⟨lw_p52, List.forall_mem_cons.mpr ⟨lw_p53, List.forall_mem_cons.mpr ⟨lw_p54, List.forall_mem_cons.mpr ⟨lw_p55, List.forall_mem_cons.mpr ⟨lw_p56, List.forall_mem_cons.mpr ⟨lw_p57, List.forall_mem_cons.mpr ⟨lw_p58, List.forall_mem_cons.mpr ⟨lw_p59, List.forall_mem_cons.mpr ⟨lw_p60, List.forall_mem_cons.mpr ⟨lw_p61, List.forall_mem_cons.mpr ⟨lw_p62, List.forall_mem_cons.mpr ⟨lw_p63, fun _ h => absurd h List.not_mem_nil⟩⟩⟩⟩⟩⟩⟩⟩⟩⟩⟩⟩⟩⟩⟩⟩
theorem lw_p64 : lw_okq (⟨"FacingPagesModel", "lineOf", "(III)I"⟩, 22) := ⟨⟨by decide +kernel, by decide +kernel⟩, List.mem_of_getElem? (i := 589) (by decide +kernel), List.mem_of_getElem? (i := 732) (by decide +kernel), List.mem_of_getElem? (i := 733) (by decide +kernel)⟩
theorem lw_p65 : lw_okq (⟨"FacingPagesModel", "lengthOf", "(III)I"⟩, 22) := ⟨⟨by decide +kernel, by decide +kernel⟩, List.mem_of_getElem? (i := 589) (by decide +kernel), List.mem_of_getElem? (i := 736) (by decide +kernel), List.mem_of_getElem? (i := 737) (by decide +kernel)⟩
theorem lw_p66 : lw_okq (⟨"FacingPagesModel", "leavesState", "()V"⟩, 22) := ⟨⟨by decide +kernel, by decide +kernel⟩, List.mem_of_getElem? (i := 589) (by decide +kernel), List.mem_of_getElem? (i := 740) (by decide +kernel), List.mem_of_getElem? (i := 741) (by decide +kernel)⟩
theorem lw_p67 : lw_okq (⟨"FacingPagesModel", "isPara", "(II)Z"⟩, 22) := ⟨⟨by decide +kernel, by decide +kernel⟩, List.mem_of_getElem? (i := 589) (by decide +kernel), List.mem_of_getElem? (i := 748) (by decide +kernel), List.mem_of_getElem? (i := 749) (by decide +kernel)⟩
theorem lw_p68 : lw_okq (⟨"FacingPagesModel", "ofTie", "(II)I"⟩, 22) := ⟨⟨by decide +kernel, by decide +kernel⟩, List.mem_of_getElem? (i := 589) (by decide +kernel), List.mem_of_getElem? (i := 752) (by decide +kernel), List.mem_of_getElem? (i := 753) (by decide +kernel)⟩
theorem lw_p69 : lw_okq (⟨"FacingPagesModel", "tieGoes", "(I)V"⟩, 22) := ⟨⟨by decide +kernel, by decide +kernel⟩, List.mem_of_getElem? (i := 589) (by decide +kernel), List.mem_of_getElem? (i := 759) (by decide +kernel), List.mem_of_getElem? (i := 760) (by decide +kernel)⟩
theorem lw_p70 : lw_okq (⟨"FacingPagesModel", "canWidth", "(II)I"⟩, 22) := ⟨⟨by decide +kernel, by decide +kernel⟩, List.mem_of_getElem? (i := 589) (by decide +kernel), List.mem_of_getElem? (i := 767) (by decide +kernel), List.mem_of_getElem? (i := 768) (by decide +kernel)⟩
theorem lw_p71 : lw_okq (⟨"FacingPagesModel", "widthBecomes", "(II)I"⟩, 22) := ⟨⟨by decide +kernel, by decide +kernel⟩, List.mem_of_getElem? (i := 589) (by decide +kernel), List.mem_of_getElem? (i := 771) (by decide +kernel), List.mem_of_getElem? (i := 772) (by decide +kernel)⟩
theorem lw_p72 : lw_okq (⟨"FacingPagesModel", "setBecomes", "(II)I"⟩, 22) := ⟨⟨by decide +kernel, by decide +kernel⟩, List.mem_of_getElem? (i := 589) (by decide +kernel), List.mem_of_getElem? (i := 782) (by decide +kernel), List.mem_of_getElem? (i := 783) (by decide +kernel)⟩
theorem lw_p73 : lw_okq (⟨"FacingPagesModel", "canTie", "(III)I"⟩, 22) := ⟨⟨by decide +kernel, by decide +kernel⟩, List.mem_of_getElem? (i := 589) (by decide +kernel), List.mem_of_getElem? (i := 790) (by decide +kernel), List.mem_of_getElem? (i := 791) (by decide +kernel)⟩
theorem lw_p74 : lw_okq (⟨"FacingPagesModel", "tieComes", "(III)I"⟩, 22) := ⟨⟨by decide +kernel, by decide +kernel⟩, List.mem_of_getElem? (i := 589) (by decide +kernel), List.mem_of_getElem? (i := 794) (by decide +kernel), List.mem_of_getElem? (i := 795) (by decide +kernel)⟩
theorem lw_p75 : lw_okq (⟨"FacingPagesModel", "lays", "()V"⟩, 22) := ⟨⟨by decide +kernel, by decide +kernel⟩, List.mem_of_getElem? (i := 589) (by decide +kernel), List.mem_of_getElem? (i := 806) (by decide +kernel), List.mem_of_getElem? (i := 807) (by decide +kernel)⟩
theorem lw_p76 : lw_okq (⟨"FacingPagesModel", "findsKept", "()V"⟩, 22) := ⟨⟨by decide +kernel, by decide +kernel⟩, List.mem_of_getElem? (i := 589) (by decide +kernel), List.mem_of_getElem? (i := 810) (by decide +kernel), List.mem_of_getElem? (i := 811) (by decide +kernel)⟩
theorem lw_p77 : lw_okq (⟨"FacingPagesModel", "weightOf", "(IZ)I"⟩, 22) := ⟨⟨by decide +kernel, by decide +kernel⟩, List.mem_of_getElem? (i := 589) (by decide +kernel), List.mem_of_getElem? (i := 814) (by decide +kernel), List.mem_of_getElem? (i := 815) (by decide +kernel)⟩
theorem lw_p78 : lw_okq (⟨"FacingPagesModel", "isPlain", "(I)Z"⟩, 22) := ⟨⟨by decide +kernel, by decide +kernel⟩, List.mem_of_getElem? (i := 589) (by decide +kernel), List.mem_of_getElem? (i := 818) (by decide +kernel), List.mem_of_getElem? (i := 819) (by decide +kernel)⟩
theorem lw_p79 : lw_okq (⟨"FacingPagesModel", "areCrossing", "(II)Z"⟩, 22) := ⟨⟨by decide +kernel, by decide +kernel⟩, List.mem_of_getElem? (i := 589) (by decide +kernel), List.mem_of_getElem? (i := 822) (by decide +kernel), List.mem_of_getElem? (i := 823) (by decide +kernel)⟩
def lw_privs_5 : List (MethodName × Nat) := [(⟨"FacingPagesModel", "lineOf", "(III)I"⟩, 22), (⟨"FacingPagesModel", "lengthOf", "(III)I"⟩, 22), (⟨"FacingPagesModel", "leavesState", "()V"⟩, 22), (⟨"FacingPagesModel", "isPara", "(II)Z"⟩, 22), (⟨"FacingPagesModel", "ofTie", "(II)I"⟩, 22), (⟨"FacingPagesModel", "tieGoes", "(I)V"⟩, 22), (⟨"FacingPagesModel", "canWidth", "(II)I"⟩, 22), (⟨"FacingPagesModel", "widthBecomes", "(II)I"⟩, 22), (⟨"FacingPagesModel", "setBecomes", "(II)I"⟩, 22), (⟨"FacingPagesModel", "canTie", "(III)I"⟩, 22), (⟨"FacingPagesModel", "tieComes", "(III)I"⟩, 22), (⟨"FacingPagesModel", "lays", "()V"⟩, 22), (⟨"FacingPagesModel", "findsKept", "()V"⟩, 22), (⟨"FacingPagesModel", "weightOf", "(IZ)I"⟩, 22), (⟨"FacingPagesModel", "isPlain", "(I)Z"⟩, 22), (⟨"FacingPagesModel", "areCrossing", "(II)Z"⟩, 22)]
theorem lw_r5 : ∀ q ∈ lw_privs_5, lw_okq q := List.forall_mem_cons.mpr ⟨lw_p64, List.forall_mem_cons.mpr ⟨lw_p65, List.forall_mem_cons.mpr ⟨lw_p66, List.forall_mem_cons.mpr ⟨lw_p67, List.forall_mem_cons.mpr ⟨lw_p68, List.forall_mem_cons.mpr ⟨lw_p69, List.forall_mem_cons.mpr ⟨lw_p70, List.forall_mem_cons.mpr ⟨lw_p71, List.forall_mem_cons.mpr ⟨lw_p72, List.forall_mem_cons.mpr ⟨lw_p73, List.forall_mem_cons.mpr ⟨lw_p74, List.forall_mem_cons.mpr ⟨lw_p75, List.forall_mem_cons.mpr ⟨lw_p76, List.forall_mem_cons.mpr ⟨lw_p77, List.forall_mem_cons.mpr ⟨lw_p78, List.forall_mem_cons.mpr ⟨lw_p79, fun _ h => absurd h List.not_mem_nil⟩⟩⟩⟩⟩⟩⟩⟩⟩⟩⟩⟩⟩⟩⟩⟩
theorem lw_p80 : lw_okq (⟨"FacingPagesModel", "findsBreaks", "(I)V"⟩, 22) := ⟨⟨by decide +kernel, by decide +kernel⟩, List.mem_of_getElem? (i := 589) (by decide +kernel), List.mem_of_getElem? (i := 826) (by decide +kernel), List.mem_of_getElem? (i := 827) (by decide +kernel)⟩
theorem lw_p81 : lw_okq (⟨"FacingPagesModel", "all", "(I)I"⟩, 22) := ⟨⟨by decide +kernel, by decide +kernel⟩, List.mem_of_getElem? (i := 589) (by decide +kernel), List.mem_of_getElem? (i := 830) (by decide +kernel), List.mem_of_getElem? (i := 831) (by decide +kernel)⟩
theorem lw_p82 : lw_okq (⟨"FacingPagesModel", "finds", "(II)V"⟩, 22) := ⟨⟨by decide +kernel, by decide +kernel⟩, List.mem_of_getElem? (i := 589) (by decide +kernel), List.mem_of_getElem? (i := 834) (by decide +kernel), List.mem_of_getElem? (i := 835) (by decide +kernel)⟩
theorem lw_p83 : lw_okq (⟨"FacingPagesModel", "canTake", "(IIII)Z"⟩, 22) := ⟨⟨by decide +kernel, by decide +kernel⟩, List.mem_of_getElem? (i := 589) (by decide +kernel), List.mem_of_getElem? (i := 839) (by decide +kernel), List.mem_of_getElem? (i := 840) (by decide +kernel)⟩
theorem lw_p84 : lw_okq (⟨"FacingPagesModel", "areTied", "(IIII)Z"⟩, 22) := ⟨⟨by decide +kernel, by decide +kernel⟩, List.mem_of_getElem? (i := 589) (by decide +kernel), List.mem_of_getElem? (i := 843) (by decide +kernel), List.mem_of_getElem? (i := 844) (by decide +kernel)⟩
theorem lw_p85 : lw_okq (⟨"FacingPagesModel", "costWith", "(IIII)I"⟩, 22) := ⟨⟨by decide +kernel, by decide +kernel⟩, List.mem_of_getElem? (i := 589) (by decide +kernel), List.mem_of_getElem? (i := 847) (by decide +kernel), List.mem_of_getElem? (i := 848) (by decide +kernel)⟩
theorem lw_p86 : lw_okq (⟨"FacingPagesModel", "costOf", "(II)I"⟩, 22) := ⟨⟨by decide +kernel, by decide +kernel⟩, List.mem_of_getElem? (i := 589) (by decide +kernel), List.mem_of_getElem? (i := 851) (by decide +kernel), List.mem_of_getElem? (i := 852) (by decide +kernel)⟩
theorem lw_p87 : lw_okq (⟨"FacingPagesModel", "follows", "()V"⟩, 22) := ⟨⟨by decide +kernel, by decide +kernel⟩, List.mem_of_getElem? (i := 589) (by decide +kernel), List.mem_of_getElem? (i := 855) (by decide +kernel), List.mem_of_getElem? (i := 856) (by decide +kernel)⟩
theorem lw_p88 : lw_okq (⟨"FacingPagesModel", "ofPara", "(III)I"⟩, 22) := ⟨⟨by decide +kernel, by decide +kernel⟩, List.mem_of_getElem? (i := 589) (by decide +kernel), List.mem_of_getElem? (i := 859) (by decide +kernel), List.mem_of_getElem? (i := 860) (by decide +kernel)⟩
theorem lw_p89 : lw_okq (⟨"FacingPagesModel", "openingOf", "(II)I"⟩, 22) := ⟨⟨by decide +kernel, by decide +kernel⟩, List.mem_of_getElem? (i := 589) (by decide +kernel), List.mem_of_getElem? (i := 863) (by decide +kernel), List.mem_of_getElem? (i := 864) (by decide +kernel)⟩
theorem lw_p90 : lw_okq (⟨"FacingPagesModel", "tieIs", "(II)I"⟩, 22) := ⟨⟨by decide +kernel, by decide +kernel⟩, List.mem_of_getElem? (i := 589) (by decide +kernel), List.mem_of_getElem? (i := 875) (by decide +kernel), List.mem_of_getElem? (i := 876) (by decide +kernel)⟩
theorem lw_p91 : lw_okq (⟨"FacingPagesModel", "crosses", "(I)I"⟩, 22) := ⟨⟨by decide +kernel, by decide +kernel⟩, List.mem_of_getElem? (i := 589) (by decide +kernel), List.mem_of_getElem? (i := 879) (by decide +kernel), List.mem_of_getElem? (i := 880) (by decide +kernel)⟩
theorem lw_p92 : lw_okq (⟨"FacingPagesModel", "openingIs", "(II)I"⟩, 22) := ⟨⟨by decide +kernel, by decide +kernel⟩, List.mem_of_getElem? (i := 589) (by decide +kernel), List.mem_of_getElem? (i := 895) (by decide +kernel), List.mem_of_getElem? (i := 896) (by decide +kernel)⟩
theorem lw_p93 : lw_okq (⟨"FacingPagesModel", "countOf", "(I)I"⟩, 22) := ⟨⟨by decide +kernel, by decide +kernel⟩, List.mem_of_getElem? (i := 589) (by decide +kernel), List.mem_of_getElem? (i := 903) (by decide +kernel), List.mem_of_getElem? (i := 904) (by decide +kernel)⟩
theorem lw_p94 : lw_okq (⟨"FacingPagesModel", "crossings", "()I"⟩, 22) := ⟨⟨by decide +kernel, by decide +kernel⟩, List.mem_of_getElem? (i := 589) (by decide +kernel), List.mem_of_getElem? (i := 907) (by decide +kernel), List.mem_of_getElem? (i := 908) (by decide +kernel)⟩
theorem lw_p95 : lw_okq (⟨"FacingPagesModel", "reads", "(Z)V"⟩, 22) := ⟨⟨by decide +kernel, by decide +kernel⟩, List.mem_of_getElem? (i := 589) (by decide +kernel), List.mem_of_getElem? (i := 923) (by decide +kernel), List.mem_of_getElem? (i := 924) (by decide +kernel)⟩
def lw_privs_6 : List (MethodName × Nat) := [(⟨"FacingPagesModel", "findsBreaks", "(I)V"⟩, 22), (⟨"FacingPagesModel", "all", "(I)I"⟩, 22), (⟨"FacingPagesModel", "finds", "(II)V"⟩, 22), (⟨"FacingPagesModel", "canTake", "(IIII)Z"⟩, 22), (⟨"FacingPagesModel", "areTied", "(IIII)Z"⟩, 22), (⟨"FacingPagesModel", "costWith", "(IIII)I"⟩, 22), (⟨"FacingPagesModel", "costOf", "(II)I"⟩, 22), (⟨"FacingPagesModel", "follows", "()V"⟩, 22), (⟨"FacingPagesModel", "ofPara", "(III)I"⟩, 22), (⟨"FacingPagesModel", "openingOf", "(II)I"⟩, 22), (⟨"FacingPagesModel", "tieIs", "(II)I"⟩, 22), (⟨"FacingPagesModel", "crosses", "(I)I"⟩, 22), (⟨"FacingPagesModel", "openingIs", "(II)I"⟩, 22), (⟨"FacingPagesModel", "countOf", "(I)I"⟩, 22), (⟨"FacingPagesModel", "crossings", "()I"⟩, 22), (⟨"FacingPagesModel", "reads", "(Z)V"⟩, 22)]
theorem lw_r6 : ∀ q ∈ lw_privs_6, lw_okq q := List.forall_mem_cons.mpr ⟨lw_p80, List.forall_mem_cons.mpr ⟨lw_p81, List.forall_mem_cons.mpr ⟨lw_p82, List.forall_mem_cons.mpr ⟨lw_p83, List.forall_mem_cons.mpr ⟨lw_p84, List.forall_mem_cons.mpr ⟨lw_p85, List.forall_mem_cons.mpr ⟨lw_p86, List.forall_mem_cons.mpr ⟨lw_p87, List.forall_mem_cons.mpr ⟨lw_p88, List.forall_mem_cons.mpr ⟨lw_p89, List.forall_mem_cons.mpr ⟨lw_p90, List.forall_mem_cons.mpr ⟨lw_p91, List.forall_mem_cons.mpr ⟨lw_p92, List.forall_mem_cons.mpr ⟨lw_p93, List.forall_mem_cons.mpr ⟨lw_p94, List.forall_mem_cons.mpr ⟨lw_p95, fun _ h => absurd h List.not_mem_nil⟩⟩⟩⟩⟩⟩⟩⟩⟩⟩⟩⟩⟩⟩⟩⟩
theorem lw_p96 : lw_okq (⟨"FacingPagesModel", "blanks", "()V"⟩, 22) := ⟨⟨by decide +kernel, by decide +kernel⟩, List.mem_of_getElem? (i := 589) (by decide +kernel), List.mem_of_getElem? (i := 927) (by decide +kernel), List.mem_of_getElem? (i := 928) (by decide +kernel)⟩
theorem lw_p97 : lw_okq (⟨"FacingPagesModel", "isAt", "(II)Z"⟩, 22) := ⟨⟨by decide +kernel, by decide +kernel⟩, List.mem_of_getElem? (i := 589) (by decide +kernel), List.mem_of_getElem? (i := 931) (by decide +kernel), List.mem_of_getElem? (i := 932) (by decide +kernel)⟩
theorem lw_p98 : lw_okq (⟨"FacingPagesModel", "numbersOf", "(II)V"⟩, 22) := ⟨⟨by decide +kernel, by decide +kernel⟩, List.mem_of_getElem? (i := 589) (by decide +kernel), List.mem_of_getElem? (i := 935) (by decide +kernel), List.mem_of_getElem? (i := 936) (by decide +kernel)⟩
theorem lw_p99 : lw_okq (⟨"FacingPagesModel", "number", "()I"⟩, 22) := ⟨⟨by decide +kernel, by decide +kernel⟩, List.mem_of_getElem? (i := 589) (by decide +kernel), List.mem_of_getElem? (i := 939) (by decide +kernel), List.mem_of_getElem? (i := 940) (by decide +kernel)⟩
theorem lw_p100 : lw_okq (⟨"FacingPagesModel", "doesOrder", "(I)I"⟩, 22) := ⟨⟨by decide +kernel, by decide +kernel⟩, List.mem_of_getElem? (i := 589) (by decide +kernel), List.mem_of_getElem? (i := 943) (by decide +kernel), List.mem_of_getElem? (i := 944) (by decide +kernel)⟩
theorem lw_p101 : lw_okq (⟨"FacingPagesModel", "toldOf", "(I)I"⟩, 22) := ⟨⟨by decide +kernel, by decide +kernel⟩, List.mem_of_getElem? (i := 589) (by decide +kernel), List.mem_of_getElem? (i := 951) (by decide +kernel), List.mem_of_getElem? (i := 952) (by decide +kernel)⟩
def lw_privs_7 : List (MethodName × Nat) := [(⟨"FacingPagesModel", "blanks", "()V"⟩, 22), (⟨"FacingPagesModel", "isAt", "(II)Z"⟩, 22), (⟨"FacingPagesModel", "numbersOf", "(II)V"⟩, 22), (⟨"FacingPagesModel", "number", "()I"⟩, 22), (⟨"FacingPagesModel", "doesOrder", "(I)I"⟩, 22), (⟨"FacingPagesModel", "toldOf", "(I)I"⟩, 22)]
theorem lw_r7 : ∀ q ∈ lw_privs_7, lw_okq q := List.forall_mem_cons.mpr ⟨lw_p96, List.forall_mem_cons.mpr ⟨lw_p97, List.forall_mem_cons.mpr ⟨lw_p98, List.forall_mem_cons.mpr ⟨lw_p99, List.forall_mem_cons.mpr ⟨lw_p100, List.forall_mem_cons.mpr ⟨lw_p101, fun _ h => absurd h List.not_mem_nil⟩⟩⟩⟩⟩⟩
def lw_privs : List (MethodName × Nat) := lw_privs_1 ++ (lw_privs_2 ++ (lw_privs_3 ++ (lw_privs_4 ++ (lw_privs_5 ++ (lw_privs_6 ++ (lw_privs_7))))))
def lw_tbl : List Cond := k2_sels lw_privs ++ tables_1
theorem lw_privs_ok : ∀ q ∈ lw_privs, lw_okq q := by
  show ∀ q ∈ lw_privs_1 ++ (lw_privs_2 ++ (lw_privs_3 ++ (lw_privs_4 ++ (lw_privs_5 ++ (lw_privs_6 ++ (lw_privs_7)))))), lw_okq q
  exact List.forall_mem_append.mpr ⟨lw_r1, List.forall_mem_append.mpr ⟨lw_r2, List.forall_mem_append.mpr ⟨lw_r3, List.forall_mem_append.mpr ⟨lw_r4, List.forall_mem_append.mpr ⟨lw_r5, List.forall_mem_append.mpr ⟨lw_r6, lw_r7⟩⟩⟩⟩⟩⟩
def RX0 : String := "FacingPages$Book"
def TX0 : u_T := fun k => match k with
  | 0 => ("FacingPages$Book", "paragraphs", "[I", true)
  | 1 => ("FacingPages$Book", "words", "[I", true)
  | 2 => ("FacingPages$Book", "lengths", "[I", true)
  | 3 => ("FacingPages$Book", "width", "[I", true)
  | 4 => ("FacingPages$Book", "settings", "[I", true)
  | 5 => ("FacingPages$Book", "tieP", "[I", true)
  | 6 => ("FacingPages$Book", "tieQ", "[I", true)
  | 7 => ("FacingPages$Book", "tieWeight", "[I", true)
  | _ => ("FacingPages$Book", "tieCount", "I", false)
def tyX0 : Nat → FieldType := fun k => match k with
  | 0 => .array .int
  | 1 => .array .int
  | 2 => .array .int
  | 3 => .array .int
  | 4 => .array .int
  | 5 => .array .int
  | 6 => .array .int
  | 7 => .array .int
  | _ => .int
abbrev wsX00 : List Cond := u_ws RX0 TX0 9
theorem nmX0 : ∀ a, a < 9 → ∀ b, b < 9 → a ≠ b → (TX0 a).2.1 ≠ (TX0 b).2.1 := by decide +kernel
theorem tyX0_ok : ∀ k, k < 9 → parseFieldDescriptor (TX0 k).2.2.1 = some (tyX0 k) := by decide +kernel
abbrev cX0_init : ByteArray := prog_2_method_1_code
def yX0_init : MethodName := ⟨RX0, "<init>", "()V"⟩
abbrev cX0_takeFrom : ByteArray := prog_2_method_2_code
def yX0_takeFrom : MethodName := ⟨RX0, "takeFrom", "(LFacingPages$Book;)V"⟩
abbrev cX0_copyRow : ByteArray := prog_2_method_3_code
def yX0_copyRow : MethodName := ⟨RX0, "copyRow", "([I[I)V"⟩
abbrev cX0_hasParagraph : ByteArray := prog_2_method_4_code
def yX0_hasParagraph : MethodName := ⟨RX0, "hasParagraph", "(II)Z"⟩
abbrev cX0_hasWord : ByteArray := prog_2_method_5_code
def yX0_hasWord : MethodName := ⟨RX0, "hasWord", "(III)Z"⟩
abbrev cX0_hasTie : ByteArray := prog_2_method_6_code
def yX0_hasTie : MethodName := ⟨RX0, "hasTie", "(I)Z"⟩
abbrev cX0_slot : ByteArray := prog_2_method_7_code
def yX0_slot : MethodName := ⟨RX0, "slot", "(II)I"⟩
abbrev cX0_wordsIn : ByteArray := prog_2_method_8_code
def yX0_wordsIn : MethodName := ⟨RX0, "wordsIn", "(II)I"⟩
abbrev cX0_lengthOf : ByteArray := prog_2_method_9_code
def yX0_lengthOf : MethodName := ⟨RX0, "lengthOf", "(III)I"⟩
abbrev cX0_lineOf : ByteArray := prog_2_method_10_code
def yX0_lineOf : MethodName := ⟨RX0, "lineOf", "(II)I"⟩
abbrev cX0_linesIn : ByteArray := prog_2_method_11_code
def yX0_linesIn : MethodName := ⟨RX0, "linesIn", "(I)I"⟩
abbrev cX0_linesOfSide : ByteArray := prog_2_method_12_code
def yX0_linesOfSide : MethodName := ⟨RX0, "linesOfSide", "(I)I"⟩
abbrev cX0_addParagraph : ByteArray := prog_2_method_13_code
def yX0_addParagraph : MethodName := ⟨RX0, "addParagraph", "(I[III)I"⟩
abbrev cX0_dropParagraph : ByteArray := prog_2_method_14_code
def yX0_dropParagraph : MethodName := ⟨RX0, "dropParagraph", "(II)I"⟩
abbrev cX0_dropTiesOf : ByteArray := prog_2_method_15_code
def yX0_dropTiesOf : MethodName := ⟨RX0, "dropTiesOf", "([II)I"⟩
abbrev cX0_changeWidth : ByteArray := prog_2_method_16_code
def yX0_changeWidth : MethodName := ⟨RX0, "changeWidth", "(II)I"⟩
abbrev cX0_changeSetting : ByteArray := prog_2_method_17_code
def yX0_changeSetting : MethodName := ⟨RX0, "changeSetting", "(II)I"⟩
abbrev cX0_addTie : ByteArray := prog_2_method_18_code
def yX0_addTie : MethodName := ⟨RX0, "addTie", "(III)I"⟩
abbrev cX0_dropTie : ByteArray := prog_2_method_19_code
def yX0_dropTie : MethodName := ⟨RX0, "dropTie", "(I)I"⟩
abbrev cX0_cross : ByteArray := prog_2_method_20_code
def yX0_cross : MethodName := ⟨RX0, "cross", "(II)Z"⟩
def RX1 : String := "FacingPages$Choice"
def TX1 : u_T := fun k => match k with
  | 0 => ("FacingPages$Choice", "crossed", "[I", true)
  | 1 => ("FacingPages$Choice", "pairs", "I", false)
  | 2 => ("FacingPages$Choice", "kept", "I", false)
  | _ => ("FacingPages$Choice", "weight", "I", false)
def tyX1 : Nat → FieldType := fun k => match k with
  | 0 => .array .int
  | 1 => .int
  | 2 => .int
  | _ => .int
abbrev wsX10 : List Cond := u_ws RX1 TX1 4
theorem nmX1 : ∀ a, a < 4 → ∀ b, b < 4 → a ≠ b → (TX1 a).2.1 ≠ (TX1 b).2.1 := by decide +kernel
theorem tyX1_ok : ∀ k, k < 4 → parseFieldDescriptor (TX1 k).2.2.1 = some (tyX1 k) := by decide +kernel
abbrev cX1_init : ByteArray := prog_3_method_1_code
def yX1_init : MethodName := ⟨RX1, "<init>", "()V"⟩
abbrev cX1_follow : ByteArray := prog_3_method_2_code
def yX1_follow : MethodName := ⟨RX1, "follow", "(LFacingPages$Book;)V"⟩
abbrev cX1_findCrossed : ByteArray := prog_3_method_3_code
def yX1_findCrossed : MethodName := ⟨RX1, "findCrossed", "(LFacingPages$Book;)V"⟩
abbrev cX1_weightOf : ByteArray := prog_3_method_4_code
def yX1_weightOf : MethodName := ⟨RX1, "weightOf", "(ILFacingPages$Book;)I"⟩
def RX2 : String := "FacingPages$Layout"
def TX2 : u_T := fun k => match k with
  | 0 => ("FacingPages$Layout", "toll", "[I", true)
  | 1 => ("FacingPages$Layout", "rank", "[I", true)
  | 2 => ("FacingPages$Layout", "begun0", "[I", true)
  | 3 => ("FacingPages$Layout", "begun1", "[I", true)
  | 4 => ("FacingPages$Layout", "start0", "[I", true)
  | 5 => ("FacingPages$Layout", "start1", "[I", true)
  | 6 => ("FacingPages$Layout", "high", "I", false)
  | 7 => ("FacingPages$Layout", "total0", "I", false)
  | 8 => ("FacingPages$Layout", "total1", "I", false)
  | 9 => ("FacingPages$Layout", "openings", "I", false)
  | _ => ("FacingPages$Layout", "cost", "I", false)
def tyX2 : Nat → FieldType := fun k => match k with
  | 0 => .array .int
  | 1 => .array .int
  | 2 => .array .int
  | 3 => .array .int
  | 4 => .array .int
  | 5 => .array .int
  | 6 => .int
  | 7 => .int
  | 8 => .int
  | 9 => .int
  | _ => .int
abbrev wsX20 : List Cond := u_ws RX2 TX2 11
theorem nmX2 : ∀ a, a < 11 → ∀ b, b < 11 → a ≠ b → (TX2 a).2.1 ≠ (TX2 b).2.1 := by decide +kernel
theorem tyX2_ok : ∀ k, k < 11 → parseFieldDescriptor (TX2 k).2.2.1 = some (tyX2 k) := by decide +kernel
abbrev cX2_init : ByteArray := prog_4_method_1_code
def yX2_init : MethodName := ⟨RX2, "<init>", "()V"⟩
abbrev cX2_follow : ByteArray := prog_4_method_2_code
def yX2_follow : MethodName := ⟨RX2, "follow", "(LFacingPages$Book;LFacingPages$Lines;LFacingPages$Lines;I)V"⟩
abbrev cX2_setTolls : ByteArray := prog_4_method_3_code
def yX2_setTolls : MethodName := ⟨RX2, "setTolls", "(I)V"⟩
abbrev cX2_markBegun : ByteArray := prog_4_method_4_code
def yX2_markBegun : MethodName := ⟨RX2, "markBegun", "([I[ILFacingPages$Lines;I)V"⟩
abbrev cX2_rankAll : ByteArray := prog_4_method_5_code
def yX2_rankAll : MethodName := ⟨RX2, "rankAll", "([Z[Z)V"⟩
abbrev cX2_leastRank : ByteArray := prog_4_method_6_code
def yX2_leastRank : MethodName := ⟨RX2, "leastRank", "(II[Z)I"⟩
abbrev cX2_rankBy : ByteArray := prog_4_method_7_code
def yX2_rankBy : MethodName := ⟨RX2, "rankBy", "(IIII)I"⟩
abbrev cX2_walk : ByteArray := prog_4_method_8_code
def yX2_walk : MethodName := ⟨RX2, "walk", "()V"⟩
abbrev cX2_takeMost : ByteArray := prog_4_method_9_code
def yX2_takeMost : MethodName := ⟨RX2, "takeMost", "(I)V"⟩
abbrev cX2_taken0 : ByteArray := prog_4_method_10_code
def yX2_taken0 : MethodName := ⟨RX2, "taken0", "(I)I"⟩
abbrev cX2_taken1 : ByteArray := prog_4_method_11_code
def yX2_taken1 : MethodName := ⟨RX2, "taken1", "(I)I"⟩
abbrev cX2_costOf : ByteArray := prog_4_method_12_code
def yX2_costOf : MethodName := ⟨RX2, "costOf", "(I)I"⟩
abbrev cX2_openingWith : ByteArray := prog_4_method_13_code
def yX2_openingWith : MethodName := ⟨RX2, "openingWith", "(II)I"⟩
def RX3 : String := "FacingPages$Lines"
def TX3 : u_T := fun k => match k with
  | 0 => ("FacingPages$Lines", "first", "[I", true)
  | 1 => ("FacingPages$Lines", "allowed", "[Z", true)
  | _ => ("FacingPages$Lines", "total", "I", false)
def tyX3 : Nat → FieldType := fun k => match k with
  | 0 => .array .int
  | 1 => .array .boolean
  | _ => .int
abbrev wsX30 : List Cond := u_ws RX3 TX3 3
theorem nmX3 : ∀ a, a < 3 → ∀ b, b < 3 → a ≠ b → (TX3 a).2.1 ≠ (TX3 b).2.1 := by decide +kernel
theorem tyX3_ok : ∀ k, k < 3 → parseFieldDescriptor (TX3 k).2.2.1 = some (tyX3 k) := by decide +kernel
abbrev cX3_init : ByteArray := prog_5_method_1_code
def yX3_init : MethodName := ⟨RX3, "<init>", "()V"⟩
abbrev cX3_follow : ByteArray := prog_5_method_2_code
def yX3_follow : MethodName := ⟨RX3, "follow", "(LFacingPages$Book;I)V"⟩
abbrev cX3_allowBreaks : ByteArray := prog_5_method_3_code
def yX3_allowBreaks : MethodName := ⟨RX3, "allowBreaks", "(II)V"⟩
def RX4 : String := "FacingPages$Script"
def TX4 : u_T := fun k => match k with
  | 0 => ("FacingPages$Script", "bytes", "[B", true)
  | 1 => ("FacingPages$Script", "size", "I", false)
  | 2 => ("FacingPages$Script", "kinds", "[I", true)
  | 3 => ("FacingPages$Script", "from", "[I", true)
  | 4 => ("FacingPages$Script", "numbers", "[I", true)
  | 5 => ("FacingPages$Script", "orders", "I", false)
  | 6 => ("FacingPages$Script", "numbersRead", "I", false)
  | 7 => ("FacingPages$Script", "kind", "I", false)
  | _ => ("FacingPages$Script", "figures", "I", false)
def tyX4 : Nat → FieldType := fun k => match k with
  | 0 => .array .byte
  | 1 => .int
  | 2 => .array .int
  | 3 => .array .int
  | 4 => .array .int
  | 5 => .int
  | 6 => .int
  | 7 => .int
  | _ => .int
abbrev wsX40 : List Cond := u_ws RX4 TX4 9
theorem nmX4 : ∀ a, a < 9 → ∀ b, b < 9 → a ≠ b → (TX4 a).2.1 ≠ (TX4 b).2.1 := by decide +kernel
theorem tyX4_ok : ∀ k, k < 9 → parseFieldDescriptor (TX4 k).2.2.1 = some (tyX4 k) := by decide +kernel
abbrev cX4_init : ByteArray := prog_6_method_1_code
def yX4_init : MethodName := ⟨RX4, "<init>", "()V"⟩
abbrev cX4_append : ByteArray := prog_6_method_2_code
def yX4_append : MethodName := ⟨RX4, "append", "(I)Z"⟩
abbrev cX4_read : ByteArray := prog_6_method_3_code
def yX4_read : MethodName := ⟨RX4, "read", "()I"⟩
abbrev cX4_accepts : ByteArray := prog_6_method_4_code
def yX4_accepts : MethodName := ⟨RX4, "accepts", "(I)Z"⟩
abbrev cX4_beginOrder : ByteArray := prog_6_method_5_code
def yX4_beginOrder : MethodName := ⟨RX4, "beginOrder", "(I)Z"⟩
abbrev cX4_takeFigure : ByteArray := prog_6_method_6_code
def yX4_takeFigure : MethodName := ⟨RX4, "takeFigure", "(I)Z"⟩
abbrev cX4_endOrder : ByteArray := prog_6_method_7_code
def yX4_endOrder : MethodName := ⟨RX4, "endOrder", "()Z"⟩
abbrev cX4_numbersOfOrder : ByteArray := prog_6_method_8_code
def yX4_numbersOfOrder : MethodName := ⟨RX4, "numbersOfOrder", "()I"⟩
abbrev cX4_mostNumbers : ByteArray := prog_6_method_9_code
def yX4_mostNumbers : MethodName := ⟨RX4, "mostNumbers", "(I)I"⟩
abbrev cX4_leastNumbers : ByteArray := prog_6_method_10_code
def yX4_leastNumbers : MethodName := ⟨RX4, "leastNumbers", "(I)I"⟩
def RX5 : String := "FacingPages$States"
def TX5 : u_T := fun k => match k with
  | 0 => ("FacingPages$States", "kept", "[LFacingPages$Book;", true)
  | _ => ("FacingPages$States", "size", "I", false)
def tyX5 : Nat → FieldType := fun k => match k with
  | 0 => .array (.object "FacingPages$Book")
  | _ => .int
abbrev wsX50 : List Cond := u_ws RX5 TX5 2
theorem nmX5 : ∀ a, a < 2 → ∀ b, b < 2 → a ≠ b → (TX5 a).2.1 ≠ (TX5 b).2.1 := by decide +kernel
theorem tyX5_ok : ∀ k, k < 2 → parseFieldDescriptor (TX5 k).2.2.1 = some (tyX5 k) := by decide +kernel
abbrev cX5_init : ByteArray := prog_7_method_1_code
def yX5_init : MethodName := ⟨RX5, "<init>", "()V"⟩
abbrev cX5_keep : ByteArray := prog_7_method_2_code
def yX5_keep : MethodName := ⟨RX5, "keep", "(LFacingPages$Book;)V"⟩
abbrev cX5_loseOldest : ByteArray := prog_7_method_3_code
def yX5_loseOldest : MethodName := ⟨RX5, "loseOldest", "()V"⟩
abbrev cX5_giveBack : ByteArray := prog_7_method_4_code
def yX5_giveBack : MethodName := ⟨RX5, "giveBack", "(LFacingPages$Book;)Z"⟩
def RX6 : String := "FacingPages"
def TX6 : u_T := fun k => match k with
  | 0 => ("FacingPages", "book", "LFacingPages$Book;", true)
  | 1 => ("FacingPages", "trial", "LFacingPages$Book;", true)
  | 2 => ("FacingPages", "states", "LFacingPages$States;", true)
  | 3 => ("FacingPages", "script", "LFacingPages$Script;", true)
  | 4 => ("FacingPages", "lines", "[LFacingPages$Lines;", true)
  | 5 => ("FacingPages", "choice", "LFacingPages$Choice;", true)
  | 6 => ("FacingPages", "layout", "LFacingPages$Layout;", true)
  | 7 => ("FacingPages", "refused", "[I", true)
  | 8 => ("FacingPages", "seeded", "[I", true)
  | 9 => ("FacingPages", "measured", "Z", false)
  | _ => ("FacingPages", "laidOut", "Z", false)
def tyX6 : Nat → FieldType := fun k => match k with
  | 0 => .object "FacingPages$Book"
  | 1 => .object "FacingPages$Book"
  | 2 => .object "FacingPages$States"
  | 3 => .object "FacingPages$Script"
  | 4 => .array (.object "FacingPages$Lines")
  | 5 => .object "FacingPages$Choice"
  | 6 => .object "FacingPages$Layout"
  | 7 => .array .int
  | 8 => .array .int
  | 9 => .boolean
  | _ => .boolean
abbrev wsX60 : List Cond := u_ws RX6 TX6 11
theorem nmX6 : ∀ a, a < 11 → ∀ b, b < 11 → a ≠ b → (TX6 a).2.1 ≠ (TX6 b).2.1 := by decide +kernel
theorem tyX6_ok : ∀ k, k < 11 → parseFieldDescriptor (TX6 k).2.2.1 = some (tyX6 k) := by decide +kernel
abbrev cX6_init : ByteArray := prog_1_method_1_code
def yX6_init : MethodName := ⟨RX6, "<init>", "()V"⟩
abbrev cX6_para : ByteArray := prog_1_method_2_code
def yX6_para : MethodName := ⟨RX6, "para", "(III)I"⟩
abbrev cX6_drops : ByteArray := prog_1_method_3_code
def yX6_drops : MethodName := ⟨RX6, "drops", "(II)I"⟩
abbrev cX6_widths : ByteArray := prog_1_method_4_code
def yX6_widths : MethodName := ⟨RX6, "widths", "(II)I"⟩
abbrev cX6_sets : ByteArray := prog_1_method_5_code
def yX6_sets : MethodName := ⟨RX6, "sets", "(II)I"⟩
abbrev cX6_ties : ByteArray := prog_1_method_6_code
def yX6_ties : MethodName := ⟨RX6, "ties", "(III)I"⟩
abbrev cX6_unties : ByteArray := prog_1_method_7_code
def yX6_unties : MethodName := ⟨RX6, "unties", "(I)I"⟩
abbrev cX6_of : ByteArray := prog_1_method_8_code
def yX6_of : MethodName := ⟨RX6, "of", "(III)I"⟩
abbrev cX6_word : ByteArray := prog_1_method_9_code
def yX6_word : MethodName := ⟨RX6, "word", "(IIII)I"⟩
abbrev cX6_tie : ByteArray := prog_1_method_10_code
def yX6_tie : MethodName := ⟨RX6, "tie", "(II)I"⟩
abbrev cX6_crossing : ByteArray := prog_1_method_11_code
def yX6_crossing : MethodName := ⟨RX6, "crossing", "(II)I"⟩
abbrev cX6_lawful : ByteArray := prog_1_method_12_code
def yX6_lawful : MethodName := ⟨RX6, "lawful", "(II)I"⟩
abbrev cX6_opening : ByteArray := prog_1_method_13_code
def yX6_opening : MethodName := ⟨RX6, "opening", "(II)I"⟩
abbrev cX6_count : ByteArray := prog_1_method_14_code
def yX6_count : MethodName := ⟨RX6, "count", "(I)I"⟩
abbrev cX6_type : ByteArray := prog_1_method_15_code
def yX6_type : MethodName := ⟨RX6, "type", "(I)I"⟩
abbrev cX6_clear : ByteArray := prog_1_method_16_code
def yX6_clear : MethodName := ⟨RX6, "clear", "()I"⟩
abbrev cX6_does : ByteArray := prog_1_method_17_code
def yX6_does : MethodName := ⟨RX6, "does", "()I"⟩
abbrev cX6_back : ByteArray := prog_1_method_18_code
def yX6_back : MethodName := ⟨RX6, "back", "()I"⟩
abbrev cX6_told : ByteArray := prog_1_method_19_code
def yX6_told : MethodName := ⟨RX6, "told", "(I)I"⟩
abbrev cX6_digest : ByteArray := prog_1_method_20_code
def yX6_digest : MethodName := ⟨RX6, "digest", "()J"⟩
abbrev cX6_within : ByteArray := prog_1_method_21_code
def yX6_within : MethodName := ⟨RX6, "within", "(III)Z"⟩
abbrev cX6_isSide : ByteArray := prog_1_method_22_code
def yX6_isSide : MethodName := ⟨RX6, "isSide", "(I)Z"⟩
abbrev cX6_refuse : ByteArray := prog_1_method_23_code
def yX6_refuse : MethodName := ⟨RX6, "refuse", "(I)I"⟩
abbrev cX6_copyToTry : ByteArray := prog_1_method_24_code
def yX6_copyToTry : MethodName := ⟨RX6, "copyToTry", "()LFacingPages$Book;"⟩
abbrev cX6_settle : ByteArray := prog_1_method_25_code
def yX6_settle : MethodName := ⟨RX6, "settle", "(I)I"⟩
abbrev cX6_forgetPlans : ByteArray := prog_1_method_26_code
def yX6_forgetPlans : MethodName := ⟨RX6, "forgetPlans", "()V"⟩
abbrev cX6_measure : ByteArray := prog_1_method_27_code
def yX6_measure : MethodName := ⟨RX6, "measure", "()V"⟩
abbrev cX6_layOut : ByteArray := prog_1_method_28_code
def yX6_layOut : MethodName := ⟨RX6, "layOut", "()LFacingPages$Layout;"⟩
abbrev cX6_tryOrder : ByteArray := prog_1_method_29_code
def yX6_tryOrder : MethodName := ⟨RX6, "tryOrder", "(I)I"⟩
def RX7 : String := "FacingPagesModel"
def TX7 : u_T := fun k => match k with
  | 0 => ("FacingPagesModel", "refused", "[I", true)
  | 1 => ("FacingPagesModel", "now", "[I", true)
  | 2 => ("FacingPagesModel", "kept", "[I", true)
  | 3 => ("FacingPagesModel", "states", "I", false)
  | 4 => ("FacingPagesModel", "known", "Z", false)
  | 5 => ("FacingPagesModel", "fresh", "[I", true)
  | 6 => ("FacingPagesModel", "keptSet", "I", false)
  | 7 => ("FacingPagesModel", "lawful", "[Z", true)
  | 8 => ("FacingPagesModel", "firsts", "[I", true)
  | 9 => ("FacingPagesModel", "cost", "[I", true)
  | 10 => ("FacingPagesModel", "openings", "[I", true)
  | 11 => ("FacingPagesModel", "laid", "I", false)
  | 12 => ("FacingPagesModel", "laidCost", "I", false)
  | 13 => ("FacingPagesModel", "takes0", "[I", true)
  | 14 => ("FacingPagesModel", "takes1", "[I", true)
  | 15 => ("FacingPagesModel", "text", "[I", true)
  | 16 => ("FacingPagesModel", "length", "I", false)
  | 17 => ("FacingPagesModel", "readAt", "I", false)
  | 18 => ("FacingPagesModel", "isFaulty", "Z", false)
  | 19 => ("FacingPagesModel", "numbers", "I", false)
  | 20 => ("FacingPagesModel", "ordersDone", "I", false)
  | _ => ("FacingPagesModel", "isStopped", "Z", false)
def tyX7 : Nat → FieldType := fun k => match k with
  | 0 => .array .int
  | 1 => .array .int
  | 2 => .array .int
  | 3 => .int
  | 4 => .boolean
  | 5 => .array .int
  | 6 => .int
  | 7 => .array .boolean
  | 8 => .array .int
  | 9 => .array .int
  | 10 => .array .int
  | 11 => .int
  | 12 => .int
  | 13 => .array .int
  | 14 => .array .int
  | 15 => .array .int
  | 16 => .int
  | 17 => .int
  | 18 => .boolean
  | 19 => .int
  | 20 => .int
  | _ => .boolean
abbrev wsX70 : List Cond := u_ws RX7 TX7 22
theorem nmX7 : ∀ a, a < 22 → ∀ b, b < 22 → a ≠ b → (TX7 a).2.1 ≠ (TX7 b).2.1 := by decide +kernel
theorem tyX7_ok : ∀ k, k < 22 → parseFieldDescriptor (TX7 k).2.2.1 = some (tyX7 k) := by decide +kernel
abbrev cX7_init : ByteArray := prog_9_method_1_code
def yX7_init : MethodName := ⟨RX7, "<init>", "()V"⟩
abbrev cX7_bad : ByteArray := prog_9_method_2_code
def yX7_bad : MethodName := ⟨RX7, "bad", "()I"⟩
abbrev cX7_no : ByteArray := prog_9_method_3_code
def yX7_no : MethodName := ⟨RX7, "no", "()I"⟩
abbrev cX7_full : ByteArray := prog_9_method_4_code
def yX7_full : MethodName := ⟨RX7, "full", "()I"⟩
abbrev cX7_counted : ByteArray := prog_9_method_5_code
def yX7_counted : MethodName := ⟨RX7, "counted", "(I)I"⟩
abbrev cX7_in : ByteArray := prog_9_method_6_code
def yX7_in : MethodName := ⟨RX7, "in", "(III)Z"⟩
abbrev cX7_puts : ByteArray := prog_9_method_7_code
def yX7_puts : MethodName := ⟨RX7, "puts", "(I)V"⟩
abbrev cX7_takes : ByteArray := prog_9_method_8_code
def yX7_takes : MethodName := ⟨RX7, "takes", "(I)V"⟩
abbrev cX7_leavesState : ByteArray := prog_9_method_9_code
def yX7_leavesState : MethodName := ⟨RX7, "leavesState", "()V"⟩
abbrev cX7_back : ByteArray := prog_9_method_10_code
def yX7_back : MethodName := ⟨RX7, "back", "()I"⟩
abbrev cX7_at : ByteArray := prog_9_method_11_code
def yX7_at : MethodName := ⟨RX7, "at", "(II)I"⟩
abbrev cX7_many : ByteArray := prog_9_method_12_code
def yX7_many : MethodName := ⟨RX7, "many", "(I)I"⟩
abbrev cX7_wordsOf : ByteArray := prog_9_method_13_code
def yX7_wordsOf : MethodName := ⟨RX7, "wordsOf", "(II)I"⟩
abbrev cX7_lengthOf : ByteArray := prog_9_method_14_code
def yX7_lengthOf : MethodName := ⟨RX7, "lengthOf", "(III)I"⟩
abbrev cX7_lineOf : ByteArray := prog_9_method_15_code
def yX7_lineOf : MethodName := ⟨RX7, "lineOf", "(III)I"⟩
abbrev cX7_linesOf : ByteArray := prog_9_method_16_code
def yX7_linesOf : MethodName := ⟨RX7, "linesOf", "(II)I"⟩
abbrev cX7_firstOf : ByteArray := prog_9_method_17_code
def yX7_firstOf : MethodName := ⟨RX7, "firstOf", "(II)I"⟩
abbrev cX7_linesOfAll : ByteArray := prog_9_method_18_code
def yX7_linesOfAll : MethodName := ⟨RX7, "linesOfAll", "(I)I"⟩
abbrev cX7_isPara : ByteArray := prog_9_method_19_code
def yX7_isPara : MethodName := ⟨RX7, "isPara", "(II)Z"⟩
abbrev cX7_isTooLong : ByteArray := prog_9_method_20_code
def yX7_isTooLong : MethodName := ⟨RX7, "isTooLong", "()Z"⟩
abbrev cX7_canPara : ByteArray := prog_9_method_21_code
def yX7_canPara : MethodName := ⟨RX7, "canPara", "(II)I"⟩
abbrev cX7_paraComes : ByteArray := prog_9_method_22_code
def yX7_paraComes : MethodName := ⟨RX7, "paraComes", "(II)I"⟩
abbrev cX7_canWidth : ByteArray := prog_9_method_23_code
def yX7_canWidth : MethodName := ⟨RX7, "canWidth", "(II)I"⟩
abbrev cX7_widthBecomes : ByteArray := prog_9_method_24_code
def yX7_widthBecomes : MethodName := ⟨RX7, "widthBecomes", "(II)I"⟩
abbrev cX7_canSet : ByteArray := prog_9_method_25_code
def yX7_canSet : MethodName := ⟨RX7, "canSet", "(II)I"⟩
abbrev cX7_setBecomes : ByteArray := prog_9_method_26_code
def yX7_setBecomes : MethodName := ⟨RX7, "setBecomes", "(II)I"⟩
abbrev cX7_tieAt : ByteArray := prog_9_method_27_code
def yX7_tieAt : MethodName := ⟨RX7, "tieAt", "(I)I"⟩
abbrev cX7_ofTie : ByteArray := prog_9_method_28_code
def yX7_ofTie : MethodName := ⟨RX7, "ofTie", "(II)I"⟩
abbrev cX7_canTie : ByteArray := prog_9_method_29_code
def yX7_canTie : MethodName := ⟨RX7, "canTie", "(III)I"⟩
abbrev cX7_tieComes : ByteArray := prog_9_method_30_code
def yX7_tieComes : MethodName := ⟨RX7, "tieComes", "(III)I"⟩
abbrev cX7_tieGoes : ByteArray := prog_9_method_31_code
def yX7_tieGoes : MethodName := ⟨RX7, "tieGoes", "(I)V"⟩
abbrev cX7_para : ByteArray := prog_9_method_32_code
def yX7_para : MethodName := ⟨RX7, "para", "(III)I"⟩
abbrev cX7_drops : ByteArray := prog_9_method_33_code
def yX7_drops : MethodName := ⟨RX7, "drops", "(II)I"⟩
abbrev cX7_widths : ByteArray := prog_9_method_34_code
def yX7_widths : MethodName := ⟨RX7, "widths", "(II)I"⟩
abbrev cX7_sets : ByteArray := prog_9_method_35_code
def yX7_sets : MethodName := ⟨RX7, "sets", "(II)I"⟩
abbrev cX7_ties : ByteArray := prog_9_method_36_code
def yX7_ties : MethodName := ⟨RX7, "ties", "(III)I"⟩
abbrev cX7_unties : ByteArray := prog_9_method_37_code
def yX7_unties : MethodName := ⟨RX7, "unties", "(I)I"⟩
abbrev cX7_areCrossing : ByteArray := prog_9_method_38_code
def yX7_areCrossing : MethodName := ⟨RX7, "areCrossing", "(II)Z"⟩
abbrev cX7_isPlain : ByteArray := prog_9_method_39_code
def yX7_isPlain : MethodName := ⟨RX7, "isPlain", "(I)Z"⟩
abbrev cX7_weightOf : ByteArray := prog_9_method_40_code
def yX7_weightOf : MethodName := ⟨RX7, "weightOf", "(IZ)I"⟩
abbrev cX7_findsKept : ByteArray := prog_9_method_41_code
def yX7_findsKept : MethodName := ⟨RX7, "findsKept", "()V"⟩
abbrev cX7_findsBreaks : ByteArray := prog_9_method_42_code
def yX7_findsBreaks : MethodName := ⟨RX7, "findsBreaks", "(I)V"⟩
abbrev cX7_all : ByteArray := prog_9_method_43_code
def yX7_all : MethodName := ⟨RX7, "all", "(I)I"⟩
abbrev cX7_costOf : ByteArray := prog_9_method_44_code
def yX7_costOf : MethodName := ⟨RX7, "costOf", "(II)I"⟩
abbrev cX7_areTied : ByteArray := prog_9_method_45_code
def yX7_areTied : MethodName := ⟨RX7, "areTied", "(IIII)Z"⟩
abbrev cX7_canTake : ByteArray := prog_9_method_46_code
def yX7_canTake : MethodName := ⟨RX7, "canTake", "(IIII)Z"⟩
abbrev cX7_costWith : ByteArray := prog_9_method_47_code
def yX7_costWith : MethodName := ⟨RX7, "costWith", "(IIII)I"⟩
abbrev cX7_finds : ByteArray := prog_9_method_48_code
def yX7_finds : MethodName := ⟨RX7, "finds", "(II)V"⟩
abbrev cX7_follows : ByteArray := prog_9_method_49_code
def yX7_follows : MethodName := ⟨RX7, "follows", "()V"⟩
abbrev cX7_lays : ByteArray := prog_9_method_50_code
def yX7_lays : MethodName := ⟨RX7, "lays", "()V"⟩
abbrev cX7_openingOf : ByteArray := prog_9_method_51_code
def yX7_openingOf : MethodName := ⟨RX7, "openingOf", "(II)I"⟩
abbrev cX7_ofPara : ByteArray := prog_9_method_52_code
def yX7_ofPara : MethodName := ⟨RX7, "ofPara", "(III)I"⟩
abbrev cX7_of : ByteArray := prog_9_method_53_code
def yX7_of : MethodName := ⟨RX7, "of", "(III)I"⟩
abbrev cX7_word : ByteArray := prog_9_method_54_code
def yX7_word : MethodName := ⟨RX7, "word", "(IIII)I"⟩
abbrev cX7_crosses : ByteArray := prog_9_method_55_code
def yX7_crosses : MethodName := ⟨RX7, "crosses", "(I)I"⟩
abbrev cX7_tieIs : ByteArray := prog_9_method_56_code
def yX7_tieIs : MethodName := ⟨RX7, "tieIs", "(II)I"⟩
abbrev cX7_tie : ByteArray := prog_9_method_57_code
def yX7_tie : MethodName := ⟨RX7, "tie", "(II)I"⟩
abbrev cX7_crossing : ByteArray := prog_9_method_58_code
def yX7_crossing : MethodName := ⟨RX7, "crossing", "(II)I"⟩
abbrev cX7_lawful : ByteArray := prog_9_method_59_code
def yX7_lawful : MethodName := ⟨RX7, "lawful", "(II)I"⟩
abbrev cX7_openingIs : ByteArray := prog_9_method_60_code
def yX7_openingIs : MethodName := ⟨RX7, "openingIs", "(II)I"⟩
abbrev cX7_opening : ByteArray := prog_9_method_61_code
def yX7_opening : MethodName := ⟨RX7, "opening", "(II)I"⟩
abbrev cX7_crossings : ByteArray := prog_9_method_62_code
def yX7_crossings : MethodName := ⟨RX7, "crossings", "()I"⟩
abbrev cX7_countOf : ByteArray := prog_9_method_63_code
def yX7_countOf : MethodName := ⟨RX7, "countOf", "(I)I"⟩
abbrev cX7_count : ByteArray := prog_9_method_64_code
def yX7_count : MethodName := ⟨RX7, "count", "(I)I"⟩
abbrev cX7_type : ByteArray := prog_9_method_65_code
def yX7_type : MethodName := ⟨RX7, "type", "(I)I"⟩
abbrev cX7_clear : ByteArray := prog_9_method_66_code
def yX7_clear : MethodName := ⟨RX7, "clear", "()I"⟩
abbrev cX7_isAt : ByteArray := prog_9_method_67_code
def yX7_isAt : MethodName := ⟨RX7, "isAt", "(II)Z"⟩
abbrev cX7_blanks : ByteArray := prog_9_method_68_code
def yX7_blanks : MethodName := ⟨RX7, "blanks", "()V"⟩
abbrev cX7_number : ByteArray := prog_9_method_69_code
def yX7_number : MethodName := ⟨RX7, "number", "()I"⟩
abbrev cX7_numbersOf : ByteArray := prog_9_method_70_code
def yX7_numbersOf : MethodName := ⟨RX7, "numbersOf", "(II)V"⟩
abbrev cX7_doesOrder : ByteArray := prog_9_method_71_code
def yX7_doesOrder : MethodName := ⟨RX7, "doesOrder", "(I)I"⟩
abbrev cX7_reads : ByteArray := prog_9_method_72_code
def yX7_reads : MethodName := ⟨RX7, "reads", "(Z)V"⟩
abbrev cX7_does : ByteArray := prog_9_method_73_code
def yX7_does : MethodName := ⟨RX7, "does", "()I"⟩
abbrev cX7_toldOf : ByteArray := prog_9_method_74_code
def yX7_toldOf : MethodName := ⟨RX7, "toldOf", "(I)I"⟩
abbrev cX7_told : ByteArray := prog_9_method_75_code
def yX7_told : MethodName := ⟨RX7, "told", "(I)I"⟩
abbrev cX7_digest : ByteArray := prog_9_method_76_code
def yX7_digest : MethodName := ⟨RX7, "digest", "()J"⟩
def RJ6 : String := "java/lang/Integer"
abbrev cJ6_bitCount_0f7a4 : ByteArray := prog_10_method_49_code
def yJ6_bitCount_0f7a4 : MethodName := ⟨RJ6, "bitCount", "(I)I"⟩
def RJ9 : String := "java/lang/Math"
abbrev cJ9_min_7cf53 : ByteArray := prog_11_method_69_code
def yJ9_min_7cf53 : MethodName := ⟨RJ9, "min", "(II)I"⟩
def RJ10 : String := "java/lang/System"
def RL : String := "FacingPagesLaw"
abbrev cL_law : ByteArray := code
def yL_law : MethodName := ⟨RL, "law", "([I)Z"⟩
abbrev vwCl : List vw_C := [(RX0, TX0, 9), (RX1, TX1, 4), (RX2, TX2, 11), (RX3, TX3, 3), (RX4, TX4, 9), (RX5, TX5, 2), (RX6, TX6, 11), (RX7, TX7, 22)]
