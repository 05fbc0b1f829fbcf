section
-- ===== PART A: goes FIRST, ahead of the names: the tables' words, and 'selects' of the private methods out of them =====
/-- a private method of a class that the tables say can be made, by its rows of tables_1 -/
def lw_okq (q : MethodName × Nat) : Prop := (q.1.cls ≠ "java/lang/invoke/MethodHandle" ∧ q.1.cls ≠ "java/lang/invoke/VarHandle") ∧ Cond.instantiable q.1.cls q.2 ∈ tables_1 ∧ Cond.privateMethod q.1 ∈ tables_1 ∧ Cond.instanceMethod q.1 ∈ tables_1
theorem lw_p0 : lw_okq (⟨"FacingPages", "forgetPlans", "()V"⟩, 11) := ⟨⟨by decide +kernel, by decide +kernel⟩, List.mem_of_getElem? (i := 13) (by decide +kernel), List.mem_of_getElem? (i := 218) (by decide +kernel), List.mem_of_getElem? (i := 219) (by decide +kernel)⟩
theorem lw_p1 : lw_okq (⟨"FacingPages", "refuse", "(I)I"⟩, 11) := ⟨⟨by decide +kernel, by decide +kernel⟩, List.mem_of_getElem? (i := 13) (by decide +kernel), List.mem_of_getElem? (i := 266) (by decide +kernel), List.mem_of_getElem? (i := 267) (by decide +kernel)⟩
theorem lw_p2 : lw_okq (⟨"FacingPages", "copyToTry", "()LFacingPages$Book;"⟩, 11) := ⟨⟨by decide +kernel, by decide +kernel⟩, List.mem_of_getElem? (i := 13) (by decide +kernel), List.mem_of_getElem? (i := 270) (by decide +kernel), List.mem_of_getElem? (i := 271) (by decide +kernel)⟩
theorem lw_p3 : lw_okq (⟨"FacingPages$Book", "takeFrom", "(LFacingPages$Book;)V"⟩, 9) := ⟨⟨by decide +kernel, by decide +kernel⟩, List.mem_of_getElem? (i := 21) (by decide +kernel), List.mem_of_getElem? (i := 274) (by decide +kernel), List.mem_of_getElem? (i := 275) (by decide +kernel)⟩
theorem lw_p4 : lw_okq (⟨"FacingPages$Book", "addParagraph", "(I[III)I"⟩, 9) := ⟨⟨by decide +kernel, by decide +kernel⟩, List.mem_of_getElem? (i := 21) (by decide +kernel), List.mem_of_getElem? (i := 287) (by decide +kernel), List.mem_of_getElem? (i := 288) (by decide +kernel)⟩
theorem lw_p5 : lw_okq (⟨"FacingPages$Book", "linesOfSide", "(I)I"⟩, 9) := ⟨⟨by decide +kernel, by decide +kernel⟩, List.mem_of_getElem? (i := 21) (by decide +kernel), List.mem_of_getElem? (i := 295) (by decide +kernel), List.mem_of_getElem? (i := 296) (by decide +kernel)⟩
theorem lw_p6 : lw_okq (⟨"FacingPages$Book", "linesIn", "(I)I"⟩, 9) := ⟨⟨by decide +kernel, by decide +kernel⟩, List.mem_of_getElem? (i := 21) (by decide +kernel), List.mem_of_getElem? (i := 299) (by decide +kernel), List.mem_of_getElem? (i := 300) (by decide +kernel)⟩
theorem lw_p7 : lw_okq (⟨"FacingPages$Book", "lineOf", "(II)I"⟩, 9) := ⟨⟨by decide +kernel, by decide +kernel⟩, List.mem_of_getElem? (i := 21) (by decide +kernel), List.mem_of_getElem? (i := 303) (by decide +kernel), List.mem_of_getElem? (i := 304) (by decide +kernel)⟩
theorem lw_p8 : lw_okq (⟨"FacingPages", "settle", "(I)I"⟩, 11) := ⟨⟨by decide +kernel, by decide +kernel⟩, List.mem_of_getElem? (i := 13) (by decide +kernel), List.mem_of_getElem? (i := 307) (by decide +kernel), List.mem_of_getElem? (i := 308) (by decide +kernel)⟩
theorem lw_p9 : lw_okq (⟨"FacingPages$States", "keep", "(LFacingPages$Book;)V"⟩, 2) := ⟨⟨by decide +kernel, by decide +kernel⟩, List.mem_of_getElem? (i := 70) (by decide +kernel), List.mem_of_getElem? (i := 311) (by decide +kernel), List.mem_of_getElem? (i := 312) (by decide +kernel)⟩
theorem lw_p10 : lw_okq (⟨"FacingPages$States", "loseOldest", "()V"⟩, 2) := ⟨⟨by decide +kernel, by decide +kernel⟩, List.mem_of_getElem? (i := 70) (by decide +kernel), List.mem_of_getElem? (i := 315) (by decide +kernel), List.mem_of_getElem? (i := 316) (by decide +kernel)⟩
theorem lw_p11 : lw_okq (⟨"FacingPages$Book", "dropParagraph", "(II)I"⟩, 9) := ⟨⟨by decide +kernel, by decide +kernel⟩, List.mem_of_getElem? (i := 21) (by decide +kernel), List.mem_of_getElem? (i := 324) (by decide +kernel), List.mem_of_getElem? (i := 325) (by decide +kernel)⟩
theorem lw_p12 : lw_okq (⟨"FacingPages$Book", "hasParagraph", "(II)Z"⟩, 9) := ⟨⟨by decide +kernel, by decide +kernel⟩, List.mem_of_getElem? (i := 21) (by decide +kernel), List.mem_of_getElem? (i := 328) (by decide +kernel), List.mem_of_getElem? (i := 329) (by decide +kernel)⟩
theorem lw_p13 : lw_okq (⟨"FacingPages$Book", "dropTiesOf", "([II)I"⟩, 9) := ⟨⟨by decide +kernel, by decide +kernel⟩, List.mem_of_getElem? (i := 21) (by decide +kernel), List.mem_of_getElem? (i := 333) (by decide +kernel), List.mem_of_getElem? (i := 334) (by decide +kernel)⟩
theorem lw_p14 : lw_okq (⟨"FacingPages$Book", "dropTie", "(I)I"⟩, 9) := ⟨⟨by decide +kernel, by decide +kernel⟩, List.mem_of_getElem? (i := 21) (by decide +kernel), List.mem_of_getElem? (i := 337) (by decide +kernel), List.mem_of_getElem? (i := 338) (by decide +kernel)⟩
theorem lw_p15 : lw_okq (⟨"FacingPages$Book", "hasTie", "(I)Z"⟩, 9) := ⟨⟨by decide +kernel, by decide +kernel⟩, List.mem_of_getElem? (i := 21) (by decide +kernel), List.mem_of_getElem? (i := 341) (by decide +kernel), List.mem_of_getElem? (i := 342) (by decide +kernel)⟩
def lw_privs_1 : List (MethodName × Nat) := [(⟨"FacingPages", "forgetPlans", "()V"⟩, 11), (⟨"FacingPages", "refuse", "(I)I"⟩, 11), (⟨"FacingPages", "copyToTry", "()LFacingPages$Book;"⟩, 11), (⟨"FacingPages$Book", "takeFrom", "(LFacingPages$Book;)V"⟩, 9), (⟨"FacingPages$Book", "addParagraph", "(I[III)I"⟩, 9), (⟨"FacingPages$Book", "linesOfSide", "(I)I"⟩, 9), (⟨"FacingPages$Book", "linesIn", "(I)I"⟩, 9), (⟨"FacingPages$Book", "lineOf", "(II)I"⟩, 9), (⟨"FacingPages", "settle", "(I)I"⟩, 11), (⟨"FacingPages$States", "keep", "(LFacingPages$Book;)V"⟩, 2), (⟨"FacingPages$States", "loseOldest", "()V"⟩, 2), (⟨"FacingPages$Book", "dropParagraph", "(II)I"⟩, 9), (⟨"FacingPages$Book", "hasParagraph", "(II)Z"⟩, 9), (⟨"FacingPages$Book", "dropTiesOf", "([II)I"⟩, 9), (⟨"FacingPages$Book", "dropTie", "(I)I"⟩, 9), (⟨"FacingPages$Book", "hasTie", "(I)Z"⟩, 9)]
theorem lw_r1 : ∀ q ∈ lw_privs_1, lw_okq q := List.forall_mem_cons.mpr ⟨lw_p0, List.forall_mem_cons.mpr ⟨lw_p1, List.forall_mem_cons.mpr ⟨lw_p2, List.forall_mem_cons.mpr ⟨lw_p3, List.forall_mem_cons.mpr ⟨lw_p4, List.forall_mem_cons.mpr ⟨lw_p5, List.forall_mem_cons.mpr ⟨lw_p6, List.forall_mem_cons.mpr ⟨lw_p7, List.forall_mem_cons.mpr ⟨lw_p8, List.forall_mem_cons.mpr ⟨lw_p9, List.forall_mem_cons.mpr ⟨lw_p10, List.forall_mem_cons.mpr ⟨lw_p11, List.forall_mem_cons.mpr ⟨lw_p12, List.forall_mem_cons.mpr ⟨lw_p13, List.forall_mem_cons.mpr ⟨lw_p14, List.forall_mem_cons.mpr ⟨lw_p15, fun _ h => absurd h List.not_mem_nil⟩⟩⟩⟩⟩⟩⟩⟩⟩⟩⟩⟩⟩⟩⟩⟩
theorem lw_p16 : lw_okq (⟨"FacingPages$Book", "changeWidth", "(II)I"⟩, 9) := ⟨⟨by decide +kernel, by decide +kernel⟩, List.mem_of_getElem? (i := 21) (by decide +kernel), List.mem_of_getElem? (i := 349) (by decide +kernel), List.mem_of_getElem? (i := 350) (by decide +kernel)⟩
theorem lw_p17 : lw_okq (⟨"FacingPages$Book", "changeSetting", "(II)I"⟩, 9) := ⟨⟨by decide +kernel, by decide +kernel⟩, List.mem_of_getElem? (i := 21) (by decide +kernel), List.mem_of_getElem? (i := 357) (by decide +kernel), List.mem_of_getElem? (i := 358) (by decide +kernel)⟩
theorem lw_p18 : lw_okq (⟨"FacingPages$Book", "addTie", "(III)I"⟩, 9) := ⟨⟨by decide +kernel, by decide +kernel⟩, List.mem_of_getElem? (i := 21) (by decide +kernel), List.mem_of_getElem? (i := 369) (by decide +kernel), List.mem_of_getElem? (i := 370) (by decide +kernel)⟩
theorem lw_p19 : lw_okq (⟨"FacingPages", "measure", "()V"⟩, 11) := ⟨⟨by decide +kernel, by decide +kernel⟩, List.mem_of_getElem? (i := 13) (by decide +kernel), List.mem_of_getElem? (i := 383) (by decide +kernel), List.mem_of_getElem? (i := 384) (by decide +kernel)⟩
theorem lw_p20 : lw_okq (⟨"FacingPages$Lines", "follow", "(LFacingPages$Book;I)V"⟩, 3) := ⟨⟨by decide +kernel, by decide +kernel⟩, List.mem_of_getElem? (i := 128) (by decide +kernel), List.mem_of_getElem? (i := 387) (by decide +kernel), List.mem_of_getElem? (i := 388) (by decide +kernel)⟩
theorem lw_p21 : lw_okq (⟨"FacingPages$Lines", "allowBreaks", "(II)V"⟩, 3) := ⟨⟨by decide +kernel, by decide +kernel⟩, List.mem_of_getElem? (i := 128) (by decide +kernel), List.mem_of_getElem? (i := 393) (by decide +kernel), List.mem_of_getElem? (i := 394) (by decide +kernel)⟩
theorem lw_p22 : lw_okq (⟨"FacingPages$Choice", "follow", "(LFacingPages$Book;)V"⟩, 4) := ⟨⟨by decide +kernel, by decide +kernel⟩, List.mem_of_getElem? (i := 151) (by decide +kernel), List.mem_of_getElem? (i := 397) (by decide +kernel), List.mem_of_getElem? (i := 398) (by decide +kernel)⟩
theorem lw_p23 : lw_okq (⟨"FacingPages$Choice", "findCrossed", "(LFacingPages$Book;)V"⟩, 4) := ⟨⟨by decide +kernel, by decide +kernel⟩, List.mem_of_getElem? (i := 151) (by decide +kernel), List.mem_of_getElem? (i := 401) (by decide +kernel), List.mem_of_getElem? (i := 402) (by decide +kernel)⟩
theorem lw_p24 : lw_okq (⟨"FacingPages$Book", "cross", "(II)Z"⟩, 9) := ⟨⟨by decide +kernel, by decide +kernel⟩, List.mem_of_getElem? (i := 21) (by decide +kernel), List.mem_of_getElem? (i := 405) (by decide +kernel), List.mem_of_getElem? (i := 406) (by decide +kernel)⟩
theorem lw_p25 : lw_okq (⟨"FacingPages$Choice", "weightOf", "(ILFacingPages$Book;)I"⟩, 4) := ⟨⟨by decide +kernel, by decide +kernel⟩, List.mem_of_getElem? (i := 151) (by decide +kernel), List.mem_of_getElem? (i := 409) (by decide +kernel), List.mem_of_getElem? (i := 410) (by decide +kernel)⟩
theorem lw_p26 : lw_okq (⟨"FacingPages$Book", "wordsIn", "(II)I"⟩, 9) := ⟨⟨by decide +kernel, by decide +kernel⟩, List.mem_of_getElem? (i := 21) (by decide +kernel), List.mem_of_getElem? (i := 419) (by decide +kernel), List.mem_of_getElem? (i := 420) (by decide +kernel)⟩
theorem lw_p27 : lw_okq (⟨"FacingPages", "layOut", "()LFacingPages$Layout;"⟩, 11) := ⟨⟨by decide +kernel, by decide +kernel⟩, List.mem_of_getElem? (i := 13) (by decide +kernel), List.mem_of_getElem? (i := 423) (by decide +kernel), List.mem_of_getElem? (i := 424) (by decide +kernel)⟩
theorem lw_p28 : lw_okq (⟨"FacingPages$Layout", "follow", "(LFacingPages$Book;LFacingPages$Lines;LFacingPages$Lines;I)V"⟩, 11) := ⟨⟨by decide +kernel, by decide +kernel⟩, List.mem_of_getElem? (i := 174) (by decide +kernel), List.mem_of_getElem? (i := 427) (by decide +kernel), List.mem_of_getElem? (i := 428) (by decide +kernel)⟩
theorem lw_p29 : lw_okq (⟨"FacingPages$Layout", "setTolls", "(I)V"⟩, 11) := ⟨⟨by decide +kernel, by decide +kernel⟩, List.mem_of_getElem? (i := 174) (by decide +kernel), List.mem_of_getElem? (i := 432) (by decide +kernel), List.mem_of_getElem? (i := 433) (by decide +kernel)⟩
theorem lw_p30 : lw_okq (⟨"FacingPages$Layout", "rankAll", "([Z[Z)V"⟩, 11) := ⟨⟨by decide +kernel, by decide +kernel⟩, List.mem_of_getElem? (i := 174) (by decide +kernel), List.mem_of_getElem? (i := 439) (by decide +kernel), List.mem_of_getElem? (i := 440) (by decide +kernel)⟩
theorem lw_p31 : lw_okq (⟨"FacingPages$Layout", "leastRank", "(II[Z)I"⟩, 11) := ⟨⟨by decide +kernel, by decide +kernel⟩, List.mem_of_getElem? (i := 174) (by decide +kernel), List.mem_of_getElem? (i := 443) (by decide +kernel), List.mem_of_getElem? (i := 444) (by decide +kernel)⟩
def lw_privs_2 : List (MethodName × Nat) := [(⟨"FacingPages$Book", "changeWidth", "(II)I"⟩, 9), (⟨"FacingPages$Book", "changeSetting", "(II)I"⟩, 9), (⟨"FacingPages$Book", "addTie", "(III)I"⟩, 9), (⟨"FacingPages", "measure", "()V"⟩, 11), (⟨"FacingPages$Lines", "follow", "(LFacingPages$Book;I)V"⟩, 3), (⟨"FacingPages$Lines", "allowBreaks", "(II)V"⟩, 3), (⟨"FacingPages$Choice", "follow", "(LFacingPages$Book;)V"⟩, 4), (⟨"FacingPages$Choice", "findCrossed", "(LFacingPages$Book;)V"⟩, 4), (⟨"FacingPages$Book", "cross", "(II)Z"⟩, 9), (⟨"FacingPages$Choice", "weightOf", "(ILFacingPages$Book;)I"⟩, 4), (⟨"FacingPages$Book", "wordsIn", "(II)I"⟩, 9), (⟨"FacingPages", "layOut", "()LFacingPages$Layout;"⟩, 11), (⟨"FacingPages$Layout", "follow", "(LFacingPages$Book;LFacingPages$Lines;LFacingPages$Lines;I)V"⟩, 11), (⟨"FacingPages$Layout", "setTolls", "(I)V"⟩, 11), (⟨"FacingPages$Layout", "rankAll", "([Z[Z)V"⟩, 11), (⟨"FacingPages$Layout", "leastRank", "(II[Z)I"⟩, 11)]
theorem lw_r2 : ∀ q ∈ lw_privs_2, lw_okq q := List.forall_mem_cons.mpr ⟨lw_p16, List.forall_mem_cons.mpr ⟨lw_p17, List.forall_mem_cons.mpr ⟨lw_p18, List.forall_mem_cons.mpr ⟨lw_p19, List.forall_mem_cons.mpr ⟨lw_p20, List.forall_mem_cons.mpr ⟨lw_p21, List.forall_mem_cons.mpr ⟨lw_p22, List.forall_mem_cons.mpr ⟨lw_p23, List.forall_mem_cons.mpr ⟨lw_p24, List.forall_mem_cons.mpr ⟨lw_p25, List.forall_mem_cons.mpr ⟨lw_p26, List.forall_mem_cons.mpr ⟨lw_p27, List.forall_mem_cons.mpr ⟨lw_p28, List.forall_mem_cons.mpr ⟨lw_p29, List.forall_mem_cons.mpr ⟨lw_p30, List.forall_mem_cons.mpr ⟨lw_p31, fun _ h => absurd h List.not_mem_nil⟩⟩⟩⟩⟩⟩⟩⟩⟩⟩⟩⟩⟩⟩⟩⟩
theorem lw_p32 : lw_okq (⟨"FacingPages$Layout", "rankBy", "(IIII)I"⟩, 11) := ⟨⟨by decide +kernel, by decide +kernel⟩, List.mem_of_getElem? (i := 174) (by decide +kernel), List.mem_of_getElem? (i := 448) (by decide +kernel), List.mem_of_getElem? (i := 449) (by decide +kernel)⟩
theorem lw_p33 : lw_okq (⟨"FacingPages$Layout", "walk", "()V"⟩, 11) := ⟨⟨by decide +kernel, by decide +kernel⟩, List.mem_of_getElem? (i := 174) (by decide +kernel), List.mem_of_getElem? (i := 452) (by decide +kernel), List.mem_of_getElem? (i := 453) (by decide +kernel)⟩
theorem lw_p34 : lw_okq (⟨"FacingPages$Layout", "takeMost", "(I)V"⟩, 11) := ⟨⟨by decide +kernel, by decide +kernel⟩, List.mem_of_getElem? (i := 174) (by decide +kernel), List.mem_of_getElem? (i := 456) (by decide +kernel), List.mem_of_getElem? (i := 457) (by decide +kernel)⟩
theorem lw_p35 : lw_okq (⟨"FacingPages$Layout", "openingWith", "(II)I"⟩, 11) := ⟨⟨by decide +kernel, by decide +kernel⟩, List.mem_of_getElem? (i := 174) (by decide +kernel), List.mem_of_getElem? (i := 460) (by decide +kernel), List.mem_of_getElem? (i := 461) (by decide +kernel)⟩
theorem lw_p36 : lw_okq (⟨"FacingPages$Book", "hasWord", "(III)Z"⟩, 9) := ⟨⟨by decide +kernel, by decide +kernel⟩, List.mem_of_getElem? (i := 21) (by decide +kernel), List.mem_of_getElem? (i := 468) (by decide +kernel), List.mem_of_getElem? (i := 469) (by decide +kernel)⟩
theorem lw_p37 : lw_okq (⟨"FacingPages$Book", "lengthOf", "(III)I"⟩, 9) := ⟨⟨by decide +kernel, by decide +kernel⟩, List.mem_of_getElem? (i := 21) (by decide +kernel), List.mem_of_getElem? (i := 473) (by decide +kernel), List.mem_of_getElem? (i := 474) (by decide +kernel)⟩
theorem lw_p38 : lw_okq (⟨"FacingPages$Layout", "taken0", "(I)I"⟩, 11) := ⟨⟨by decide +kernel, by decide +kernel⟩, List.mem_of_getElem? (i := 174) (by decide +kernel), List.mem_of_getElem? (i := 497) (by decide +kernel), List.mem_of_getElem? (i := 498) (by decide +kernel)⟩
theorem lw_p39 : lw_okq (⟨"FacingPages$Layout", "taken1", "(I)I"⟩, 11) := ⟨⟨by decide +kernel, by decide +kernel⟩, List.mem_of_getElem? (i := 174) (by decide +kernel), List.mem_of_getElem? (i := 501) (by decide +kernel), List.mem_of_getElem? (i := 502) (by decide +kernel)⟩
theorem lw_p40 : lw_okq (⟨"FacingPages$Layout", "costOf", "(I)I"⟩, 11) := ⟨⟨by decide +kernel, by decide +kernel⟩, List.mem_of_getElem? (i := 174) (by decide +kernel), List.mem_of_getElem? (i := 505) (by decide +kernel), List.mem_of_getElem? (i := 506) (by decide +kernel)⟩
theorem lw_p41 : lw_okq (⟨"FacingPages$Script", "append", "(I)Z"⟩, 9) := ⟨⟨by decide +kernel, by decide +kernel⟩, List.mem_of_getElem? (i := 87) (by decide +kernel), List.mem_of_getElem? (i := 519) (by decide +kernel), List.mem_of_getElem? (i := 520) (by decide +kernel)⟩
theorem lw_p42 : lw_okq (⟨"FacingPages$Script", "read", "()I"⟩, 9) := ⟨⟨by decide +kernel, by decide +kernel⟩, List.mem_of_getElem? (i := 87) (by decide +kernel), List.mem_of_getElem? (i := 531) (by decide +kernel), List.mem_of_getElem? (i := 532) (by decide +kernel)⟩
theorem lw_p43 : lw_okq (⟨"FacingPages$Script", "accepts", "(I)Z"⟩, 9) := ⟨⟨by decide +kernel, by decide +kernel⟩, List.mem_of_getElem? (i := 87) (by decide +kernel), List.mem_of_getElem? (i := 535) (by decide +kernel), List.mem_of_getElem? (i := 536) (by decide +kernel)⟩
theorem lw_p44 : lw_okq (⟨"FacingPages$Script", "endOrder", "()Z"⟩, 9) := ⟨⟨by decide +kernel, by decide +kernel⟩, List.mem_of_getElem? (i := 87) (by decide +kernel), List.mem_of_getElem? (i := 539) (by decide +kernel), List.mem_of_getElem? (i := 540) (by decide +kernel)⟩
theorem lw_p45 : lw_okq (⟨"FacingPages$Script", "numbersOfOrder", "()I"⟩, 9) := ⟨⟨by decide +kernel, by decide +kernel⟩, List.mem_of_getElem? (i := 87) (by decide +kernel), List.mem_of_getElem? (i := 543) (by decide +kernel), List.mem_of_getElem? (i := 544) (by decide +kernel)⟩
theorem lw_p46 : lw_okq (⟨"FacingPages$Script", "takeFigure", "(I)Z"⟩, 9) := ⟨⟨by decide +kernel, by decide +kernel⟩, List.mem_of_getElem? (i := 87) (by decide +kernel), List.mem_of_getElem? (i := 554) (by decide +kernel), List.mem_of_getElem? (i := 555) (by decide +kernel)⟩
theorem lw_p47 : lw_okq (⟨"FacingPages$Script", "beginOrder", "(I)Z"⟩, 9) := ⟨⟨by decide +kernel, by decide +kernel⟩, List.mem_of_getElem? (i := 87) (by decide +kernel), List.mem_of_getElem? (i := 558) (by decide +kernel), List.mem_of_getElem? (i := 559) (by decide +kernel)⟩
def lw_privs_3 : List (MethodName × Nat) := [(⟨"FacingPages$Layout", "rankBy", "(IIII)I"⟩, 11), (⟨"FacingPages$Layout", "walk", "()V"⟩, 11), (⟨"FacingPages$Layout", "takeMost", "(I)V"⟩, 11), (⟨"FacingPages$Layout", "openingWith", "(II)I"⟩, 11), (⟨"FacingPages$Book", "hasWord", "(III)Z"⟩, 9), (⟨"FacingPages$Book", "lengthOf", "(III)I"⟩, 9), (⟨"FacingPages$Layout", "taken0", "(I)I"⟩, 11), (⟨"FacingPages$Layout", "taken1", "(I)I"⟩, 11), (⟨"FacingPages$Layout", "costOf", "(I)I"⟩, 11), (⟨"FacingPages$Script", "append", "(I)Z"⟩, 9), (⟨"FacingPages$Script", "read", "()I"⟩, 9), (⟨"FacingPages$Script", "accepts", "(I)Z"⟩, 9), (⟨"FacingPages$Script", "endOrder", "()Z"⟩, 9), (⟨"FacingPages$Script", "numbersOfOrder", "()I"⟩, 9), (⟨"FacingPages$Script", "takeFigure", "(I)Z"⟩, 9), (⟨"FacingPages$Script", "beginOrder", "(I)Z"⟩, 9)]
theorem lw_r3 : ∀ q ∈ lw_privs_3, lw_okq q := List.forall_mem_cons.mpr ⟨lw_p32, List.forall_mem_cons.mpr ⟨lw_p33, List.forall_mem_cons.mpr ⟨lw_p34, List.forall_mem_cons.mpr ⟨lw_p35, List.forall_mem_cons.mpr ⟨lw_p36, List.forall_mem_cons.mpr ⟨lw_p37, List.forall_mem_cons.mpr ⟨lw_p38, List.forall_mem_cons.mpr ⟨lw_p39, List.forall_mem_cons.mpr ⟨lw_p40, List.forall_mem_cons.mpr ⟨lw_p41, List.forall_mem_cons.mpr ⟨lw_p42, List.forall_mem_cons.mpr ⟨lw_p43, List.forall_mem_cons.mpr ⟨lw_p44, List.forall_mem_cons.mpr ⟨lw_p45, List.forall_mem_cons.mpr ⟨lw_p46, List.forall_mem_cons.mpr ⟨lw_p47, fun _ h => absurd h List.not_mem_nil⟩⟩⟩⟩⟩⟩⟩⟩⟩⟩⟩⟩⟩⟩⟩⟩
theorem lw_p48 : lw_okq (⟨"FacingPages", "tryOrder", "(I)I"⟩, 11) := ⟨⟨by decide +kernel, by decide +kernel⟩, List.mem_of_getElem? (i := 13) (by decide +kernel), List.mem_of_getElem? (i := 562) (by decide +kernel), List.mem_of_getElem? (i := 563) (by decide +kernel)⟩
theorem lw_p49 : lw_okq (⟨"FacingPages$States", "giveBack", "(LFacingPages$Book;)Z"⟩, 2) := ⟨⟨by decide +kernel, by decide +kernel⟩, List.mem_of_getElem? (i := 70) (by decide +kernel), List.mem_of_getElem? (i := 570) (by decide +kernel), List.mem_of_getElem? (i := 571) (by decide +kernel)⟩
theorem lw_p50 : lw_okq (⟨"FacingPagesModel", "no", "()I"⟩, 22) := ⟨⟨by decide +kernel, by decide +kernel⟩, List.mem_of_getElem? (i := 589) (by decide +kernel), List.mem_of_getElem? (i := 666) (by decide +kernel), List.mem_of_getElem? (i := 667) (by decide +kernel)⟩
theorem lw_p51 : lw_okq (⟨"FacingPagesModel", "takes", "(I)V"⟩, 22) := ⟨⟨by decide +kernel, by decide +kernel⟩, List.mem_of_getElem? (i := 589) (by decide +kernel), List.mem_of_getElem? (i := 670) (by decide +kernel), List.mem_of_getElem? (i := 671) (by decide +kernel)⟩
theorem lw_p52 : lw_okq (⟨"FacingPagesModel", "canPara", "(II)I"⟩, 22) := ⟨⟨by decide +kernel, by decide +kernel⟩, List.mem_of_getElem? (i := 589) (by decide +kernel), List.mem_of_getElem? (i := 681) (by decide +kernel), List.mem_of_getElem? (i := 682) (by decide +kernel)⟩
theorem lw_p53 : lw_okq (⟨"FacingPagesModel", "many", "(I)I"⟩, 22) := ⟨⟨by decide +kernel, by decide +kernel⟩, List.mem_of_getElem? (i := 589) (by decide +kernel), List.mem_of_getElem? (i := 685) (by decide +kernel), List.mem_of_getElem? (i := 686) (by decide +kernel)⟩
theorem lw_p54 : lw_okq (⟨"FacingPagesModel", "counted", "(I)I"⟩, 22) := ⟨⟨by decide +kernel, by decide +kernel⟩, List.mem_of_getElem? (i := 589) (by decide +kernel), List.mem_of_getElem? (i := 689) (by decide +kernel), List.mem_of_getElem? (i := 690) (by decide +kernel)⟩
theorem lw_p55 : lw_okq (⟨"FacingPagesModel", "bad", "()I"⟩, 22) := ⟨⟨by decide +kernel, by decide +kernel⟩, List.mem_of_getElem? (i := 589) (by decide +kernel), List.mem_of_getElem? (i := 693) (by decide +kernel), List.mem_of_getElem? (i := 694) (by decide +kernel)⟩
theorem lw_p56 : lw_okq (⟨"FacingPagesModel", "full", "()I"⟩, 22) := ⟨⟨by decide +kernel, by decide +kernel⟩, List.mem_of_getElem? (i := 589) (by decide +kernel), List.mem_of_getElem? (i := 697) (by decide +kernel), List.mem_of_getElem? (i := 698) (by decide +kernel)⟩
theorem lw_p57 : lw_okq (⟨"FacingPagesModel", "puts", "(I)V"⟩, 22) := ⟨⟨by decide +kernel, by decide +kernel⟩, List.mem_of_getElem? (i := 589) (by decide +kernel), List.mem_of_getElem? (i := 701) (by decide +kernel), List.mem_of_getElem? (i := 702) (by decide +kernel)⟩
theorem lw_p58 : lw_okq (⟨"FacingPagesModel", "paraComes", "(II)I"⟩, 22) := ⟨⟨by decide +kernel, by decide +kernel⟩, List.mem_of_getElem? (i := 589) (by decide +kernel), List.mem_of_getElem? (i := 705) (by decide +kernel), List.mem_of_getElem? (i := 706) (by decide +kernel)⟩
theorem lw_p59 : lw_okq (⟨"FacingPagesModel", "isTooLong", "()Z"⟩, 22) := ⟨⟨by decide +kernel, by decide +kernel⟩, List.mem_of_getElem? (i := 589) (by decide +kernel), List.mem_of_getElem? (i := 712) (by decide +kernel), List.mem_of_getElem? (i := 713) (by decide +kernel)⟩
theorem lw_p60 : lw_okq (⟨"FacingPagesModel", "linesOfAll", "(I)I"⟩, 22) := ⟨⟨by decide +kernel, by decide +kernel⟩, List.mem_of_getElem? (i := 589) (by decide +kernel), List.mem_of_getElem? (i := 716) (by decide +kernel), List.mem_of_getElem? (i := 717) (by decide +kernel)⟩
theorem lw_p61 : lw_okq (⟨"FacingPagesModel", "firstOf", "(II)I"⟩, 22) := ⟨⟨by decide +kernel, by decide +kernel⟩, List.mem_of_getElem? (i := 589) (by decide +kernel), List.mem_of_getElem? (i := 720) (by decide +kernel), List.mem_of_getElem? (i := 721) (by decide +kernel)⟩
theorem lw_p62 : lw_okq (⟨"FacingPagesModel", "linesOf", "(II)I"⟩, 22) := ⟨⟨by decide +kernel, by decide +kernel⟩, List.mem_of_getElem? (i := 589) (by decide +kernel), List.mem_of_getElem? (i := 724) (by decide +kernel), List.mem_of_getElem? (i := 725) (by decide +kernel)⟩
theorem lw_p63 : lw_okq (⟨"FacingPagesModel", "wordsOf", "(II)I"⟩, 22) := ⟨⟨by decide +kernel, by decide +kernel⟩, List.mem_of_getElem? (i := 589) (by decide +kernel), List.mem_of_getElem? (i := 728) (by decide +kernel), List.mem_of_getElem? (i := 729) (by decide +kernel)⟩
def lw_privs_4 : List (MethodName × Nat) := [(⟨"FacingPages", "tryOrder", "(I)I"⟩, 11), (⟨"FacingPages$States", "giveBack", "(LFacingPages$Book;)Z"⟩, 2), (⟨"FacingPagesModel", "no", "()I"⟩, 22), (⟨"FacingPagesModel", "takes", "(I)V"⟩, 22), (⟨"FacingPagesModel", "canPara", "(II)I"⟩, 22), (⟨"FacingPagesModel", "many", "(I)I"⟩, 22), (⟨"FacingPagesModel", "counted", "(I)I"⟩, 22), (⟨"FacingPagesModel", "bad", "()I"⟩, 22), (⟨"FacingPagesModel", "full", "()I"⟩, 22), (⟨"FacingPagesModel", "puts", "(I)V"⟩, 22), (⟨"FacingPagesModel", "paraComes", "(II)I"⟩, 22), (⟨"FacingPagesModel", "isTooLong", "()Z"⟩, 22), (⟨"FacingPagesModel", "linesOfAll", "(I)I"⟩, 22), (⟨"FacingPagesModel", "firstOf", "(II)I"⟩, 22), (⟨"FacingPagesModel", "linesOf", "(II)I"⟩, 22), (⟨"FacingPagesModel", "wordsOf", "(II)I"⟩, 22)]
theorem lw_r4 : ∀ q ∈ lw_privs_4, lw_okq q := List.forall_mem_cons.mpr ⟨lw_p48, List.forall_mem_cons.mpr ⟨lw_p49, List.forall_mem_cons.mpr ⟨lw_p50, List.forall_mem_cons.mpr ⟨lw_p51, List.forall_mem_cons.mpr ⟨lw_p52, List.forall_mem_cons.mpr ⟨lw_p53, List.forall_mem_cons.mpr ⟨lw_p54, List.forall_mem_cons.mpr ⟨lw_p55, List.forall_mem_cons.mpr ⟨lw_p56, List.forall_mem_cons.mpr ⟨lw_p57, List.forall_mem_cons.mpr ⟨lw_p58, List.forall_mem_cons.mpr ⟨lw_p59, List.forall_mem_cons.mpr ⟨lw_p60, List.forall_mem_cons.mpr ⟨lw_p61, List.forall_mem_cons.mpr ⟨lw_p62, List.forall_mem_cons.mpr ⟨lw_p63, fun _ h => absurd h List.not_mem_nil⟩⟩⟩⟩⟩⟩⟩⟩⟩⟩⟩⟩⟩⟩⟩⟩
theorem lw_p64 : lw_okq (⟨"FacingPagesModel", "lineOf", "(III)I"⟩, 22) := ⟨⟨by decide +kernel, by decide +kernel⟩, List.mem_of_getElem? (i := 589) (by decide +kernel), List.mem_of_getElem? (i := 732) (by decide +kernel), List.mem_of_getElem? (i := 733) (by decide +kernel)⟩
theorem lw_p65 : lw_okq (⟨"FacingPagesModel", "lengthOf", "(III)I"⟩, 22) := ⟨⟨by decide +kernel, by decide +kernel⟩, List.mem_of_getElem? (i := 589) (by decide +kernel), List.mem_of_getElem? (i := 736) (by decide +kernel), List.mem_of_getElem? (i := 737) (by decide +kernel)⟩
theorem lw_p66 : lw_okq (⟨"FacingPagesModel", "leavesState", "()V"⟩, 22) := ⟨⟨by decide +kernel, by decide +kernel⟩, List.mem_of_getElem? (i := 589) (by decide +kernel), List.mem_of_getElem? (i := 740) (by decide +kernel), List.mem_of_getElem? (i := 741) (by decide +kernel)⟩
theorem lw_p67 : lw_okq (⟨"FacingPagesModel", "isPara", "(II)Z"⟩, 22) := ⟨⟨by decide +kernel, by decide +kernel⟩, List.mem_of_getElem? (i := 589) (by decide +kernel), List.mem_of_getElem? (i := 748) (by decide +kernel), List.mem_of_getElem? (i := 749) (by decide +kernel)⟩
theorem lw_p68 : lw_okq (⟨"FacingPagesModel", "ofTie", "(II)I"⟩, 22) := ⟨⟨by decide +kernel, by decide +kernel⟩, List.mem_of_getElem? (i := 589) (by decide +kernel), List.mem_of_getElem? (i := 752) (by decide +kernel), List.mem_of_getElem? (i := 753) (by decide +kernel)⟩
theorem lw_p69 : lw_okq (⟨"FacingPagesModel", "tieGoes", "(I)V"⟩, 22) := ⟨⟨by decide +kernel, by decide +kernel⟩, List.mem_of_getElem? (i := 589) (by decide +kernel), List.mem_of_getElem? (i := 759) (by decide +kernel), List.mem_of_getElem? (i := 760) (by decide +kernel)⟩
theorem lw_p70 : lw_okq (⟨"FacingPagesModel", "canWidth", "(II)I"⟩, 22) := ⟨⟨by decide +kernel, by decide +kernel⟩, List.mem_of_getElem? (i := 589) (by decide +kernel), List.mem_of_getElem? (i := 767) (by decide +kernel), List.mem_of_getElem? (i := 768) (by decide +kernel)⟩
theorem lw_p71 : lw_okq (⟨"FacingPagesModel", "widthBecomes", "(II)I"⟩, 22) := ⟨⟨by decide +kernel, by decide +kernel⟩, List.mem_of_getElem? (i := 589) (by decide +kernel), List.mem_of_getElem? (i := 771) (by decide +kernel), List.mem_of_getElem? (i := 772) (by decide +kernel)⟩
theorem lw_p72 : lw_okq (⟨"FacingPagesModel", "setBecomes", "(II)I"⟩, 22) := ⟨⟨by decide +kernel, by decide +kernel⟩, List.mem_of_getElem? (i := 589) (by decide +kernel), List.mem_of_getElem? (i := 782) (by decide +kernel), List.mem_of_getElem? (i := 783) (by decide +kernel)⟩
theorem lw_p73 : lw_okq (⟨"FacingPagesModel", "canTie", "(III)I"⟩, 22) := ⟨⟨by decide +kernel, by decide +kernel⟩, List.mem_of_getElem? (i := 589) (by decide +kernel), List.mem_of_getElem? (i := 790) (by decide +kernel), List.mem_of_getElem? (i := 791) (by decide +kernel)⟩
theorem lw_p74 : lw_okq (⟨"FacingPagesModel", "tieComes", "(III)I"⟩, 22) := ⟨⟨by decide +kernel, by decide +kernel⟩, List.mem_of_getElem? (i := 589) (by decide +kernel), List.mem_of_getElem? (i := 794) (by decide +kernel), List.mem_of_getElem? (i := 795) (by decide +kernel)⟩
theorem lw_p75 : lw_okq (⟨"FacingPagesModel", "lays", "()V"⟩, 22) := ⟨⟨by decide +kernel, by decide +kernel⟩, List.mem_of_getElem? (i := 589) (by decide +kernel), List.mem_of_getElem? (i := 806) (by decide +kernel), List.mem_of_getElem? (i := 807) (by decide +kernel)⟩
theorem lw_p76 : lw_okq (⟨"FacingPagesModel", "findsKept", "()V"⟩, 22) := ⟨⟨by decide +kernel, by decide +kernel⟩, List.mem_of_getElem? (i := 589) (by decide +kernel), List.mem_of_getElem? (i := 810) (by decide +kernel), List.mem_of_getElem? (i := 811) (by decide +kernel)⟩
theorem lw_p77 : lw_okq (⟨"FacingPagesModel", "weightOf", "(IZ)I"⟩, 22) := ⟨⟨by decide +kernel, by decide +kernel⟩, List.mem_of_getElem? (i := 589) (by decide +kernel), List.mem_of_getElem? (i := 814) (by decide +kernel), List.mem_of_getElem? (i := 815) (by decide +kernel)⟩
theorem lw_p78 : lw_okq (⟨"FacingPagesModel", "isPlain", "(I)Z"⟩, 22) := ⟨⟨by decide +kernel, by decide +kernel⟩, List.mem_of_getElem? (i := 589) (by decide +kernel), List.mem_of_getElem? (i := 818) (by decide +kernel), List.mem_of_getElem? (i := 819) (by decide +kernel)⟩
theorem lw_p79 : lw_okq (⟨"FacingPagesModel", "areCrossing", "(II)Z"⟩, 22) := ⟨⟨by decide +kernel, by decide +kernel⟩, List.mem_of_getElem? (i := 589) (by decide +kernel), List.mem_of_getElem? (i := 822) (by decide +kernel), List.mem_of_getElem? (i := 823) (by decide +kernel)⟩
def lw_privs_5 : List (MethodName × Nat) := [(⟨"FacingPagesModel", "lineOf", "(III)I"⟩, 22), (⟨"FacingPagesModel", "lengthOf", "(III)I"⟩, 22), (⟨"FacingPagesModel", "leavesState", "()V"⟩, 22), (⟨"FacingPagesModel", "isPara", "(II)Z"⟩, 22), (⟨"FacingPagesModel", "ofTie", "(II)I"⟩, 22), (⟨"FacingPagesModel", "tieGoes", "(I)V"⟩, 22), (⟨"FacingPagesModel", "canWidth", "(II)I"⟩, 22), (⟨"FacingPagesModel", "widthBecomes", "(II)I"⟩, 22), (⟨"FacingPagesModel", "setBecomes", "(II)I"⟩, 22), (⟨"FacingPagesModel", "canTie", "(III)I"⟩, 22), (⟨"FacingPagesModel", "tieComes", "(III)I"⟩, 22), (⟨"FacingPagesModel", "lays", "()V"⟩, 22), (⟨"FacingPagesModel", "findsKept", "()V"⟩, 22), (⟨"FacingPagesModel", "weightOf", "(IZ)I"⟩, 22), (⟨"FacingPagesModel", "isPlain", "(I)Z"⟩, 22), (⟨"FacingPagesModel", "areCrossing", "(II)Z"⟩, 22)]
theorem lw_r5 : ∀ q ∈ lw_privs_5, lw_okq q := List.forall_mem_cons.mpr ⟨lw_p64, List.forall_mem_cons.mpr ⟨lw_p65, List.forall_mem_cons.mpr ⟨lw_p66, List.forall_mem_cons.mpr ⟨lw_p67, List.forall_mem_cons.mpr ⟨lw_p68, List.forall_mem_cons.mpr ⟨lw_p69, List.forall_mem_cons.mpr ⟨lw_p70, List.forall_mem_cons.mpr ⟨lw_p71, List.forall_mem_cons.mpr ⟨lw_p72, List.forall_mem_cons.mpr ⟨lw_p73, List.forall_mem_cons.mpr ⟨lw_p74, List.forall_mem_cons.mpr ⟨lw_p75, List.forall_mem_cons.mpr ⟨lw_p76, List.forall_mem_cons.mpr ⟨lw_p77, List.forall_mem_cons.mpr ⟨lw_p78, List.forall_mem_cons.mpr ⟨lw_p79, fun _ h => absurd h List.not_mem_nil⟩⟩⟩⟩⟩⟩⟩⟩⟩⟩⟩⟩⟩⟩⟩⟩
theorem lw_p80 : lw_okq (⟨"FacingPagesModel", "findsBreaks", "(I)V"⟩, 22) := ⟨⟨by decide +kernel, by decide +kernel⟩, List.mem_of_getElem? (i := 589) (by decide +kernel), List.mem_of_getElem? (i := 826) (by decide +kernel), List.mem_of_getElem? (i := 827) (by decide +kernel)⟩
theorem lw_p81 : lw_okq (⟨"FacingPagesModel", "all", "(I)I"⟩, 22) := ⟨⟨by decide +kernel, by decide +kernel⟩, List.mem_of_getElem? (i := 589) (by decide +kernel), List.mem_of_getElem? (i := 830) (by decide +kernel), List.mem_of_getElem? (i := 831) (by decide +kernel)⟩
theorem lw_p82 : lw_okq (⟨"FacingPagesModel", "finds", "(II)V"⟩, 22) := ⟨⟨by decide +kernel, by decide +kernel⟩, List.mem_of_getElem? (i := 589) (by decide +kernel), List.mem_of_getElem? (i := 834) (by decide +kernel), List.mem_of_getElem? (i := 835) (by decide +kernel)⟩
theorem lw_p83 : lw_okq (⟨"FacingPagesModel", "canTake", "(IIII)Z"⟩, 22) := ⟨⟨by decide +kernel, by decide +kernel⟩, List.mem_of_getElem? (i := 589) (by decide +kernel), List.mem_of_getElem? (i := 839) (by decide +kernel), List.mem_of_getElem? (i := 840) (by decide +kernel)⟩
theorem lw_p84 : lw_okq (⟨"FacingPagesModel", "areTied", "(IIII)Z"⟩, 22) := ⟨⟨by decide +kernel, by decide +kernel⟩, List.mem_of_getElem? (i := 589) (by decide +kernel), List.mem_of_getElem? (i := 843) (by decide +kernel), List.mem_of_getElem? (i := 844) (by decide +kernel)⟩
theorem lw_p85 : lw_okq (⟨"FacingPagesModel", "costWith", "(IIII)I"⟩, 22) := ⟨⟨by decide +kernel, by decide +kernel⟩, List.mem_of_getElem? (i := 589) (by decide +kernel), List.mem_of_getElem? (i := 847) (by decide +kernel), List.mem_of_getElem? (i := 848) (by decide +kernel)⟩
theorem lw_p86 : lw_okq (⟨"FacingPagesModel", "costOf", "(II)I"⟩, 22) := ⟨⟨by decide +kernel, by decide +kernel⟩, List.mem_of_getElem? (i := 589) (by decide +kernel), List.mem_of_getElem? (i := 851) (by decide +kernel), List.mem_of_getElem? (i := 852) (by decide +kernel)⟩
theorem lw_p87 : lw_okq (⟨"FacingPagesModel", "follows", "()V"⟩, 22) := ⟨⟨by decide +kernel, by decide +kernel⟩, List.mem_of_getElem? (i := 589) (by decide +kernel), List.mem_of_getElem? (i := 855) (by decide +kernel), List.mem_of_getElem? (i := 856) (by decide +kernel)⟩
theorem lw_p88 : lw_okq (⟨"FacingPagesModel", "ofPara", "(III)I"⟩, 22) := ⟨⟨by decide +kernel, by decide +kernel⟩, List.mem_of_getElem? (i := 589) (by decide +kernel), List.mem_of_getElem? (i := 859) (by decide +kernel), List.mem_of_getElem? (i := 860) (by decide +kernel)⟩
theorem lw_p89 : lw_okq (⟨"FacingPagesModel", "openingOf", "(II)I"⟩, 22) := ⟨⟨by decide +kernel, by decide +kernel⟩, List.mem_of_getElem? (i := 589) (by decide +kernel), List.mem_of_getElem? (i := 863) (by decide +kernel), List.mem_of_getElem? (i := 864) (by decide +kernel)⟩
theorem lw_p90 : lw_okq (⟨"FacingPagesModel", "tieIs", "(II)I"⟩, 22) := ⟨⟨by decide +kernel, by decide +kernel⟩, List.mem_of_getElem? (i := 589) (by decide +kernel), List.mem_of_getElem? (i := 875) (by decide +kernel), List.mem_of_getElem? (i := 876) (by decide +kernel)⟩
theorem lw_p91 : lw_okq (⟨"FacingPagesModel", "crosses", "(I)I"⟩, 22) := ⟨⟨by decide +kernel, by decide +kernel⟩, List.mem_of_getElem? (i := 589) (by decide +kernel), List.mem_of_getElem? (i := 879) (by decide +kernel), List.mem_of_getElem? (i := 880) (by decide +kernel)⟩
theorem lw_p92 : lw_okq (⟨"FacingPagesModel", "openingIs", "(II)I"⟩, 22) := ⟨⟨by decide +kernel, by decide +kernel⟩, List.mem_of_getElem? (i := 589) (by decide +kernel), List.mem_of_getElem? (i := 895) (by decide +kernel), List.mem_of_getElem? (i := 896) (by decide +kernel)⟩
theorem lw_p93 : lw_okq (⟨"FacingPagesModel", "countOf", "(I)I"⟩, 22) := ⟨⟨by decide +kernel, by decide +kernel⟩, List.mem_of_getElem? (i := 589) (by decide +kernel), List.mem_of_getElem? (i := 903) (by decide +kernel), List.mem_of_getElem? (i := 904) (by decide +kernel)⟩
theorem lw_p94 : lw_okq (⟨"FacingPagesModel", "crossings", "()I"⟩, 22) := ⟨⟨by decide +kernel, by decide +kernel⟩, List.mem_of_getElem? (i := 589) (by decide +kernel), List.mem_of_getElem? (i := 907) (by decide +kernel), List.mem_of_getElem? (i := 908) (by decide +kernel)⟩
theorem lw_p95 : lw_okq (⟨"FacingPagesModel", "reads", "(Z)V"⟩, 22) := ⟨⟨by decide +kernel, by decide +kernel⟩, List.mem_of_getElem? (i := 589) (by decide +kernel), List.mem_of_getElem? (i := 923) (by decide +kernel), List.mem_of_getElem? (i := 924) (by decide +kernel)⟩
def lw_privs_6 : List (MethodName × Nat) := [(⟨"FacingPagesModel", "findsBreaks", "(I)V"⟩, 22), (⟨"FacingPagesModel", "all", "(I)I"⟩, 22), (⟨"FacingPagesModel", "finds", "(II)V"⟩, 22), (⟨"FacingPagesModel", "canTake", "(IIII)Z"⟩, 22), (⟨"FacingPagesModel", "areTied", "(IIII)Z"⟩, 22), (⟨"FacingPagesModel", "costWith", "(IIII)I"⟩, 22), (⟨"FacingPagesModel", "costOf", "(II)I"⟩, 22), (⟨"FacingPagesModel", "follows", "()V"⟩, 22), (⟨"FacingPagesModel", "ofPara", "(III)I"⟩, 22), (⟨"FacingPagesModel", "openingOf", "(II)I"⟩, 22), (⟨"FacingPagesModel", "tieIs", "(II)I"⟩, 22), (⟨"FacingPagesModel", "crosses", "(I)I"⟩, 22), (⟨"FacingPagesModel", "openingIs", "(II)I"⟩, 22), (⟨"FacingPagesModel", "countOf", "(I)I"⟩, 22), (⟨"FacingPagesModel", "crossings", "()I"⟩, 22), (⟨"FacingPagesModel", "reads", "(Z)V"⟩, 22)]
theorem lw_r6 : ∀ q ∈ lw_privs_6, lw_okq q := List.forall_mem_cons.mpr ⟨lw_p80, List.forall_mem_cons.mpr ⟨lw_p81, List.forall_mem_cons.mpr ⟨lw_p82, List.forall_mem_cons.mpr ⟨lw_p83, List.forall_mem_cons.mpr ⟨lw_p84, List.forall_mem_cons.mpr ⟨lw_p85, List.forall_mem_cons.mpr ⟨lw_p86, List.forall_mem_cons.mpr ⟨lw_p87, List.forall_mem_cons.mpr ⟨lw_p88, List.forall_mem_cons.mpr ⟨lw_p89, List.forall_mem_cons.mpr ⟨lw_p90, List.forall_mem_cons.mpr ⟨lw_p91, List.forall_mem_cons.mpr ⟨lw_p92, List.forall_mem_cons.mpr ⟨lw_p93, List.forall_mem_cons.mpr ⟨lw_p94, List.forall_mem_cons.mpr ⟨lw_p95, fun _ h => absurd h List.not_mem_nil⟩⟩⟩⟩⟩⟩⟩⟩⟩⟩⟩⟩⟩⟩⟩⟩
theorem lw_p96 : lw_okq (⟨"FacingPagesModel", "blanks", "()V"⟩, 22) := ⟨⟨by decide +kernel, by decide +kernel⟩, List.mem_of_getElem? (i := 589) (by decide +kernel), List.mem_of_getElem? (i := 927) (by decide +kernel), List.mem_of_getElem? (i := 928) (by decide +kernel)⟩
theorem lw_p97 : lw_okq (⟨"FacingPagesModel", "isAt", "(II)Z"⟩, 22) := ⟨⟨by decide +kernel, by decide +kernel⟩, List.mem_of_getElem? (i := 589) (by decide +kernel), List.mem_of_getElem? (i := 931) (by decide +kernel), List.mem_of_getElem? (i := 932) (by decide +kernel)⟩
theorem lw_p98 : lw_okq (⟨"FacingPagesModel", "numbersOf", "(II)V"⟩, 22) := ⟨⟨by decide +kernel, by decide +kernel⟩, List.mem_of_getElem? (i := 589) (by decide +kernel), List.mem_of_getElem? (i := 935) (by decide +kernel), List.mem_of_getElem? (i := 936) (by decide +kernel)⟩
theorem lw_p99 : lw_okq (⟨"FacingPagesModel", "number", "()I"⟩, 22) := ⟨⟨by decide +kernel, by decide +kernel⟩, List.mem_of_getElem? (i := 589) (by decide +kernel), List.mem_of_getElem? (i := 939) (by decide +kernel), List.mem_of_getElem? (i := 940) (by decide +kernel)⟩
theorem lw_p100 : lw_okq (⟨"FacingPagesModel", "doesOrder", "(I)I"⟩, 22) := ⟨⟨by decide +kernel, by decide +kernel⟩, List.mem_of_getElem? (i := 589) (by decide +kernel), List.mem_of_getElem? (i := 943) (by decide +kernel), List.mem_of_getElem? (i := 944) (by decide +kernel)⟩
theorem lw_p101 : lw_okq (⟨"FacingPagesModel", "toldOf", "(I)I"⟩, 22) := ⟨⟨by decide +kernel, by decide +kernel⟩, List.mem_of_getElem? (i := 589) (by decide +kernel), List.mem_of_getElem? (i := 951) (by decide +kernel), List.mem_of_getElem? (i := 952) (by decide +kernel)⟩
def lw_privs_7 : List (MethodName × Nat) := [(⟨"FacingPagesModel", "blanks", "()V"⟩, 22), (⟨"FacingPagesModel", "isAt", "(II)Z"⟩, 22), (⟨"FacingPagesModel", "numbersOf", "(II)V"⟩, 22), (⟨"FacingPagesModel", "number", "()I"⟩, 22), (⟨"FacingPagesModel", "doesOrder", "(I)I"⟩, 22), (⟨"FacingPagesModel", "toldOf", "(I)I"⟩, 22)]
theorem lw_r7 : ∀ q ∈ lw_privs_7, lw_okq q := List.forall_mem_cons.mpr ⟨lw_p96, List.forall_mem_cons.mpr ⟨lw_p97, List.forall_mem_cons.mpr ⟨lw_p98, List.forall_mem_cons.mpr ⟨lw_p99, List.forall_mem_cons.mpr ⟨lw_p100, List.forall_mem_cons.mpr ⟨lw_p101, fun _ h => absurd h List.not_mem_nil⟩⟩⟩⟩⟩⟩
def lw_privs : List (MethodName × Nat) := lw_privs_1 ++ (lw_privs_2 ++ (lw_privs_3 ++ (lw_privs_4 ++ (lw_privs_5 ++ (lw_privs_6 ++ (lw_privs_7))))))
def lw_tbl : List Cond := k2_sels lw_privs ++ tables_1
theorem lw_privs_ok : ∀ q ∈ lw_privs, lw_okq q := by
  show ∀ q ∈ lw_privs_1 ++ (lw_privs_2 ++ (lw_privs_3 ++ (lw_privs_4 ++ (lw_privs_5 ++ (lw_privs_6 ++ (lw_privs_7)))))), lw_okq q
  exact List.forall_mem_append.mpr ⟨lw_r1, List.forall_mem_append.mpr ⟨lw_r2, List.forall_mem_append.mpr ⟨lw_r3, List.forall_mem_append.mpr ⟨lw_r4, List.forall_mem_append.mpr ⟨lw_r5, List.forall_mem_append.mpr ⟨lw_r6, lw_r7⟩⟩⟩⟩⟩⟩
def RX0 : String := "FacingPages$Book"
def TX0 : u_T := fun k => match k with
  | 0 => ("FacingPages$Book", "paragraphs", "[I", true)
  | 1 => ("FacingPages$Book", "words", "[I", true)
  | 2 => ("FacingPages$Book", "lengths", "[I", true)
  | 3 => ("FacingPages$Book", "width", "[I", true)
  | 4 => ("FacingPages$Book", "settings", "[I", true)
  | 5 => ("FacingPages$Book", "tieP", "[I", true)
  | 6 => ("FacingPages$Book", "tieQ", "[I", true)
  | 7 => ("FacingPages$Book", "tieWeight", "[I", true)
  | _ => ("FacingPages$Book", "tieCount", "I", false)
def tyX0 : Nat → FieldType := fun k => match k with
  | 0 => .array .int
  | 1 => .array .int
  | 2 => .array .int
  | 3 => .array .int
  | 4 => .array .int
  | 5 => .array .int
  | 6 => .array .int
  | 7 => .array .int
  | _ => .int
abbrev wsX00 : List Cond := u_ws RX0 TX0 9
theorem nmX0 : ∀ a, a < 9 → ∀ b, b < 9 → a ≠ b → (TX0 a).2.1 ≠ (TX0 b).2.1 := by decide +kernel
theorem tyX0_ok : ∀ k, k < 9 → parseFieldDescriptor (TX0 k).2.2.1 = some (tyX0 k) := by decide +kernel
abbrev cX0_init : ByteArray := prog_2_method_1_code
def yX0_init : MethodName := ⟨RX0, "<init>", "()V"⟩
abbrev cX0_takeFrom : ByteArray := prog_2_method_2_code
def yX0_takeFrom : MethodName := ⟨RX0, "takeFrom", "(LFacingPages$Book;)V"⟩
abbrev cX0_copyRow : ByteArray := prog_2_method_3_code
def yX0_copyRow : MethodName := ⟨RX0, "copyRow", "([I[I)V"⟩
abbrev cX0_hasParagraph : ByteArray := prog_2_method_4_code
def yX0_hasParagraph : MethodName := ⟨RX0, "hasParagraph", "(II)Z"⟩
abbrev cX0_hasWord : ByteArray := prog_2_method_5_code
def yX0_hasWord : MethodName := ⟨RX0, "hasWord", "(III)Z"⟩
abbrev cX0_hasTie : ByteArray := prog_2_method_6_code
def yX0_hasTie : MethodName := ⟨RX0, "hasTie", "(I)Z"⟩
abbrev cX0_slot : ByteArray := prog_2_method_7_code
def yX0_slot : MethodName := ⟨RX0, "slot", "(II)I"⟩
abbrev cX0_wordsIn : ByteArray := prog_2_method_8_code
def yX0_wordsIn : MethodName := ⟨RX0, "wordsIn", "(II)I"⟩
abbrev cX0_lengthOf : ByteArray := prog_2_method_9_code
def yX0_lengthOf : MethodName := ⟨RX0, "lengthOf", "(III)I"⟩
abbrev cX0_lineOf : ByteArray := prog_2_method_10_code
def yX0_lineOf : MethodName := ⟨RX0, "lineOf", "(II)I"⟩
abbrev cX0_linesIn : ByteArray := prog_2_method_11_code
def yX0_linesIn : MethodName := ⟨RX0, "linesIn", "(I)I"⟩
abbrev cX0_linesOfSide : ByteArray := prog_2_method_12_code
def yX0_linesOfSide : MethodName := ⟨RX0, "linesOfSide", "(I)I"⟩
abbrev cX0_addParagraph : ByteArray := prog_2_method_13_code
def yX0_addParagraph : MethodName := ⟨RX0, "addParagraph", "(I[III)I"⟩
abbrev cX0_dropParagraph : ByteArray := prog_2_method_14_code
def yX0_dropParagraph : MethodName := ⟨RX0, "dropParagraph", "(II)I"⟩
abbrev cX0_dropTiesOf : ByteArray := prog_2_method_15_code
def yX0_dropTiesOf : MethodName := ⟨RX0, "dropTiesOf", "([II)I"⟩
abbrev cX0_changeWidth : ByteArray := prog_2_method_16_code
def yX0_changeWidth : MethodName := ⟨RX0, "changeWidth", "(II)I"⟩
abbrev cX0_changeSetting : ByteArray := prog_2_method_17_code
def yX0_changeSetting : MethodName := ⟨RX0, "changeSetting", "(II)I"⟩
abbrev cX0_addTie : ByteArray := prog_2_method_18_code
def yX0_addTie : MethodName := ⟨RX0, "addTie", "(III)I"⟩
abbrev cX0_dropTie : ByteArray := prog_2_method_19_code
def yX0_dropTie : MethodName := ⟨RX0, "dropTie", "(I)I"⟩
abbrev cX0_cross : ByteArray := prog_2_method_20_code
def yX0_cross : MethodName := ⟨RX0, "cross", "(II)Z"⟩
def RX1 : String := "FacingPages$Choice"
def TX1 : u_T := fun k => match k with
  | 0 => ("FacingPages$Choice", "crossed", "[I", true)
  | 1 => ("FacingPages$Choice", "pairs", "I", false)
  | 2 => ("FacingPages$Choice", "kept", "I", false)
  | _ => ("FacingPages$Choice", "weight", "I", false)
def tyX1 : Nat → FieldType := fun k => match k with
  | 0 => .array .int
  | 1 => .int
  | 2 => .int
  | _ => .int
abbrev wsX10 : List Cond := u_ws RX1 TX1 4
theorem nmX1 : ∀ a, a < 4 → ∀ b, b < 4 → a ≠ b → (TX1 a).2.1 ≠ (TX1 b).2.1 := by decide +kernel
theorem tyX1_ok : ∀ k, k < 4 → parseFieldDescriptor (TX1 k).2.2.1 = some (tyX1 k) := by decide +kernel
abbrev cX1_init : ByteArray := prog_3_method_1_code
def yX1_init : MethodName := ⟨RX1, "<init>", "()V"⟩
abbrev cX1_follow : ByteArray := prog_3_method_2_code
def yX1_follow : MethodName := ⟨RX1, "follow", "(LFacingPages$Book;)V"⟩
abbrev cX1_findCrossed : ByteArray := prog_3_method_3_code
def yX1_findCrossed : MethodName := ⟨RX1, "findCrossed", "(LFacingPages$Book;)V"⟩
abbrev cX1_weightOf : ByteArray := prog_3_method_4_code
def yX1_weightOf : MethodName := ⟨RX1, "weightOf", "(ILFacingPages$Book;)I"⟩
def RX2 : String := "FacingPages$Layout"
def TX2 : u_T := fun k => match k with
  | 0 => ("FacingPages$Layout", "toll", "[I", true)
  | 1 => ("FacingPages$Layout", "rank", "[I", true)
  | 2 => ("FacingPages$Layout", "begun0", "[I", true)
  | 3 => ("FacingPages$Layout", "begun1", "[I", true)
  | 4 => ("FacingPages$Layout", "start0", "[I", true)
  | 5 => ("FacingPages$Layout", "start1", "[I", true)
  | 6 => ("FacingPages$Layout", "high", "I", false)
  | 7 => ("FacingPages$Layout", "total0", "I", false)
  | 8 => ("FacingPages$Layout", "total1", "I", false)
  | 9 => ("FacingPages$Layout", "openings", "I", false)
  | _ => ("FacingPages$Layout", "cost", "I", false)
def tyX2 : Nat → FieldType := fun k => match k with
  | 0 => .array .int
  | 1 => .array .int
  | 2 => .array .int
  | 3 => .array .int
  | 4 => .array .int
  | 5 => .array .int
  | 6 => .int
  | 7 => .int
  | 8 => .int
  | 9 => .int
  | _ => .int
abbrev wsX20 : List Cond := u_ws RX2 TX2 11
theorem nmX2 : ∀ a, a < 11 → ∀ b, b < 11 → a ≠ b → (TX2 a).2.1 ≠ (TX2 b).2.1 := by decide +kernel
theorem tyX2_ok : ∀ k, k < 11 → parseFieldDescriptor (TX2 k).2.2.1 = some (tyX2 k) := by decide +kernel
abbrev cX2_init : ByteArray := prog_4_method_1_code
def yX2_init : MethodName := ⟨RX2, "<init>", "()V"⟩
abbrev cX2_follow : ByteArray := prog_4_method_2_code
def yX2_follow : MethodName := ⟨RX2, "follow", "(LFacingPages$Book;LFacingPages$Lines;LFacingPages$Lines;I)V"⟩
abbrev cX2_setTolls : ByteArray := prog_4_method_3_code
def yX2_setTolls : MethodName := ⟨RX2, "setTolls", "(I)V"⟩
abbrev cX2_markBegun : ByteArray := prog_4_method_4_code
def yX2_markBegun : MethodName := ⟨RX2, "markBegun", "([I[ILFacingPages$Lines;I)V"⟩
abbrev cX2_rankAll : ByteArray := prog_4_method_5_code
def yX2_rankAll : MethodName := ⟨RX2, "rankAll", "([Z[Z)V"⟩
abbrev cX2_leastRank : ByteArray := prog_4_method_6_code
def yX2_leastRank : MethodName := ⟨RX2, "leastRank", "(II[Z)I"⟩
abbrev cX2_rankBy : ByteArray := prog_4_method_7_code
def yX2_rankBy : MethodName := ⟨RX2, "rankBy", "(IIII)I"⟩
abbrev cX2_walk : ByteArray := prog_4_method_8_code
def yX2_walk : MethodName := ⟨RX2, "walk", "()V"⟩
abbrev cX2_takeMost : ByteArray := prog_4_method_9_code
def yX2_takeMost : MethodName := ⟨RX2, "takeMost", "(I)V"⟩
abbrev cX2_taken0 : ByteArray := prog_4_method_10_code
def yX2_taken0 : MethodName := ⟨RX2, "taken0", "(I)I"⟩
abbrev cX2_taken1 : ByteArray := prog_4_method_11_code
def yX2_taken1 : MethodName := ⟨RX2, "taken1", "(I)I"⟩
abbrev cX2_costOf : ByteArray := prog_4_method_12_code
def yX2_costOf : MethodName := ⟨RX2, "costOf", "(I)I"⟩
abbrev cX2_openingWith : ByteArray := prog_4_method_13_code
def yX2_openingWith : MethodName := ⟨RX2, "openingWith", "(II)I"⟩
def RX3 : String := "FacingPages$Lines"
def TX3 : u_T := fun k => match k with
  | 0 => ("FacingPages$Lines", "first", "[I", true)
  | 1 => ("FacingPages$Lines", "allowed", "[Z", true)
  | _ => ("FacingPages$Lines", "total", "I", false)
def tyX3 : Nat → FieldType := fun k => match k with
  | 0 => .array .int
  | 1 => .array .boolean
  | _ => .int
abbrev wsX30 : List Cond := u_ws RX3 TX3 3
theorem nmX3 : ∀ a, a < 3 → ∀ b, b < 3 → a ≠ b → (TX3 a).2.1 ≠ (TX3 b).2.1 := by decide +kernel
theorem tyX3_ok : ∀ k, k < 3 → parseFieldDescriptor (TX3 k).2.2.1 = some (tyX3 k) := by decide +kernel
abbrev cX3_init : ByteArray := prog_5_method_1_code
def yX3_init : MethodName := ⟨RX3, "<init>", "()V"⟩
abbrev cX3_follow : ByteArray := prog_5_method_2_code
def yX3_follow : MethodName := ⟨RX3, "follow", "(LFacingPages$Book;I)V"⟩
abbrev cX3_allowBreaks : ByteArray := prog_5_method_3_code
def yX3_allowBreaks : MethodName := ⟨RX3, "allowBreaks", "(II)V"⟩
def RX4 : String := "FacingPages$Script"
def TX4 : u_T := fun k => match k with
  | 0 => ("FacingPages$Script", "bytes", "[B", true)
  | 1 => ("FacingPages$Script", "size", "I", false)
  | 2 => ("FacingPages$Script", "kinds", "[I", true)
  | 3 => ("FacingPages$Script", "from", "[I", true)
  | 4 => ("FacingPages$Script", "numbers", "[I", true)
  | 5 => ("FacingPages$Script", "orders", "I", false)
  | 6 => ("FacingPages$Script", "numbersRead", "I", false)
  | 7 => ("FacingPages$Script", "kind", "I", false)
  | _ => ("FacingPages$Script", "figures", "I", false)
def tyX4 : Nat → FieldType := fun k => match k with
  | 0 => .array .byte
  | 1 => .int
  | 2 => .array .int
  | 3 => .array .int
  | 4 => .array .int
  | 5 => .int
  | 6 => .int
  | 7 => .int
  | _ => .int
abbrev wsX40 : List Cond := u_ws RX4 TX4 9
theorem nmX4 : ∀ a, a < 9 → ∀ b, b < 9 → a ≠ b → (TX4 a).2.1 ≠ (TX4 b).2.1 := by decide +kernel
theorem tyX4_ok : ∀ k, k < 9 → parseFieldDescriptor (TX4 k).2.2.1 = some (tyX4 k) := by decide +kernel
abbrev cX4_init : ByteArray := prog_6_method_1_code
def yX4_init : MethodName := ⟨RX4, "<init>", "()V"⟩
abbrev cX4_append : ByteArray := prog_6_method_2_code
def yX4_append : MethodName := ⟨RX4, "append", "(I)Z"⟩
abbrev cX4_read : ByteArray := prog_6_method_3_code
def yX4_read : MethodName := ⟨RX4, "read", "()I"⟩
abbrev cX4_accepts : ByteArray := prog_6_method_4_code
def yX4_accepts : MethodName := ⟨RX4, "accepts", "(I)Z"⟩
abbrev cX4_beginOrder : ByteArray := prog_6_method_5_code
def yX4_beginOrder : MethodName := ⟨RX4, "beginOrder", "(I)Z"⟩
abbrev cX4_takeFigure : ByteArray := prog_6_method_6_code
def yX4_takeFigure : MethodName := ⟨RX4, "takeFigure", "(I)Z"⟩
abbrev cX4_endOrder : ByteArray := prog_6_method_7_code
def yX4_endOrder : MethodName := ⟨RX4, "endOrder", "()Z"⟩
abbrev cX4_numbersOfOrder : ByteArray := prog_6_method_8_code
def yX4_numbersOfOrder : MethodName := ⟨RX4, "numbersOfOrder", "()I"⟩
abbrev cX4_mostNumbers : ByteArray := prog_6_method_9_code
def yX4_mostNumbers : MethodName := ⟨RX4, "mostNumbers", "(I)I"⟩
abbrev cX4_leastNumbers : ByteArray := prog_6_method_10_code
def yX4_leastNumbers : MethodName := ⟨RX4, "leastNumbers", "(I)I"⟩
def RX5 : String := "FacingPages$States"
def TX5 : u_T := fun k => match k with
  | 0 => ("FacingPages$States", "kept", "[LFacingPages$Book;", true)
  | _ => ("FacingPages$States", "size", "I", false)
def tyX5 : Nat → FieldType := fun k => match k with
  | 0 => .array (.object "FacingPages$Book")
  | _ => .int
abbrev wsX50 : List Cond := u_ws RX5 TX5 2
theorem nmX5 : ∀ a, a < 2 → ∀ b, b < 2 → a ≠ b → (TX5 a).2.1 ≠ (TX5 b).2.1 := by decide +kernel
theorem tyX5_ok : ∀ k, k < 2 → parseFieldDescriptor (TX5 k).2.2.1 = some (tyX5 k) := by decide +kernel
abbrev cX5_init : ByteArray := prog_7_method_1_code
def yX5_init : MethodName := ⟨RX5, "<init>", "()V"⟩
abbrev cX5_keep : ByteArray := prog_7_method_2_code
def yX5_keep : MethodName := ⟨RX5, "keep", "(LFacingPages$Book;)V"⟩
abbrev cX5_loseOldest : ByteArray := prog_7_method_3_code
def yX5_loseOldest : MethodName := ⟨RX5, "loseOldest", "()V"⟩
abbrev cX5_giveBack : ByteArray := prog_7_method_4_code
def yX5_giveBack : MethodName := ⟨RX5, "giveBack", "(LFacingPages$Book;)Z"⟩
def RX6 : String := "FacingPages"
def TX6 : u_T := fun k => match k with
  | 0 => ("FacingPages", "book", "LFacingPages$Book;", true)
  | 1 => ("FacingPages", "trial", "LFacingPages$Book;", true)
  | 2 => ("FacingPages", "states", "LFacingPages$States;", true)
  | 3 => ("FacingPages", "script", "LFacingPages$Script;", true)
  | 4 => ("FacingPages", "lines", "[LFacingPages$Lines;", true)
  | 5 => ("FacingPages", "choice", "LFacingPages$Choice;", true)
  | 6 => ("FacingPages", "layout", "LFacingPages$Layout;", true)
  | 7 => ("FacingPages", "refused", "[I", true)
  | 8 => ("FacingPages", "seeded", "[I", true)
  | 9 => ("FacingPages", "measured", "Z", false)
  | _ => ("FacingPages", "laidOut", "Z", false)
def tyX6 : Nat → FieldType := fun k => match k with
  | 0 => .object "FacingPages$Book"
  | 1 => .object "FacingPages$Book"
  | 2 => .object "FacingPages$States"
  | 3 => .object "FacingPages$Script"
  | 4 => .array (.object "FacingPages$Lines")
  | 5 => .object "FacingPages$Choice"
  | 6 => .object "FacingPages$Layout"
  | 7 => .array .int
  | 8 => .array .int
  | 9 => .boolean
  | _ => .boolean
abbrev wsX60 : List Cond := u_ws RX6 TX6 11
theorem nmX6 : ∀ a, a < 11 → ∀ b, b < 11 → a ≠ b → (TX6 a).2.1 ≠ (TX6 b).2.1 := by decide +kernel
theorem tyX6_ok : ∀ k, k < 11 → parseFieldDescriptor (TX6 k).2.2.1 = some (tyX6 k) := by decide +kernel
abbrev cX6_init : ByteArray := prog_1_method_1_code
def yX6_init : MethodName := ⟨RX6, "<init>", "()V"⟩
abbrev cX6_para : ByteArray := prog_1_method_2_code
def yX6_para : MethodName := ⟨RX6, "para", "(III)I"⟩
abbrev cX6_drops : ByteArray := prog_1_method_3_code
def yX6_drops : MethodName := ⟨RX6, "drops", "(II)I"⟩
abbrev cX6_widths : ByteArray := prog_1_method_4_code
def yX6_widths : MethodName := ⟨RX6, "widths", "(II)I"⟩
abbrev cX6_sets : ByteArray := prog_1_method_5_code
def yX6_sets : MethodName := ⟨RX6, "sets", "(II)I"⟩
abbrev cX6_ties : ByteArray := prog_1_method_6_code
def yX6_ties : MethodName := ⟨RX6, "ties", "(III)I"⟩
abbrev cX6_unties : ByteArray := prog_1_method_7_code
def yX6_unties : MethodName := ⟨RX6, "unties", "(I)I"⟩
abbrev cX6_of : ByteArray := prog_1_method_8_code
def yX6_of : MethodName := ⟨RX6, "of", "(III)I"⟩
abbrev cX6_word : ByteArray := prog_1_method_9_code
def yX6_word : MethodName := ⟨RX6, "word", "(IIII)I"⟩
abbrev cX6_tie : ByteArray := prog_1_method_10_code
def yX6_tie : MethodName := ⟨RX6, "tie", "(II)I"⟩
abbrev cX6_crossing : ByteArray := prog_1_method_11_code
def yX6_crossing : MethodName := ⟨RX6, "crossing", "(II)I"⟩
abbrev cX6_lawful : ByteArray := prog_1_method_12_code
def yX6_lawful : MethodName := ⟨RX6, "lawful", "(II)I"⟩
abbrev cX6_opening : ByteArray := prog_1_method_13_code
def yX6_opening : MethodName := ⟨RX6, "opening", "(II)I"⟩
abbrev cX6_count : ByteArray := prog_1_method_14_code
def yX6_count : MethodName := ⟨RX6, "count", "(I)I"⟩
abbrev cX6_type : ByteArray := prog_1_method_15_code
def yX6_type : MethodName := ⟨RX6, "type", "(I)I"⟩
abbrev cX6_clear : ByteArray := prog_1_method_16_code
def yX6_clear : MethodName := ⟨RX6, "clear", "()I"⟩
abbrev cX6_does : ByteArray := prog_1_method_17_code
def yX6_does : MethodName := ⟨RX6, "does", "()I"⟩
abbrev cX6_back : ByteArray := prog_1_method_18_code
def yX6_back : MethodName := ⟨RX6, "back", "()I"⟩
abbrev cX6_told : ByteArray := prog_1_method_19_code
def yX6_told : MethodName := ⟨RX6, "told", "(I)I"⟩
abbrev cX6_digest : ByteArray := prog_1_method_20_code
def yX6_digest : MethodName := ⟨RX6, "digest", "()J"⟩
abbrev cX6_within : ByteArray := prog_1_method_21_code
def yX6_within : MethodName := ⟨RX6, "within", "(III)Z"⟩
abbrev cX6_isSide : ByteArray := prog_1_method_22_code
def yX6_isSide : MethodName := ⟨RX6, "isSide", "(I)Z"⟩
abbrev cX6_refuse : ByteArray := prog_1_method_23_code
def yX6_refuse : MethodName := ⟨RX6, "refuse", "(I)I"⟩
abbrev cX6_copyToTry : ByteArray := prog_1_method_24_code
def yX6_copyToTry : MethodName := ⟨RX6, "copyToTry", "()LFacingPages$Book;"⟩
abbrev cX6_settle : ByteArray := prog_1_method_25_code
def yX6_settle : MethodName := ⟨RX6, "settle", "(I)I"⟩
abbrev cX6_forgetPlans : ByteArray := prog_1_method_26_code
def yX6_forgetPlans : MethodName := ⟨RX6, "forgetPlans", "()V"⟩
abbrev cX6_measure : ByteArray := prog_1_method_27_code
def yX6_measure : MethodName := ⟨RX6, "measure", "()V"⟩
abbrev cX6_layOut : ByteArray := prog_1_method_28_code
def yX6_layOut : MethodName := ⟨RX6, "layOut", "()LFacingPages$Layout;"⟩
abbrev cX6_tryOrder : ByteArray := prog_1_method_29_code
def yX6_tryOrder : MethodName := ⟨RX6, "tryOrder", "(I)I"⟩
def RX7 : String := "FacingPagesModel"
def TX7 : u_T := fun k => match k with
  | 0 => ("FacingPagesModel", "refused", "[I", true)
  | 1 => ("FacingPagesModel", "now", "[I", true)
  | 2 => ("FacingPagesModel", "kept", "[I", true)
  | 3 => ("FacingPagesModel", "states", "I", false)
  | 4 => ("FacingPagesModel", "known", "Z", false)
  | 5 => ("FacingPagesModel", "fresh", "[I", true)
  | 6 => ("FacingPagesModel", "keptSet", "I", false)
  | 7 => ("FacingPagesModel", "lawful", "[Z", true)
  | 8 => ("FacingPagesModel", "firsts", "[I", true)
  | 9 => ("FacingPagesModel", "cost", "[I", true)
  | 10 => ("FacingPagesModel", "openings", "[I", true)
  | 11 => ("FacingPagesModel", "laid", "I", false)
  | 12 => ("FacingPagesModel", "laidCost", "I", false)
  | 13 => ("FacingPagesModel", "takes0", "[I", true)
  | 14 => ("FacingPagesModel", "takes1", "[I", true)
  | 15 => ("FacingPagesModel", "text", "[I", true)
  | 16 => ("FacingPagesModel", "length", "I", false)
  | 17 => ("FacingPagesModel", "readAt", "I", false)
  | 18 => ("FacingPagesModel", "isFaulty", "Z", false)
  | 19 => ("FacingPagesModel", "numbers", "I", false)
  | 20 => ("FacingPagesModel", "ordersDone", "I", false)
  | _ => ("FacingPagesModel", "isStopped", "Z", false)
def tyX7 : Nat → FieldType := fun k => match k with
  | 0 => .array .int
  | 1 => .array .int
  | 2 => .array .int
  | 3 => .int
  | 4 => .boolean
  | 5 => .array .int
  | 6 => .int
  | 7 => .array .boolean
  | 8 => .array .int
  | 9 => .array .int
  | 10 => .array .int
  | 11 => .int
  | 12 => .int
  | 13 => .array .int
  | 14 => .array .int
  | 15 => .array .int
  | 16 => .int
  | 17 => .int
  | 18 => .boolean
  | 19 => .int
  | 20 => .int
  | _ => .boolean
abbrev wsX70 : List Cond := u_ws RX7 TX7 22
theorem nmX7 : ∀ a, a < 22 → ∀ b, b < 22 → a ≠ b → (TX7 a).2.1 ≠ (TX7 b).2.1 := by decide +kernel
theorem tyX7_ok : ∀ k, k < 22 → parseFieldDescriptor (TX7 k).2.2.1 = some (tyX7 k) := by decide +kernel
abbrev cX7_init : ByteArray := prog_9_method_1_code
def yX7_init : MethodName := ⟨RX7, "<init>", "()V"⟩
abbrev cX7_bad : ByteArray := prog_9_method_2_code
def yX7_bad : MethodName := ⟨RX7, "bad", "()I"⟩
abbrev cX7_no : ByteArray := prog_9_method_3_code
def yX7_no : MethodName := ⟨RX7, "no", "()I"⟩
abbrev cX7_full : ByteArray := prog_9_method_4_code
def yX7_full : MethodName := ⟨RX7, "full", "()I"⟩
abbrev cX7_counted : ByteArray := prog_9_method_5_code
def yX7_counted : MethodName := ⟨RX7, "counted", "(I)I"⟩
abbrev cX7_in : ByteArray := prog_9_method_6_code
def yX7_in : MethodName := ⟨RX7, "in", "(III)Z"⟩
abbrev cX7_puts : ByteArray := prog_9_method_7_code
def yX7_puts : MethodName := ⟨RX7, "puts", "(I)V"⟩
abbrev cX7_takes : ByteArray := prog_9_method_8_code
def yX7_takes : MethodName := ⟨RX7, "takes", "(I)V"⟩
abbrev cX7_leavesState : ByteArray := prog_9_method_9_code
def yX7_leavesState : MethodName := ⟨RX7, "leavesState", "()V"⟩
abbrev cX7_back : ByteArray := prog_9_method_10_code
def yX7_back : MethodName := ⟨RX7, "back", "()I"⟩
abbrev cX7_at : ByteArray := prog_9_method_11_code
def yX7_at : MethodName := ⟨RX7, "at", "(II)I"⟩
abbrev cX7_many : ByteArray := prog_9_method_12_code
def yX7_many : MethodName := ⟨RX7, "many", "(I)I"⟩
abbrev cX7_wordsOf : ByteArray := prog_9_method_13_code
def yX7_wordsOf : MethodName := ⟨RX7, "wordsOf", "(II)I"⟩
abbrev cX7_lengthOf : ByteArray := prog_9_method_14_code
def yX7_lengthOf : MethodName := ⟨RX7, "lengthOf", "(III)I"⟩
abbrev cX7_lineOf : ByteArray := prog_9_method_15_code
def yX7_lineOf : MethodName := ⟨RX7, "lineOf", "(III)I"⟩
abbrev cX7_linesOf : ByteArray := prog_9_method_16_code
def yX7_linesOf : MethodName := ⟨RX7, "linesOf", "(II)I"⟩
abbrev cX7_firstOf : ByteArray := prog_9_method_17_code
def yX7_firstOf : MethodName := ⟨RX7, "firstOf", "(II)I"⟩
abbrev cX7_linesOfAll : ByteArray := prog_9_method_18_code
def yX7_linesOfAll : MethodName := ⟨RX7, "linesOfAll", "(I)I"⟩
abbrev cX7_isPara : ByteArray := prog_9_method_19_code
def yX7_isPara : MethodName := ⟨RX7, "isPara", "(II)Z"⟩
abbrev cX7_isTooLong : ByteArray := prog_9_method_20_code
def yX7_isTooLong : MethodName := ⟨RX7, "isTooLong", "()Z"⟩
abbrev cX7_canPara : ByteArray := prog_9_method_21_code
def yX7_canPara : MethodName := ⟨RX7, "canPara", "(II)I"⟩
abbrev cX7_paraComes : ByteArray := prog_9_method_22_code
def yX7_paraComes : MethodName := ⟨RX7, "paraComes", "(II)I"⟩
abbrev cX7_canWidth : ByteArray := prog_9_method_23_code
def yX7_canWidth : MethodName := ⟨RX7, "canWidth", "(II)I"⟩
abbrev cX7_widthBecomes : ByteArray := prog_9_method_24_code
def yX7_widthBecomes : MethodName := ⟨RX7, "widthBecomes", "(II)I"⟩
abbrev cX7_canSet : ByteArray := prog_9_method_25_code
def yX7_canSet : MethodName := ⟨RX7, "canSet", "(II)I"⟩
abbrev cX7_setBecomes : ByteArray := prog_9_method_26_code
def yX7_setBecomes : MethodName := ⟨RX7, "setBecomes", "(II)I"⟩
abbrev cX7_tieAt : ByteArray := prog_9_method_27_code
def yX7_tieAt : MethodName := ⟨RX7, "tieAt", "(I)I"⟩
abbrev cX7_ofTie : ByteArray := prog_9_method_28_code
def yX7_ofTie : MethodName := ⟨RX7, "ofTie", "(II)I"⟩
abbrev cX7_canTie : ByteArray := prog_9_method_29_code
def yX7_canTie : MethodName := ⟨RX7, "canTie", "(III)I"⟩
abbrev cX7_tieComes : ByteArray := prog_9_method_30_code
def yX7_tieComes : MethodName := ⟨RX7, "tieComes", "(III)I"⟩
abbrev cX7_tieGoes : ByteArray := prog_9_method_31_code
def yX7_tieGoes : MethodName := ⟨RX7, "tieGoes", "(I)V"⟩
abbrev cX7_para : ByteArray := prog_9_method_32_code
def yX7_para : MethodName := ⟨RX7, "para", "(III)I"⟩
abbrev cX7_drops : ByteArray := prog_9_method_33_code
def yX7_drops : MethodName := ⟨RX7, "drops", "(II)I"⟩
abbrev cX7_widths : ByteArray := prog_9_method_34_code
def yX7_widths : MethodName := ⟨RX7, "widths", "(II)I"⟩
abbrev cX7_sets : ByteArray := prog_9_method_35_code
def yX7_sets : MethodName := ⟨RX7, "sets", "(II)I"⟩
abbrev cX7_ties : ByteArray := prog_9_method_36_code
def yX7_ties : MethodName := ⟨RX7, "ties", "(III)I"⟩
abbrev cX7_unties : ByteArray := prog_9_method_37_code
def yX7_unties : MethodName := ⟨RX7, "unties", "(I)I"⟩
abbrev cX7_areCrossing : ByteArray := prog_9_method_38_code
def yX7_areCrossing : MethodName := ⟨RX7, "areCrossing", "(II)Z"⟩
abbrev cX7_isPlain : ByteArray := prog_9_method_39_code
def yX7_isPlain : MethodName := ⟨RX7, "isPlain", "(I)Z"⟩
abbrev cX7_weightOf : ByteArray := prog_9_method_40_code
def yX7_weightOf : MethodName := ⟨RX7, "weightOf", "(IZ)I"⟩
abbrev cX7_findsKept : ByteArray := prog_9_method_41_code
def yX7_findsKept : MethodName := ⟨RX7, "findsKept", "()V"⟩
abbrev cX7_findsBreaks : ByteArray := prog_9_method_42_code
def yX7_findsBreaks : MethodName := ⟨RX7, "findsBreaks", "(I)V"⟩
abbrev cX7_all : ByteArray := prog_9_method_43_code
def yX7_all : MethodName := ⟨RX7, "all", "(I)I"⟩
abbrev cX7_costOf : ByteArray := prog_9_method_44_code
def yX7_costOf : MethodName := ⟨RX7, "costOf", "(II)I"⟩
abbrev cX7_areTied : ByteArray := prog_9_method_45_code
def yX7_areTied : MethodName := ⟨RX7, "areTied", "(IIII)Z"⟩
abbrev cX7_canTake : ByteArray := prog_9_method_46_code
def yX7_canTake : MethodName := ⟨RX7, "canTake", "(IIII)Z"⟩
abbrev cX7_costWith : ByteArray := prog_9_method_47_code
def yX7_costWith : MethodName := ⟨RX7, "costWith", "(IIII)I"⟩
abbrev cX7_finds : ByteArray := prog_9_method_48_code
def yX7_finds : MethodName := ⟨RX7, "finds", "(II)V"⟩
abbrev cX7_follows : ByteArray := prog_9_method_49_code
def yX7_follows : MethodName := ⟨RX7, "follows", "()V"⟩
abbrev cX7_lays : ByteArray := prog_9_method_50_code
def yX7_lays : MethodName := ⟨RX7, "lays", "()V"⟩
abbrev cX7_openingOf : ByteArray := prog_9_method_51_code
def yX7_openingOf : MethodName := ⟨RX7, "openingOf", "(II)I"⟩
abbrev cX7_ofPara : ByteArray := prog_9_method_52_code
def yX7_ofPara : MethodName := ⟨RX7, "ofPara", "(III)I"⟩
abbrev cX7_of : ByteArray := prog_9_method_53_code
def yX7_of : MethodName := ⟨RX7, "of", "(III)I"⟩
abbrev cX7_word : ByteArray := prog_9_method_54_code
def yX7_word : MethodName := ⟨RX7, "word", "(IIII)I"⟩
abbrev cX7_crosses : ByteArray := prog_9_method_55_code
def yX7_crosses : MethodName := ⟨RX7, "crosses", "(I)I"⟩
abbrev cX7_tieIs : ByteArray := prog_9_method_56_code
def yX7_tieIs : MethodName := ⟨RX7, "tieIs", "(II)I"⟩
abbrev cX7_tie : ByteArray := prog_9_method_57_code
def yX7_tie : MethodName := ⟨RX7, "tie", "(II)I"⟩
abbrev cX7_crossing : ByteArray := prog_9_method_58_code
def yX7_crossing : MethodName := ⟨RX7, "crossing", "(II)I"⟩
abbrev cX7_lawful : ByteArray := prog_9_method_59_code
def yX7_lawful : MethodName := ⟨RX7, "lawful", "(II)I"⟩
abbrev cX7_openingIs : ByteArray := prog_9_method_60_code
def yX7_openingIs : MethodName := ⟨RX7, "openingIs", "(II)I"⟩
abbrev cX7_opening : ByteArray := prog_9_method_61_code
def yX7_opening : MethodName := ⟨RX7, "opening", "(II)I"⟩
abbrev cX7_crossings : ByteArray := prog_9_method_62_code
def yX7_crossings : MethodName := ⟨RX7, "crossings", "()I"⟩
abbrev cX7_countOf : ByteArray := prog_9_method_63_code
def yX7_countOf : MethodName := ⟨RX7, "countOf", "(I)I"⟩
abbrev cX7_count : ByteArray := prog_9_method_64_code
def yX7_count : MethodName := ⟨RX7, "count", "(I)I"⟩
abbrev cX7_type : ByteArray := prog_9_method_65_code
def yX7_type : MethodName := ⟨RX7, "type", "(I)I"⟩
abbrev cX7_clear : ByteArray := prog_9_method_66_code
def yX7_clear : MethodName := ⟨RX7, "clear", "()I"⟩
abbrev cX7_isAt : ByteArray := prog_9_method_67_code
def yX7_isAt : MethodName := ⟨RX7, "isAt", "(II)Z"⟩
abbrev cX7_blanks : ByteArray := prog_9_method_68_code
def yX7_blanks : MethodName := ⟨RX7, "blanks", "()V"⟩
abbrev cX7_number : ByteArray := prog_9_method_69_code
def yX7_number : MethodName := ⟨RX7, "number", "()I"⟩
abbrev cX7_numbersOf : ByteArray := prog_9_method_70_code
def yX7_numbersOf : MethodName := ⟨RX7, "numbersOf", "(II)V"⟩
abbrev cX7_doesOrder : ByteArray := prog_9_method_71_code
def yX7_doesOrder : MethodName := ⟨RX7, "doesOrder", "(I)I"⟩
abbrev cX7_reads : ByteArray := prog_9_method_72_code
def yX7_reads : MethodName := ⟨RX7, "reads", "(Z)V"⟩
abbrev cX7_does : ByteArray := prog_9_method_73_code
def yX7_does : MethodName := ⟨RX7, "does", "()I"⟩
abbrev cX7_toldOf : ByteArray := prog_9_method_74_code
def yX7_toldOf : MethodName := ⟨RX7, "toldOf", "(I)I"⟩
abbrev cX7_told : ByteArray := prog_9_method_75_code
def yX7_told : MethodName := ⟨RX7, "told", "(I)I"⟩
abbrev cX7_digest : ByteArray := prog_9_method_76_code
def yX7_digest : MethodName := ⟨RX7, "digest", "()J"⟩
def RJ6 : String := "java/lang/Integer"
abbrev cJ6_bitCount_0f7a4 : ByteArray := prog_10_method_49_code
def yJ6_bitCount_0f7a4 : MethodName := ⟨RJ6, "bitCount", "(I)I"⟩
def RJ9 : String := "java/lang/Math"
abbrev cJ9_min_7cf53 : ByteArray := prog_11_method_69_code
def yJ9_min_7cf53 : MethodName := ⟨RJ9, "min", "(II)I"⟩
def RJ10 : String := "java/lang/System"
def RL : String := "FacingPagesLaw"
abbrev cL_law : ByteArray := code
def yL_law : MethodName := ⟨RL, "law", "([I)Z"⟩
abbrev vwCl : List vw_C := [(RX0, TX0, 9), (RX1, TX1, 4), (RX2, TX2, 11), (RX3, TX3, 3), (RX4, TX4, 9), (RX5, TX5, 2), (RX6, TX6, 11), (RX7, TX7, 22)]
end
section
/-! the op tables of every method, by program: (pc, length, op, a, b, c, d) -/
abbrev Tab : Type := List (Nat × Nat × Nat × Nat × Nat × Nat × Nat)
def tb_X0_init : Tab := [(0,1,27,0,0,0,0), (1,3,71,0,0,127,3), (4,1,27,0,0,0,0), (5,1,0,2,0,0,0), (6,2,61,1,0,170,0), (8,3,43,0,0,128,9), (11,1,27,0,0,0,0), (12,2,0,16,0,0,0), (14,2,61,1,0,170,0), (16,3,43,1,0,131,15), (19,1,27,0,0,0,0), (20,3,0,192,0,0,0), (23,2,61,1,0,170,0), (25,3,43,2,0,132,18), (28,1,27,0,0,0,0), (29,1,0,2,0,0,0), (30,2,61,1,0,170,0), (32,1,20,0,0,0,0), (33,1,0,0,0,0,0), (34,2,0,20,0,0,0), (36,1,51,0,0,0,0), (37,1,20,0,0,0,0), (38,1,0,1,0,0,0), (39,2,0,20,0,0,0), (41,1,51,0,0,0,0), (42,3,43,3,0,133,21), (45,1,27,0,0,0,0), (46,1,0,3,0,0,0), (47,2,61,1,0,170,0), (49,1,20,0,0,0,0), (50,1,0,0,0,0,0), (51,2,0,8,0,0,0), (53,1,51,0,0,0,0), (54,1,20,0,0,0,0), (55,1,0,1,0,0,0), (56,1,0,2,0,0,0), (57,1,51,0,0,0,0), (58,1,20,0,0,0,0), (59,1,0,2,0,0,0), (60,1,0,1,0,0,0), (61,1,51,0,0,0,0), (62,3,43,4,0,135,24), (65,1,27,0,0,0,0), (66,2,0,10,0,0,0), (68,2,61,1,0,170,0), (70,3,43,5,0,139,27), (73,1,27,0,0,0,0), (74,2,0,10,0,0,0), (76,2,61,1,0,170,0), (78,3,43,6,0,142,30), (81,1,27,0,0,0,0), (82,2,0,10,0,0,0), (84,2,61,1,0,170,0), (86,3,43,7,0,145,33), (89,1,83,0,0,0,0)]
def tb_X0_copyRow : Tab := [(0,1,27,0,0,0,0), (1,1,0,0,0,0,0), (2,1,27,1,0,0,0), (3,1,0,0,0,0,0), (4,1,27,0,0,0,0), (5,1,56,0,0,0,0), (6,1,27,1,0,0,0), (7,1,56,0,0,0,0), (8,3,75,0,0,382,44), (11,3,72,0,0,385,50), (14,1,83,0,0,0,0)]
def tb_X0_takeFrom : Tab := [(0,1,27,1,0,0,0), (1,3,41,0,0,128,9), (4,1,27,0,0,0,0), (5,3,41,0,0,128,9), (8,3,73,1,2,379,36), (11,1,27,1,0,0,0), (12,3,41,1,0,131,15), (15,1,27,0,0,0,0), (16,3,41,1,0,131,15), (19,3,73,1,2,379,36), (22,1,27,1,0,0,0), (23,3,41,2,0,132,18), (26,1,27,0,0,0,0), (27,3,41,2,0,132,18), (30,3,73,1,2,379,36), (33,1,27,1,0,0,0), (34,3,41,3,0,133,21), (37,1,27,0,0,0,0), (38,3,41,3,0,133,21), (41,3,73,1,2,379,36), (44,1,27,1,0,0,0), (45,3,41,4,0,135,24), (48,1,27,0,0,0,0), (49,3,41,4,0,135,24), (52,3,73,1,2,379,36), (55,1,27,1,0,0,0), (56,3,41,5,0,139,27), (59,1,27,0,0,0,0), (60,3,41,5,0,139,27), (63,3,73,1,2,379,36), (66,1,27,1,0,0,0), (67,3,41,6,0,142,30), (70,1,27,0,0,0,0), (71,3,41,6,0,142,30), (74,3,73,1,2,379,36), (77,1,27,1,0,0,0), (78,3,41,7,0,145,33), (81,1,27,0,0,0,0), (82,3,41,7,0,145,33), (85,3,73,1,2,379,36), (88,1,27,0,0,0,0), (89,1,27,1,0,0,0), (90,3,40,8,0,149,40), (93,3,42,8,0,149,40), (96,1,83,0,0,0,0)]
def tb_X6_within : Tab := [(0,1,2,0,0,0,0), (1,1,2,1,0,0,0), (2,3,31,14,2,0,0), (5,1,2,0,0,0,0), (6,1,2,2,0,0,0), (7,3,31,14,4,0,0), (10,1,0,1,0,0,0), (11,3,23,15,0,0,0), (14,1,0,0,0,0,0), (15,1,80,0,0,0,0)]
def tb_X6_isSide : Tab := [(0,1,2,0,0,0,0), (1,1,0,0,0,0,0), (2,1,0,1,0,0,0), (3,3,73,3,3,364,68), (6,1,80,0,0,0,0)]
def tb_X0_hasParagraph : Tab := [(0,1,2,1,0,0,0), (1,3,73,4,1,433,56), (4,3,30,25,0,0,0), (7,1,2,2,0,0,0), (8,3,30,25,2,0,0), (11,1,2,2,0,0,0), (12,1,27,0,0,0,0), (13,3,41,0,0,128,9), (16,1,2,1,0,0,0), (17,1,50,0,0,0,0), (18,3,31,25,3,0,0), (21,1,0,1,0,0,0), (22,3,23,26,0,0,0), (25,1,0,0,0,0,0), (26,1,80,0,0,0,0)]
def tb_X0_slot : Tab := [(0,1,2,0,0,0,0), (1,2,0,8,0,0,0), (3,1,9,0,0,0,0), (4,1,2,1,0,0,0), (5,1,7,0,0,0,0), (6,1,80,0,0,0,0)]
def tb_X0_wordsIn : Tab := [(0,1,27,0,0,0,0), (1,3,41,1,0,131,15), (4,1,2,1,0,0,0), (5,1,2,2,0,0,0), (6,3,73,6,2,393,67), (9,1,50,0,0,0,0), (10,1,80,0,0,0,0)]
def tb_X0_hasWord : Tab := [(0,1,27,0,0,0,0), (1,1,2,1,0,0,0), (2,1,2,2,0,0,0), (3,3,70,5,3,429,60), (6,3,30,27,0,0,0), (9,1,2,3,0,0,0), (10,3,30,27,2,0,0), (13,1,2,3,0,0,0), (14,1,27,0,0,0,0), (15,1,2,1,0,0,0), (16,1,2,2,0,0,0), (17,3,70,7,3,573,64), (20,3,31,27,3,0,0), (23,1,0,1,0,0,0), (24,3,23,28,0,0,0), (27,1,0,0,0,0,0), (28,1,80,0,0,0,0)]
def tb_X0_hasTie : Tab := [(0,1,2,1,0,0,0), (1,3,30,16,2,0,0), (4,1,2,1,0,0,0), (5,1,27,0,0,0,0), (6,3,40,8,0,149,40), (9,3,31,16,3,0,0), (12,1,0,1,0,0,0), (13,3,23,17,0,0,0), (16,1,0,0,0,0,0), (17,1,80,0,0,0,0)]
def tb_X0_lengthOf : Tab := [(0,1,27,0,0,0,0), (1,3,41,2,0,132,18), (4,1,2,1,0,0,0), (5,1,2,2,0,0,0), (6,3,73,6,2,393,67), (9,2,0,12,0,0,0), (11,1,9,0,0,0,0), (12,1,2,3,0,0,0), (13,1,7,0,0,0,0), (14,1,50,0,0,0,0), (15,1,80,0,0,0,0)]
def tb_X0_lineOf : Tab := [(0,1,27,0,0,0,0), (1,3,41,3,0,133,21), (4,1,2,1,0,0,0), (5,2,0,8,0,0,0), (7,1,25,0,0,0,0), (8,1,50,0,0,0,0), (9,1,3,3,0,0,0), (10,1,2,1,0,0,0), (11,2,0,12,0,0,0), (13,1,9,0,0,0,0), (14,2,3,4,0,0,0), (16,1,0,0,0,0,0), (17,2,3,5,0,0,0), (19,1,27,0,0,0,0), (20,3,41,2,0,132,18), (23,2,2,4,0,0,0), (25,1,50,0,0,0,0), (26,2,3,6,0,0,0), (28,1,0,1,0,0,0), (29,2,3,7,0,0,0), (31,2,2,7,0,0,0), (33,1,2,2,0,0,0), (34,3,31,85,4,0,0), (37,1,27,0,0,0,0), (38,3,41,2,0,132,18), (41,2,2,4,0,0,0), (43,2,2,7,0,0,0), (45,1,7,0,0,0,0), (46,1,50,0,0,0,0), (47,2,3,8,0,0,0), (49,2,2,6,0,0,0), (51,1,0,1,0,0,0), (52,1,7,0,0,0,0), (53,2,2,8,0,0,0), (55,1,7,0,0,0,0), (56,1,2,3,0,0,0), (57,3,31,72,4,0,0), (60,2,2,6,0,0,0), (62,1,0,1,0,0,0), (63,2,2,8,0,0,0), (65,1,7,0,0,0,0), (66,1,7,0,0,0,0), (67,2,3,6,0,0,0), (69,3,23,79,0,0,0), (72,3,5,5,1,0,0), (75,2,2,8,0,0,0), (77,2,3,6,0,0,0), (79,3,5,7,1,0,0), (82,3,23,31,0,0,0), (85,2,2,5,0,0,0), (87,1,80,0,0,0,0)]
def tb_X0_linesIn : Tab := [(0,1,27,0,0,0,0), (1,1,2,1,0,0,0), (2,1,27,0,0,0,0), (3,3,41,1,0,131,15), (6,1,2,1,0,0,0), (7,1,50,0,0,0,0), (8,1,0,1,0,0,0), (9,1,8,0,0,0,0), (10,3,70,11,3,404,70), (13,1,0,1,0,0,0), (14,1,7,0,0,0,0), (15,1,80,0,0,0,0)]
def tb_X0_linesOfSide : Tab := [(0,1,0,0,0,0,0), (1,1,3,2,0,0,0), (2,1,0,0,0,0,0), (3,1,3,3,0,0,0), (4,1,2,3,0,0,0), (5,1,27,0,0,0,0), (6,3,41,0,0,128,9), (9,1,2,1,0,0,0), (10,1,50,0,0,0,0), (11,3,31,32,3,0,0), (14,1,2,2,0,0,0), (15,1,27,0,0,0,0), (16,1,2,1,0,0,0), (17,1,2,3,0,0,0), (18,3,73,6,2,393,67), (21,3,70,12,2,400,73), (24,1,7,0,0,0,0), (25,1,3,2,0,0,0), (26,3,5,3,1,0,0), (29,3,23,4,0,0,0), (32,1,2,2,0,0,0), (33,1,80,0,0,0,0)]
def tb_X0_addParagraph : Tab := [(0,1,0,0,0,0,0), (1,2,3,5,0,0,0), (3,2,2,5,0,0,0), (5,2,2,4,0,0,0), (7,3,31,34,3,0,0), (10,1,27,2,0,0,0), (11,1,2,3,0,0,0), (12,2,2,5,0,0,0), (14,1,7,0,0,0,0), (15,1,50,0,0,0,0), (16,1,0,1,0,0,0), (17,2,0,9,0,0,0), (19,3,73,3,3,392,77), (22,3,30,28,1,0,0), (25,2,1,2,0,0,0), (27,1,80,0,0,0,0), (28,3,5,5,1,0,0), (31,3,23,3,0,0,0), (34,1,27,0,0,0,0), (35,3,41,0,0,128,9), (38,1,2,1,0,0,0), (39,1,50,0,0,0,0), (40,2,3,5,0,0,0), (42,2,2,5,0,0,0), (44,2,0,8,0,0,0), (46,3,31,52,2,0,0), (49,2,1,4,0,0,0), (51,1,80,0,0,0,0), (52,1,2,1,0,0,0), (53,2,2,5,0,0,0), (55,3,73,6,2,393,67), (58,2,3,6,0,0,0), (60,1,27,0,0,0,0), (61,3,41,1,0,131,15), (64,2,2,6,0,0,0), (66,2,2,4,0,0,0), (68,1,51,0,0,0,0), (69,1,27,2,0,0,0), (70,1,2,3,0,0,0), (71,1,27,0,0,0,0), (72,3,41,2,0,132,18), (75,2,2,6,0,0,0), (77,2,0,12,0,0,0), (79,1,9,0,0,0,0), (80,2,2,4,0,0,0), (82,3,72,0,0,385,50), (85,1,27,0,0,0,0), (86,1,2,1,0,0,0), (87,3,70,13,2,396,81), (90,1,27,0,0,0,0), (91,2,2,6,0,0,0), (93,3,70,12,2,400,73), (96,1,7,0,0,0,0), (97,2,0,60,0,0,0), (99,3,31,105,5,0,0), (102,2,1,4,0,0,0), (104,1,80,0,0,0,0), (105,1,27,0,0,0,0), (106,3,41,0,0,128,9), (109,1,2,1,0,0,0), (110,1,21,0,0,0,0), (111,1,50,0,0,0,0), (112,1,0,1,0,0,0), (113,1,7,0,0,0,0), (114,1,51,0,0,0,0), (115,2,2,5,0,0,0), (117,1,80,0,0,0,0)]
def tb_X0_dropTie : Tab := [(0,1,27,0,0,0,0), (1,1,2,1,0,0,0), (2,3,70,9,2,442,97), (5,3,30,11,1,0,0), (8,2,1,2,0,0,0), (10,1,80,0,0,0,0), (11,1,27,0,0,0,0), (12,3,40,8,0,149,40), (15,1,2,1,0,0,0), (16,1,8,0,0,0,0), (17,1,0,1,0,0,0), (18,1,8,0,0,0,0), (19,1,3,2,0,0,0), (20,1,27,0,0,0,0), (21,3,41,5,0,139,27), (24,1,2,1,0,0,0), (25,1,0,1,0,0,0), (26,1,7,0,0,0,0), (27,1,27,0,0,0,0), (28,3,41,5,0,139,27), (31,1,2,1,0,0,0), (32,1,2,2,0,0,0), (33,3,72,0,0,385,50), (36,1,27,0,0,0,0), (37,3,41,6,0,142,30), (40,1,2,1,0,0,0), (41,1,0,1,0,0,0), (42,1,7,0,0,0,0), (43,1,27,0,0,0,0), (44,3,41,6,0,142,30), (47,1,2,1,0,0,0), (48,1,2,2,0,0,0), (49,3,72,0,0,385,50), (52,1,27,0,0,0,0), (53,3,41,7,0,145,33), (56,1,2,1,0,0,0), (57,1,0,1,0,0,0), (58,1,7,0,0,0,0), (59,1,27,0,0,0,0), (60,3,41,7,0,145,33), (63,1,2,1,0,0,0), (64,1,2,2,0,0,0), (65,3,72,0,0,385,50), (68,1,27,0,0,0,0), (69,1,20,0,0,0,0), (70,3,40,8,0,149,40), (73,1,0,1,0,0,0), (74,1,8,0,0,0,0), (75,3,42,8,0,149,40), (78,1,27,0,0,0,0), (79,3,40,8,0,149,40), (82,1,80,0,0,0,0)]
def tb_X0_dropTiesOf : Tab := [(0,1,27,0,0,0,0), (1,3,40,8,0,149,40), (4,1,3,3,0,0,0), (5,1,2,3,0,0,0), (6,1,0,1,0,0,0), (7,1,8,0,0,0,0), (8,2,3,4,0,0,0), (10,2,2,4,0,0,0), (12,3,30,55,2,0,0), (15,1,27,1,0,0,0), (16,2,2,4,0,0,0), (18,1,50,0,0,0,0), (19,1,2,2,0,0,0), (20,3,31,33,1,0,0), (23,1,27,0,0,0,0), (24,2,2,4,0,0,0), (26,3,70,15,2,438,88), (29,1,22,0,0,0,0), (30,3,23,49,0,0,0), (33,1,27,1,0,0,0), (34,2,2,4,0,0,0), (36,1,50,0,0,0,0), (37,1,2,2,0,0,0), (38,3,31,49,5,0,0), (41,1,27,1,0,0,0), (42,2,2,4,0,0,0), (44,1,21,0,0,0,0), (45,1,50,0,0,0,0), (46,1,0,1,0,0,0), (47,1,8,0,0,0,0), (48,1,51,0,0,0,0), (49,3,6,4,1,0,0), (52,3,23,10,0,0,0), (55,1,2,3,0,0,0), (56,1,27,0,0,0,0), (57,3,40,8,0,149,40), (60,1,8,0,0,0,0), (61,1,80,0,0,0,0)]
def tb_X0_dropParagraph : Tab := [(0,1,27,0,0,0,0), (1,1,2,1,0,0,0), (2,1,2,2,0,0,0), (3,3,70,5,3,429,60), (6,3,30,12,1,0,0), (9,2,1,2,0,0,0), (11,1,80,0,0,0,0), (12,1,27,0,0,0,0), (13,3,41,0,0,128,9), (16,1,2,1,0,0,0), (17,1,50,0,0,0,0), (18,1,2,2,0,0,0), (19,1,8,0,0,0,0), (20,1,0,1,0,0,0), (21,1,8,0,0,0,0), (22,1,3,3,0,0,0), (23,1,2,1,0,0,0), (24,1,2,2,0,0,0), (25,3,73,6,2,393,67), (28,2,3,4,0,0,0), (30,1,27,0,0,0,0), (31,3,41,1,0,131,15), (34,2,2,4,0,0,0), (36,1,0,1,0,0,0), (37,1,7,0,0,0,0), (38,1,27,0,0,0,0), (39,3,41,1,0,131,15), (42,2,2,4,0,0,0), (44,1,2,3,0,0,0), (45,3,72,0,0,385,50), (48,1,27,0,0,0,0), (49,3,41,2,0,132,18), (52,2,2,4,0,0,0), (54,1,0,1,0,0,0), (55,1,7,0,0,0,0), (56,2,0,12,0,0,0), (58,1,9,0,0,0,0), (59,1,27,0,0,0,0), (60,3,41,2,0,132,18), (63,2,2,4,0,0,0), (65,2,0,12,0,0,0), (67,1,9,0,0,0,0), (68,1,2,3,0,0,0), (69,2,0,12,0,0,0), (71,1,9,0,0,0,0), (72,3,72,0,0,385,50), (75,1,27,0,0,0,0), (76,3,41,0,0,128,9), (79,1,2,1,0,0,0), (80,1,21,0,0,0,0), (81,1,50,0,0,0,0), (82,1,0,1,0,0,0), (83,1,8,0,0,0,0), (84,1,51,0,0,0,0), (85,1,27,0,0,0,0), (86,1,2,1,0,0,0), (87,3,30,97,1,0,0), (90,1,27,0,0,0,0), (91,3,41,5,0,139,27), (94,3,23,101,0,0,0), (97,1,27,0,0,0,0), (98,3,41,6,0,142,30), (101,1,2,2,0,0,0), (102,3,70,16,3,434,84), (105,1,80,0,0,0,0)]
def tb_X0_changeWidth : Tab := [(0,1,2,1,0,0,0), (1,3,73,4,1,433,56), (4,3,30,18,0,0,0), (7,1,2,2,0,0,0), (8,2,0,9,0,0,0), (10,2,0,40,0,0,0), (12,3,73,3,3,392,77), (15,3,30,21,1,0,0), (18,2,1,2,0,0,0), (20,1,80,0,0,0,0), (21,1,27,0,0,0,0), (22,3,41,3,0,133,21), (25,1,2,1,0,0,0), (26,1,50,0,0,0,0), (27,1,3,3,0,0,0), (28,1,27,0,0,0,0), (29,3,41,3,0,133,21), (32,1,2,1,0,0,0), (33,1,2,2,0,0,0), (34,1,51,0,0,0,0), (35,1,27,0,0,0,0), (36,1,2,1,0,0,0), (37,3,70,13,2,396,81), (40,2,0,60,0,0,0), (42,3,31,55,5,0,0), (45,1,27,0,0,0,0), (46,3,41,3,0,133,21), (49,1,2,1,0,0,0), (50,1,2,3,0,0,0), (51,1,51,0,0,0,0), (52,2,1,4,0,0,0), (54,1,80,0,0,0,0), (55,1,2,3,0,0,0), (56,1,80,0,0,0,0)]
def tb_X0_changeSetting : Tab := [(0,1,2,1,0,0,0), (1,1,0,0,0,0,0), (2,1,0,2,0,0,0), (3,3,73,3,3,392,77), (6,3,30,26,0,0,0), (9,1,2,2,0,0,0), (10,3,44,1001,0,462,91), (13,1,2,1,0,0,0), (14,1,50,0,0,0,0), (15,3,44,1002,0,464,94), (18,1,2,1,0,0,0), (19,1,50,0,0,0,0), (20,3,73,3,3,392,77), (23,3,30,29,1,0,0), (26,2,1,2,0,0,0), (28,1,80,0,0,0,0), (29,1,27,0,0,0,0), (30,3,41,4,0,135,24), (33,1,2,1,0,0,0), (34,1,50,0,0,0,0), (35,1,3,3,0,0,0), (36,1,27,0,0,0,0), (37,3,41,4,0,135,24), (40,1,2,1,0,0,0), (41,1,2,2,0,0,0), (42,1,51,0,0,0,0), (43,1,2,3,0,0,0), (44,1,80,0,0,0,0)]
def tb_X0_addTie : Tab := [(0,1,27,0,0,0,0), (1,1,0,0,0,0,0), (2,1,2,1,0,0,0), (3,3,70,5,3,429,60), (6,3,30,28,0,0,0), (9,1,27,0,0,0,0), (10,1,0,1,0,0,0), (11,1,2,2,0,0,0), (12,3,70,5,3,429,60), (15,3,30,28,0,0,0), (18,1,2,3,0,0,0), (19,1,0,1,0,0,0), (20,2,0,9,0,0,0), (22,3,73,3,3,392,77), (25,3,30,31,1,0,0), (28,2,1,2,0,0,0), (30,1,80,0,0,0,0), (31,1,0,0,0,0,0), (32,2,3,4,0,0,0), (34,2,2,4,0,0,0), (36,1,27,0,0,0,0), (37,3,40,8,0,149,40), (40,3,31,74,3,0,0), (43,1,27,0,0,0,0), (44,3,41,5,0,139,27), (47,2,2,4,0,0,0), (49,1,50,0,0,0,0), (50,1,2,1,0,0,0), (51,3,31,68,1,0,0), (54,1,27,0,0,0,0), (55,3,41,6,0,142,30), (58,2,2,4,0,0,0), (60,1,50,0,0,0,0), (61,1,2,2,0,0,0), (62,3,31,68,1,0,0), (65,2,1,3,0,0,0), (67,1,80,0,0,0,0), (68,3,5,4,1,0,0), (71,3,23,34,0,0,0), (74,1,27,0,0,0,0), (75,3,40,8,0,149,40), (78,2,0,10,0,0,0), (80,3,31,86,2,0,0), (83,2,1,4,0,0,0), (85,1,80,0,0,0,0), (86,1,27,0,0,0,0), (87,3,41,5,0,139,27), (90,1,27,0,0,0,0), (91,3,40,8,0,149,40), (94,1,2,1,0,0,0), (95,1,51,0,0,0,0), (96,1,27,0,0,0,0), (97,3,41,6,0,142,30), (100,1,27,0,0,0,0), (101,3,40,8,0,149,40), (104,1,2,2,0,0,0), (105,1,51,0,0,0,0), (106,1,27,0,0,0,0), (107,3,41,7,0,145,33), (110,1,27,0,0,0,0), (111,3,40,8,0,149,40), (114,1,2,3,0,0,0), (115,1,51,0,0,0,0), (116,1,27,0,0,0,0), (117,1,20,0,0,0,0), (118,3,40,8,0,149,40), (121,1,0,1,0,0,0), (122,1,7,0,0,0,0), (123,3,42,8,0,149,40), (126,1,27,0,0,0,0), (127,3,40,8,0,149,40), (130,1,0,1,0,0,0), (131,1,8,0,0,0,0), (132,1,80,0,0,0,0)]
def tb_X0_cross : Tab := [(0,1,27,0,0,0,0), (1,3,41,5,0,139,27), (4,1,2,1,0,0,0), (5,1,50,0,0,0,0), (6,1,27,0,0,0,0), (7,3,41,5,0,139,27), (10,1,2,2,0,0,0), (11,1,50,0,0,0,0), (12,3,31,30,3,0,0), (15,1,27,0,0,0,0), (16,3,41,6,0,142,30), (19,1,2,1,0,0,0), (20,1,50,0,0,0,0), (21,1,27,0,0,0,0), (22,3,41,6,0,142,30), (25,1,2,2,0,0,0), (26,1,50,0,0,0,0), (27,3,31,60,4,0,0), (30,1,27,0,0,0,0), (31,3,41,5,0,139,27), (34,1,2,1,0,0,0), (35,1,50,0,0,0,0), (36,1,27,0,0,0,0), (37,3,41,5,0,139,27), (40,1,2,2,0,0,0), (41,1,50,0,0,0,0), (42,3,31,64,5,0,0), (45,1,27,0,0,0,0), (46,3,41,6,0,142,30), (49,1,2,1,0,0,0), (50,1,50,0,0,0,0), (51,1,27,0,0,0,0), (52,3,41,6,0,142,30), (55,1,2,2,0,0,0), (56,1,50,0,0,0,0), (57,3,31,64,3,0,0), (60,1,0,1,0,0,0), (61,3,23,65,0,0,0), (64,1,0,0,0,0,0), (65,1,80,0,0,0,0)]
def tb_X1_init : Tab := [(0,1,27,0,0,0,0), (1,3,71,0,0,257,3), (4,1,27,0,0,0,0), (5,2,0,10,0,0,0), (7,2,61,1,0,170,0), (9,3,43,0,1,258,9), (12,1,83,0,0,0,0)]
def tb_X1_findCrossed : Tab := [(0,1,0,0,0,0,0), (1,1,3,2,0,0,0), (2,1,0,0,0,0,0), (3,1,3,3,0,0,0), (4,1,2,3,0,0,0), (5,1,27,1,0,0,0), (6,3,40,8,0,148,26), (9,3,31,69,3,0,0), (12,1,27,0,0,0,0), (13,3,41,0,1,258,9), (16,1,2,3,0,0,0), (17,1,0,0,0,0,0), (18,1,51,0,0,0,0), (19,1,0,0,0,0,0), (20,2,3,4,0,0,0), (22,2,2,4,0,0,0), (24,1,27,1,0,0,0), (25,3,40,8,0,148,26), (28,3,31,63,3,0,0), (31,1,27,1,0,0,0), (32,1,2,3,0,0,0), (33,2,2,4,0,0,0), (35,3,70,21,3,506,41), (38,3,30,57,0,0,0), (41,1,27,0,0,0,0), (42,3,41,0,1,258,9), (45,1,2,3,0,0,0), (46,1,21,0,0,0,0), (47,1,50,0,0,0,0), (48,1,0,1,0,0,0), (49,2,2,4,0,0,0), (51,1,12,0,0,0,0), (52,1,11,0,0,0,0), (53,1,51,0,0,0,0), (54,3,5,2,1,0,0), (57,3,5,4,1,0,0), (60,3,23,22,0,0,0), (63,3,5,3,1,0,0), (66,3,23,4,0,0,0), (69,1,27,0,0,0,0), (70,1,2,2,0,0,0), (71,1,0,2,0,0,0), (72,1,25,0,0,0,0), (73,3,42,1,1,260,45), (76,1,83,0,0,0,0)]
def tb_X1_weightOf : Tab := [(0,1,0,0,0,0,0), (1,1,3,3,0,0,0), (2,1,0,0,0,0,0), (3,2,3,4,0,0,0), (5,2,2,4,0,0,0), (7,1,27,2,0,0,0), (8,3,40,8,0,148,26), (11,3,31,54,3,0,0), (14,1,2,1,0,0,0), (15,2,2,4,0,0,0), (17,1,13,0,0,0,0), (18,1,0,1,0,0,0), (19,1,10,0,0,0,0), (20,1,0,1,0,0,0), (21,3,31,48,1,0,0), (24,1,27,0,0,0,0), (25,3,41,0,1,258,9), (28,2,2,4,0,0,0), (30,1,50,0,0,0,0), (31,1,2,1,0,0,0), (32,1,10,0,0,0,0), (33,3,30,38,0,0,0), (36,1,1,1,0,0,0), (37,1,80,0,0,0,0), (38,1,2,3,0,0,0), (39,1,27,2,0,0,0), (40,3,41,7,0,146,48), (43,2,2,4,0,0,0), (45,1,50,0,0,0,0), (46,1,7,0,0,0,0), (47,1,3,3,0,0,0), (48,3,5,4,1,0,0), (51,3,23,5,0,0,0), (54,1,2,3,0,0,0), (55,1,80,0,0,0,0)]
def tb_J6_bitCount_0f7a4 : Tab := [(0,1,2,0,0,0,0), (1,1,2,0,0,0,0), (2,1,0,1,0,0,0), (3,1,14,0,0,0,0), (4,3,0,1431655765,0,517,265), (7,1,10,0,0,0,0), (8,1,8,0,0,0,0), (9,1,3,0,0,0,0), (10,1,2,0,0,0,0), (11,3,0,858993459,0,518,266), (14,1,10,0,0,0,0), (15,1,2,0,0,0,0), (16,1,0,2,0,0,0), (17,1,14,0,0,0,0), (18,3,0,858993459,0,518,266), (21,1,10,0,0,0,0), (22,1,7,0,0,0,0), (23,1,3,0,0,0,0), (24,1,2,0,0,0,0), (25,1,2,0,0,0,0), (26,1,0,4,0,0,0), (27,1,14,0,0,0,0), (28,1,7,0,0,0,0), (29,3,0,252645135,0,519,267), (32,1,10,0,0,0,0), (33,1,3,0,0,0,0), (34,1,2,0,0,0,0), (35,1,2,0,0,0,0), (36,2,0,8,0,0,0), (38,1,14,0,0,0,0), (39,1,7,0,0,0,0), (40,1,3,0,0,0,0), (41,1,2,0,0,0,0), (42,1,2,0,0,0,0), (43,2,0,16,0,0,0), (45,1,14,0,0,0,0), (46,1,7,0,0,0,0), (47,1,3,0,0,0,0), (48,1,2,0,0,0,0), (49,2,0,63,0,0,0), (51,1,10,0,0,0,0), (52,1,80,0,0,0,0)]
def tb_X1_follow : Tab := [(0,1,27,0,0,0,0), (1,1,27,1,0,0,0), (2,3,70,23,2,502,15), (5,1,27,0,0,0,0), (6,1,0,0,0,0,0), (7,3,42,2,1,262,19), (10,1,27,0,0,0,0), (11,1,0,0,0,0,0), (12,3,42,3,1,264,23), (15,1,0,1,0,0,0), (16,1,3,2,0,0,0), (17,1,2,2,0,0,0), (18,1,0,1,0,0,0), (19,1,27,1,0,0,0), (20,3,40,8,0,148,26), (23,1,12,0,0,0,0), (24,3,31,92,3,0,0), (27,1,27,0,0,0,0), (28,1,2,2,0,0,0), (29,1,27,1,0,0,0), (30,3,70,24,3,510,31), (33,1,3,3,0,0,0), (34,1,2,2,0,0,0), (35,3,73,25,1,514,35), (38,1,27,0,0,0,0), (39,3,40,2,1,262,19), (42,3,73,25,1,514,35), (45,3,31,52,5,0,0), (48,1,0,1,0,0,0), (49,3,23,53,0,0,0), (52,1,0,0,0,0,0), (53,2,3,4,0,0,0), (55,1,2,3,0,0,0), (56,1,27,0,0,0,0), (57,3,40,3,1,264,23), (60,3,31,76,4,0,0), (63,1,2,3,0,0,0), (64,1,27,0,0,0,0), (65,3,40,3,1,264,23), (68,3,31,86,1,0,0), (71,2,2,4,0,0,0), (73,3,30,86,0,0,0), (76,1,27,0,0,0,0), (77,1,2,2,0,0,0), (78,3,42,2,1,262,19), (81,1,27,0,0,0,0), (82,1,2,3,0,0,0), (83,3,42,3,1,264,23), (86,3,5,2,1,0,0), (89,3,23,17,0,0,0), (92,1,83,0,0,0,0)]
def tb_X2_init : Tab := [(0,1,27,0,0,0,0), (1,3,71,0,0,280,5), (4,1,27,0,0,0,0), (5,3,0,169,0,0,0), (8,2,61,1,0,170,0), (10,3,43,0,2,281,11), (13,1,27,0,0,0,0), (14,3,0,3721,0,0,0), (17,2,61,1,0,170,0), (19,3,43,1,2,282,15), (22,1,27,0,0,0,0), (23,2,0,61,0,0,0), (25,2,61,1,0,170,0), (27,3,43,2,2,283,18), (30,1,27,0,0,0,0), (31,2,0,61,0,0,0), (33,2,61,1,0,170,0), (35,3,43,3,2,284,21), (38,1,27,0,0,0,0), (39,2,0,121,0,0,0), (41,2,61,1,0,170,0), (43,3,43,4,2,285,24), (46,1,27,0,0,0,0), (47,2,0,121,0,0,0), (49,2,61,1,0,170,0), (51,3,43,5,2,287,27), (54,1,83,0,0,0,0)]
def tb_X2_setTolls : Tab := [(0,1,0,0,0,0,0), (1,1,3,2,0,0,0), (2,1,2,2,0,0,0), (3,1,27,0,0,0,0), (4,3,40,6,2,289,41), (7,3,31,85,4,0,0), (10,1,0,0,0,0,0), (11,1,3,3,0,0,0), (12,1,2,3,0,0,0), (13,1,27,0,0,0,0), (14,3,40,6,2,289,41), (17,3,31,79,4,0,0), (20,1,27,0,0,0,0), (21,3,40,6,2,289,41), (24,1,2,2,0,0,0), (25,1,8,0,0,0,0), (26,2,3,4,0,0,0), (28,1,27,0,0,0,0), (29,3,40,6,2,289,41), (32,1,2,3,0,0,0), (33,1,8,0,0,0,0), (34,2,3,5,0,0,0), (36,2,2,4,0,0,0), (38,2,2,5,0,0,0), (40,1,8,0,0,0,0), (41,2,3,6,0,0,0), (43,1,27,0,0,0,0), (44,3,41,0,2,281,11), (47,1,2,2,0,0,0), (48,2,0,13,0,0,0), (50,1,9,0,0,0,0), (51,1,2,3,0,0,0), (52,1,7,0,0,0,0), (53,2,2,4,0,0,0), (55,2,2,4,0,0,0), (57,1,9,0,0,0,0), (58,2,2,5,0,0,0), (60,2,2,5,0,0,0), (62,1,9,0,0,0,0), (63,1,7,0,0,0,0), (64,1,2,1,0,0,0), (65,2,2,6,0,0,0), (67,1,9,0,0,0,0), (68,2,2,6,0,0,0), (70,1,9,0,0,0,0), (71,1,7,0,0,0,0), (72,1,51,0,0,0,0), (73,3,5,3,1,0,0), (76,3,23,12,0,0,0), (79,3,5,2,1,0,0), (82,3,23,2,0,0,0), (85,1,83,0,0,0,0)]
def tb_X2_markBegun : Tab := [(0,1,0,0,0,0,0), (1,2,3,4,0,0,0), (3,2,2,4,0,0,0), (5,1,27,2,0,0,0), (6,3,40,2,3,242,45), (9,3,31,74,4,0,0), (12,1,27,0,0,0,0), (13,2,2,4,0,0,0), (15,1,0,0,0,0,0), (16,1,51,0,0,0,0), (17,1,0,0,0,0,0), (18,2,3,5,0,0,0), (20,2,2,5,0,0,0), (22,2,0,10,0,0,0), (24,3,31,68,3,0,0), (27,1,2,3,0,0,0), (28,2,2,5,0,0,0), (30,1,13,0,0,0,0), (31,1,0,1,0,0,0), (32,1,10,0,0,0,0), (33,1,0,1,0,0,0), (34,3,31,62,1,0,0), (37,1,27,2,0,0,0), (38,3,41,0,3,236,81), (41,1,27,1,0,0,0), (42,2,2,5,0,0,0), (44,1,50,0,0,0,0), (45,1,50,0,0,0,0), (46,2,2,4,0,0,0), (48,3,31,62,3,0,0), (51,1,27,0,0,0,0), (52,2,2,4,0,0,0), (54,1,21,0,0,0,0), (55,1,50,0,0,0,0), (56,1,0,1,0,0,0), (57,2,2,5,0,0,0), (59,1,12,0,0,0,0), (60,1,11,0,0,0,0), (61,1,51,0,0,0,0), (62,3,5,5,1,0,0), (65,3,23,20,0,0,0), (68,3,5,4,1,0,0), (71,3,23,3,0,0,0), (74,1,83,0,0,0,0)]
def tb_X2_rankBy : Tab := [(0,1,27,0,0,0,0), (1,3,41,1,2,282,15), (4,1,2,1,0,0,0), (5,1,2,3,0,0,0), (6,1,7,0,0,0,0), (7,2,0,61,0,0,0), (9,1,9,0,0,0,0), (10,1,2,2,0,0,0), (11,1,7,0,0,0,0), (12,2,2,4,0,0,0), (14,1,7,0,0,0,0), (15,1,50,0,0,0,0), (16,2,3,5,0,0,0), (18,2,2,5,0,0,0), (20,2,0,1073741824,0,548,88), (22,3,31,28,1,0,0), (25,2,0,1073741824,0,548,88), (27,1,80,0,0,0,0), (28,1,2,1,0,0,0), (29,1,2,3,0,0,0), (30,1,7,0,0,0,0), (31,1,27,0,0,0,0), (32,3,40,7,2,290,50), (35,3,31,53,1,0,0), (38,1,2,2,0,0,0), (39,2,2,4,0,0,0), (41,1,7,0,0,0,0), (42,1,27,0,0,0,0), (43,3,40,8,2,291,53), (46,3,31,53,1,0,0), (49,1,0,1,0,0,0), (50,3,23,54,0,0,0), (53,1,0,0,0,0,0), (54,2,3,6,0,0,0), (56,2,2,5,0,0,0), (58,1,0,1,0,0,0), (59,1,7,0,0,0,0), (60,2,2,6,0,0,0), (62,3,30,69,0,0,0), (65,1,0,0,0,0,0), (66,3,23,85,0,0,0), (69,1,27,0,0,0,0), (70,3,41,0,2,281,11), (73,1,2,3,0,0,0), (74,2,0,13,0,0,0), (76,1,9,0,0,0,0), (77,2,2,4,0,0,0), (79,1,7,0,0,0,0), (80,1,50,0,0,0,0), (81,3,0,128,0,0,0), (84,1,9,0,0,0,0), (85,1,7,0,0,0,0), (86,1,80,0,0,0,0)]
def tb_X2_leastRank : Tab := [(0,1,2,1,0,0,0), (1,1,27,0,0,0,0), (2,3,40,7,2,290,50), (5,3,31,18,1,0,0), (8,1,2,2,0,0,0), (9,1,27,0,0,0,0), (10,3,40,8,2,291,53), (13,3,31,18,1,0,0), (16,1,0,0,0,0,0), (17,1,80,0,0,0,0), (18,2,0,1073741824,0,548,88), (20,2,3,4,0,0,0), (22,1,27,0,0,0,0), (23,3,40,6,2,289,41), (26,1,27,0,0,0,0), (27,3,40,7,2,290,50), (30,1,2,1,0,0,0), (31,1,8,0,0,0,0), (32,3,75,0,0,532,35), (35,2,3,5,0,0,0), (37,2,2,5,0,0,0), (39,3,30,137,2,0,0), (42,1,27,3,0,0,0), (43,1,2,1,0,0,0), (44,2,2,5,0,0,0), (46,1,7,0,0,0,0), (47,1,52,0,0,0,0), (48,3,30,54,1,0,0), (51,3,23,131,0,0,0), (54,1,2,1,0,0,0), (55,2,2,5,0,0,0), (57,1,7,0,0,0,0), (58,2,0,61,0,0,0), (60,1,9,0,0,0,0), (61,1,2,2,0,0,0), (62,1,7,0,0,0,0), (63,2,3,6,0,0,0), (65,1,27,0,0,0,0), (66,3,40,6,2,289,41), (69,1,27,0,0,0,0), (70,3,40,8,2,291,53), (73,1,2,2,0,0,0), (74,1,8,0,0,0,0), (75,3,75,0,0,532,35), (78,2,3,7,0,0,0), (80,2,2,5,0,0,0), (82,2,2,7,0,0,0), (84,1,7,0,0,0,0), (85,3,30,131,5,0,0), (88,2,2,7,0,0,0), (90,3,30,131,2,0,0), (93,1,27,0,0,0,0), (94,3,41,1,2,282,15), (97,2,2,6,0,0,0), (99,2,2,7,0,0,0), (101,1,7,0,0,0,0), (102,1,50,0,0,0,0), (103,2,2,4,0,0,0), (105,3,31,125,3,0,0), (108,2,2,4,0,0,0), (110,1,27,0,0,0,0), (111,1,2,1,0,0,0), (112,1,2,2,0,0,0), (113,2,2,5,0,0,0), (115,2,2,7,0,0,0), (117,3,70,30,5,549,89), (120,3,75,0,0,532,35), (123,2,3,4,0,0,0), (125,3,6,7,1,0,0), (128,3,23,80,0,0,0), (131,3,6,5,1,0,0), (134,3,23,37,0,0,0), (137,2,2,4,0,0,0), (139,1,80,0,0,0,0)]
def tb_X2_rankAll : Tab := [(0,1,27,0,0,0,0), (1,3,40,7,2,290,50), (4,1,3,3,0,0,0), (5,1,2,3,0,0,0), (6,3,30,98,2,0,0), (9,1,27,0,0,0,0), (10,3,40,8,2,291,53), (13,2,3,4,0,0,0), (15,2,2,4,0,0,0), (17,3,30,92,2,0,0), (20,1,27,1,0,0,0), (21,1,2,3,0,0,0), (22,1,52,0,0,0,0), (23,3,30,53,0,0,0), (26,1,27,2,0,0,0), (27,2,2,4,0,0,0), (29,1,52,0,0,0,0), (30,3,30,53,0,0,0), (33,1,27,0,0,0,0), (34,3,41,2,2,283,18), (37,1,2,3,0,0,0), (38,1,50,0,0,0,0), (39,1,27,0,0,0,0), (40,3,41,3,2,284,21), (43,2,2,4,0,0,0), (45,1,50,0,0,0,0), (46,3,31,53,1,0,0), (49,1,0,1,0,0,0), (50,3,23,54,0,0,0), (53,1,0,0,0,0,0), (54,2,3,5,0,0,0), (56,1,27,0,0,0,0), (57,3,41,1,2,282,15), (60,1,2,3,0,0,0), (61,2,0,61,0,0,0), (63,1,9,0,0,0,0), (64,2,2,4,0,0,0), (66,1,7,0,0,0,0), (67,2,2,5,0,0,0), (69,3,30,83,0,0,0), (72,1,27,0,0,0,0), (73,1,2,3,0,0,0), (74,2,2,4,0,0,0), (76,1,27,1,0,0,0), (77,3,70,31,4,544,84), (80,3,23,85,0,0,0), (83,2,0,1073741824,0,548,88), (85,1,51,0,0,0,0), (86,3,6,4,1,0,0), (89,3,23,15,0,0,0), (92,3,6,3,1,0,0), (95,3,23,5,0,0,0), (98,1,83,0,0,0,0)]
def tb_X2_takeMost : Tab := [(0,1,27,0,0,0,0), (1,3,41,4,2,285,24), (4,1,2,1,0,0,0), (5,1,50,0,0,0,0), (6,1,3,2,0,0,0), (7,1,27,0,0,0,0), (8,3,41,5,2,287,27), (11,1,2,1,0,0,0), (12,1,50,0,0,0,0), (13,1,3,3,0,0,0), (14,1,27,0,0,0,0), (15,3,41,1,2,282,15), (18,1,2,2,0,0,0), (19,2,0,61,0,0,0), (21,1,9,0,0,0,0), (22,1,2,3,0,0,0), (23,1,7,0,0,0,0), (24,1,50,0,0,0,0), (25,2,3,4,0,0,0), (27,1,27,0,0,0,0), (28,3,40,6,2,289,41), (31,1,27,0,0,0,0), (32,3,40,7,2,290,50), (35,1,2,2,0,0,0), (36,1,8,0,0,0,0), (37,3,75,0,0,532,35), (40,2,3,5,0,0,0), (42,2,2,5,0,0,0), (44,3,30,127,2,0,0), (47,1,27,0,0,0,0), (48,3,40,6,2,289,41), (51,1,27,0,0,0,0), (52,3,40,8,2,291,53), (55,1,2,3,0,0,0), (56,1,8,0,0,0,0), (57,3,75,0,0,532,35), (60,2,3,6,0,0,0), (62,2,2,5,0,0,0), (64,2,2,6,0,0,0), (66,1,7,0,0,0,0), (67,3,30,121,5,0,0), (70,2,2,6,0,0,0), (72,3,30,121,2,0,0), (75,1,27,0,0,0,0), (76,1,2,2,0,0,0), (77,1,2,3,0,0,0), (78,2,2,5,0,0,0), (80,2,2,6,0,0,0), (82,3,70,30,5,549,89), (85,2,2,4,0,0,0), (87,3,31,115,1,0,0), (90,1,27,0,0,0,0), (91,3,41,4,2,285,24), (94,1,2,1,0,0,0), (95,1,0,1,0,0,0), (96,1,7,0,0,0,0), (97,1,2,2,0,0,0), (98,2,2,5,0,0,0), (100,1,7,0,0,0,0), (101,1,51,0,0,0,0), (102,1,27,0,0,0,0), (103,3,41,5,2,287,27), (106,1,2,1,0,0,0), (107,1,0,1,0,0,0), (108,1,7,0,0,0,0), (109,1,2,3,0,0,0), (110,2,2,6,0,0,0), (112,1,7,0,0,0,0), (113,1,51,0,0,0,0), (114,1,83,0,0,0,0), (115,3,6,6,1,0,0), (118,3,23,62,0,0,0), (121,3,6,5,1,0,0), (124,3,23,42,0,0,0), (127,1,83,0,0,0,0)]
def tb_X2_walk : Tab := [(0,1,27,0,0,0,0), (1,3,41,4,2,285,24), (4,1,0,0,0,0,0), (5,1,0,0,0,0,0), (6,1,51,0,0,0,0), (7,1,27,0,0,0,0), (8,3,41,5,2,287,27), (11,1,0,0,0,0,0), (12,1,0,0,0,0,0), (13,1,51,0,0,0,0), (14,1,27,0,0,0,0), (15,1,1,1,0,0,0), (16,3,42,9,2,292,93), (19,1,27,0,0,0,0), (20,1,1,1,0,0,0), (21,3,42,10,2,294,96), (24,1,27,0,0,0,0), (25,3,41,1,2,282,15), (28,1,0,0,0,0,0), (29,1,50,0,0,0,0), (30,2,0,1073741824,0,548,88), (32,3,31,36,1,0,0), (35,1,83,0,0,0,0), (36,1,27,0,0,0,0), (37,1,27,0,0,0,0), (38,3,41,1,2,282,15), (41,1,0,0,0,0,0), (42,1,50,0,0,0,0), (43,3,0,128,0,0,0), (46,1,26,0,0,0,0), (47,3,42,9,2,292,93), (50,1,27,0,0,0,0), (51,1,27,0,0,0,0), (52,3,41,1,2,282,15), (55,1,0,0,0,0,0), (56,1,50,0,0,0,0), (57,3,0,128,0,0,0), (60,1,25,0,0,0,0), (61,3,42,10,2,294,96), (64,1,0,0,0,0,0), (65,1,3,1,0,0,0), (66,1,2,1,0,0,0), (67,1,27,0,0,0,0), (68,3,40,9,2,292,93), (71,3,31,91,3,0,0), (74,1,2,1,0,0,0), (75,2,0,120,0,0,0), (77,3,31,91,3,0,0), (80,1,27,0,0,0,0), (81,1,2,1,0,0,0), (82,3,70,33,2,557,99), (85,3,5,1,1,0,0), (88,3,23,66,0,0,0), (91,1,83,0,0,0,0)]
def tb_X2_follow : Tab := [(0,1,27,0,0,0,0), (1,1,27,1,0,0,0), (2,3,41,4,0,136,30), (5,1,0,0,0,0,0), (6,1,50,0,0,0,0), (7,2,0,12,0,0,0), (9,3,75,0,0,532,35), (12,3,42,6,2,289,41), (15,1,27,0,0,0,0), (16,1,27,2,0,0,0), (17,3,40,2,3,242,45), (20,3,42,7,2,290,50), (23,1,27,0,0,0,0), (24,1,27,3,0,0,0), (25,3,40,2,3,242,45), (28,3,42,8,2,291,53), (31,1,27,0,0,0,0), (32,1,27,1,0,0,0), (33,3,41,4,0,136,30), (36,1,0,2,0,0,0), (37,1,50,0,0,0,0), (38,3,70,28,2,533,56), (41,1,27,0,0,0,0), (42,3,41,2,2,283,18), (45,1,27,1,0,0,0), (46,3,41,5,0,140,60), (49,1,27,2,0,0,0), (50,2,2,4,0,0,0), (52,3,73,29,4,537,63), (55,1,27,0,0,0,0), (56,3,41,3,2,284,21), (59,1,27,1,0,0,0), (60,3,41,6,0,143,67), (63,1,27,3,0,0,0), (64,2,2,4,0,0,0), (66,3,73,29,4,537,63), (69,1,27,0,0,0,0), (70,1,27,2,0,0,0), (71,3,41,1,3,239,70), (74,1,27,3,0,0,0), (75,3,41,1,3,239,70), (78,3,70,32,3,540,74), (81,1,27,0,0,0,0), (82,3,70,34,1,553,78), (85,1,83,0,0,0,0)]
def tb_X2_taken0 : Tab := [(0,1,27,0,0,0,0), (1,3,41,4,2,285,24), (4,1,2,1,0,0,0), (5,1,0,1,0,0,0), (6,1,7,0,0,0,0), (7,1,50,0,0,0,0), (8,1,27,0,0,0,0), (9,3,41,4,2,285,24), (12,1,2,1,0,0,0), (13,1,50,0,0,0,0), (14,1,8,0,0,0,0), (15,1,80,0,0,0,0)]
def tb_X2_taken1 : Tab := [(0,1,27,0,0,0,0), (1,3,41,5,2,287,27), (4,1,2,1,0,0,0), (5,1,0,1,0,0,0), (6,1,7,0,0,0,0), (7,1,50,0,0,0,0), (8,1,27,0,0,0,0), (9,3,41,5,2,287,27), (12,1,2,1,0,0,0), (13,1,50,0,0,0,0), (14,1,8,0,0,0,0), (15,1,80,0,0,0,0)]
def tb_X2_costOf : Tab := [(0,1,2,1,0,0,0), (1,1,27,0,0,0,0), (2,3,40,9,2,292,93), (5,1,0,1,0,0,0), (6,1,8,0,0,0,0), (7,3,31,14,1,0,0), (10,1,0,0,0,0,0), (11,3,23,33,0,0,0), (14,1,27,0,0,0,0), (15,3,41,0,2,281,11), (18,1,27,0,0,0,0), (19,1,2,1,0,0,0), (20,3,70,36,2,610,102), (23,2,0,13,0,0,0), (25,1,9,0,0,0,0), (26,1,27,0,0,0,0), (27,1,2,1,0,0,0), (28,3,70,37,2,611,106), (31,1,7,0,0,0,0), (32,1,50,0,0,0,0), (33,1,80,0,0,0,0)]
def tb_X2_openingWith : Tab := [(0,1,2,1,0,0,0), (1,3,30,11,1,0,0), (4,1,27,0,0,0,0), (5,3,41,4,2,285,24), (8,3,23,15,0,0,0), (11,1,27,0,0,0,0), (12,3,41,5,2,287,27), (15,1,29,3,0,0,0), (16,1,0,0,0,0,0), (17,2,3,4,0,0,0), (19,2,2,4,0,0,0), (21,1,27,0,0,0,0), (22,3,40,9,2,292,93), (25,3,31,47,3,0,0), (28,1,2,2,0,0,0), (29,1,27,3,0,0,0), (30,2,2,4,0,0,0), (32,1,0,1,0,0,0), (33,1,7,0,0,0,0), (34,1,50,0,0,0,0), (35,3,31,41,3,0,0), (38,2,2,4,0,0,0), (40,1,80,0,0,0,0), (41,3,5,4,1,0,0), (44,3,23,19,0,0,0), (47,1,1,1,0,0,0), (48,1,80,0,0,0,0)]
def tb_X3_init : Tab := [(0,1,27,0,0,0,0), (1,3,71,0,0,234,3), (4,1,27,0,0,0,0), (5,2,0,9,0,0,0), (7,2,61,1,0,170,0), (9,3,43,0,3,235,9), (12,1,27,0,0,0,0), (13,2,0,61,0,0,0), (15,2,61,2,0,251,0), (17,3,43,1,3,238,15), (20,1,83,0,0,0,0)]
def tb_X3_allowBreaks : Tab := [(0,1,0,0,0,0,0), (1,1,3,3,0,0,0), (2,1,2,3,0,0,0), (3,1,2,1,0,0,0), (4,3,31,45,3,0,0), (7,1,27,0,0,0,0), (8,3,41,1,3,238,15), (11,1,27,0,0,0,0), (12,3,40,2,3,241,19), (15,1,2,3,0,0,0), (16,1,7,0,0,0,0), (17,1,2,3,0,0,0), (18,3,30,33,0,0,0), (21,1,2,3,0,0,0), (22,1,2,2,0,0,0), (23,3,31,37,2,0,0), (26,1,2,1,0,0,0), (27,1,2,3,0,0,0), (28,1,8,0,0,0,0), (29,1,2,2,0,0,0), (30,3,31,37,2,0,0), (33,1,0,1,0,0,0), (34,3,23,38,0,0,0), (37,1,0,0,0,0,0), (38,1,53,0,0,0,0), (39,3,5,3,1,0,0), (42,3,23,2,0,0,0), (45,1,83,0,0,0,0)]
def tb_X3_follow : Tab := [(0,1,27,0,0,0,0), (1,1,0,0,0,0,0), (2,3,42,2,3,241,19), (5,1,27,0,0,0,0), (6,3,41,0,3,235,9), (9,1,0,0,0,0,0), (10,1,0,0,0,0,0), (11,1,51,0,0,0,0), (12,1,0,0,0,0,0), (13,1,3,3,0,0,0), (14,1,2,3,0,0,0), (15,1,27,1,0,0,0), (16,3,41,0,0,129,23), (19,1,2,2,0,0,0), (20,1,50,0,0,0,0), (21,3,31,76,3,0,0), (24,1,27,1,0,0,0), (25,1,2,2,0,0,0), (26,1,2,3,0,0,0), (27,3,73,6,2,492,28), (30,3,70,12,2,493,32), (33,2,3,4,0,0,0), (35,1,27,0,0,0,0), (36,2,2,4,0,0,0), (38,1,27,1,0,0,0), (39,3,41,4,0,137,36), (42,1,0,1,0,0,0), (43,1,50,0,0,0,0), (44,3,70,41,3,494,39), (47,1,27,0,0,0,0), (48,1,20,0,0,0,0), (49,3,40,2,3,241,19), (52,2,2,4,0,0,0), (54,1,7,0,0,0,0), (55,3,42,2,3,241,19), (58,1,27,0,0,0,0), (59,3,41,0,3,235,9), (62,1,2,3,0,0,0), (63,1,0,1,0,0,0), (64,1,7,0,0,0,0), (65,1,27,0,0,0,0), (66,3,40,2,3,241,19), (69,1,51,0,0,0,0), (70,3,5,3,1,0,0), (73,3,23,14,0,0,0), (76,1,27,0,0,0,0), (77,3,41,1,3,238,15), (80,1,27,0,0,0,0), (81,3,40,2,3,241,19), (84,1,0,1,0,0,0), (85,1,53,0,0,0,0), (86,1,83,0,0,0,0)]
def tb_X4_init : Tab := [(0,1,27,0,0,0,0), (1,3,71,0,0,193,3), (4,1,27,0,0,0,0), (5,2,0,120,0,0,0), (7,2,61,3,0,227,0), (9,3,43,0,4,194,9), (12,1,27,0,0,0,0), (13,2,0,120,0,0,0), (15,2,61,1,0,170,0), (17,3,43,2,4,197,15), (20,1,27,0,0,0,0), (21,2,0,121,0,0,0), (23,2,61,1,0,170,0), (25,3,43,3,4,199,19), (28,1,27,0,0,0,0), (29,2,0,120,0,0,0), (31,2,61,1,0,170,0), (33,3,43,4,4,201,22), (36,1,83,0,0,0,0)]
def tb_X4_append : Tab := [(0,1,27,0,0,0,0), (1,3,40,1,4,195,25), (4,2,0,120,0,0,0), (6,3,31,11,2,0,0), (9,1,0,0,0,0,0), (10,1,80,0,0,0,0), (11,1,27,0,0,0,0), (12,3,41,0,4,194,9), (15,1,27,0,0,0,0), (16,3,40,1,4,195,25), (19,1,2,1,0,0,0), (20,1,16,0,0,0,0), (21,1,53,0,0,0,0), (22,1,27,0,0,0,0), (23,1,20,0,0,0,0), (24,3,40,1,4,195,25), (27,1,0,1,0,0,0), (28,1,7,0,0,0,0), (29,3,42,1,4,195,25), (32,1,0,1,0,0,0), (33,1,80,0,0,0,0)]
def tb_X4_mostNumbers : Tab := [(0,1,2,0,0,0,0), (1,107,32,0,0,0,0), (108,2,0,12,0,0,0), (110,1,80,0,0,0,0), (111,1,0,3,0,0,0), (112,1,80,0,0,0,0), (113,1,0,2,0,0,0), (114,1,80,0,0,0,0), (115,1,0,1,0,0,0), (116,1,80,0,0,0,0), (117,1,0,0,0,0,0), (118,1,80,0,0,0,0)]
def tb_X4_beginOrder : Tab := [(0,1,27,0,0,0,0), (1,3,40,7,4,206,35), (4,3,30,14,1,0,0), (7,1,2,1,0,0,0), (8,3,73,45,1,651,59), (11,3,30,16,1,0,0), (14,1,0,0,0,0,0), (15,1,80,0,0,0,0), (16,1,27,0,0,0,0), (17,1,2,1,0,0,0), (18,3,42,7,4,206,35), (21,1,27,0,0,0,0), (22,1,0,0,0,0,0), (23,3,42,8,4,207,38), (26,1,0,1,0,0,0), (27,1,80,0,0,0,0)]
def tb_X4_numbersOfOrder : Tab := [(0,1,27,0,0,0,0), (1,3,40,6,4,205,32), (4,1,27,0,0,0,0), (5,3,41,3,4,199,19), (8,1,27,0,0,0,0), (9,3,40,5,4,203,29), (12,1,50,0,0,0,0), (13,1,8,0,0,0,0), (14,1,80,0,0,0,0)]
def tb_X4_takeFigure : Tab := [(0,1,27,0,0,0,0), (1,3,40,7,4,206,35), (4,3,30,15,0,0,0), (7,1,27,0,0,0,0), (8,3,40,8,4,207,38), (11,1,0,2,0,0,0), (12,3,31,17,2,0,0), (15,1,0,0,0,0,0), (16,1,80,0,0,0,0), (17,1,27,0,0,0,0), (18,3,40,8,4,207,38), (21,1,0,1,0,0,0), (22,3,31,59,1,0,0), (25,1,27,0,0,0,0), (26,3,41,4,4,201,22), (29,1,27,0,0,0,0), (30,3,40,6,4,205,32), (33,1,0,1,0,0,0), (34,1,8,0,0,0,0), (35,1,27,0,0,0,0), (36,3,41,4,4,201,22), (39,1,27,0,0,0,0), (40,3,40,6,4,205,32), (43,1,0,1,0,0,0), (44,1,8,0,0,0,0), (45,1,50,0,0,0,0), (46,2,0,10,0,0,0), (48,1,9,0,0,0,0), (49,1,2,1,0,0,0), (50,1,7,0,0,0,0), (51,1,51,0,0,0,0), (52,1,27,0,0,0,0), (53,1,0,2,0,0,0), (54,3,42,8,4,207,38), (57,1,0,1,0,0,0), (58,1,80,0,0,0,0), (59,1,27,0,0,0,0), (60,3,70,47,1,644,63), (63,1,27,0,0,0,0), (64,3,40,7,4,206,35), (67,3,73,45,1,651,59), (70,3,31,75,2,0,0), (73,1,0,0,0,0,0), (74,1,80,0,0,0,0), (75,1,27,0,0,0,0), (76,3,41,4,4,201,22), (79,1,27,0,0,0,0), (80,3,40,6,4,205,32), (83,1,2,1,0,0,0), (84,1,51,0,0,0,0), (85,1,27,0,0,0,0), (86,1,20,0,0,0,0), (87,3,40,6,4,205,32), (90,1,0,1,0,0,0), (91,1,7,0,0,0,0), (92,3,42,6,4,205,32), (95,1,27,0,0,0,0), (96,1,0,1,0,0,0), (97,3,42,8,4,207,38), (100,1,0,1,0,0,0), (101,1,80,0,0,0,0)]
def tb_X4_leastNumbers : Tab := [(0,1,2,0,0,0,0), (1,2,0,97,0,0,0), (3,3,31,12,0,0,0), (6,1,2,0,0,0,0), (7,2,0,98,0,0,0), (9,3,31,16,1,0,0), (12,1,0,1,0,0,0), (13,3,23,20,0,0,0), (16,1,2,0,0,0,0), (17,3,73,45,1,651,59), (20,1,80,0,0,0,0)]
def tb_X4_endOrder : Tab := [(0,1,27,0,0,0,0), (1,3,40,7,4,206,35), (4,3,30,21,0,0,0), (7,1,27,0,0,0,0), (8,3,70,47,1,644,63), (11,1,27,0,0,0,0), (12,3,40,7,4,206,35), (15,3,73,49,1,648,67), (18,3,31,23,3,0,0), (21,1,0,0,0,0,0), (22,1,80,0,0,0,0), (23,1,27,0,0,0,0), (24,3,41,2,4,197,15), (27,1,27,0,0,0,0), (28,3,40,5,4,203,29), (31,1,27,0,0,0,0), (32,3,40,7,4,206,35), (35,1,51,0,0,0,0), (36,1,27,0,0,0,0), (37,1,20,0,0,0,0), (38,3,40,5,4,203,29), (41,1,0,1,0,0,0), (42,1,7,0,0,0,0), (43,3,42,5,4,203,29), (46,1,27,0,0,0,0), (47,3,41,3,4,199,19), (50,1,27,0,0,0,0), (51,3,40,5,4,203,29), (54,1,27,0,0,0,0), (55,3,40,6,4,205,32), (58,1,51,0,0,0,0), (59,1,27,0,0,0,0), (60,1,0,0,0,0,0), (61,3,42,7,4,206,35), (64,1,0,1,0,0,0), (65,1,80,0,0,0,0)]
def tb_X4_accepts : Tab := [(0,1,2,1,0,0,0), (1,2,0,32,0,0,0), (3,3,31,13,1,0,0), (6,1,27,0,0,0,0), (7,1,0,0,0,0,0), (8,3,42,8,4,207,38), (11,1,0,1,0,0,0), (12,1,80,0,0,0,0), (13,1,2,1,0,0,0), (14,2,0,59,0,0,0), (16,3,31,24,1,0,0), (19,1,27,0,0,0,0), (20,3,70,50,1,640,45), (23,1,80,0,0,0,0), (24,1,2,1,0,0,0), (25,2,0,48,0,0,0), (27,2,0,57,0,0,0), (29,3,73,3,3,654,49), (32,3,30,44,0,0,0), (35,1,27,0,0,0,0), (36,1,2,1,0,0,0), (37,2,0,48,0,0,0), (39,1,8,0,0,0,0), (40,3,70,48,2,655,53), (43,1,80,0,0,0,0), (44,1,27,0,0,0,0), (45,1,2,1,0,0,0), (46,3,70,46,2,659,56), (49,1,80,0,0,0,0)]
def tb_X4_read : Tab := [(0,1,27,0,0,0,0), (1,1,0,0,0,0,0), (2,3,42,5,4,203,29), (5,1,27,0,0,0,0), (6,1,0,0,0,0,0), (7,3,42,6,4,205,32), (10,1,27,0,0,0,0), (11,1,0,0,0,0,0), (12,3,42,7,4,206,35), (15,1,27,0,0,0,0), (16,1,0,0,0,0,0), (17,3,42,8,4,207,38), (20,1,27,0,0,0,0), (21,3,41,3,4,199,19), (24,1,0,0,0,0,0), (25,1,0,0,0,0,0), (26,1,51,0,0,0,0), (27,1,0,0,0,0,0), (28,1,3,1,0,0,0), (29,1,2,1,0,0,0), (30,1,27,0,0,0,0), (31,3,40,1,4,195,25), (34,3,31,58,3,0,0), (37,1,27,0,0,0,0), (38,1,27,0,0,0,0), (39,3,41,0,4,194,9), (42,1,2,1,0,0,0), (43,1,52,0,0,0,0), (44,3,70,51,2,636,41), (47,3,30,52,1,0,0), (50,1,2,1,0,0,0), (51,1,80,0,0,0,0), (52,3,5,1,1,0,0), (55,3,23,29,0,0,0), (58,1,27,0,0,0,0), (59,3,40,7,4,206,35), (62,3,30,72,1,0,0), (65,1,27,0,0,0,0), (66,3,40,5,4,203,29), (69,3,30,79,1,0,0), (72,1,27,0,0,0,0), (73,3,40,1,4,195,25), (76,3,23,80,0,0,0), (79,1,1,1,0,0,0), (80,1,80,0,0,0,0)]
def tb_X5_init : Tab := [(0,1,27,0,0,0,0), (1,3,71,0,0,176,3), (4,1,27,0,0,0,0), (5,2,0,6,0,0,0), (7,3,62,4,0,177,9), (10,3,43,0,5,180,11), (13,1,0,0,0,0,0), (14,1,3,1,0,0,0), (15,1,2,1,0,0,0), (16,2,0,6,0,0,0), (18,3,31,40,3,0,0), (21,1,27,0,0,0,0), (22,3,41,0,5,180,11), (25,1,2,1,0,0,0), (26,3,60,0,123,177,9), (29,1,20,0,0,0,0), (30,3,74,0,1,179,17), (33,1,55,0,0,0,0), (34,3,5,1,1,0,0), (37,3,23,15,0,0,0), (40,1,83,0,0,0,0)]
def tb_X5_loseOldest : Tab := [(0,1,27,0,0,0,0), (1,3,41,0,5,180,11), (4,1,0,0,0,0,0), (5,1,54,0,0,0,0), (6,1,29,1,0,0,0), (7,1,0,1,0,0,0), (8,1,3,2,0,0,0), (9,1,2,2,0,0,0), (10,2,0,6,0,0,0), (12,3,31,35,3,0,0), (15,1,27,0,0,0,0), (16,3,41,0,5,180,11), (19,1,2,2,0,0,0), (20,1,0,1,0,0,0), (21,1,8,0,0,0,0), (22,1,27,0,0,0,0), (23,3,41,0,5,180,11), (26,1,2,2,0,0,0), (27,1,54,0,0,0,0), (28,1,55,0,0,0,0), (29,3,5,2,1,0,0), (32,3,23,9,0,0,0), (35,1,27,0,0,0,0), (36,3,41,0,5,180,11), (39,1,0,5,0,0,0), (40,1,27,1,0,0,0), (41,1,55,0,0,0,0), (42,1,27,0,0,0,0), (43,1,0,5,0,0,0), (44,3,42,1,5,181,18), (47,1,83,0,0,0,0)]
def tb_X5_keep : Tab := [(0,1,27,0,0,0,0), (1,3,40,1,5,181,18), (4,2,0,6,0,0,0), (6,3,31,13,2,0,0), (9,1,27,0,0,0,0), (10,3,70,54,1,416,22), (13,1,27,0,0,0,0), (14,3,41,0,5,180,11), (17,1,27,0,0,0,0), (18,3,40,1,5,181,18), (21,1,54,0,0,0,0), (22,1,27,1,0,0,0), (23,3,70,2,2,420,25), (26,1,27,0,0,0,0), (27,1,20,0,0,0,0), (28,3,40,1,5,181,18), (31,1,0,1,0,0,0), (32,1,7,0,0,0,0), (33,3,42,1,5,181,18), (36,1,83,0,0,0,0)]
def tb_X5_giveBack : Tab := [(0,1,27,0,0,0,0), (1,3,40,1,5,181,18), (4,3,30,9,4,0,0), (7,1,0,0,0,0,0), (8,1,80,0,0,0,0), (9,1,27,0,0,0,0), (10,1,20,0,0,0,0), (11,3,40,1,5,181,18), (14,1,0,1,0,0,0), (15,1,8,0,0,0,0), (16,3,42,1,5,181,18), (19,1,27,1,0,0,0), (20,1,27,0,0,0,0), (21,3,41,0,5,180,11), (24,1,27,0,0,0,0), (25,3,40,1,5,181,18), (28,1,54,0,0,0,0), (29,3,70,2,2,420,25), (32,1,0,1,0,0,0), (33,1,80,0,0,0,0)]
def tb_X6_forgetPlans : Tab := [(0,1,27,0,0,0,0), (1,1,0,0,0,0,0), (2,3,42,9,6,332,253), (5,1,27,0,0,0,0), (6,1,0,0,0,0,0), (7,3,42,10,6,333,257), (10,1,83,0,0,0,0)]
def tb_X6_init : Tab := [(0,1,27,0,0,0,0), (1,3,71,0,0,119,1), (4,1,27,0,0,0,0), (5,3,60,0,123,122,7), (8,1,20,0,0,0,0), (9,3,74,0,1,124,9), (12,3,43,0,6,323,10), (15,1,27,0,0,0,0), (16,3,60,0,123,122,7), (19,1,20,0,0,0,0), (20,3,74,0,1,124,9), (23,3,43,1,6,324,16), (26,1,27,0,0,0,0), (27,3,60,5,172,171,19), (30,1,20,0,0,0,0), (31,3,74,53,1,173,21), (34,3,43,2,6,325,22), (37,1,27,0,0,0,0), (38,3,60,4,189,188,26), (41,1,20,0,0,0,0), (42,3,74,43,1,190,28), (45,3,43,3,6,326,29), (48,1,27,0,0,0,0), (49,1,0,2,0,0,0), (50,3,62,5,0,228,33), (53,1,20,0,0,0,0), (54,1,0,0,0,0,0), (55,3,60,3,230,228,33), (58,1,20,0,0,0,0), (59,3,74,40,1,231,35), (62,1,55,0,0,0,0), (63,1,20,0,0,0,0), (64,1,0,1,0,0,0), (65,3,60,3,230,228,33), (68,1,20,0,0,0,0), (69,3,74,40,1,231,35), (72,1,55,0,0,0,0), (73,3,43,4,6,327,36), (76,1,27,0,0,0,0), (77,3,60,1,253,252,40), (80,1,20,0,0,0,0), (81,3,74,22,1,254,42), (84,3,43,5,6,328,43), (87,1,27,0,0,0,0), (88,3,60,2,276,275,47), (91,1,20,0,0,0,0), (92,3,74,27,1,277,49), (95,3,43,6,6,329,50), (98,1,27,0,0,0,0), (99,1,0,3,0,0,0), (100,2,61,1,0,170,0), (102,3,43,7,6,330,54), (105,1,27,0,0,0,0), (106,2,0,12,0,0,0), (108,2,61,1,0,170,0), (110,3,43,8,6,331,58), (113,1,27,0,0,0,0), (114,3,70,57,1,319,61), (117,1,83,0,0,0,0)]
def tb_X6_refuse : Tab := [(0,2,1,2,0,0,0), (2,1,2,1,0,0,0), (3,1,8,0,0,0,0), (4,1,3,2,0,0,0), (5,1,2,2,0,0,0), (6,1,0,0,0,0,0), (7,1,0,2,0,0,0), (8,3,73,3,3,364,68), (11,3,30,24,0,0,0), (14,1,27,0,0,0,0), (15,3,41,7,6,330,54), (18,1,2,2,0,0,0), (19,1,21,0,0,0,0), (20,1,50,0,0,0,0), (21,1,0,1,0,0,0), (22,1,7,0,0,0,0), (23,1,51,0,0,0,0), (24,1,2,1,0,0,0), (25,1,80,0,0,0,0)]
def tb_X6_copyToTry : Tab := [(0,1,27,0,0,0,0), (1,3,41,1,6,324,16), (4,1,27,0,0,0,0), (5,3,41,0,6,323,10), (8,3,70,2,2,375,246), (11,1,27,0,0,0,0), (12,3,41,1,6,324,16), (15,1,82,0,0,0,0)]
def tb_X6_settle : Tab := [(0,1,2,1,0,0,0), (1,3,30,10,3,0,0), (4,1,27,0,0,0,0), (5,1,2,1,0,0,0), (6,3,70,59,2,367,72), (9,1,80,0,0,0,0), (10,1,27,0,0,0,0), (11,3,41,2,6,325,22), (14,1,27,0,0,0,0), (15,3,41,0,6,323,10), (18,3,70,55,2,412,250), (21,1,27,0,0,0,0), (22,3,41,0,6,323,10), (25,1,27,0,0,0,0), (26,3,41,1,6,324,16), (29,3,70,2,2,375,246), (32,1,27,0,0,0,0), (33,3,70,57,1,319,61), (36,1,2,1,0,0,0), (37,1,80,0,0,0,0)]
def tb_X6_para : Tab := [(0,1,2,1,0,0,0), (1,3,73,4,1,361,64), (4,3,30,27,0,0,0), (7,1,2,2,0,0,0), (8,1,0,1,0,0,0), (9,2,0,12,0,0,0), (11,3,73,3,3,364,68), (14,3,30,27,0,0,0), (17,1,2,3,0,0,0), (18,1,0,0,0,0,0), (19,2,0,99,0,0,0), (21,3,73,3,3,364,68), (24,3,30,34,1,0,0), (27,1,27,0,0,0,0), (28,2,1,2,0,0,0), (30,3,70,59,2,367,72), (33,1,80,0,0,0,0), (34,1,0,0,0,0,0), (35,2,3,4,0,0,0), (37,2,2,4,0,0,0), (39,1,2,2,0,0,0), (40,3,31,78,3,0,0), (43,1,27,0,0,0,0), (44,3,41,8,6,331,58), (47,2,2,4,0,0,0), (49,1,2,3,0,0,0), (50,2,0,7,0,0,0), (52,1,9,0,0,0,0), (53,2,2,4,0,0,0), (55,2,2,4,0,0,0), (57,1,9,0,0,0,0), (58,1,0,3,0,0,0), (59,1,9,0,0,0,0), (60,1,7,0,0,0,0), (61,2,2,4,0,0,0), (63,1,0,5,0,0,0), (64,1,9,0,0,0,0), (65,1,7,0,0,0,0), (66,2,0,9,0,0,0), (68,1,26,0,0,0,0), (69,1,0,1,0,0,0), (70,1,7,0,0,0,0), (71,1,51,0,0,0,0), (72,3,5,4,1,0,0), (75,3,23,37,0,0,0), (78,1,27,0,0,0,0), (79,1,27,0,0,0,0), (80,3,70,60,1,371,76), (83,1,2,1,0,0,0), (84,1,27,0,0,0,0), (85,3,41,8,6,331,58), (88,1,0,0,0,0,0), (89,1,2,2,0,0,0), (90,3,70,14,5,388,80), (93,3,70,61,2,408,84), (96,1,80,0,0,0,0)]
def tb_X6_drops : Tab := [(0,1,27,0,0,0,0), (1,1,27,0,0,0,0), (2,3,70,60,1,371,76), (5,1,2,1,0,0,0), (6,1,2,2,0,0,0), (7,3,70,17,3,425,87), (10,3,70,61,2,408,84), (13,1,80,0,0,0,0)]
def tb_X6_widths : Tab := [(0,1,27,0,0,0,0), (1,1,27,0,0,0,0), (2,3,70,60,1,371,76), (5,1,2,1,0,0,0), (6,1,2,2,0,0,0), (7,3,70,18,3,450,91), (10,3,70,61,2,408,84), (13,1,80,0,0,0,0)]
def tb_X6_sets : Tab := [(0,1,27,0,0,0,0), (1,1,27,0,0,0,0), (2,3,70,60,1,371,76), (5,1,2,1,0,0,0), (6,1,2,2,0,0,0), (7,3,70,19,3,458,94), (10,3,70,61,2,408,84), (13,1,80,0,0,0,0)]
def tb_X6_ties : Tab := [(0,1,27,0,0,0,0), (1,1,27,0,0,0,0), (2,3,70,60,1,371,76), (5,1,2,1,0,0,0), (6,1,2,2,0,0,0), (7,1,2,3,0,0,0), (8,3,70,20,4,470,97), (11,3,70,61,2,408,84), (14,1,80,0,0,0,0)]
def tb_X6_unties : Tab := [(0,1,27,0,0,0,0), (1,1,27,0,0,0,0), (2,3,70,60,1,371,76), (5,1,2,1,0,0,0), (6,3,70,15,2,478,101), (9,3,70,61,2,408,84), (12,1,80,0,0,0,0)]
def tb_X6_measure : Tab := [(0,1,27,0,0,0,0), (1,3,40,9,6,332,253), (4,3,30,8,0,0,0), (7,1,83,0,0,0,0), (8,1,0,0,0,0,0), (9,1,3,1,0,0,0), (10,1,2,1,0,0,0), (11,1,0,2,0,0,0), (12,3,31,35,3,0,0), (15,1,27,0,0,0,0), (16,3,41,4,6,327,36), (19,1,2,1,0,0,0), (20,1,54,0,0,0,0), (21,1,27,0,0,0,0), (22,3,41,0,6,323,10), (25,1,2,1,0,0,0), (26,3,70,42,3,488,260), (29,3,5,1,1,0,0), (32,3,23,10,0,0,0), (35,1,27,0,0,0,0), (36,3,41,5,6,328,43), (39,1,27,0,0,0,0), (40,3,41,0,6,323,10), (43,3,70,26,2,498,264), (46,1,27,0,0,0,0), (47,1,0,1,0,0,0), (48,3,42,9,6,332,253), (51,1,83,0,0,0,0)]
def tb_X6_layOut : Tab := [(0,1,27,0,0,0,0), (1,3,70,68,1,484,108), (4,1,27,0,0,0,0), (5,3,40,10,6,333,257), (8,3,30,46,1,0,0), (11,1,27,0,0,0,0), (12,3,41,6,6,329,50), (15,1,27,0,0,0,0), (16,3,41,0,6,323,10), (19,1,27,0,0,0,0), (20,3,41,4,6,327,36), (23,1,0,0,0,0,0), (24,1,54,0,0,0,0), (25,1,27,0,0,0,0), (26,3,41,4,6,327,36), (29,1,0,1,0,0,0), (30,1,54,0,0,0,0), (31,1,27,0,0,0,0), (32,3,41,5,6,328,43), (35,3,40,2,1,263,148), (38,3,70,35,5,528,266), (41,1,27,0,0,0,0), (42,1,0,1,0,0,0), (43,3,42,10,6,333,257), (46,1,27,0,0,0,0), (47,3,41,6,6,329,50), (50,1,82,0,0,0,0)]
def tb_X6_of : Tab := [(0,1,27,0,0,0,0), (1,3,41,0,6,323,10), (4,1,2,1,0,0,0), (5,1,2,2,0,0,0), (6,3,70,5,3,483,104), (9,3,30,21,0,0,0), (12,1,2,3,0,0,0), (13,1,0,0,0,0,0), (14,1,0,4,0,0,0), (15,3,73,3,3,364,68), (18,3,30,28,1,0,0), (21,1,27,0,0,0,0), (22,2,1,2,0,0,0), (24,3,70,59,2,367,72), (27,1,80,0,0,0,0), (28,1,27,0,0,0,0), (29,3,70,68,1,484,108), (32,1,27,0,0,0,0), (33,3,41,4,6,327,36), (36,1,2,1,0,0,0), (37,1,54,0,0,0,0), (38,2,29,4,0,0,0), (40,1,2,3,0,0,0), (41,31,32,1,0,0,0), (72,1,27,0,0,0,0), (73,3,41,0,6,323,10), (76,1,2,1,0,0,0), (77,1,2,2,0,0,0), (78,3,70,7,3,520,111), (81,1,80,0,0,0,0), (82,2,27,4,0,0,0), (84,3,41,0,3,237,114), (87,1,2,2,0,0,0), (88,1,0,1,0,0,0), (89,1,7,0,0,0,0), (90,1,50,0,0,0,0), (91,2,27,4,0,0,0), (93,3,41,0,3,237,114), (96,1,2,2,0,0,0), (97,1,50,0,0,0,0), (98,1,8,0,0,0,0), (99,1,80,0,0,0,0), (100,2,27,4,0,0,0), (102,3,41,0,3,237,114), (105,1,2,2,0,0,0), (106,1,50,0,0,0,0), (107,1,80,0,0,0,0), (108,1,27,0,0,0,0), (109,3,70,69,1,524,117), (112,1,2,1,0,0,0), (113,2,27,4,0,0,0), (115,3,41,0,3,237,114), (118,1,2,2,0,0,0), (119,1,50,0,0,0,0), (120,3,70,39,3,561,121), (123,1,80,0,0,0,0), (124,1,27,0,0,0,0), (125,3,70,69,1,524,117), (128,1,2,1,0,0,0), (129,2,27,4,0,0,0), (131,3,41,0,3,237,114), (134,1,2,2,0,0,0), (135,1,0,1,0,0,0), (136,1,7,0,0,0,0), (137,1,50,0,0,0,0), (138,1,0,1,0,0,0), (139,1,8,0,0,0,0), (140,3,70,39,3,561,121), (143,1,80,0,0,0,0)]
def tb_X6_word : Tab := [(0,1,27,0,0,0,0), (1,3,41,0,6,323,10), (4,1,2,1,0,0,0), (5,1,2,2,0,0,0), (6,1,2,3,0,0,0), (7,3,70,8,4,569,124), (10,3,30,23,0,0,0), (13,2,2,4,0,0,0), (15,1,0,0,0,0,0), (16,1,0,1,0,0,0), (17,3,73,3,3,364,68), (20,3,30,30,1,0,0), (23,1,27,0,0,0,0), (24,2,1,2,0,0,0), (26,3,70,59,2,367,72), (29,1,80,0,0,0,0), (30,2,2,4,0,0,0), (32,3,30,48,1,0,0), (35,1,27,0,0,0,0), (36,3,41,0,6,323,10), (39,1,2,1,0,0,0), (40,1,2,2,0,0,0), (41,1,2,3,0,0,0), (42,3,70,10,4,574,127), (45,3,23,61,0,0,0), (48,1,27,0,0,0,0), (49,3,41,0,6,323,10), (52,1,2,1,0,0,0), (53,1,2,2,0,0,0), (54,3,73,6,2,578,130), (57,1,2,3,0,0,0), (58,3,70,11,3,579,133), (61,1,80,0,0,0,0)]
def tb_X6_tie : Tab := [(0,1,27,0,0,0,0), (1,3,41,0,6,323,10), (4,1,2,1,0,0,0), (5,3,70,9,2,584,136), (8,3,30,20,0,0,0), (11,1,2,2,0,0,0), (12,1,0,0,0,0,0), (13,1,0,4,0,0,0), (14,3,73,3,3,364,68), (17,3,30,27,1,0,0), (20,1,27,0,0,0,0), (21,2,1,2,0,0,0), (23,3,70,59,2,367,72), (26,1,80,0,0,0,0), (27,1,27,0,0,0,0), (28,3,70,68,1,484,108), (31,1,2,2,0,0,0), (32,32,32,2,0,0,0), (64,1,27,0,0,0,0), (65,3,41,0,6,323,10), (68,3,41,5,0,141,139), (71,1,2,1,0,0,0), (72,1,50,0,0,0,0), (73,1,80,0,0,0,0), (74,1,27,0,0,0,0), (75,3,41,0,6,323,10), (78,3,41,6,0,144,142), (81,1,2,1,0,0,0), (82,1,50,0,0,0,0), (83,1,80,0,0,0,0), (84,1,27,0,0,0,0), (85,3,41,0,6,323,10), (88,3,41,7,0,147,145), (91,1,2,1,0,0,0), (92,1,50,0,0,0,0), (93,1,80,0,0,0,0), (94,1,27,0,0,0,0), (95,3,41,5,6,328,43), (98,3,40,2,1,263,148), (101,1,2,1,0,0,0), (102,1,13,0,0,0,0), (103,1,0,1,0,0,0), (104,1,10,0,0,0,0), (105,1,80,0,0,0,0), (106,1,27,0,0,0,0), (107,3,41,5,6,328,43), (110,3,41,0,1,259,152), (113,1,2,1,0,0,0), (114,1,50,0,0,0,0), (115,3,73,25,1,585,155), (118,1,80,0,0,0,0)]
def tb_X6_crossing : Tab := [(0,1,2,1,0,0,0), (1,3,30,13,2,0,0), (4,1,2,2,0,0,0), (5,1,0,0,0,0,0), (6,1,0,1,0,0,0), (7,3,73,3,3,364,68), (10,3,30,20,1,0,0), (13,1,27,0,0,0,0), (14,2,1,2,0,0,0), (16,3,70,59,2,367,72), (19,1,80,0,0,0,0), (20,1,27,0,0,0,0), (21,3,70,68,1,484,108), (24,1,2,1,0,0,0), (25,1,3,3,0,0,0), (26,1,0,0,0,0,0), (27,2,3,4,0,0,0), (29,2,2,4,0,0,0), (31,1,27,0,0,0,0), (32,3,41,0,6,323,10), (35,3,40,8,0,150,160), (38,3,31,131,3,0,0), (41,2,2,4,0,0,0), (43,1,0,1,0,0,0), (44,1,7,0,0,0,0), (45,2,3,5,0,0,0), (47,2,2,5,0,0,0), (49,1,27,0,0,0,0), (50,3,41,0,6,323,10), (53,3,40,8,0,150,160), (56,3,31,125,3,0,0), (59,1,27,0,0,0,0), (60,3,41,5,6,328,43), (63,3,41,0,1,259,152), (66,2,2,4,0,0,0), (68,1,50,0,0,0,0), (69,2,2,5,0,0,0), (71,1,13,0,0,0,0), (72,1,0,1,0,0,0), (73,1,10,0,0,0,0), (74,1,0,1,0,0,0), (75,3,31,82,1,0,0), (78,1,0,1,0,0,0), (79,3,23,83,0,0,0), (82,1,0,0,0,0,0), (83,2,3,6,0,0,0), (85,2,2,6,0,0,0), (87,3,30,106,0,0,0), (90,1,2,3,0,0,0), (91,3,30,106,1,0,0), (94,1,2,2,0,0,0), (95,3,30,103,1,0,0), (98,2,2,4,0,0,0), (100,3,23,105,0,0,0), (103,2,2,5,0,0,0), (105,1,80,0,0,0,0), (106,1,2,3,0,0,0), (107,2,2,6,0,0,0), (109,3,30,116,0,0,0), (112,1,0,1,0,0,0), (113,3,23,117,0,0,0), (116,1,0,0,0,0,0), (117,1,8,0,0,0,0), (118,1,3,3,0,0,0), (119,3,5,5,1,0,0), (122,3,23,47,0,0,0), (125,3,5,4,1,0,0), (128,3,23,29,0,0,0), (131,1,1,1,0,0,0), (132,1,80,0,0,0,0)]
def tb_X6_lawful : Tab := [(0,1,2,1,0,0,0), (1,3,73,4,1,361,64), (4,3,30,14,1,0,0), (7,1,27,0,0,0,0), (8,2,1,2,0,0,0), (10,3,70,59,2,367,72), (13,1,80,0,0,0,0), (14,1,27,0,0,0,0), (15,3,70,68,1,484,108), (18,1,2,2,0,0,0), (19,1,0,0,0,0,0), (20,1,27,0,0,0,0), (21,3,41,4,6,327,36), (24,1,2,1,0,0,0), (25,1,54,0,0,0,0), (26,3,40,2,3,243,163), (29,3,73,3,3,364,68), (32,3,30,42,1,0,0), (35,1,27,0,0,0,0), (36,2,1,2,0,0,0), (38,3,70,59,2,367,72), (41,1,80,0,0,0,0), (42,1,27,0,0,0,0), (43,3,41,4,6,327,36), (46,1,2,1,0,0,0), (47,1,54,0,0,0,0), (48,3,41,1,3,240,166), (51,1,2,2,0,0,0), (52,1,52,0,0,0,0), (53,3,30,60,0,0,0), (56,1,0,1,0,0,0), (57,3,23,61,0,0,0), (60,1,0,0,0,0,0), (61,1,80,0,0,0,0)]
def tb_X6_opening : Tab := [(0,1,2,1,0,0,0), (1,3,30,13,2,0,0), (4,1,2,2,0,0,0), (5,1,0,0,0,0,0), (6,1,0,4,0,0,0), (7,3,73,3,3,364,68), (10,3,30,20,1,0,0), (13,1,27,0,0,0,0), (14,2,1,2,0,0,0), (16,3,70,59,2,367,72), (19,1,80,0,0,0,0), (20,1,27,0,0,0,0), (21,3,70,69,1,524,117), (24,1,22,0,0,0,0), (25,1,2,1,0,0,0), (26,1,27,0,0,0,0), (27,3,41,6,6,329,50), (30,3,40,9,2,293,170), (33,3,31,38,2,0,0), (36,1,1,1,0,0,0), (37,1,80,0,0,0,0), (38,1,2,2,0,0,0), (39,29,32,3,0,0,0), (68,1,27,0,0,0,0), (69,3,41,6,6,329,50), (72,3,41,4,2,286,173), (75,1,2,1,0,0,0), (76,1,50,0,0,0,0), (77,1,80,0,0,0,0), (78,1,27,0,0,0,0), (79,3,41,6,6,329,50), (82,1,2,1,0,0,0), (83,3,70,36,2,598,176), (86,1,80,0,0,0,0), (87,1,27,0,0,0,0), (88,3,41,6,6,329,50), (91,3,41,5,2,288,179), (94,1,2,1,0,0,0), (95,1,50,0,0,0,0), (96,1,80,0,0,0,0), (97,1,27,0,0,0,0), (98,3,41,6,6,329,50), (101,1,2,1,0,0,0), (102,3,70,37,2,602,182), (105,1,80,0,0,0,0), (106,1,27,0,0,0,0), (107,3,41,6,6,329,50), (110,1,2,1,0,0,0), (111,3,70,38,2,606,185), (114,1,80,0,0,0,0)]
def tb_X6_count : Tab := [(0,1,2,1,0,0,0), (1,1,0,0,0,0,0), (2,2,0,9,0,0,0), (4,3,73,3,3,364,68), (7,3,30,17,1,0,0), (10,1,27,0,0,0,0), (11,2,1,2,0,0,0), (13,3,70,59,2,367,72), (16,1,80,0,0,0,0), (17,1,27,0,0,0,0), (18,3,70,68,1,484,108), (21,1,2,1,0,0,0), (22,50,32,4,0,0,0), (72,1,27,0,0,0,0), (73,3,41,0,6,323,10), (76,3,41,0,0,130,188), (79,1,2,1,0,0,0), (80,1,50,0,0,0,0), (81,1,80,0,0,0,0), (82,1,27,0,0,0,0), (83,3,41,4,6,327,36), (86,1,2,1,0,0,0), (87,1,0,2,0,0,0), (88,1,8,0,0,0,0), (89,1,54,0,0,0,0), (90,3,40,2,3,243,163), (93,1,80,0,0,0,0), (94,1,27,0,0,0,0), (95,3,41,0,6,323,10), (98,3,40,8,0,150,160), (101,1,80,0,0,0,0), (102,1,27,0,0,0,0), (103,3,41,5,6,328,43), (106,3,40,1,1,261,191), (109,1,80,0,0,0,0), (110,1,27,0,0,0,0), (111,3,41,5,6,328,43), (114,3,40,2,1,263,148), (117,1,80,0,0,0,0), (118,1,27,0,0,0,0), (119,3,41,5,6,328,43), (122,3,40,3,1,265,194), (125,1,80,0,0,0,0), (126,1,27,0,0,0,0), (127,3,70,69,1,524,117), (130,3,40,9,2,293,170), (133,1,80,0,0,0,0), (134,1,27,0,0,0,0), (135,3,70,69,1,524,117), (138,3,40,10,2,295,197), (141,1,80,0,0,0,0)]
def tb_X6_type : Tab := [(0,1,2,1,0,0,0), (1,1,0,0,0,0,0), (2,2,0,127,0,0,0), (4,3,73,3,3,364,68), (7,3,30,17,1,0,0), (10,1,27,0,0,0,0), (11,2,1,2,0,0,0), (13,3,70,59,2,367,72), (16,1,80,0,0,0,0), (17,1,27,0,0,0,0), (18,3,41,3,6,326,29), (21,1,2,1,0,0,0), (22,3,70,44,2,620,200), (25,3,30,35,1,0,0), (28,1,27,0,0,0,0), (29,2,1,4,0,0,0), (31,3,70,59,2,367,72), (34,1,80,0,0,0,0), (35,1,27,0,0,0,0), (36,3,41,3,6,326,29), (39,3,40,1,4,196,203), (42,1,80,0,0,0,0)]
def tb_X6_clear : Tab := [(0,1,27,0,0,0,0), (1,3,41,3,6,326,29), (4,3,40,1,4,196,203), (7,1,3,1,0,0,0), (8,1,27,0,0,0,0), (9,3,41,3,6,326,29), (12,1,0,0,0,0,0), (13,3,42,1,4,196,203), (16,1,2,1,0,0,0), (17,1,80,0,0,0,0)]
def tb_X6_tryOrder : Tab := [(0,1,27,0,0,0,0), (1,3,41,3,6,326,29), (4,3,41,4,4,202,269), (7,1,29,2,0,0,0), (8,1,27,0,0,0,0), (9,3,41,3,6,326,29), (12,3,41,3,4,200,272), (15,1,2,1,0,0,0), (16,1,50,0,0,0,0), (17,1,3,3,0,0,0), (18,1,27,0,0,0,0), (19,3,41,3,6,326,29), (22,3,41,3,4,200,272), (25,1,2,1,0,0,0), (26,1,0,1,0,0,0), (27,1,7,0,0,0,0), (28,1,50,0,0,0,0), (29,1,2,3,0,0,0), (30,1,8,0,0,0,0), (31,2,3,4,0,0,0), (33,1,27,0,0,0,0), (34,3,41,3,6,326,29), (37,3,41,2,4,198,275), (40,1,2,1,0,0,0), (41,1,50,0,0,0,0), (42,106,32,5,0,0,0), (148,1,27,0,0,0,0), (149,3,41,1,6,324,16), (152,1,0,0,0,0,0), (153,1,27,2,0,0,0), (154,1,2,3,0,0,0), (155,2,2,4,0,0,0), (157,3,70,14,5,388,80), (160,1,80,0,0,0,0), (161,1,27,0,0,0,0), (162,3,41,1,6,324,16), (165,1,0,1,0,0,0), (166,1,27,2,0,0,0), (167,1,2,3,0,0,0), (168,2,2,4,0,0,0), (170,3,70,14,5,388,80), (173,1,80,0,0,0,0), (174,1,27,0,0,0,0), (175,3,41,1,6,324,16), (178,1,27,2,0,0,0), (179,1,2,3,0,0,0), (180,1,50,0,0,0,0), (181,1,27,2,0,0,0), (182,1,2,3,0,0,0), (183,1,0,1,0,0,0), (184,1,7,0,0,0,0), (185,1,50,0,0,0,0), (186,1,27,2,0,0,0), (187,1,2,3,0,0,0), (188,1,0,2,0,0,0), (189,1,7,0,0,0,0), (190,1,50,0,0,0,0), (191,3,70,20,4,470,97), (194,1,80,0,0,0,0), (195,1,27,0,0,0,0), (196,3,41,1,6,324,16), (199,1,27,2,0,0,0), (200,1,2,3,0,0,0), (201,1,50,0,0,0,0), (202,1,27,2,0,0,0), (203,1,2,3,0,0,0), (204,1,0,1,0,0,0), (205,1,7,0,0,0,0), (206,1,50,0,0,0,0), (207,3,70,18,3,450,91), (210,1,80,0,0,0,0), (211,1,27,0,0,0,0), (212,3,41,1,6,324,16), (215,1,0,0,0,0,0), (216,1,27,2,0,0,0), (217,1,2,3,0,0,0), (218,1,50,0,0,0,0), (219,3,70,19,3,458,94), (222,1,80,0,0,0,0), (223,1,27,0,0,0,0), (224,3,41,1,6,324,16), (227,1,0,1,0,0,0), (228,1,27,2,0,0,0), (229,1,2,3,0,0,0), (230,1,50,0,0,0,0), (231,3,70,19,3,458,94), (234,1,80,0,0,0,0), (235,1,27,0,0,0,0), (236,3,41,1,6,324,16), (239,1,0,2,0,0,0), (240,1,27,2,0,0,0), (241,1,2,3,0,0,0), (242,1,50,0,0,0,0), (243,3,70,19,3,458,94), (246,1,80,0,0,0,0), (247,2,1,2,0,0,0), (249,1,80,0,0,0,0)]
def tb_X6_does : Tab := [(0,1,27,0,0,0,0), (1,3,41,3,6,326,29), (4,3,70,52,1,632,206), (7,1,3,1,0,0,0), (8,1,2,1,0,0,0), (9,1,1,1,0,0,0), (10,3,31,18,0,0,0), (13,2,1,10,0,0,0), (15,1,2,1,0,0,0), (16,1,8,0,0,0,0), (17,1,80,0,0,0,0), (18,1,27,0,0,0,0), (19,3,70,60,1,371,76), (22,1,22,0,0,0,0), (23,1,0,0,0,0,0), (24,1,3,2,0,0,0), (25,1,2,2,0,0,0), (26,1,27,0,0,0,0), (27,3,41,3,6,326,29), (30,3,40,5,4,204,210), (33,3,31,56,3,0,0), (36,1,27,0,0,0,0), (37,1,2,2,0,0,0), (38,3,70,79,2,663,213), (41,3,30,50,3,0,0), (44,3,1,1000,0,0,0), (47,1,2,2,0,0,0), (48,1,8,0,0,0,0), (49,1,80,0,0,0,0), (50,3,5,2,1,0,0), (53,3,23,25,0,0,0), (56,1,27,0,0,0,0), (57,1,27,0,0,0,0), (58,3,41,3,6,326,29), (61,3,40,5,4,204,210), (64,3,70,61,2,408,84), (67,1,80,0,0,0,0)]
def tb_X6_back : Tab := [(0,1,27,0,0,0,0), (1,3,41,2,6,325,22), (4,1,27,0,0,0,0), (5,3,41,0,6,323,10), (8,3,70,56,2,671,216), (11,3,30,21,1,0,0), (14,1,27,0,0,0,0), (15,2,1,3,0,0,0), (17,3,70,59,2,367,72), (20,1,80,0,0,0,0), (21,1,27,0,0,0,0), (22,3,70,57,1,319,61), (25,1,27,0,0,0,0), (26,3,41,2,6,325,22), (29,3,40,1,5,182,220), (32,1,80,0,0,0,0)]
def tb_X6_told : Tab := [(0,1,2,1,0,0,0), (1,55,32,6,0,0,0), (56,1,27,0,0,0,0), (57,3,41,7,6,330,54), (60,1,2,1,0,0,0), (61,1,50,0,0,0,0), (62,1,80,0,0,0,0), (63,1,27,0,0,0,0), (64,3,41,0,6,323,10), (67,3,41,3,0,134,221), (70,1,2,1,0,0,0), (71,1,0,3,0,0,0), (72,1,8,0,0,0,0), (73,1,50,0,0,0,0), (74,1,80,0,0,0,0), (75,1,27,0,0,0,0), (76,3,41,0,6,323,10), (79,3,41,4,0,138,224), (82,1,2,1,0,0,0), (83,1,0,5,0,0,0), (84,1,8,0,0,0,0), (85,1,50,0,0,0,0), (86,1,80,0,0,0,0), (87,1,27,0,0,0,0), (88,3,41,3,6,326,29), (91,3,40,1,4,196,203), (94,1,80,0,0,0,0), (95,1,27,0,0,0,0), (96,3,41,2,6,325,22), (99,3,40,1,5,182,220), (102,1,80,0,0,0,0), (103,1,27,0,0,0,0), (104,2,1,2,0,0,0), (106,3,70,59,2,367,72), (109,1,80,0,0,0,0)]
def tb_X6_digest : Tab := [(0,3,24,2591,0,683,227), (3,1,4,1,0,0,0), (4,1,0,0,0,0,0), (5,1,3,3,0,0,0), (6,1,2,3,0,0,0), (7,2,0,9,0,0,0), (9,3,31,31,4,0,0), (12,3,24,31,0,684,229), (15,1,28,1,0,0,0), (16,1,18,0,0,0,0), (17,1,27,0,0,0,0), (18,1,2,3,0,0,0), (19,3,70,82,2,685,231), (22,1,15,0,0,0,0), (23,1,17,0,0,0,0), (24,1,4,1,0,0,0), (25,3,5,3,1,0,0), (28,3,23,6,0,0,0), (31,1,0,0,0,0,0), (32,1,3,3,0,0,0), (33,1,2,3,0,0,0), (34,2,0,9,0,0,0), (36,3,31,58,4,0,0), (39,3,24,31,0,684,229), (42,1,28,1,0,0,0), (43,1,18,0,0,0,0), (44,1,27,0,0,0,0), (45,1,2,3,0,0,0), (46,3,70,76,2,686,234), (49,1,15,0,0,0,0), (50,1,17,0,0,0,0), (51,1,4,1,0,0,0), (52,3,5,3,1,0,0), (55,3,23,33,0,0,0), (58,1,0,0,0,0,0), (59,1,3,3,0,0,0), (60,1,2,3,0,0,0), (61,1,0,2,0,0,0), (62,3,31,126,3,0,0), (65,1,0,0,0,0,0), (66,2,3,4,0,0,0), (68,2,2,4,0,0,0), (70,1,27,0,0,0,0), (71,3,41,0,6,323,10), (74,3,41,0,0,130,188), (77,1,2,3,0,0,0), (78,1,50,0,0,0,0), (79,3,31,120,3,0,0), (82,1,0,0,0,0,0), (83,2,3,5,0,0,0), (85,2,2,5,0,0,0), (87,1,0,4,0,0,0), (88,3,31,114,4,0,0), (91,3,24,31,0,684,229), (94,1,28,1,0,0,0), (95,1,18,0,0,0,0), (96,1,27,0,0,0,0), (97,1,2,3,0,0,0), (98,2,2,4,0,0,0), (100,2,2,5,0,0,0), (102,3,70,70,4,687,237), (105,1,15,0,0,0,0), (106,1,17,0,0,0,0), (107,1,4,1,0,0,0), (108,3,5,5,1,0,0), (111,3,23,85,0,0,0), (114,3,5,4,1,0,0), (117,3,23,68,0,0,0), (120,3,5,3,1,0,0), (123,3,23,60,0,0,0), (126,1,0,0,0,0,0), (127,1,3,3,0,0,0), (128,1,2,3,0,0,0), (129,1,27,0,0,0,0), (130,3,41,0,6,323,10), (133,3,40,8,0,150,160), (136,3,31,175,3,0,0), (139,1,0,0,0,0,0), (140,2,3,4,0,0,0), (142,2,2,4,0,0,0), (144,1,0,4,0,0,0), (145,3,31,169,4,0,0), (148,3,24,31,0,684,229), (151,1,28,1,0,0,0), (152,1,18,0,0,0,0), (153,1,27,0,0,0,0), (154,1,2,3,0,0,0), (155,2,2,4,0,0,0), (157,3,70,72,3,688,240), (160,1,15,0,0,0,0), (161,1,17,0,0,0,0), (162,1,4,1,0,0,0), (163,3,5,4,1,0,0), (166,3,23,142,0,0,0), (169,3,5,3,1,0,0), (172,3,23,128,0,0,0), (175,1,0,0,0,0,0), (176,1,3,3,0,0,0), (177,1,2,3,0,0,0), (178,1,27,0,0,0,0), (179,3,70,69,1,524,117), (182,3,40,9,2,293,170), (185,3,31,224,3,0,0), (188,1,0,0,0,0,0), (189,2,3,4,0,0,0), (191,2,2,4,0,0,0), (193,1,0,4,0,0,0), (194,3,31,218,4,0,0), (197,3,24,31,0,684,229), (200,1,28,1,0,0,0), (201,1,18,0,0,0,0), (202,1,27,0,0,0,0), (203,1,2,3,0,0,0), (204,2,2,4,0,0,0), (206,3,70,75,3,689,243), (209,1,15,0,0,0,0), (210,1,17,0,0,0,0), (211,1,4,1,0,0,0), (212,3,5,4,1,0,0), (215,3,23,191,0,0,0), (218,3,5,3,1,0,0), (221,3,23,177,0,0,0), (224,1,28,1,0,0,0), (225,1,81,0,0,0,0)]
def tb_X7_init : Tab := [(0,1,27,0,0,0,0), (1,3,71,0,0,695,1), (4,1,27,0,0,0,0), (5,1,0,3,0,0,0), (6,2,61,1,0,170,0), (8,3,43,0,7,696,7), (11,1,27,0,0,0,0), (12,3,0,260,0,0,0), (15,2,61,1,0,170,0), (17,3,43,1,7,697,13), (20,1,27,0,0,0,0), (21,3,0,1820,0,0,0), (24,2,61,1,0,170,0), (26,3,43,2,7,698,16), (29,1,27,0,0,0,0), (30,2,0,12,0,0,0), (32,2,61,1,0,170,0), (34,3,43,5,7,701,19), (37,1,27,0,0,0,0), (38,2,0,122,0,0,0), (40,2,61,2,0,251,0), (42,3,43,7,7,703,22), (45,1,27,0,0,0,0), (46,2,0,18,0,0,0), (48,2,61,1,0,170,0), (50,3,43,8,7,704,26), (53,1,27,0,0,0,0), (54,3,0,3721,0,0,0), (57,2,61,1,0,170,0), (59,3,43,9,7,705,29), (62,1,27,0,0,0,0), (63,3,0,3721,0,0,0), (66,2,61,1,0,170,0), (68,3,43,10,7,706,32), (71,1,27,0,0,0,0), (72,2,0,121,0,0,0), (74,2,61,1,0,170,0), (76,3,43,13,7,709,35), (79,1,27,0,0,0,0), (80,2,0,121,0,0,0), (82,2,61,1,0,170,0), (84,3,43,14,7,710,38), (87,1,27,0,0,0,0), (88,2,0,120,0,0,0), (90,2,61,1,0,170,0), (92,3,43,15,7,711,41), (95,1,27,0,0,0,0), (96,3,41,1,7,697,13), (99,1,0,0,0,0,0), (100,2,0,20,0,0,0), (102,1,51,0,0,0,0), (103,1,27,0,0,0,0), (104,3,41,1,7,697,13), (107,1,0,1,0,0,0), (108,2,0,20,0,0,0), (110,1,51,0,0,0,0), (111,1,27,0,0,0,0), (112,3,41,1,7,697,13), (115,1,0,2,0,0,0), (116,2,0,8,0,0,0), (118,1,51,0,0,0,0), (119,1,27,0,0,0,0), (120,3,41,1,7,697,13), (123,1,0,3,0,0,0), (124,1,0,2,0,0,0), (125,1,51,0,0,0,0), (126,1,27,0,0,0,0), (127,3,41,1,7,697,13), (130,1,0,4,0,0,0), (131,1,0,1,0,0,0), (132,1,51,0,0,0,0), (133,1,83,0,0,0,0)]
def tb_X7_bad : Tab := [(0,1,27,0,0,0,0), (1,3,41,0,7,696,7), (4,1,0,0,0,0,0), (5,1,21,0,0,0,0), (6,1,50,0,0,0,0), (7,1,0,1,0,0,0), (8,1,7,0,0,0,0), (9,1,51,0,0,0,0), (10,2,1,2,0,0,0), (12,1,80,0,0,0,0)]
def tb_X7_no : Tab := [(0,1,27,0,0,0,0), (1,3,41,0,7,696,7), (4,1,0,1,0,0,0), (5,1,21,0,0,0,0), (6,1,50,0,0,0,0), (7,1,0,1,0,0,0), (8,1,7,0,0,0,0), (9,1,51,0,0,0,0), (10,2,1,3,0,0,0), (12,1,80,0,0,0,0)]
def tb_X7_full : Tab := [(0,1,27,0,0,0,0), (1,3,41,0,7,696,7), (4,1,0,2,0,0,0), (5,1,21,0,0,0,0), (6,1,50,0,0,0,0), (7,1,0,1,0,0,0), (8,1,7,0,0,0,0), (9,1,51,0,0,0,0), (10,2,1,4,0,0,0), (12,1,80,0,0,0,0)]
def tb_X7_counted : Tab := [(0,1,2,1,0,0,0), (1,2,1,2,0,0,0), (3,3,31,13,1,0,0), (6,1,27,0,0,0,0), (7,3,70,85,1,794,44), (10,3,23,40,0,0,0), (13,1,2,1,0,0,0), (14,2,1,3,0,0,0), (16,3,31,26,1,0,0), (19,1,27,0,0,0,0), (20,3,70,86,1,767,48), (23,3,23,40,0,0,0), (26,1,2,1,0,0,0), (27,2,1,4,0,0,0), (29,3,31,39,1,0,0), (32,1,27,0,0,0,0), (33,3,70,87,1,798,51), (36,3,23,40,0,0,0), (39,1,2,1,0,0,0), (40,1,80,0,0,0,0)]
def tb_X7_in : Tab := [(0,1,2,0,0,0,0), (1,1,2,1,0,0,0), (2,3,31,14,2,0,0), (5,1,2,0,0,0,0), (6,1,2,2,0,0,0), (7,3,31,14,4,0,0), (10,1,0,1,0,0,0), (11,3,23,15,0,0,0), (14,1,0,0,0,0,0), (15,1,80,0,0,0,0)]
def tb_X7_puts : Tab := [(0,1,0,0,0,0,0), (1,1,3,2,0,0,0), (2,1,2,2,0,0,0), (3,3,0,260,0,0,0), (6,3,31,33,3,0,0), (9,1,27,0,0,0,0), (10,3,41,2,7,698,16), (13,3,0,260,0,0,0), (16,1,2,1,0,0,0), (17,1,9,0,0,0,0), (18,1,2,2,0,0,0), (19,1,7,0,0,0,0), (20,1,27,0,0,0,0), (21,3,41,1,7,697,13), (24,1,2,2,0,0,0), (25,1,50,0,0,0,0), (26,1,51,0,0,0,0), (27,3,5,2,1,0,0), (30,3,23,2,0,0,0), (33,1,83,0,0,0,0)]
def tb_X7_takes : Tab := [(0,1,0,0,0,0,0), (1,1,3,2,0,0,0), (2,1,2,2,0,0,0), (3,3,0,260,0,0,0), (6,3,31,33,3,0,0), (9,1,27,0,0,0,0), (10,3,41,1,7,697,13), (13,1,2,2,0,0,0), (14,1,27,0,0,0,0), (15,3,41,2,7,698,16), (18,3,0,260,0,0,0), (21,1,2,1,0,0,0), (22,1,9,0,0,0,0), (23,1,2,2,0,0,0), (24,1,7,0,0,0,0), (25,1,50,0,0,0,0), (26,1,51,0,0,0,0), (27,3,5,2,1,0,0), (30,3,23,2,0,0,0), (33,1,27,0,0,0,0), (34,1,0,0,0,0,0), (35,3,42,4,7,700,54), (38,1,83,0,0,0,0)]
def tb_X7_leavesState : Tab := [(0,1,27,0,0,0,0), (1,3,40,3,7,699,58), (4,2,0,6,0,0,0), (6,3,31,50,1,0,0), (9,1,0,0,0,0,0), (10,1,3,1,0,0,0), (11,1,2,1,0,0,0), (12,3,0,1300,0,0,0), (15,3,31,40,3,0,0), (18,1,27,0,0,0,0), (19,3,41,2,7,698,16), (22,1,2,1,0,0,0), (23,1,27,0,0,0,0), (24,3,41,2,7,698,16), (27,1,2,1,0,0,0), (28,3,0,260,0,0,0), (31,1,7,0,0,0,0), (32,1,50,0,0,0,0), (33,1,51,0,0,0,0), (34,3,5,1,1,0,0), (37,3,23,11,0,0,0), (40,1,27,0,0,0,0), (41,1,20,0,0,0,0), (42,3,40,3,7,699,58), (45,1,0,1,0,0,0), (46,1,8,0,0,0,0), (47,3,42,3,7,699,58), (50,1,0,0,0,0,0), (51,1,3,1,0,0,0), (52,1,2,1,0,0,0), (53,3,0,260,0,0,0), (56,3,31,90,3,0,0), (59,1,27,0,0,0,0), (60,3,41,2,7,698,16), (63,3,0,260,0,0,0), (66,1,27,0,0,0,0), (67,3,40,3,7,699,58), (70,1,9,0,0,0,0), (71,1,2,1,0,0,0), (72,1,7,0,0,0,0), (73,1,27,0,0,0,0), (74,3,41,2,7,698,16), (77,3,0,1560,0,0,0), (80,1,2,1,0,0,0), (81,1,7,0,0,0,0), (82,1,50,0,0,0,0), (83,1,51,0,0,0,0), (84,3,5,1,1,0,0), (87,3,23,52,0,0,0), (90,1,27,0,0,0,0), (91,1,20,0,0,0,0), (92,3,40,3,7,699,58), (95,1,0,1,0,0,0), (96,1,7,0,0,0,0), (97,3,42,3,7,699,58), (100,1,83,0,0,0,0)]
def tb_X7_back : Tab := [(0,1,27,0,0,0,0), (1,3,40,3,7,699,58), (4,3,30,12,1,0,0), (7,1,27,0,0,0,0), (8,3,70,86,1,767,48), (11,1,80,0,0,0,0), (12,1,27,0,0,0,0), (13,1,20,0,0,0,0), (14,3,40,3,7,699,58), (17,1,0,1,0,0,0), (18,1,8,0,0,0,0), (19,3,42,3,7,699,58), (22,1,27,0,0,0,0), (23,1,27,0,0,0,0), (24,3,40,3,7,699,58), (27,3,70,91,2,771,62), (30,1,27,0,0,0,0), (31,3,40,3,7,699,58), (34,1,80,0,0,0,0)]
def tb_X7_at : Tab := [(0,2,0,8,0,0,0), (2,2,0,13,0,0,0), (4,2,0,8,0,0,0), (6,1,2,0,0,0,0), (7,1,9,0,0,0,0), (8,1,2,1,0,0,0), (9,1,7,0,0,0,0), (10,1,9,0,0,0,0), (11,1,7,0,0,0,0), (12,1,80,0,0,0,0)]
def tb_X7_many : Tab := [(0,1,27,0,0,0,0), (1,3,41,1,7,697,13), (4,1,0,5,0,0,0), (5,1,2,1,0,0,0), (6,1,7,0,0,0,0), (7,1,50,0,0,0,0), (8,1,80,0,0,0,0)]
def tb_X7_wordsOf : Tab := [(0,1,27,0,0,0,0), (1,3,41,1,7,697,13), (4,1,2,1,0,0,0), (5,1,2,2,0,0,0), (6,3,73,94,2,810,66), (9,1,50,0,0,0,0), (10,1,80,0,0,0,0)]
def tb_X7_lengthOf : Tab := [(0,1,27,0,0,0,0), (1,3,41,1,7,697,13), (4,1,2,1,0,0,0), (5,1,2,2,0,0,0), (6,3,73,94,2,810,66), (9,1,0,1,0,0,0), (10,1,7,0,0,0,0), (11,1,2,3,0,0,0), (12,1,7,0,0,0,0), (13,1,50,0,0,0,0), (14,1,80,0,0,0,0)]
def tb_X7_lineOf : Tab := [(0,1,0,0,0,0,0), (1,2,3,4,0,0,0), (3,1,27,0,0,0,0), (4,1,2,1,0,0,0), (5,1,2,2,0,0,0), (6,1,0,0,0,0,0), (7,3,70,97,4,837,70), (10,2,3,5,0,0,0), (12,1,0,1,0,0,0), (13,2,3,6,0,0,0), (15,2,2,6,0,0,0), (17,1,2,3,0,0,0), (18,3,31,97,4,0,0), (21,2,2,5,0,0,0), (23,1,0,1,0,0,0), (24,1,7,0,0,0,0), (25,1,27,0,0,0,0), (26,1,2,1,0,0,0), (27,1,2,2,0,0,0), (28,2,2,6,0,0,0), (30,3,70,97,4,837,70), (33,1,7,0,0,0,0), (34,2,3,7,0,0,0), (36,2,2,7,0,0,0), (38,1,27,0,0,0,0), (39,3,41,1,7,697,13), (42,1,0,0,0,0,0), (43,1,2,1,0,0,0), (44,1,7,0,0,0,0), (45,1,50,0,0,0,0), (46,3,31,53,4,0,0), (49,1,0,1,0,0,0), (50,3,23,54,0,0,0), (53,1,0,0,0,0,0), (54,2,3,8,0,0,0), (56,2,2,4,0,0,0), (58,2,2,8,0,0,0), (60,3,30,67,0,0,0), (63,1,0,0,0,0,0), (64,3,23,68,0,0,0), (67,1,0,1,0,0,0), (68,1,7,0,0,0,0), (69,2,3,4,0,0,0), (71,2,2,8,0,0,0), (73,3,30,81,0,0,0), (76,2,2,7,0,0,0), (78,3,23,89,0,0,0), (81,1,27,0,0,0,0), (82,1,2,1,0,0,0), (83,1,2,2,0,0,0), (84,2,2,6,0,0,0), (86,3,70,97,4,837,70), (89,2,3,5,0,0,0), (91,3,5,6,1,0,0), (94,3,23,15,0,0,0), (97,2,2,4,0,0,0), (99,1,80,0,0,0,0)]
def tb_X7_linesOf : Tab := [(0,1,27,0,0,0,0), (1,1,2,1,0,0,0), (2,1,2,2,0,0,0), (3,1,27,0,0,0,0), (4,1,2,1,0,0,0), (5,1,2,2,0,0,0), (6,3,70,96,3,829,74), (9,1,0,1,0,0,0), (10,1,8,0,0,0,0), (11,3,70,98,4,833,77), (14,1,0,1,0,0,0), (15,1,7,0,0,0,0), (16,1,80,0,0,0,0)]
def tb_X7_firstOf : Tab := [(0,1,0,0,0,0,0), (1,1,3,3,0,0,0), (2,1,0,0,0,0,0), (3,2,3,4,0,0,0), (5,2,2,4,0,0,0), (7,1,2,2,0,0,0), (8,3,31,27,3,0,0), (11,1,2,3,0,0,0), (12,1,27,0,0,0,0), (13,1,2,1,0,0,0), (14,2,2,4,0,0,0), (16,3,70,99,3,825,80), (19,1,7,0,0,0,0), (20,1,3,3,0,0,0), (21,3,5,4,1,0,0), (24,3,23,5,0,0,0), (27,1,2,3,0,0,0), (28,1,80,0,0,0,0)]
def tb_X7_linesOfAll : Tab := [(0,1,27,0,0,0,0), (1,1,2,1,0,0,0), (2,1,27,0,0,0,0), (3,1,2,1,0,0,0), (4,3,70,95,2,786,83), (7,3,70,100,3,821,87), (10,1,80,0,0,0,0)]
def tb_X7_isPara : Tab := [(0,1,2,1,0,0,0), (1,1,0,0,0,0,0), (2,1,0,1,0,0,0), (3,3,73,89,3,779,90), (6,3,30,28,0,0,0), (9,1,2,2,0,0,0), (10,1,0,0,0,0,0), (11,1,27,0,0,0,0), (12,1,2,1,0,0,0), (13,3,70,95,2,786,83), (16,1,0,1,0,0,0), (17,1,8,0,0,0,0), (18,3,73,89,3,779,90), (21,3,30,28,0,0,0), (24,1,0,1,0,0,0), (25,3,23,29,0,0,0), (28,1,0,0,0,0,0), (29,1,80,0,0,0,0)]
def tb_X7_isTooLong : Tab := [(0,1,27,0,0,0,0), (1,1,0,0,0,0,0), (2,3,70,101,2,817,94), (5,2,0,60,0,0,0), (7,3,31,20,4,0,0), (10,1,27,0,0,0,0), (11,1,0,1,0,0,0), (12,3,70,101,2,817,94), (15,2,0,60,0,0,0), (17,3,31,24,5,0,0), (20,1,0,1,0,0,0), (21,3,23,25,0,0,0), (24,1,0,0,0,0,0), (25,1,80,0,0,0,0)]
def tb_X7_canPara : Tab := [(0,1,2,1,0,0,0), (1,1,0,0,0,0,0), (2,1,0,1,0,0,0), (3,3,73,89,3,779,90), (6,3,30,23,0,0,0), (9,1,2,2,0,0,0), (10,1,0,1,0,0,0), (11,2,0,12,0,0,0), (13,3,73,89,3,779,90), (16,3,30,23,0,0,0), (19,1,0,1,0,0,0), (20,3,23,24,0,0,0), (23,1,0,0,0,0,0), (24,1,3,3,0,0,0), (25,1,0,0,0,0,0), (26,2,3,4,0,0,0), (28,2,2,4,0,0,0), (30,1,2,2,0,0,0), (31,3,31,73,3,0,0), (34,2,2,4,0,0,0), (36,2,0,12,0,0,0), (38,3,31,73,3,0,0), (41,1,2,3,0,0,0), (42,3,30,65,0,0,0), (45,1,27,0,0,0,0), (46,3,41,5,7,701,19), (49,2,2,4,0,0,0), (51,1,50,0,0,0,0), (52,1,0,1,0,0,0), (53,2,0,9,0,0,0), (55,3,73,89,3,779,90), (58,3,30,65,0,0,0), (61,1,0,1,0,0,0), (62,3,23,66,0,0,0), (65,1,0,0,0,0,0), (66,1,3,3,0,0,0), (67,3,5,4,1,0,0), (70,3,23,28,0,0,0), (73,1,2,3,0,0,0), (74,3,30,82,1,0,0), (77,2,1,2,0,0,0), (79,3,23,98,0,0,0), (82,1,27,0,0,0,0), (83,1,2,1,0,0,0), (84,3,70,95,2,786,83), (87,2,0,8,0,0,0), (89,3,31,97,1,0,0), (92,2,1,4,0,0,0), (94,3,23,98,0,0,0), (97,1,0,0,0,0,0), (98,1,80,0,0,0,0)]
def tb_X7_paraComes : Tab := [(0,1,27,0,0,0,0), (1,1,2,1,0,0,0), (2,3,70,95,2,786,83), (5,1,3,3,0,0,0), (6,1,27,0,0,0,0), (7,3,41,1,7,697,13), (10,1,2,1,0,0,0), (11,1,2,3,0,0,0), (12,3,73,94,2,810,66), (15,1,2,2,0,0,0), (16,1,51,0,0,0,0), (17,1,0,0,0,0,0), (18,2,3,4,0,0,0), (20,2,2,4,0,0,0), (22,2,0,12,0,0,0), (24,3,31,65,3,0,0), (27,1,27,0,0,0,0), (28,3,41,1,7,697,13), (31,1,2,1,0,0,0), (32,1,2,3,0,0,0), (33,3,73,94,2,810,66), (36,1,0,1,0,0,0), (37,1,7,0,0,0,0), (38,2,2,4,0,0,0), (40,1,7,0,0,0,0), (41,2,2,4,0,0,0), (43,1,2,2,0,0,0), (44,3,31,57,3,0,0), (47,1,27,0,0,0,0), (48,3,41,5,7,701,19), (51,2,2,4,0,0,0), (53,1,50,0,0,0,0), (54,3,23,58,0,0,0), (57,1,0,0,0,0,0), (58,1,51,0,0,0,0), (59,3,5,4,1,0,0), (62,3,23,20,0,0,0), (65,1,27,0,0,0,0), (66,3,41,1,7,697,13), (69,1,0,5,0,0,0), (70,1,2,1,0,0,0), (71,1,7,0,0,0,0), (72,1,21,0,0,0,0), (73,1,50,0,0,0,0), (74,1,0,1,0,0,0), (75,1,7,0,0,0,0), (76,1,51,0,0,0,0), (77,1,27,0,0,0,0), (78,1,0,0,0,0,0), (79,3,42,4,7,700,54), (82,1,27,0,0,0,0), (83,3,70,103,1,813,97), (86,3,30,94,0,0,0), (89,2,1,4,0,0,0), (91,3,23,95,0,0,0), (94,1,2,3,0,0,0), (95,1,80,0,0,0,0)]
def tb_X7_canWidth : Tab := [(0,1,2,1,0,0,0), (1,1,0,0,0,0,0), (2,1,0,1,0,0,0), (3,3,73,89,3,779,90), (6,3,30,24,0,0,0), (9,1,2,2,0,0,0), (10,2,0,9,0,0,0), (12,2,0,40,0,0,0), (14,3,73,89,3,779,90), (17,3,30,24,0,0,0), (20,1,0,0,0,0,0), (21,3,23,26,0,0,0), (24,2,1,2,0,0,0), (26,1,80,0,0,0,0)]
def tb_X7_widthBecomes : Tab := [(0,1,27,0,0,0,0), (1,3,41,1,7,697,13), (4,1,0,0,0,0,0), (5,1,2,1,0,0,0), (6,1,7,0,0,0,0), (7,1,50,0,0,0,0), (8,1,3,3,0,0,0), (9,1,27,0,0,0,0), (10,3,41,1,7,697,13), (13,1,0,0,0,0,0), (14,1,2,1,0,0,0), (15,1,7,0,0,0,0), (16,1,2,2,0,0,0), (17,1,51,0,0,0,0), (18,1,27,0,0,0,0), (19,1,0,0,0,0,0), (20,3,42,4,7,700,54), (23,1,27,0,0,0,0), (24,3,70,103,1,813,97), (27,3,30,35,0,0,0), (30,2,1,4,0,0,0), (32,3,23,36,0,0,0), (35,1,2,3,0,0,0), (36,1,80,0,0,0,0)]
def tb_X7_canSet : Tab := [(0,1,2,0,0,0,0), (1,3,30,8,1,0,0), (4,1,0,2,0,0,0), (5,3,23,18,0,0,0), (8,1,2,0,0,0,0), (9,1,0,1,0,0,0), (10,3,31,17,1,0,0), (13,1,0,1,0,0,0), (14,3,23,18,0,0,0), (17,1,0,0,0,0,0), (18,1,3,2,0,0,0), (19,1,2,0,0,0,0), (20,3,30,28,1,0,0), (23,2,0,12,0,0,0), (25,3,23,39,0,0,0), (28,1,2,0,0,0,0), (29,1,0,1,0,0,0), (30,3,31,37,1,0,0), (33,1,0,3,0,0,0), (34,3,23,39,0,0,0), (37,2,0,9,0,0,0), (39,1,3,3,0,0,0), (40,1,2,0,0,0,0), (41,1,0,0,0,0,0), (42,1,0,2,0,0,0), (43,3,73,89,3,779,90), (46,3,30,62,0,0,0), (49,1,2,1,0,0,0), (50,1,2,2,0,0,0), (51,1,2,3,0,0,0), (52,3,73,89,3,779,90), (55,3,30,62,0,0,0), (58,1,0,0,0,0,0), (59,3,23,64,0,0,0), (62,2,1,2,0,0,0), (64,1,80,0,0,0,0)]
def tb_X7_setBecomes : Tab := [(0,1,27,0,0,0,0), (1,3,41,1,7,697,13), (4,1,0,2,0,0,0), (5,1,2,1,0,0,0), (6,1,7,0,0,0,0), (7,1,50,0,0,0,0), (8,1,3,3,0,0,0), (9,1,27,0,0,0,0), (10,3,41,1,7,697,13), (13,1,0,2,0,0,0), (14,1,2,1,0,0,0), (15,1,7,0,0,0,0), (16,1,2,2,0,0,0), (17,1,51,0,0,0,0), (18,1,27,0,0,0,0), (19,1,0,0,0,0,0), (20,3,42,4,7,700,54), (23,1,2,3,0,0,0), (24,1,80,0,0,0,0)]
def tb_X7_tieAt : Tab := [(0,3,0,224,0,0,0), (3,1,0,3,0,0,0), (4,1,2,0,0,0,0), (5,1,9,0,0,0,0), (6,1,7,0,0,0,0), (7,1,80,0,0,0,0)]
def tb_X7_ofTie : Tab := [(0,1,27,0,0,0,0), (1,3,41,1,7,697,13), (4,1,2,1,0,0,0), (5,3,73,110,1,857,101), (8,1,2,2,0,0,0), (9,1,7,0,0,0,0), (10,1,50,0,0,0,0), (11,1,80,0,0,0,0)]
def tb_X7_canTie : Tab := [(0,1,27,0,0,0,0), (1,1,0,0,0,0,0), (2,1,2,1,0,0,0), (3,3,70,102,3,849,104), (6,3,30,28,0,0,0), (9,1,27,0,0,0,0), (10,1,0,1,0,0,0), (11,1,2,2,0,0,0), (12,3,70,102,3,849,104), (15,3,30,28,0,0,0), (18,1,2,3,0,0,0), (19,1,0,1,0,0,0), (20,2,0,9,0,0,0), (22,3,73,89,3,779,90), (25,3,30,31,1,0,0), (28,2,1,2,0,0,0), (30,1,80,0,0,0,0), (31,1,0,0,0,0,0), (32,2,3,4,0,0,0), (34,1,0,0,0,0,0), (35,2,3,5,0,0,0), (37,2,2,5,0,0,0), (39,1,27,0,0,0,0), (40,3,41,1,7,697,13), (43,2,0,7,0,0,0), (45,1,50,0,0,0,0), (46,3,31,89,3,0,0), (49,2,2,4,0,0,0), (51,3,30,76,1,0,0), (54,1,27,0,0,0,0), (55,2,2,5,0,0,0), (57,1,0,0,0,0,0), (58,3,70,111,3,853,108), (61,1,2,1,0,0,0), (62,3,31,80,1,0,0), (65,1,27,0,0,0,0), (66,2,2,5,0,0,0), (68,1,0,1,0,0,0), (69,3,70,111,3,853,108), (72,1,2,2,0,0,0), (73,3,31,80,1,0,0), (76,1,0,1,0,0,0), (77,3,23,81,0,0,0), (80,1,0,0,0,0,0), (81,2,3,4,0,0,0), (83,3,5,5,1,0,0), (86,3,23,37,0,0,0), (89,2,2,4,0,0,0), (91,3,30,99,0,0,0), (94,2,1,3,0,0,0), (96,3,23,117,0,0,0), (99,1,27,0,0,0,0), (100,3,41,1,7,697,13), (103,2,0,7,0,0,0), (105,1,50,0,0,0,0), (106,2,0,10,0,0,0), (108,3,31,116,1,0,0), (111,2,1,4,0,0,0), (113,3,23,117,0,0,0), (116,1,0,0,0,0,0), (117,1,80,0,0,0,0)]
def tb_X7_tieComes : Tab := [(0,1,27,0,0,0,0), (1,3,41,1,7,697,13), (4,2,0,7,0,0,0), (6,1,50,0,0,0,0), (7,2,3,4,0,0,0), (9,1,27,0,0,0,0), (10,3,41,1,7,697,13), (13,2,2,4,0,0,0), (15,3,73,110,1,857,101), (18,1,2,1,0,0,0), (19,1,51,0,0,0,0), (20,1,27,0,0,0,0), (21,3,41,1,7,697,13), (24,2,2,4,0,0,0), (26,3,73,110,1,857,101), (29,1,0,1,0,0,0), (30,1,7,0,0,0,0), (31,1,2,2,0,0,0), (32,1,51,0,0,0,0), (33,1,27,0,0,0,0), (34,3,41,1,7,697,13), (37,2,2,4,0,0,0), (39,3,73,110,1,857,101), (42,1,0,2,0,0,0), (43,1,7,0,0,0,0), (44,1,2,3,0,0,0), (45,1,51,0,0,0,0), (46,1,27,0,0,0,0), (47,3,41,1,7,697,13), (50,2,0,7,0,0,0), (52,1,21,0,0,0,0), (53,1,50,0,0,0,0), (54,1,0,1,0,0,0), (55,1,7,0,0,0,0), (56,1,51,0,0,0,0), (57,1,27,0,0,0,0), (58,1,0,0,0,0,0), (59,3,42,4,7,700,54), (62,2,2,4,0,0,0), (64,1,80,0,0,0,0)]
def tb_X7_tieGoes : Tab := [(0,1,27,0,0,0,0), (1,3,41,1,7,697,13), (4,2,0,7,0,0,0), (6,1,21,0,0,0,0), (7,1,50,0,0,0,0), (8,1,0,1,0,0,0), (9,1,8,0,0,0,0), (10,1,51,0,0,0,0), (11,1,2,1,0,0,0), (12,3,73,110,1,857,101), (15,1,3,2,0,0,0), (16,1,2,2,0,0,0), (17,1,27,0,0,0,0), (18,3,41,1,7,697,13), (21,2,0,7,0,0,0), (23,1,50,0,0,0,0), (24,3,73,110,1,857,101), (27,3,31,50,3,0,0), (30,1,27,0,0,0,0), (31,3,41,1,7,697,13), (34,1,2,2,0,0,0), (35,1,27,0,0,0,0), (36,3,41,1,7,697,13), (39,1,2,2,0,0,0), (40,1,0,3,0,0,0), (41,1,7,0,0,0,0), (42,1,50,0,0,0,0), (43,1,51,0,0,0,0), (44,3,5,2,1,0,0), (47,3,23,16,0,0,0), (50,1,27,0,0,0,0), (51,3,41,1,7,697,13), (54,2,0,7,0,0,0), (56,1,50,0,0,0,0), (57,3,73,110,1,857,101), (60,1,3,2,0,0,0), (61,1,2,2,0,0,0), (62,1,27,0,0,0,0), (63,3,41,1,7,697,13), (66,2,0,7,0,0,0), (68,1,50,0,0,0,0), (69,1,0,1,0,0,0), (70,1,7,0,0,0,0), (71,3,73,110,1,857,101), (74,3,31,90,3,0,0), (77,1,27,0,0,0,0), (78,3,41,1,7,697,13), (81,1,2,2,0,0,0), (82,1,0,0,0,0,0), (83,1,51,0,0,0,0), (84,3,5,2,1,0,0), (87,3,23,61,0,0,0), (90,1,27,0,0,0,0), (91,1,0,0,0,0,0), (92,3,42,4,7,700,54), (95,1,83,0,0,0,0)]
def tb_X7_para : Tab := [(0,1,0,0,0,0,0), (1,2,3,4,0,0,0), (3,2,2,4,0,0,0), (5,2,0,12,0,0,0), (7,3,31,45,3,0,0), (10,1,27,0,0,0,0), (11,3,41,5,7,701,19), (14,2,2,4,0,0,0), (16,1,2,3,0,0,0), (17,2,0,7,0,0,0), (19,1,9,0,0,0,0), (20,2,2,4,0,0,0), (22,2,2,4,0,0,0), (24,1,9,0,0,0,0), (25,1,0,3,0,0,0), (26,1,9,0,0,0,0), (27,1,7,0,0,0,0), (28,2,2,4,0,0,0), (30,1,0,5,0,0,0), (31,1,9,0,0,0,0), (32,1,7,0,0,0,0), (33,2,0,9,0,0,0), (35,1,26,0,0,0,0), (36,1,0,1,0,0,0), (37,1,7,0,0,0,0), (38,1,51,0,0,0,0), (39,3,5,4,1,0,0), (42,3,23,3,0,0,0), (45,1,2,3,0,0,0), (46,1,0,0,0,0,0), (47,2,0,99,0,0,0), (49,3,73,89,3,779,90), (52,3,30,64,0,0,0), (55,1,27,0,0,0,0), (56,1,2,1,0,0,0), (57,1,2,2,0,0,0), (58,3,70,104,3,782,111), (61,3,23,66,0,0,0), (64,2,1,2,0,0,0), (66,2,3,4,0,0,0), (68,2,2,4,0,0,0), (70,3,30,80,3,0,0), (73,1,27,0,0,0,0), (74,2,2,4,0,0,0), (76,3,70,88,2,790,114), (79,1,80,0,0,0,0), (80,1,27,0,0,0,0), (81,2,0,6,0,0,0), (83,3,70,90,2,802,117), (86,1,27,0,0,0,0), (87,1,2,1,0,0,0), (88,1,2,2,0,0,0), (89,3,70,105,3,806,120), (92,2,3,5,0,0,0), (94,2,2,5,0,0,0), (96,2,1,4,0,0,0), (98,3,31,112,1,0,0), (101,1,27,0,0,0,0), (102,2,0,6,0,0,0), (104,3,70,91,2,771,62), (107,1,27,0,0,0,0), (108,3,70,87,1,798,51), (111,1,80,0,0,0,0), (112,1,27,0,0,0,0), (113,3,70,92,1,841,123), (116,2,2,5,0,0,0), (118,1,80,0,0,0,0)]
def tb_X7_drops : Tab := [(0,1,27,0,0,0,0), (1,1,2,1,0,0,0), (2,1,2,2,0,0,0), (3,3,70,102,3,849,104), (6,3,30,14,1,0,0), (9,1,27,0,0,0,0), (10,3,70,85,1,794,44), (13,1,80,0,0,0,0), (14,1,27,0,0,0,0), (15,2,0,6,0,0,0), (17,3,70,90,2,802,117), (20,1,27,0,0,0,0), (21,3,70,92,1,841,123), (24,1,0,0,0,0,0), (25,1,3,3,0,0,0), (26,1,27,0,0,0,0), (27,3,41,1,7,697,13), (30,2,0,7,0,0,0), (32,1,50,0,0,0,0), (33,1,0,1,0,0,0), (34,1,8,0,0,0,0), (35,2,3,4,0,0,0), (37,2,2,4,0,0,0), (39,3,30,102,2,0,0), (42,1,27,0,0,0,0), (43,2,2,4,0,0,0), (45,1,2,1,0,0,0), (46,3,70,111,3,853,108), (49,2,3,5,0,0,0), (51,2,2,5,0,0,0), (53,1,2,2,0,0,0), (54,3,31,69,1,0,0), (57,1,27,0,0,0,0), (58,2,2,4,0,0,0), (60,3,70,114,2,860,126), (63,3,5,3,1,0,0), (66,3,23,96,0,0,0), (69,1,27,0,0,0,0), (70,3,41,1,7,697,13), (73,2,2,4,0,0,0), (75,3,73,110,1,857,101), (78,1,2,1,0,0,0), (79,1,7,0,0,0,0), (80,2,2,5,0,0,0), (82,1,2,2,0,0,0), (83,3,31,93,5,0,0), (86,2,2,5,0,0,0), (88,1,0,1,0,0,0), (89,1,8,0,0,0,0), (90,3,23,95,0,0,0), (93,2,2,5,0,0,0), (95,1,51,0,0,0,0), (96,3,6,4,1,0,0), (99,3,23,37,0,0,0), (102,1,27,0,0,0,0), (103,3,41,1,7,697,13), (106,1,0,5,0,0,0), (107,1,2,1,0,0,0), (108,1,7,0,0,0,0), (109,1,21,0,0,0,0), (110,1,50,0,0,0,0), (111,1,0,1,0,0,0), (112,1,8,0,0,0,0), (113,1,51,0,0,0,0), (114,1,2,1,0,0,0), (115,1,2,2,0,0,0), (116,3,73,94,2,810,66), (119,2,3,4,0,0,0), (121,2,2,4,0,0,0), (123,1,2,1,0,0,0), (124,1,27,0,0,0,0), (125,1,2,1,0,0,0), (126,3,70,95,2,786,83), (129,3,73,94,2,810,66), (132,3,31,158,3,0,0), (135,1,27,0,0,0,0), (136,3,41,1,7,697,13), (139,2,2,4,0,0,0), (141,1,27,0,0,0,0), (142,3,41,1,7,697,13), (145,2,2,4,0,0,0), (147,2,0,13,0,0,0), (149,1,7,0,0,0,0), (150,1,50,0,0,0,0), (151,1,51,0,0,0,0), (152,3,5,4,1,0,0), (155,3,23,121,0,0,0), (158,1,2,1,0,0,0), (159,1,27,0,0,0,0), (160,1,2,1,0,0,0), (161,3,70,95,2,786,83), (164,3,73,94,2,810,66), (167,2,3,4,0,0,0), (169,2,2,4,0,0,0), (171,1,2,1,0,0,0), (172,1,27,0,0,0,0), (173,1,2,1,0,0,0), (174,3,70,95,2,786,83), (177,1,0,1,0,0,0), (178,1,7,0,0,0,0), (179,3,73,94,2,810,66), (182,3,31,199,3,0,0), (185,1,27,0,0,0,0), (186,3,41,1,7,697,13), (189,2,2,4,0,0,0), (191,1,0,0,0,0,0), (192,1,51,0,0,0,0), (193,3,5,4,1,0,0), (196,3,23,169,0,0,0), (199,1,27,0,0,0,0), (200,1,0,0,0,0,0), (201,3,42,4,7,700,54), (204,1,2,3,0,0,0), (205,1,80,0,0,0,0)]
def tb_X7_widths : Tab := [(0,1,27,0,0,0,0), (1,1,2,1,0,0,0), (2,1,2,2,0,0,0), (3,3,70,106,3,868,129), (6,3,30,14,3,0,0), (9,1,27,0,0,0,0), (10,3,70,85,1,794,44), (13,1,80,0,0,0,0), (14,1,27,0,0,0,0), (15,2,0,6,0,0,0), (17,3,70,90,2,802,117), (20,1,27,0,0,0,0), (21,1,2,1,0,0,0), (22,1,2,2,0,0,0), (23,3,70,107,3,872,132), (26,1,3,3,0,0,0), (27,1,2,3,0,0,0), (28,2,1,4,0,0,0), (30,3,31,44,1,0,0), (33,1,27,0,0,0,0), (34,2,0,6,0,0,0), (36,3,70,91,2,771,62), (39,1,27,0,0,0,0), (40,3,70,87,1,798,51), (43,1,80,0,0,0,0), (44,1,27,0,0,0,0), (45,3,70,92,1,841,123), (48,1,2,3,0,0,0), (49,1,80,0,0,0,0)]
def tb_X7_sets : Tab := [(0,1,2,1,0,0,0), (1,1,2,2,0,0,0), (2,3,73,108,2,880,135), (5,3,30,13,3,0,0), (8,1,27,0,0,0,0), (9,3,70,85,1,794,44), (12,1,80,0,0,0,0), (13,1,27,0,0,0,0), (14,2,0,6,0,0,0), (16,3,70,90,2,802,117), (19,1,27,0,0,0,0), (20,3,70,92,1,841,123), (23,1,27,0,0,0,0), (24,1,2,1,0,0,0), (25,1,2,2,0,0,0), (26,3,70,109,3,883,138), (29,1,80,0,0,0,0)]
def tb_X7_ties : Tab := [(0,1,27,0,0,0,0), (1,1,2,1,0,0,0), (2,1,2,2,0,0,0), (3,1,2,3,0,0,0), (4,3,70,112,4,891,141), (7,2,3,4,0,0,0), (9,2,2,4,0,0,0), (11,3,30,21,3,0,0), (14,1,27,0,0,0,0), (15,2,2,4,0,0,0), (17,3,70,88,2,790,114), (20,1,80,0,0,0,0), (21,1,27,0,0,0,0), (22,2,0,6,0,0,0), (24,3,70,90,2,802,117), (27,1,27,0,0,0,0), (28,3,70,92,1,841,123), (31,1,27,0,0,0,0), (32,1,2,1,0,0,0), (33,1,2,2,0,0,0), (34,1,2,3,0,0,0), (35,3,70,113,4,895,144), (38,1,80,0,0,0,0)]
def tb_X7_unties : Tab := [(0,1,2,1,0,0,0), (1,1,0,0,0,0,0), (2,1,27,0,0,0,0), (3,3,41,1,7,697,13), (6,2,0,7,0,0,0), (8,1,50,0,0,0,0), (9,1,0,1,0,0,0), (10,1,8,0,0,0,0), (11,3,73,89,3,779,90), (14,3,30,22,1,0,0), (17,1,27,0,0,0,0), (18,3,70,85,1,794,44), (21,1,80,0,0,0,0), (22,1,27,0,0,0,0), (23,2,0,6,0,0,0), (25,3,70,90,2,802,117), (28,1,27,0,0,0,0), (29,3,70,92,1,841,123), (32,1,27,0,0,0,0), (33,1,2,1,0,0,0), (34,3,70,114,2,860,126), (37,1,27,0,0,0,0), (38,3,41,1,7,697,13), (41,2,0,7,0,0,0), (43,1,50,0,0,0,0), (44,1,80,0,0,0,0)]
def tb_X7_areCrossing : Tab := [(0,1,27,0,0,0,0), (1,1,2,1,0,0,0), (2,1,0,0,0,0,0), (3,3,70,111,3,853,108), (6,1,27,0,0,0,0), (7,1,2,2,0,0,0), (8,1,0,0,0,0,0), (9,3,70,111,3,853,108), (12,1,8,0,0,0,0), (13,1,3,3,0,0,0), (14,1,27,0,0,0,0), (15,1,2,1,0,0,0), (16,1,0,1,0,0,0), (17,3,70,111,3,853,108), (20,1,27,0,0,0,0), (21,1,2,2,0,0,0), (22,1,0,1,0,0,0), (23,3,70,111,3,853,108), (26,1,8,0,0,0,0), (27,2,3,4,0,0,0), (29,1,2,3,0,0,0), (30,3,30,38,3,0,0), (33,2,2,4,0,0,0), (35,3,30,47,4,0,0), (38,1,2,3,0,0,0), (39,3,30,51,5,0,0), (42,2,2,4,0,0,0), (44,3,30,51,3,0,0), (47,1,0,1,0,0,0), (48,3,23,52,0,0,0), (51,1,0,0,0,0,0), (52,1,80,0,0,0,0)]
def tb_X7_isPlain : Tab := [(0,1,0,1,0,0,0), (1,1,3,2,0,0,0), (2,1,0,0,0,0,0), (3,1,3,3,0,0,0), (4,1,2,3,0,0,0), (5,1,27,0,0,0,0), (6,3,41,1,7,697,13), (9,2,0,7,0,0,0), (11,1,50,0,0,0,0), (12,3,31,73,3,0,0), (15,1,0,0,0,0,0), (16,2,3,4,0,0,0), (18,2,2,4,0,0,0), (20,1,2,3,0,0,0), (21,3,31,67,3,0,0), (24,1,2,2,0,0,0), (25,3,30,59,0,0,0), (28,1,2,1,0,0,0), (29,1,2,3,0,0,0), (30,1,13,0,0,0,0), (31,1,0,1,0,0,0), (32,1,10,0,0,0,0), (33,3,30,55,0,0,0), (36,1,2,1,0,0,0), (37,2,2,4,0,0,0), (39,1,13,0,0,0,0), (40,1,0,1,0,0,0), (41,1,10,0,0,0,0), (42,3,30,55,0,0,0), (45,1,27,0,0,0,0), (46,1,2,3,0,0,0), (47,2,2,4,0,0,0), (49,3,70,121,3,923,147), (52,3,30,59,1,0,0), (55,1,0,1,0,0,0), (56,3,23,60,0,0,0), (59,1,0,0,0,0,0), (60,1,3,2,0,0,0), (61,3,5,4,1,0,0), (64,3,23,18,0,0,0), (67,3,5,3,1,0,0), (70,3,23,4,0,0,0), (73,1,2,2,0,0,0), (74,1,80,0,0,0,0)]
def tb_X7_weightOf : Tab := [(0,1,0,0,0,0,0), (1,1,3,3,0,0,0), (2,1,0,0,0,0,0), (3,2,3,4,0,0,0), (5,2,2,4,0,0,0), (7,1,27,0,0,0,0), (8,3,41,1,7,697,13), (11,2,0,7,0,0,0), (13,1,50,0,0,0,0), (14,3,31,54,3,0,0), (17,1,2,3,0,0,0), (18,1,2,1,0,0,0), (19,2,2,4,0,0,0), (21,1,13,0,0,0,0), (22,1,0,1,0,0,0), (23,1,10,0,0,0,0), (24,3,30,31,1,0,0), (27,1,0,0,0,0,0), (28,3,23,46,0,0,0), (31,1,2,2,0,0,0), (32,3,30,39,0,0,0), (35,1,0,1,0,0,0), (36,3,23,46,0,0,0), (39,1,27,0,0,0,0), (40,2,2,4,0,0,0), (42,1,0,2,0,0,0), (43,3,70,111,3,853,108), (46,1,7,0,0,0,0), (47,1,3,3,0,0,0), (48,3,5,4,1,0,0), (51,3,23,5,0,0,0), (54,1,2,3,0,0,0), (55,1,80,0,0,0,0)]
def tb_X7_findsKept : Tab := [(0,1,27,0,0,0,0), (1,1,0,0,0,0,0), (2,3,42,6,7,702,150), (5,1,0,1,0,0,0), (6,1,3,1,0,0,0), (7,1,2,1,0,0,0), (8,1,0,1,0,0,0), (9,1,27,0,0,0,0), (10,3,41,1,7,697,13), (13,2,0,7,0,0,0), (15,1,50,0,0,0,0), (16,1,12,0,0,0,0), (17,3,31,92,3,0,0), (20,1,27,0,0,0,0), (21,1,2,1,0,0,0), (22,1,0,0,0,0,0), (23,3,70,123,3,915,153), (26,1,27,0,0,0,0), (27,1,27,0,0,0,0), (28,3,40,6,7,702,150), (31,1,0,0,0,0,0), (32,3,70,123,3,915,153), (35,1,8,0,0,0,0), (36,1,3,2,0,0,0), (37,1,2,2,0,0,0), (38,3,30,63,4,0,0), (41,1,2,2,0,0,0), (42,3,30,67,1,0,0), (45,1,27,0,0,0,0), (46,1,2,1,0,0,0), (47,1,0,1,0,0,0), (48,3,70,123,3,915,153), (51,1,27,0,0,0,0), (52,1,27,0,0,0,0), (53,3,40,6,7,702,150), (56,1,0,1,0,0,0), (57,3,70,123,3,915,153), (60,3,31,67,5,0,0), (63,1,0,1,0,0,0), (64,3,23,68,0,0,0), (67,1,0,0,0,0,0), (68,1,3,3,0,0,0), (69,1,2,3,0,0,0), (70,3,30,86,0,0,0), (73,1,27,0,0,0,0), (74,1,2,1,0,0,0), (75,3,70,122,2,919,157), (78,3,30,86,0,0,0), (81,1,27,0,0,0,0), (82,1,2,1,0,0,0), (83,3,42,6,7,702,150), (86,3,5,1,1,0,0), (89,3,23,7,0,0,0), (92,1,83,0,0,0,0)]
def tb_X7_findsBreaks : Tab := [(0,1,0,0,0,0,0), (1,1,3,2,0,0,0), (2,1,0,0,0,0,0), (3,1,3,3,0,0,0), (4,1,2,3,0,0,0), (5,2,0,60,0,0,0), (7,3,31,28,4,0,0), (10,1,27,0,0,0,0), (11,3,41,7,7,703,22), (14,2,0,61,0,0,0), (16,1,2,1,0,0,0), (17,1,9,0,0,0,0), (18,1,2,3,0,0,0), (19,1,7,0,0,0,0), (20,1,0,0,0,0,0), (21,1,53,0,0,0,0), (22,3,5,3,1,0,0), (25,3,23,4,0,0,0), (28,1,0,0,0,0,0), (29,1,3,3,0,0,0), (30,1,2,3,0,0,0), (31,1,27,0,0,0,0), (32,1,2,1,0,0,0), (33,3,70,95,2,786,83), (36,3,31,135,3,0,0), (39,1,27,0,0,0,0), (40,1,2,1,0,0,0), (41,1,2,3,0,0,0), (42,3,70,99,3,825,80), (45,2,3,4,0,0,0), (47,1,27,0,0,0,0), (48,3,41,8,7,704,26), (51,2,0,9,0,0,0), (53,1,2,1,0,0,0), (54,1,9,0,0,0,0), (55,1,2,3,0,0,0), (56,1,7,0,0,0,0), (57,1,2,2,0,0,0), (58,1,51,0,0,0,0), (59,1,0,0,0,0,0), (60,2,3,5,0,0,0), (62,2,2,5,0,0,0), (64,2,2,4,0,0,0), (66,3,31,124,3,0,0), (69,1,27,0,0,0,0), (70,3,41,7,7,703,22), (73,2,0,61,0,0,0), (75,1,2,1,0,0,0), (76,1,9,0,0,0,0), (77,1,2,2,0,0,0), (78,1,7,0,0,0,0), (79,2,2,5,0,0,0), (81,1,7,0,0,0,0), (82,2,2,5,0,0,0), (84,3,30,112,0,0,0), (87,2,2,5,0,0,0), (89,1,27,0,0,0,0), (90,3,41,1,7,697,13), (93,1,0,3,0,0,0), (94,1,50,0,0,0,0), (95,3,31,116,2,0,0), (98,2,2,4,0,0,0), (100,2,2,5,0,0,0), (102,1,8,0,0,0,0), (103,1,27,0,0,0,0), (104,3,41,1,7,697,13), (107,1,0,3,0,0,0), (108,1,50,0,0,0,0), (109,3,31,116,2,0,0), (112,1,0,1,0,0,0), (113,3,23,117,0,0,0), (116,1,0,0,0,0,0), (117,1,53,0,0,0,0), (118,3,5,5,1,0,0), (121,3,23,62,0,0,0), (124,1,2,2,0,0,0), (125,2,2,4,0,0,0), (127,1,7,0,0,0,0), (128,1,3,2,0,0,0), (129,3,5,3,1,0,0), (132,3,23,30,0,0,0), (135,1,27,0,0,0,0), (136,3,41,8,7,704,26), (139,2,0,9,0,0,0), (141,1,2,1,0,0,0), (142,1,9,0,0,0,0), (143,1,27,0,0,0,0), (144,1,2,1,0,0,0), (145,3,70,95,2,786,83), (148,1,7,0,0,0,0), (149,1,2,2,0,0,0), (150,1,51,0,0,0,0), (151,1,27,0,0,0,0), (152,3,41,7,7,703,22), (155,2,0,61,0,0,0), (157,1,2,1,0,0,0), (158,1,9,0,0,0,0), (159,1,2,2,0,0,0), (160,1,7,0,0,0,0), (161,1,0,1,0,0,0), (162,1,53,0,0,0,0), (163,1,83,0,0,0,0)]
def tb_X7_all : Tab := [(0,1,27,0,0,0,0), (1,3,41,8,7,704,26), (4,2,0,9,0,0,0), (6,1,2,1,0,0,0), (7,1,9,0,0,0,0), (8,1,27,0,0,0,0), (9,1,2,1,0,0,0), (10,3,70,95,2,786,83), (13,1,7,0,0,0,0), (14,1,50,0,0,0,0), (15,1,80,0,0,0,0)]
def tb_X7_costOf : Tab := [(0,1,27,0,0,0,0), (1,3,41,1,7,697,13), (4,1,0,2,0,0,0), (5,1,50,0,0,0,0), (6,1,2,1,0,0,0), (7,1,8,0,0,0,0), (8,1,3,3,0,0,0), (9,1,27,0,0,0,0), (10,3,41,1,7,697,13), (13,1,0,2,0,0,0), (14,1,50,0,0,0,0), (15,1,2,2,0,0,0), (16,1,8,0,0,0,0), (17,2,3,4,0,0,0), (19,1,2,3,0,0,0), (20,1,2,3,0,0,0), (21,1,9,0,0,0,0), (22,2,2,4,0,0,0), (24,2,2,4,0,0,0), (26,1,9,0,0,0,0), (27,1,7,0,0,0,0), (28,1,27,0,0,0,0), (29,3,41,1,7,697,13), (32,1,0,4,0,0,0), (33,1,50,0,0,0,0), (34,1,2,3,0,0,0), (35,2,2,4,0,0,0), (37,1,8,0,0,0,0), (38,1,9,0,0,0,0), (39,1,2,3,0,0,0), (40,2,2,4,0,0,0), (42,1,8,0,0,0,0), (43,1,9,0,0,0,0), (44,1,7,0,0,0,0), (45,1,80,0,0,0,0)]
def tb_X7_areTied : Tab := [(0,1,0,1,0,0,0), (1,2,3,5,0,0,0), (3,1,0,0,0,0,0), (4,2,3,6,0,0,0), (6,2,2,6,0,0,0), (8,1,27,0,0,0,0), (9,3,41,1,7,697,13), (12,2,0,7,0,0,0), (14,1,50,0,0,0,0), (15,3,31,105,3,0,0), (18,1,27,0,0,0,0), (19,3,41,8,7,704,26), (22,1,27,0,0,0,0), (23,2,2,6,0,0,0), (25,1,0,0,0,0,0), (26,3,70,111,3,853,108), (29,1,50,0,0,0,0), (30,1,2,1,0,0,0), (31,1,2,1,0,0,0), (32,1,2,2,0,0,0), (33,1,7,0,0,0,0), (34,1,0,1,0,0,0), (35,1,8,0,0,0,0), (36,3,73,89,3,779,90), (39,2,3,7,0,0,0), (41,1,27,0,0,0,0), (42,3,41,8,7,704,26), (45,2,0,9,0,0,0), (47,1,27,0,0,0,0), (48,2,2,6,0,0,0), (50,1,0,1,0,0,0), (51,3,70,111,3,853,108), (54,1,7,0,0,0,0), (55,1,50,0,0,0,0), (56,1,2,3,0,0,0), (57,1,2,3,0,0,0), (58,2,2,4,0,0,0), (60,1,7,0,0,0,0), (61,1,0,1,0,0,0), (62,1,8,0,0,0,0), (63,3,73,89,3,779,90), (66,2,3,8,0,0,0), (68,2,2,5,0,0,0), (70,3,30,96,0,0,0), (73,1,27,0,0,0,0), (74,3,40,6,7,702,150), (77,2,2,6,0,0,0), (79,1,13,0,0,0,0), (80,1,0,1,0,0,0), (81,1,10,0,0,0,0), (82,3,30,92,0,0,0), (85,2,2,7,0,0,0), (87,2,2,8,0,0,0), (89,3,31,96,1,0,0), (92,1,0,1,0,0,0), (93,3,23,97,0,0,0), (96,1,0,0,0,0,0), (97,2,3,5,0,0,0), (99,3,5,6,1,0,0), (102,3,23,6,0,0,0), (105,2,2,5,0,0,0), (107,1,80,0,0,0,0)]
def tb_X7_canTake : Tab := [(0,1,2,2,0,0,0), (1,2,2,4,0,0,0), (3,1,7,0,0,0,0), (4,3,30,93,5,0,0), (7,1,2,1,0,0,0), (8,1,2,2,0,0,0), (9,1,7,0,0,0,0), (10,1,27,0,0,0,0), (11,1,0,0,0,0,0), (12,3,70,126,2,931,161), (15,3,31,93,4,0,0), (18,1,2,3,0,0,0), (19,2,2,4,0,0,0), (21,1,7,0,0,0,0), (22,1,27,0,0,0,0), (23,1,0,1,0,0,0), (24,3,70,126,2,931,161), (27,3,31,93,4,0,0), (30,1,27,0,0,0,0), (31,3,41,7,7,703,22), (34,1,2,1,0,0,0), (35,1,2,2,0,0,0), (36,1,7,0,0,0,0), (37,1,52,0,0,0,0), (38,3,30,93,0,0,0), (41,1,27,0,0,0,0), (42,3,41,7,7,703,22), (45,2,0,61,0,0,0), (47,1,2,3,0,0,0), (48,1,7,0,0,0,0), (49,2,2,4,0,0,0), (51,1,7,0,0,0,0), (52,1,52,0,0,0,0), (53,3,30,93,0,0,0), (56,1,27,0,0,0,0), (57,3,41,9,7,705,29), (60,2,0,61,0,0,0), (62,1,2,1,0,0,0), (63,1,2,2,0,0,0), (64,1,7,0,0,0,0), (65,1,9,0,0,0,0), (66,1,2,3,0,0,0), (67,1,7,0,0,0,0), (68,2,2,4,0,0,0), (70,1,7,0,0,0,0), (71,1,50,0,0,0,0), (72,2,0,1000000000,0,939,164), (74,3,31,93,3,0,0), (77,1,27,0,0,0,0), (78,1,2,1,0,0,0), (79,1,2,2,0,0,0), (80,1,2,3,0,0,0), (81,2,2,4,0,0,0), (83,3,70,128,5,944,165), (86,3,30,93,0,0,0), (89,1,0,1,0,0,0), (90,3,23,94,0,0,0), (93,1,0,0,0,0,0), (94,1,80,0,0,0,0)]
def tb_X7_costWith : Tab := [(0,1,2,1,0,0,0), (1,1,2,2,0,0,0), (2,1,7,0,0,0,0), (3,1,27,0,0,0,0), (4,1,0,0,0,0,0), (5,3,70,126,2,931,161), (8,3,31,27,1,0,0), (11,1,2,3,0,0,0), (12,2,2,4,0,0,0), (14,1,7,0,0,0,0), (15,1,27,0,0,0,0), (16,1,0,1,0,0,0), (17,3,70,126,2,931,161), (20,3,31,27,1,0,0), (23,1,0,1,0,0,0), (24,3,23,28,0,0,0), (27,1,0,0,0,0,0), (28,2,3,5,0,0,0), (30,1,27,0,0,0,0), (31,3,41,9,7,705,29), (34,2,0,61,0,0,0), (36,1,2,1,0,0,0), (37,1,2,2,0,0,0), (38,1,7,0,0,0,0), (39,1,9,0,0,0,0), (40,1,2,3,0,0,0), (41,1,7,0,0,0,0), (42,2,2,4,0,0,0), (44,1,7,0,0,0,0), (45,1,50,0,0,0,0), (46,2,2,5,0,0,0), (48,3,30,55,0,0,0), (51,1,0,0,0,0,0), (52,3,23,62,0,0,0), (55,1,27,0,0,0,0), (56,1,2,2,0,0,0), (57,2,2,4,0,0,0), (59,3,70,127,3,952,169), (62,1,7,0,0,0,0), (63,1,80,0,0,0,0)]
def tb_X7_finds : Tab := [(0,2,0,61,0,0,0), (2,1,2,1,0,0,0), (3,1,9,0,0,0,0), (4,1,2,2,0,0,0), (5,1,7,0,0,0,0), (6,1,3,3,0,0,0), (7,1,27,0,0,0,0), (8,3,41,9,7,705,29), (11,1,2,3,0,0,0), (12,2,0,1000000000,0,939,164), (14,1,51,0,0,0,0), (15,1,27,0,0,0,0), (16,3,41,10,7,706,32), (19,1,2,3,0,0,0), (20,2,0,1000000000,0,939,164), (22,1,51,0,0,0,0), (23,1,0,0,0,0,0), (24,2,3,4,0,0,0), (26,2,2,4,0,0,0), (28,1,27,0,0,0,0), (29,3,41,1,7,697,13), (32,1,0,2,0,0,0), (33,1,50,0,0,0,0), (34,3,31,193,4,0,0), (37,1,0,0,0,0,0), (38,2,3,5,0,0,0), (40,2,2,5,0,0,0), (42,1,27,0,0,0,0), (43,3,41,1,7,697,13), (46,1,0,2,0,0,0), (47,1,50,0,0,0,0), (48,3,31,187,4,0,0), (51,1,27,0,0,0,0), (52,1,2,1,0,0,0), (53,2,2,4,0,0,0), (55,1,2,2,0,0,0), (56,2,2,5,0,0,0), (58,3,70,129,5,940,172), (61,3,30,181,0,0,0), (64,1,27,0,0,0,0), (65,1,2,1,0,0,0), (66,2,2,4,0,0,0), (68,1,2,2,0,0,0), (69,2,2,5,0,0,0), (71,3,70,130,5,948,175), (74,2,3,6,0,0,0), (76,1,27,0,0,0,0), (77,3,41,10,7,706,32), (80,2,0,61,0,0,0), (82,1,2,1,0,0,0), (83,2,2,4,0,0,0), (85,1,7,0,0,0,0), (86,1,9,0,0,0,0), (87,1,2,2,0,0,0), (88,1,7,0,0,0,0), (89,2,2,5,0,0,0), (91,1,7,0,0,0,0), (92,1,50,0,0,0,0), (93,1,0,1,0,0,0), (94,1,7,0,0,0,0), (95,2,3,7,0,0,0), (97,2,2,6,0,0,0), (99,1,27,0,0,0,0), (100,3,41,9,7,705,29), (103,1,2,3,0,0,0), (104,1,50,0,0,0,0), (105,3,31,130,2,0,0), (108,2,2,6,0,0,0), (110,1,27,0,0,0,0), (111,3,41,9,7,705,29), (114,1,2,3,0,0,0), (115,1,50,0,0,0,0), (116,3,31,134,1,0,0), (119,2,2,7,0,0,0), (121,1,27,0,0,0,0), (122,3,41,10,7,706,32), (125,1,2,3,0,0,0), (126,1,50,0,0,0,0), (127,3,31,134,3,0,0), (130,1,0,1,0,0,0), (131,3,23,135,0,0,0), (134,1,0,0,0,0,0), (135,2,3,8,0,0,0), (137,1,27,0,0,0,0), (138,3,41,9,7,705,29), (141,1,2,3,0,0,0), (142,2,2,8,0,0,0), (144,3,30,152,0,0,0), (147,2,2,6,0,0,0), (149,3,23,158,0,0,0), (152,1,27,0,0,0,0), (153,3,41,9,7,705,29), (156,1,2,3,0,0,0), (157,1,50,0,0,0,0), (158,1,51,0,0,0,0), (159,1,27,0,0,0,0), (160,3,41,10,7,706,32), (163,1,2,3,0,0,0), (164,2,2,8,0,0,0), (166,3,30,174,0,0,0), (169,2,2,7,0,0,0), (171,3,23,180,0,0,0), (174,1,27,0,0,0,0), (175,3,41,10,7,706,32), (178,1,2,3,0,0,0), (179,1,50,0,0,0,0), (180,1,51,0,0,0,0), (181,3,5,5,1,0,0), (184,3,23,40,0,0,0), (187,3,5,4,1,0,0), (190,3,23,26,0,0,0), (193,1,83,0,0,0,0)]
def tb_X7_follows : Tab := [(0,1,0,0,0,0,0), (1,1,3,1,0,0,0), (2,1,0,0,0,0,0), (3,1,3,2,0,0,0), (4,1,27,0,0,0,0), (5,1,0,0,0,0,0), (6,3,42,11,7,707,179), (9,1,2,1,0,0,0), (10,1,27,0,0,0,0), (11,1,0,0,0,0,0), (12,3,70,126,2,931,161), (15,3,31,27,2,0,0), (18,1,2,2,0,0,0), (19,1,27,0,0,0,0), (20,1,0,1,0,0,0), (21,3,70,126,2,931,161), (24,3,31,223,3,0,0), (27,2,0,61,0,0,0), (29,1,2,1,0,0,0), (30,1,9,0,0,0,0), (31,1,2,2,0,0,0), (32,1,7,0,0,0,0), (33,1,3,3,0,0,0), (34,1,1,1,0,0,0), (35,2,3,4,0,0,0), (37,1,0,0,0,0,0), (38,2,3,5,0,0,0), (40,2,2,5,0,0,0), (42,3,0,169,0,0,0), (45,3,31,166,3,0,0), (48,2,2,5,0,0,0), (50,2,0,13,0,0,0), (52,1,25,0,0,0,0), (53,2,3,6,0,0,0), (55,2,2,5,0,0,0), (57,2,0,13,0,0,0), (59,1,26,0,0,0,0), (60,2,3,7,0,0,0), (62,2,2,6,0,0,0), (64,1,27,0,0,0,0), (65,3,41,1,7,697,13), (68,1,0,2,0,0,0), (69,1,50,0,0,0,0), (70,3,31,101,4,0,0), (73,2,2,7,0,0,0), (75,1,27,0,0,0,0), (76,3,41,1,7,697,13), (79,1,0,2,0,0,0), (80,1,50,0,0,0,0), (81,3,31,101,4,0,0), (84,1,27,0,0,0,0), (85,1,2,1,0,0,0), (86,2,2,6,0,0,0), (88,1,2,2,0,0,0), (89,2,2,7,0,0,0), (91,3,70,129,5,940,172), (94,3,30,101,0,0,0), (97,1,0,1,0,0,0), (98,3,23,102,0,0,0), (101,1,0,0,0,0,0), (102,2,3,8,0,0,0), (104,2,2,8,0,0,0), (106,3,30,160,0,0,0), (109,1,27,0,0,0,0), (110,1,2,1,0,0,0), (111,2,2,6,0,0,0), (113,1,2,2,0,0,0), (114,2,2,7,0,0,0), (116,3,70,130,5,948,175), (119,1,27,0,0,0,0), (120,3,41,9,7,705,29), (123,1,2,3,0,0,0), (124,1,50,0,0,0,0), (125,3,31,160,1,0,0), (128,1,27,0,0,0,0), (129,3,41,10,7,706,32), (132,2,0,61,0,0,0), (134,1,2,1,0,0,0), (135,2,2,6,0,0,0), (137,1,7,0,0,0,0), (138,1,9,0,0,0,0), (139,1,2,2,0,0,0), (140,1,7,0,0,0,0), (141,2,2,7,0,0,0), (143,1,7,0,0,0,0), (144,1,50,0,0,0,0), (145,1,0,1,0,0,0), (146,1,7,0,0,0,0), (147,1,27,0,0,0,0), (148,3,41,10,7,706,32), (151,1,2,3,0,0,0), (152,1,50,0,0,0,0), (153,3,31,160,1,0,0), (156,2,2,5,0,0,0), (158,2,3,4,0,0,0), (160,3,5,5,1,0,0), (163,3,23,40,0,0,0), (166,1,27,0,0,0,0), (167,3,41,13,7,709,35), (170,1,27,0,0,0,0), (171,3,40,11,7,707,179), (174,2,2,4,0,0,0), (176,2,0,13,0,0,0), (178,1,25,0,0,0,0), (179,1,51,0,0,0,0), (180,1,27,0,0,0,0), (181,3,41,14,7,710,38), (184,1,27,0,0,0,0), (185,3,40,11,7,707,179), (188,2,2,4,0,0,0), (190,2,0,13,0,0,0), (192,1,26,0,0,0,0), (193,1,51,0,0,0,0), (194,1,2,1,0,0,0), (195,2,2,4,0,0,0), (197,2,0,13,0,0,0), (199,1,25,0,0,0,0), (200,1,7,0,0,0,0), (201,1,3,1,0,0,0), (202,1,2,2,0,0,0), (203,2,2,4,0,0,0), (205,2,0,13,0,0,0), (207,1,26,0,0,0,0), (208,1,7,0,0,0,0), (209,1,3,2,0,0,0), (210,1,27,0,0,0,0), (211,1,20,0,0,0,0), (212,3,40,11,7,707,179), (215,1,0,1,0,0,0), (216,1,7,0,0,0,0), (217,3,42,11,7,707,179), (220,3,23,9,0,0,0), (223,1,83,0,0,0,0)]
def tb_X7_lays : Tab := [(0,1,27,0,0,0,0), (1,3,40,4,7,700,54), (4,3,30,8,0,0,0), (7,1,83,0,0,0,0), (8,1,27,0,0,0,0), (9,1,0,1,0,0,0), (10,3,42,4,7,700,54), (13,1,27,0,0,0,0), (14,3,70,124,1,911,182), (17,1,27,0,0,0,0), (18,1,0,0,0,0,0), (19,3,70,125,2,927,185), (22,1,27,0,0,0,0), (23,1,0,1,0,0,0), (24,3,70,125,2,927,185), (27,1,27,0,0,0,0), (28,1,0,0,0,0,0), (29,3,70,126,2,931,161), (32,1,3,1,0,0,0), (33,1,2,1,0,0,0), (34,3,30,107,2,0,0), (37,1,27,0,0,0,0), (38,1,0,1,0,0,0), (39,3,70,126,2,931,161), (42,1,3,2,0,0,0), (43,1,2,2,0,0,0), (44,3,30,101,2,0,0), (47,1,27,0,0,0,0), (48,1,2,1,0,0,0), (49,1,2,2,0,0,0), (50,3,70,131,3,935,188), (53,1,2,1,0,0,0), (54,1,27,0,0,0,0), (55,1,0,0,0,0,0), (56,3,70,126,2,931,161), (59,3,31,95,1,0,0), (62,1,2,2,0,0,0), (63,1,27,0,0,0,0), (64,1,0,1,0,0,0), (65,3,70,126,2,931,161), (68,3,31,95,1,0,0), (71,1,27,0,0,0,0), (72,3,41,9,7,705,29), (75,2,0,61,0,0,0), (77,1,2,1,0,0,0), (78,1,9,0,0,0,0), (79,1,2,2,0,0,0), (80,1,7,0,0,0,0), (81,1,0,0,0,0,0), (82,1,51,0,0,0,0), (83,1,27,0,0,0,0), (84,3,41,10,7,706,32), (87,2,0,61,0,0,0), (89,1,2,1,0,0,0), (90,1,9,0,0,0,0), (91,1,2,2,0,0,0), (92,1,7,0,0,0,0), (93,1,0,0,0,0,0), (94,1,51,0,0,0,0), (95,3,6,2,1,0,0), (98,3,23,43,0,0,0), (101,3,6,1,1,0,0), (104,3,23,33,0,0,0), (107,1,27,0,0,0,0), (108,1,27,0,0,0,0), (109,3,41,9,7,705,29), (112,1,0,0,0,0,0), (113,1,50,0,0,0,0), (114,2,0,1000000000,0,939,164), (116,3,31,123,1,0,0), (119,1,1,1,0,0,0), (120,3,23,129,0,0,0), (123,1,27,0,0,0,0), (124,3,41,9,7,705,29), (127,1,0,0,0,0,0), (128,1,50,0,0,0,0), (129,3,42,12,7,708,192), (132,1,27,0,0,0,0), (133,3,40,12,7,708,192), (136,1,1,1,0,0,0), (137,3,31,148,1,0,0), (140,1,27,0,0,0,0), (141,1,1,1,0,0,0), (142,3,42,11,7,707,179), (145,3,23,152,0,0,0), (148,1,27,0,0,0,0), (149,3,70,132,1,956,195), (152,1,83,0,0,0,0)]
def tb_X7_openingOf : Tab := [(0,1,0,0,0,0,0), (1,1,3,3,0,0,0), (2,1,1,1,0,0,0), (3,2,3,4,0,0,0), (5,1,0,0,0,0,0), (6,2,3,5,0,0,0), (8,2,2,5,0,0,0), (10,1,27,0,0,0,0), (11,3,40,11,7,707,179), (14,3,31,74,3,0,0), (17,1,2,1,0,0,0), (18,3,30,31,1,0,0), (21,1,27,0,0,0,0), (22,3,41,13,7,709,35), (25,2,2,5,0,0,0), (27,1,50,0,0,0,0), (28,3,23,38,0,0,0), (31,1,27,0,0,0,0), (32,3,41,14,7,710,38), (35,2,2,5,0,0,0), (37,1,50,0,0,0,0), (38,2,3,6,0,0,0), (40,1,2,2,0,0,0), (41,1,2,3,0,0,0), (42,1,2,3,0,0,0), (43,2,2,6,0,0,0), (45,1,7,0,0,0,0), (46,1,0,1,0,0,0), (47,1,8,0,0,0,0), (48,3,73,89,3,779,90), (51,3,30,59,0,0,0), (54,2,2,5,0,0,0), (56,3,23,61,0,0,0), (59,2,2,4,0,0,0), (61,2,3,4,0,0,0), (63,1,2,3,0,0,0), (64,2,2,6,0,0,0), (66,1,7,0,0,0,0), (67,1,3,3,0,0,0), (68,3,5,5,1,0,0), (71,3,23,8,0,0,0), (74,2,2,4,0,0,0), (76,1,80,0,0,0,0)]
def tb_X7_ofPara : Tab := [(0,1,2,3,0,0,0), (1,31,32,7,0,0,0), (32,1,27,0,0,0,0), (33,1,2,1,0,0,0), (34,1,2,2,0,0,0), (35,3,70,96,3,829,74), (38,1,80,0,0,0,0), (39,1,27,0,0,0,0), (40,1,2,1,0,0,0), (41,1,2,2,0,0,0), (42,3,70,99,3,825,80), (45,1,80,0,0,0,0), (46,1,27,0,0,0,0), (47,1,2,1,0,0,0), (48,1,2,2,0,0,0), (49,3,70,100,3,821,87), (52,1,80,0,0,0,0), (53,1,27,0,0,0,0), (54,1,2,1,0,0,0), (55,1,27,0,0,0,0), (56,1,2,1,0,0,0), (57,1,2,2,0,0,0), (58,3,70,100,3,821,87), (61,3,70,134,3,964,198), (64,1,80,0,0,0,0), (65,1,27,0,0,0,0), (66,1,2,1,0,0,0), (67,1,27,0,0,0,0), (68,1,2,1,0,0,0), (69,1,2,2,0,0,0), (70,1,0,1,0,0,0), (71,1,7,0,0,0,0), (72,3,70,100,3,821,87), (75,1,0,1,0,0,0), (76,1,8,0,0,0,0), (77,3,70,134,3,964,198), (80,1,80,0,0,0,0)]
def tb_X7_of : Tab := [(0,1,27,0,0,0,0), (1,1,2,1,0,0,0), (2,1,2,2,0,0,0), (3,3,70,102,3,849,104), (6,3,30,18,0,0,0), (9,1,2,3,0,0,0), (10,1,0,0,0,0,0), (11,1,0,4,0,0,0), (12,3,73,89,3,779,90), (15,3,30,23,1,0,0), (18,1,27,0,0,0,0), (19,3,70,85,1,794,44), (22,1,80,0,0,0,0), (23,1,27,0,0,0,0), (24,3,70,133,1,907,201), (27,1,27,0,0,0,0), (28,1,2,1,0,0,0), (29,1,2,2,0,0,0), (30,1,2,3,0,0,0), (31,3,70,135,4,960,204), (34,1,80,0,0,0,0)]
def tb_X7_word : Tab := [(0,1,27,0,0,0,0), (1,1,2,1,0,0,0), (2,1,2,2,0,0,0), (3,3,70,102,3,849,104), (6,3,30,35,0,0,0), (9,2,2,4,0,0,0), (11,1,0,0,0,0,0), (12,1,0,1,0,0,0), (13,3,73,89,3,779,90), (16,3,30,35,0,0,0), (19,1,2,3,0,0,0), (20,1,0,0,0,0,0), (21,1,27,0,0,0,0), (22,1,2,1,0,0,0), (23,1,2,2,0,0,0), (24,3,70,96,3,829,74), (27,1,0,1,0,0,0), (28,1,8,0,0,0,0), (29,3,73,89,3,779,90), (32,3,30,40,1,0,0), (35,1,27,0,0,0,0), (36,3,70,85,1,794,44), (39,1,80,0,0,0,0), (40,2,2,4,0,0,0), (42,3,30,55,1,0,0), (45,1,27,0,0,0,0), (46,1,2,1,0,0,0), (47,1,2,2,0,0,0), (48,1,2,3,0,0,0), (49,3,70,97,4,837,70), (52,3,23,62,0,0,0), (55,1,27,0,0,0,0), (56,1,2,1,0,0,0), (57,1,2,2,0,0,0), (58,1,2,3,0,0,0), (59,3,70,98,4,833,77), (62,1,80,0,0,0,0)]
def tb_X7_crosses : Tab := [(0,1,0,0,0,0,0), (1,1,3,2,0,0,0), (2,1,0,0,0,0,0), (3,1,3,3,0,0,0), (4,1,2,3,0,0,0), (5,1,27,0,0,0,0), (6,3,41,1,7,697,13), (9,2,0,7,0,0,0), (11,1,50,0,0,0,0), (12,3,31,38,3,0,0), (15,1,2,2,0,0,0), (16,1,27,0,0,0,0), (17,1,2,1,0,0,0), (18,1,2,3,0,0,0), (19,3,70,121,3,923,147), (22,3,30,29,0,0,0), (25,1,0,1,0,0,0), (26,3,23,30,0,0,0), (29,1,0,0,0,0,0), (30,1,7,0,0,0,0), (31,1,3,2,0,0,0), (32,3,5,3,1,0,0), (35,3,23,4,0,0,0), (38,1,2,2,0,0,0), (39,1,80,0,0,0,0)]
def tb_X7_tieIs : Tab := [(0,1,2,2,0,0,0), (1,1,0,3,0,0,0), (2,3,31,14,3,0,0), (5,1,27,0,0,0,0), (6,1,2,1,0,0,0), (7,1,2,2,0,0,0), (8,3,70,111,3,853,108), (11,3,23,35,0,0,0), (14,1,2,2,0,0,0), (15,1,0,3,0,0,0), (16,3,31,30,1,0,0), (19,1,27,0,0,0,0), (20,3,40,6,7,702,150), (23,1,2,1,0,0,0), (24,1,13,0,0,0,0), (25,1,0,1,0,0,0), (26,1,10,0,0,0,0), (27,3,23,35,0,0,0), (30,1,27,0,0,0,0), (31,1,2,1,0,0,0), (32,3,70,138,2,980,207), (35,1,80,0,0,0,0)]
def tb_X7_tie : Tab := [(0,1,2,1,0,0,0), (1,1,0,0,0,0,0), (2,1,27,0,0,0,0), (3,3,41,1,7,697,13), (6,2,0,7,0,0,0), (8,1,50,0,0,0,0), (9,1,0,1,0,0,0), (10,1,8,0,0,0,0), (11,3,73,89,3,779,90), (14,3,30,26,0,0,0), (17,1,2,2,0,0,0), (18,1,0,0,0,0,0), (19,1,0,4,0,0,0), (20,3,73,89,3,779,90), (23,3,30,31,1,0,0), (26,1,27,0,0,0,0), (27,3,70,85,1,794,44), (30,1,80,0,0,0,0), (31,1,27,0,0,0,0), (32,3,70,133,1,907,201), (35,1,27,0,0,0,0), (36,1,2,1,0,0,0), (37,1,2,2,0,0,0), (38,3,70,139,3,976,210), (41,1,80,0,0,0,0)]
def tb_X7_crossing : Tab := [(0,1,2,1,0,0,0), (1,3,30,13,2,0,0), (4,1,2,2,0,0,0), (5,1,0,0,0,0,0), (6,1,0,1,0,0,0), (7,3,73,89,3,779,90), (10,3,30,18,1,0,0), (13,1,27,0,0,0,0), (14,3,70,85,1,794,44), (17,1,80,0,0,0,0), (18,1,2,1,0,0,0), (19,1,3,3,0,0,0), (20,1,0,0,0,0,0), (21,2,3,4,0,0,0), (23,2,2,4,0,0,0), (25,2,0,10,0,0,0), (27,1,27,0,0,0,0), (28,3,41,1,7,697,13), (31,2,0,7,0,0,0), (33,1,50,0,0,0,0), (34,1,9,0,0,0,0), (35,3,31,107,3,0,0), (38,2,2,4,0,0,0), (40,2,0,10,0,0,0), (42,1,25,0,0,0,0), (43,2,3,5,0,0,0), (45,2,2,4,0,0,0), (47,2,0,10,0,0,0), (49,1,26,0,0,0,0), (50,2,3,6,0,0,0), (52,2,2,5,0,0,0), (54,2,2,6,0,0,0), (56,3,31,101,3,0,0), (59,2,2,6,0,0,0), (61,1,27,0,0,0,0), (62,3,41,1,7,697,13), (65,2,0,7,0,0,0), (67,1,50,0,0,0,0), (68,3,31,101,3,0,0), (71,1,27,0,0,0,0), (72,2,2,5,0,0,0), (74,2,2,6,0,0,0), (76,3,70,121,3,923,147), (79,3,30,101,0,0,0), (82,1,2,3,0,0,0), (83,3,30,98,1,0,0), (86,1,2,2,0,0,0), (87,3,30,95,1,0,0), (90,2,2,5,0,0,0), (92,3,23,97,0,0,0), (95,2,2,6,0,0,0), (97,1,80,0,0,0,0), (98,3,6,3,1,0,0), (101,3,5,4,1,0,0), (104,3,23,23,0,0,0), (107,1,1,1,0,0,0), (108,1,80,0,0,0,0)]
def tb_X7_lawful : Tab := [(0,1,2,1,0,0,0), (1,1,0,0,0,0,0), (2,1,0,1,0,0,0), (3,3,73,89,3,779,90), (6,3,30,22,0,0,0), (9,1,2,2,0,0,0), (10,1,0,0,0,0,0), (11,1,27,0,0,0,0), (12,1,2,1,0,0,0), (13,3,70,101,2,817,94), (16,3,73,89,3,779,90), (19,3,30,27,1,0,0), (22,1,27,0,0,0,0), (23,3,70,85,1,794,44), (26,1,80,0,0,0,0), (27,1,27,0,0,0,0), (28,3,70,133,1,907,201), (31,1,27,0,0,0,0), (32,3,41,7,7,703,22), (35,2,0,61,0,0,0), (37,1,2,1,0,0,0), (38,1,9,0,0,0,0), (39,1,2,2,0,0,0), (40,1,7,0,0,0,0), (41,1,52,0,0,0,0), (42,3,30,49,0,0,0), (45,1,0,1,0,0,0), (46,3,23,50,0,0,0), (49,1,0,0,0,0,0), (50,1,80,0,0,0,0)]
def tb_X7_openingIs : Tab := [(0,1,0,0,0,0,0), (1,1,3,3,0,0,0), (2,1,0,0,0,0,0), (3,2,3,4,0,0,0), (5,1,0,0,0,0,0), (6,2,3,5,0,0,0), (8,2,2,5,0,0,0), (10,1,2,1,0,0,0), (11,3,31,42,3,0,0), (14,1,2,3,0,0,0), (15,1,27,0,0,0,0), (16,3,41,13,7,709,35), (19,2,2,5,0,0,0), (21,1,50,0,0,0,0), (22,1,7,0,0,0,0), (23,1,3,3,0,0,0), (24,2,2,4,0,0,0), (26,1,27,0,0,0,0), (27,3,41,14,7,710,38), (30,2,2,5,0,0,0), (32,1,50,0,0,0,0), (33,1,7,0,0,0,0), (34,2,3,4,0,0,0), (36,3,5,5,1,0,0), (39,3,23,8,0,0,0), (42,1,2,2,0,0,0), (43,29,32,8,0,0,0), (72,1,2,3,0,0,0), (73,1,80,0,0,0,0), (74,1,27,0,0,0,0), (75,3,41,13,7,709,35), (78,1,2,1,0,0,0), (79,1,50,0,0,0,0), (80,1,80,0,0,0,0), (81,2,2,4,0,0,0), (83,1,80,0,0,0,0), (84,1,27,0,0,0,0), (85,3,41,14,7,710,38), (88,1,2,1,0,0,0), (89,1,50,0,0,0,0), (90,1,80,0,0,0,0), (91,1,2,1,0,0,0), (92,1,27,0,0,0,0), (93,3,40,11,7,707,179), (96,1,0,1,0,0,0), (97,1,8,0,0,0,0), (98,3,31,105,1,0,0), (101,1,0,0,0,0,0), (102,3,23,121,0,0,0), (105,1,27,0,0,0,0), (106,1,27,0,0,0,0), (107,3,41,13,7,709,35), (110,1,2,1,0,0,0), (111,1,50,0,0,0,0), (112,1,27,0,0,0,0), (113,3,41,14,7,710,38), (116,1,2,1,0,0,0), (117,1,50,0,0,0,0), (118,3,70,127,3,952,169), (121,1,80,0,0,0,0)]
def tb_X7_opening : Tab := [(0,1,2,1,0,0,0), (1,3,30,13,2,0,0), (4,1,2,2,0,0,0), (5,1,0,0,0,0,0), (6,1,0,4,0,0,0), (7,3,73,89,3,779,90), (10,3,30,18,1,0,0), (13,1,27,0,0,0,0), (14,3,70,85,1,794,44), (17,1,80,0,0,0,0), (18,1,27,0,0,0,0), (19,3,70,133,1,907,201), (22,1,2,1,0,0,0), (23,1,27,0,0,0,0), (24,3,40,11,7,707,179), (27,3,31,39,3,0,0), (30,1,27,0,0,0,0), (31,1,2,1,0,0,0), (32,1,2,2,0,0,0), (33,3,70,143,3,996,213), (36,3,23,40,0,0,0), (39,1,1,1,0,0,0), (40,1,80,0,0,0,0)]
def tb_X7_crossings : Tab := [(0,1,0,0,0,0,0), (1,1,3,1,0,0,0), (2,1,0,0,0,0,0), (3,1,3,2,0,0,0), (4,1,2,2,0,0,0), (5,1,27,0,0,0,0), (6,3,41,1,7,697,13), (9,2,0,7,0,0,0), (11,1,50,0,0,0,0), (12,3,31,29,3,0,0), (15,1,2,1,0,0,0), (16,1,27,0,0,0,0), (17,1,2,2,0,0,0), (18,3,70,138,2,980,207), (21,1,7,0,0,0,0), (22,1,3,1,0,0,0), (23,3,5,2,1,0,0), (26,3,23,4,0,0,0), (29,1,2,1,0,0,0), (30,1,0,2,0,0,0), (31,1,25,0,0,0,0), (32,1,80,0,0,0,0)]
def tb_X7_countOf : Tab := [(0,1,27,0,0,0,0), (1,3,70,133,1,907,201), (4,1,2,1,0,0,0), (5,51,32,9,0,0,0), (56,1,27,0,0,0,0), (57,1,2,1,0,0,0), (58,3,70,95,2,786,83), (61,1,80,0,0,0,0), (62,1,27,0,0,0,0), (63,1,2,1,0,0,0), (64,1,0,2,0,0,0), (65,1,8,0,0,0,0), (66,3,70,101,2,817,94), (69,1,80,0,0,0,0), (70,1,27,0,0,0,0), (71,3,41,1,7,697,13), (74,2,0,7,0,0,0), (76,1,50,0,0,0,0), (77,1,80,0,0,0,0), (78,1,27,0,0,0,0), (79,3,70,145,1,1008,216), (82,1,80,0,0,0,0), (83,1,27,0,0,0,0), (84,3,40,6,7,702,150), (87,1,80,0,0,0,0), (88,1,27,0,0,0,0), (89,1,27,0,0,0,0), (90,3,40,6,7,702,150), (93,1,0,0,0,0,0), (94,3,70,123,3,915,153), (97,1,80,0,0,0,0), (98,1,27,0,0,0,0), (99,3,40,11,7,707,179), (102,1,80,0,0,0,0), (103,1,27,0,0,0,0), (104,3,40,12,7,708,192), (107,1,80,0,0,0,0)]
def tb_X7_count : Tab := [(0,1,2,1,0,0,0), (1,1,0,0,0,0,0), (2,2,0,9,0,0,0), (4,3,73,89,3,779,90), (7,3,30,18,0,0,0), (10,1,27,0,0,0,0), (11,1,2,1,0,0,0), (12,3,70,146,2,1004,219), (15,3,23,22,0,0,0), (18,1,27,0,0,0,0), (19,3,70,85,1,794,44), (22,1,80,0,0,0,0)]
def tb_X7_type : Tab := [(0,1,2,1,0,0,0), (1,1,0,0,0,0,0), (2,2,0,127,0,0,0), (4,3,73,89,3,779,90), (7,3,30,15,1,0,0), (10,1,27,0,0,0,0), (11,3,70,85,1,794,44), (14,1,80,0,0,0,0), (15,1,27,0,0,0,0), (16,3,40,16,7,712,222), (19,2,0,120,0,0,0), (21,3,31,29,1,0,0), (24,1,27,0,0,0,0), (25,3,70,87,1,798,51), (28,1,80,0,0,0,0), (29,1,27,0,0,0,0), (30,3,41,15,7,711,41), (33,1,27,0,0,0,0), (34,3,40,16,7,712,222), (37,1,2,1,0,0,0), (38,1,51,0,0,0,0), (39,1,27,0,0,0,0), (40,1,20,0,0,0,0), (41,3,40,16,7,712,222), (44,1,0,1,0,0,0), (45,1,7,0,0,0,0), (46,3,42,16,7,712,222), (49,1,27,0,0,0,0), (50,3,40,16,7,712,222), (53,1,80,0,0,0,0)]
def tb_X7_clear : Tab := [(0,1,27,0,0,0,0), (1,3,40,16,7,712,222), (4,1,3,1,0,0,0), (5,1,27,0,0,0,0), (6,1,0,0,0,0,0), (7,3,42,16,7,712,222), (10,1,2,1,0,0,0), (11,1,80,0,0,0,0)]
def tb_X7_isAt : Tab := [(0,1,27,0,0,0,0), (1,3,40,17,7,713,225), (4,1,27,0,0,0,0), (5,3,40,16,7,712,222), (8,3,31,32,3,0,0), (11,1,27,0,0,0,0), (12,3,41,15,7,711,41), (15,1,27,0,0,0,0), (16,3,40,17,7,713,225), (19,1,50,0,0,0,0), (20,1,2,1,0,0,0), (21,1,2,2,0,0,0), (22,3,73,89,3,779,90), (25,3,30,32,0,0,0), (28,1,0,1,0,0,0), (29,3,23,33,0,0,0), (32,1,0,0,0,0,0), (33,1,80,0,0,0,0)]
def tb_X7_blanks : Tab := [(0,1,27,0,0,0,0), (1,2,0,32,0,0,0), (3,2,0,32,0,0,0), (5,3,70,150,3,1032,228), (8,3,30,24,0,0,0), (11,1,27,0,0,0,0), (12,1,20,0,0,0,0), (13,3,40,17,7,713,225), (16,1,0,1,0,0,0), (17,1,7,0,0,0,0), (18,3,42,17,7,713,225), (21,3,23,0,0,0,0), (24,1,83,0,0,0,0)]
def tb_X7_number : Tab := [(0,1,0,0,0,0,0), (1,1,3,1,0,0,0), (2,1,0,0,0,0,0), (3,1,3,2,0,0,0), (4,1,27,0,0,0,0), (5,1,27,0,0,0,0), (6,3,40,18,7,714,231), (9,3,30,23,1,0,0), (12,1,27,0,0,0,0), (13,2,0,48,0,0,0), (15,2,0,57,0,0,0), (17,3,70,150,3,1032,228), (20,3,30,27,1,0,0), (23,1,0,1,0,0,0), (24,3,23,28,0,0,0), (27,1,0,0,0,0,0), (28,3,42,18,7,714,231), (31,1,27,0,0,0,0), (32,3,40,18,7,714,231), (35,3,30,119,1,0,0), (38,1,27,0,0,0,0), (39,2,0,48,0,0,0), (41,2,0,57,0,0,0), (43,3,70,150,3,1032,228), (46,3,30,119,0,0,0), (49,3,5,2,1,0,0), (52,1,27,0,0,0,0), (53,1,2,2,0,0,0), (54,1,0,2,0,0,0), (55,3,31,62,5,0,0), (58,1,0,1,0,0,0), (59,3,23,63,0,0,0), (62,1,0,0,0,0,0), (63,3,42,18,7,714,231), (66,1,27,0,0,0,0), (67,3,40,18,7,714,231), (70,3,30,77,0,0,0), (73,1,2,1,0,0,0), (74,3,23,94,0,0,0), (77,2,0,10,0,0,0), (79,1,2,1,0,0,0), (80,1,9,0,0,0,0), (81,1,27,0,0,0,0), (82,3,41,15,7,711,41), (85,1,27,0,0,0,0), (86,3,40,17,7,713,225), (89,1,50,0,0,0,0), (90,1,7,0,0,0,0), (91,2,0,48,0,0,0), (93,1,8,0,0,0,0), (94,1,3,1,0,0,0), (95,1,27,0,0,0,0), (96,1,20,0,0,0,0), (97,3,40,17,7,713,225), (100,1,27,0,0,0,0), (101,3,40,18,7,714,231), (104,3,30,111,0,0,0), (107,1,0,0,0,0,0), (108,3,23,112,0,0,0), (111,1,0,1,0,0,0), (112,1,7,0,0,0,0), (113,3,42,17,7,713,225), (116,3,23,31,0,0,0), (119,1,27,0,0,0,0), (120,3,70,151,1,1028,234), (123,1,2,1,0,0,0), (124,1,80,0,0,0,0)]
def tb_X7_numbersOf : Tab := [(0,1,27,0,0,0,0), (1,1,0,0,0,0,0), (2,3,42,19,7,715,237), (5,1,27,0,0,0,0), (6,3,40,18,7,714,231), (9,3,30,76,1,0,0), (12,1,27,0,0,0,0), (13,3,40,19,7,715,237), (16,1,2,1,0,0,0), (17,3,31,39,2,0,0), (20,1,27,0,0,0,0), (21,3,40,19,7,715,237), (24,1,2,2,0,0,0), (25,3,31,76,3,0,0), (28,1,27,0,0,0,0), (29,2,0,48,0,0,0), (31,2,0,57,0,0,0), (33,3,70,150,3,1032,228), (36,3,30,76,0,0,0), (39,1,27,0,0,0,0), (40,3,41,5,7,701,19), (43,1,27,0,0,0,0), (44,3,40,19,7,715,237), (47,1,27,0,0,0,0), (48,3,70,152,1,1040,240), (51,1,51,0,0,0,0), (52,1,27,0,0,0,0), (53,1,20,0,0,0,0), (54,3,40,19,7,715,237), (57,1,27,0,0,0,0), (58,3,40,18,7,714,231), (61,3,30,68,0,0,0), (64,1,0,0,0,0,0), (65,3,23,69,0,0,0), (68,1,0,1,0,0,0), (69,1,7,0,0,0,0), (70,3,42,19,7,715,237), (73,3,23,5,0,0,0), (76,1,83,0,0,0,0)]
def tb_X7_doesOrder : Tab := [(0,1,27,0,0,0,0), (1,3,41,5,7,701,19), (4,1,0,0,0,0,0), (5,1,50,0,0,0,0), (6,1,3,2,0,0,0), (7,1,27,0,0,0,0), (8,3,41,5,7,701,19), (11,1,0,1,0,0,0), (12,1,50,0,0,0,0), (13,1,3,3,0,0,0), (14,1,0,0,0,0,0), (15,2,3,4,0,0,0), (17,1,2,1,0,0,0), (18,42,33,10,0,0,0), (60,1,27,0,0,0,0), (61,1,2,1,0,0,0), (62,2,0,97,0,0,0), (64,1,8,0,0,0,0), (65,1,27,0,0,0,0), (66,3,40,19,7,715,237), (69,3,70,104,3,782,111), (72,2,3,4,0,0,0), (74,2,2,4,0,0,0), (76,3,30,84,3,0,0), (79,2,2,4,0,0,0), (81,3,23,96,0,0,0), (84,1,27,0,0,0,0), (85,1,2,1,0,0,0), (86,2,0,97,0,0,0), (88,1,8,0,0,0,0), (89,1,27,0,0,0,0), (90,3,40,19,7,715,237), (93,3,70,105,3,806,120), (96,1,80,0,0,0,0), (97,1,27,0,0,0,0), (98,1,2,2,0,0,0), (99,1,2,3,0,0,0), (100,1,27,0,0,0,0), (101,3,41,5,7,701,19), (104,1,0,2,0,0,0), (105,1,50,0,0,0,0), (106,3,70,112,4,891,141), (109,2,3,4,0,0,0), (111,2,2,4,0,0,0), (113,3,30,121,3,0,0), (116,2,2,4,0,0,0), (118,3,23,133,0,0,0), (121,1,27,0,0,0,0), (122,1,2,2,0,0,0), (123,1,2,3,0,0,0), (124,1,27,0,0,0,0), (125,3,41,5,7,701,19), (128,1,0,2,0,0,0), (129,1,50,0,0,0,0), (130,3,70,113,4,895,144), (133,1,80,0,0,0,0), (134,1,27,0,0,0,0), (135,1,2,2,0,0,0), (136,1,2,3,0,0,0), (137,3,70,106,3,868,129), (140,2,3,4,0,0,0), (142,2,2,4,0,0,0), (144,3,30,152,3,0,0), (147,2,2,4,0,0,0), (149,3,23,158,0,0,0), (152,1,27,0,0,0,0), (153,1,2,2,0,0,0), (154,1,2,3,0,0,0), (155,3,70,107,3,872,132), (158,1,80,0,0,0,0), (159,1,2,1,0,0,0), (160,2,0,104,0,0,0), (162,3,31,169,1,0,0), (165,1,0,0,0,0,0), (166,3,23,180,0,0,0), (169,1,2,1,0,0,0), (170,2,0,108,0,0,0), (172,3,31,179,1,0,0), (175,1,0,1,0,0,0), (176,3,23,180,0,0,0), (179,1,0,2,0,0,0), (180,2,3,5,0,0,0), (182,2,2,5,0,0,0), (184,1,2,2,0,0,0), (185,3,73,108,2,880,135), (188,2,3,4,0,0,0), (190,2,2,4,0,0,0), (192,3,30,200,3,0,0), (195,2,2,4,0,0,0), (197,3,23,207,0,0,0), (200,1,27,0,0,0,0), (201,2,2,5,0,0,0), (203,1,2,2,0,0,0), (204,3,70,109,3,883,138), (207,1,80,0,0,0,0)]
def tb_X7_reads : Tab := [(0,1,27,0,0,0,0), (1,1,0,0,0,0,0), (2,3,42,17,7,713,225), (5,1,27,0,0,0,0), (6,1,0,0,0,0,0), (7,3,42,20,7,716,243), (10,1,27,0,0,0,0), (11,1,0,0,0,0,0), (12,3,42,21,7,717,246), (15,1,27,0,0,0,0), (16,3,70,151,1,1028,234), (19,1,27,0,0,0,0), (20,1,27,0,0,0,0), (21,3,40,17,7,713,225), (24,1,27,0,0,0,0), (25,3,40,16,7,712,222), (28,3,31,35,1,0,0), (31,1,0,1,0,0,0), (32,3,23,36,0,0,0), (35,1,0,0,0,0,0), (36,3,42,18,7,714,231), (39,1,27,0,0,0,0), (40,3,40,18,7,714,231), (43,3,30,312,1,0,0), (46,1,27,0,0,0,0), (47,3,40,21,7,717,246), (50,3,30,312,1,0,0), (53,1,27,0,0,0,0), (54,3,40,17,7,713,225), (57,1,27,0,0,0,0), (58,3,40,16,7,712,222), (61,3,31,312,3,0,0), (64,1,27,0,0,0,0), (65,3,41,15,7,711,41), (68,1,27,0,0,0,0), (69,3,40,17,7,713,225), (72,1,50,0,0,0,0), (73,1,3,2,0,0,0), (74,1,2,2,0,0,0), (75,2,0,97,0,0,0), (77,3,31,86,0,0,0), (80,1,2,2,0,0,0), (81,2,0,98,0,0,0), (83,3,31,90,1,0,0), (86,1,0,1,0,0,0), (87,3,23,91,0,0,0), (90,1,0,0,0,0,0), (91,1,3,3,0,0,0), (92,1,27,0,0,0,0), (93,1,2,3,0,0,0), (94,3,30,131,1,0,0), (97,1,2,2,0,0,0), (98,2,0,116,0,0,0), (100,3,31,131,0,0,0), (103,1,2,2,0,0,0), (104,2,0,119,0,0,0), (106,3,31,131,0,0,0), (109,1,2,2,0,0,0), (110,2,0,104,0,0,0), (112,3,31,131,0,0,0), (115,1,2,2,0,0,0), (116,2,0,108,0,0,0), (118,3,31,131,0,0,0), (121,1,2,2,0,0,0), (122,2,0,115,0,0,0), (124,3,31,131,0,0,0), (127,1,0,1,0,0,0), (128,3,23,132,0,0,0), (131,1,0,0,0,0,0), (132,3,42,18,7,714,231), (135,1,27,0,0,0,0), (136,1,20,0,0,0,0), (137,3,40,17,7,713,225), (140,1,27,0,0,0,0), (141,3,40,18,7,714,231), (144,3,30,151,0,0,0), (147,1,0,0,0,0,0), (148,3,23,152,0,0,0), (151,1,0,1,0,0,0), (152,1,7,0,0,0,0), (153,3,42,17,7,713,225), (156,1,27,0,0,0,0), (157,3,70,151,1,1028,234), (160,1,2,3,0,0,0), (161,3,30,168,0,0,0), (164,1,0,1,0,0,0), (165,3,23,189,0,0,0), (168,1,2,2,0,0,0), (169,2,0,116,0,0,0), (171,3,31,178,1,0,0), (174,1,0,3,0,0,0), (175,3,23,189,0,0,0), (178,1,2,2,0,0,0), (179,2,0,119,0,0,0), (181,3,31,188,1,0,0), (184,1,0,2,0,0,0), (185,3,23,189,0,0,0), (188,1,0,1,0,0,0), (189,2,3,4,0,0,0), (191,1,27,0,0,0,0), (192,2,2,4,0,0,0), (194,1,2,3,0,0,0), (195,3,30,203,0,0,0), (198,2,0,12,0,0,0), (200,3,23,205,0,0,0), (203,2,2,4,0,0,0), (205,3,70,153,3,1036,249), (208,1,27,0,0,0,0), (209,1,27,0,0,0,0), (210,3,40,18,7,714,231), (213,3,30,227,1,0,0), (216,1,27,0,0,0,0), (217,2,0,59,0,0,0), (219,2,0,59,0,0,0), (221,3,70,150,3,1032,228), (224,3,30,231,1,0,0), (227,1,0,1,0,0,0), (228,3,23,232,0,0,0), (231,1,0,0,0,0,0), (232,3,42,18,7,714,231), (235,1,27,0,0,0,0), (236,1,20,0,0,0,0), (237,3,40,17,7,713,225), (240,1,27,0,0,0,0), (241,3,40,18,7,714,231), (244,3,30,251,0,0,0), (247,1,0,0,0,0,0), (248,3,23,252,0,0,0), (251,1,0,1,0,0,0), (252,1,7,0,0,0,0), (253,3,42,17,7,713,225), (256,1,27,0,0,0,0), (257,3,40,18,7,714,231), (260,3,30,309,1,0,0), (263,1,27,0,0,0,0), (264,3,70,151,1,1028,234), (267,1,27,0,0,0,0), (268,1,2,1,0,0,0), (269,3,30,284,0,0,0), (272,1,27,0,0,0,0), (273,1,2,2,0,0,0), (274,3,70,154,2,1044,252), (277,3,30,284,3,0,0), (280,1,0,1,0,0,0), (281,3,23,285,0,0,0), (284,1,0,0,0,0,0), (285,3,42,21,7,717,246), (288,1,27,0,0,0,0), (289,1,20,0,0,0,0), (290,3,40,20,7,716,243), (293,1,27,0,0,0,0), (294,3,40,21,7,717,246), (297,3,30,304,0,0,0), (300,1,0,0,0,0,0), (301,3,23,305,0,0,0), (304,1,0,1,0,0,0), (305,1,7,0,0,0,0), (306,3,42,20,7,716,243), (309,3,23,39,0,0,0), (312,1,83,0,0,0,0)]
def tb_X7_does : Tab := [(0,1,27,0,0,0,0), (1,1,0,0,0,0,0), (2,3,70,155,2,1024,255), (5,1,27,0,0,0,0), (6,3,40,18,7,714,231), (9,3,30,20,0,0,0), (12,2,1,10,0,0,0), (14,1,27,0,0,0,0), (15,3,40,17,7,713,225), (18,1,8,0,0,0,0), (19,1,80,0,0,0,0), (20,1,27,0,0,0,0), (21,2,0,6,0,0,0), (23,3,70,90,2,802,117), (26,1,27,0,0,0,0), (27,1,0,1,0,0,0), (28,3,70,155,2,1024,255), (31,1,27,0,0,0,0), (32,3,40,21,7,717,246), (35,3,30,53,0,0,0), (38,1,27,0,0,0,0), (39,2,0,6,0,0,0), (41,3,70,91,2,771,62), (44,3,1,1000,0,0,0), (47,1,27,0,0,0,0), (48,3,40,20,7,716,243), (51,1,8,0,0,0,0), (52,1,80,0,0,0,0), (53,1,27,0,0,0,0), (54,3,70,92,1,841,123), (57,1,27,0,0,0,0), (58,3,40,20,7,716,243), (61,1,80,0,0,0,0)]
def tb_X7_toldOf : Tab := [(0,1,2,1,0,0,0), (1,51,32,11,0,0,0), (52,1,27,0,0,0,0), (53,3,41,0,7,696,7), (56,1,2,1,0,0,0), (57,1,50,0,0,0,0), (58,1,80,0,0,0,0), (59,1,27,0,0,0,0), (60,3,41,1,7,697,13), (63,1,0,0,0,0,0), (64,1,2,1,0,0,0), (65,1,7,0,0,0,0), (66,1,0,3,0,0,0), (67,1,8,0,0,0,0), (68,1,50,0,0,0,0), (69,1,80,0,0,0,0), (70,1,27,0,0,0,0), (71,3,41,1,7,697,13), (74,1,0,2,0,0,0), (75,1,2,1,0,0,0), (76,1,7,0,0,0,0), (77,1,0,5,0,0,0), (78,1,8,0,0,0,0), (79,1,50,0,0,0,0), (80,1,80,0,0,0,0), (81,1,27,0,0,0,0), (82,3,40,16,7,712,222), (85,1,80,0,0,0,0), (86,1,27,0,0,0,0), (87,3,40,3,7,699,58), (90,1,80,0,0,0,0)]
def tb_X7_told : Tab := [(0,1,2,1,0,0,0), (1,1,0,0,0,0,0), (2,2,0,9,0,0,0), (4,3,73,89,3,779,90), (7,3,30,18,0,0,0), (10,1,27,0,0,0,0), (11,1,2,1,0,0,0), (12,3,70,157,2,1052,259), (15,3,23,22,0,0,0), (18,1,27,0,0,0,0), (19,3,70,85,1,794,44), (22,1,80,0,0,0,0)]
def tb_X7_digest : Tab := [(0,3,24,2591,0,1060,262), (3,1,4,1,0,0,0), (4,1,0,0,0,0,0), (5,1,3,3,0,0,0), (6,1,2,3,0,0,0), (7,2,0,10,0,0,0), (9,3,31,31,3,0,0), (12,3,24,31,0,1061,264), (15,1,28,1,0,0,0), (16,1,18,0,0,0,0), (17,1,27,0,0,0,0), (18,1,2,3,0,0,0), (19,3,70,157,2,1052,259), (22,1,15,0,0,0,0), (23,1,17,0,0,0,0), (24,1,4,1,0,0,0), (25,3,5,3,1,0,0), (28,3,23,6,0,0,0), (31,1,0,0,0,0,0), (32,1,3,3,0,0,0), (33,1,2,3,0,0,0), (34,2,0,10,0,0,0), (36,3,31,58,3,0,0), (39,3,24,31,0,1061,264), (42,1,28,1,0,0,0), (43,1,18,0,0,0,0), (44,1,27,0,0,0,0), (45,1,2,3,0,0,0), (46,3,70,146,2,1004,219), (49,1,15,0,0,0,0), (50,1,17,0,0,0,0), (51,1,4,1,0,0,0), (52,3,5,3,1,0,0), (55,3,23,33,0,0,0), (58,1,0,0,0,0,0), (59,1,3,3,0,0,0), (60,1,2,3,0,0,0), (61,1,0,2,0,0,0), (62,3,31,113,3,0,0), (65,1,0,0,0,0,0), (66,2,3,4,0,0,0), (68,2,2,4,0,0,0), (70,1,0,5,0,0,0), (71,1,27,0,0,0,0), (72,1,2,3,0,0,0), (73,3,70,95,2,786,83), (76,1,9,0,0,0,0), (77,3,31,107,3,0,0), (80,3,24,31,0,1061,264), (83,1,28,1,0,0,0), (84,1,18,0,0,0,0), (85,1,27,0,0,0,0), (86,1,2,3,0,0,0), (87,2,2,4,0,0,0), (89,1,0,5,0,0,0), (90,1,25,0,0,0,0), (91,2,2,4,0,0,0), (93,1,0,5,0,0,0), (94,1,26,0,0,0,0), (95,3,70,135,4,960,204), (98,1,15,0,0,0,0), (99,1,17,0,0,0,0), (100,1,4,1,0,0,0), (101,3,5,4,1,0,0), (104,3,23,68,0,0,0), (107,3,5,3,1,0,0), (110,3,23,60,0,0,0), (113,1,0,0,0,0,0), (114,1,3,3,0,0,0), (115,1,2,3,0,0,0), (116,1,0,5,0,0,0), (117,1,27,0,0,0,0), (118,3,41,1,7,697,13), (121,2,0,7,0,0,0), (123,1,50,0,0,0,0), (124,1,9,0,0,0,0), (125,3,31,152,3,0,0), (128,3,24,31,0,1061,264), (131,1,28,1,0,0,0), (132,1,18,0,0,0,0), (133,1,27,0,0,0,0), (134,1,2,3,0,0,0), (135,1,0,5,0,0,0), (136,1,25,0,0,0,0), (137,1,2,3,0,0,0), (138,1,0,5,0,0,0), (139,1,26,0,0,0,0), (140,3,70,139,3,976,210), (143,1,15,0,0,0,0), (144,1,17,0,0,0,0), (145,1,4,1,0,0,0), (146,3,5,3,1,0,0), (149,3,23,115,0,0,0), (152,1,0,0,0,0,0), (153,1,3,3,0,0,0), (154,1,2,3,0,0,0), (155,1,0,5,0,0,0), (156,1,27,0,0,0,0), (157,3,40,11,7,707,179), (160,1,9,0,0,0,0), (161,3,31,188,3,0,0), (164,3,24,31,0,1061,264), (167,1,28,1,0,0,0), (168,1,18,0,0,0,0), (169,1,27,0,0,0,0), (170,1,2,3,0,0,0), (171,1,0,5,0,0,0), (172,1,25,0,0,0,0), (173,1,2,3,0,0,0), (174,1,0,5,0,0,0), (175,1,26,0,0,0,0), (176,3,70,143,3,996,213), (179,1,15,0,0,0,0), (180,1,17,0,0,0,0), (181,1,4,1,0,0,0), (182,3,5,3,1,0,0), (185,3,23,154,0,0,0), (188,1,28,1,0,0,0), (189,1,81,0,0,0,0)]
def tb_L_law : Tab := [(0,3,60,6,115,114,7), (3,1,20,0,0,0,0), (4,3,74,58,1,116,9), (7,1,29,1,0,0,0), (8,3,60,7,691,690,10), (11,1,20,0,0,0,0), (12,3,74,84,1,692,12), (15,1,29,2,0,0,0), (16,1,0,0,0,0,0), (17,1,3,3,0,0,0), (18,1,2,3,0,0,0), (19,1,27,0,0,0,0), (20,1,56,0,0,0,0), (21,1,0,5,0,0,0), (22,1,8,0,0,0,0), (23,3,31,688,4,0,0), (26,1,27,0,0,0,0), (27,1,2,3,0,0,0), (28,1,50,0,0,0,0), (29,2,0,31,0,0,0), (31,1,10,0,0,0,0), (32,92,32,12,0,0,0), (124,1,27,1,0,0,0), (125,1,27,0,0,0,0), (126,1,2,3,0,0,0), (127,1,0,1,0,0,0), (128,1,7,0,0,0,0), (129,1,50,0,0,0,0), (130,1,27,0,0,0,0), (131,1,2,3,0,0,0), (132,1,0,2,0,0,0), (133,1,7,0,0,0,0), (134,1,50,0,0,0,0), (135,1,27,0,0,0,0), (136,1,2,3,0,0,0), (137,1,0,3,0,0,0), (138,1,7,0,0,0,0), (139,1,50,0,0,0,0), (140,3,70,62,4,357,13), (143,1,27,2,0,0,0), (144,1,27,0,0,0,0), (145,1,2,3,0,0,0), (146,1,0,1,0,0,0), (147,1,7,0,0,0,0), (148,1,50,0,0,0,0), (149,1,27,0,0,0,0), (150,1,2,3,0,0,0), (151,1,0,2,0,0,0), (152,1,7,0,0,0,0), (153,1,50,0,0,0,0), (154,1,27,0,0,0,0), (155,1,2,3,0,0,0), (156,1,0,3,0,0,0), (157,1,7,0,0,0,0), (158,1,50,0,0,0,0), (159,3,70,115,4,775,17), (162,3,31,682,0,0,0), (165,1,0,0,0,0,0), (166,1,80,0,0,0,0), (167,1,27,1,0,0,0), (168,1,27,0,0,0,0), (169,1,2,3,0,0,0), (170,1,0,1,0,0,0), (171,1,7,0,0,0,0), (172,1,50,0,0,0,0), (173,1,27,0,0,0,0), (174,1,2,3,0,0,0), (175,1,0,2,0,0,0), (176,1,7,0,0,0,0), (177,1,50,0,0,0,0), (178,3,70,63,3,421,18), (181,1,27,2,0,0,0), (182,1,27,0,0,0,0), (183,1,2,3,0,0,0), (184,1,0,1,0,0,0), (185,1,7,0,0,0,0), (186,1,50,0,0,0,0), (187,1,27,0,0,0,0), (188,1,2,3,0,0,0), (189,1,0,2,0,0,0), (190,1,7,0,0,0,0), (191,1,50,0,0,0,0), (192,3,70,116,3,845,22), (195,3,31,682,0,0,0), (198,1,0,0,0,0,0), (199,1,80,0,0,0,0), (200,1,27,1,0,0,0), (201,1,27,0,0,0,0), (202,1,2,3,0,0,0), (203,1,0,1,0,0,0), (204,1,7,0,0,0,0), (205,1,50,0,0,0,0), (206,1,27,0,0,0,0), (207,1,2,3,0,0,0), (208,1,0,2,0,0,0), (209,1,7,0,0,0,0), (210,1,50,0,0,0,0), (211,3,70,64,3,446,23), (214,1,27,2,0,0,0), (215,1,27,0,0,0,0), (216,1,2,3,0,0,0), (217,1,0,1,0,0,0), (218,1,7,0,0,0,0), (219,1,50,0,0,0,0), (220,1,27,0,0,0,0), (221,1,2,3,0,0,0), (222,1,0,2,0,0,0), (223,1,7,0,0,0,0), (224,1,50,0,0,0,0), (225,3,70,117,3,864,26), (228,3,31,682,0,0,0), (231,1,0,0,0,0,0), (232,1,80,0,0,0,0), (233,1,27,1,0,0,0), (234,1,27,0,0,0,0), (235,1,2,3,0,0,0), (236,1,0,1,0,0,0), (237,1,7,0,0,0,0), (238,1,50,0,0,0,0), (239,1,27,0,0,0,0), (240,1,2,3,0,0,0), (241,1,0,2,0,0,0), (242,1,7,0,0,0,0), (243,1,50,0,0,0,0), (244,3,70,65,3,454,27), (247,1,27,2,0,0,0), (248,1,27,0,0,0,0), (249,1,2,3,0,0,0), (250,1,0,1,0,0,0), (251,1,7,0,0,0,0), (252,1,50,0,0,0,0), (253,1,27,0,0,0,0), (254,1,2,3,0,0,0), (255,1,0,2,0,0,0), (256,1,7,0,0,0,0), (257,1,50,0,0,0,0), (258,3,70,118,3,876,30), (261,3,31,682,0,0,0), (264,1,0,0,0,0,0), (265,1,80,0,0,0,0), (266,1,27,1,0,0,0), (267,1,27,0,0,0,0), (268,1,2,3,0,0,0), (269,1,0,1,0,0,0), (270,1,7,0,0,0,0), (271,1,50,0,0,0,0), (272,1,27,0,0,0,0), (273,1,2,3,0,0,0), (274,1,0,2,0,0,0), (275,1,7,0,0,0,0), (276,1,50,0,0,0,0), (277,1,27,0,0,0,0), (278,1,2,3,0,0,0), (279,1,0,3,0,0,0), (280,1,7,0,0,0,0), (281,1,50,0,0,0,0), (282,3,70,66,4,466,31), (285,1,27,2,0,0,0), (286,1,27,0,0,0,0), (287,1,2,3,0,0,0), (288,1,0,1,0,0,0), (289,1,7,0,0,0,0), (290,1,50,0,0,0,0), (291,1,27,0,0,0,0), (292,1,2,3,0,0,0), (293,1,0,2,0,0,0), (294,1,7,0,0,0,0), (295,1,50,0,0,0,0), (296,1,27,0,0,0,0), (297,1,2,3,0,0,0), (298,1,0,3,0,0,0), (299,1,7,0,0,0,0), (300,1,50,0,0,0,0), (301,3,70,119,4,887,34), (304,3,31,682,0,0,0), (307,1,0,0,0,0,0), (308,1,80,0,0,0,0), (309,1,27,1,0,0,0), (310,1,27,0,0,0,0), (311,1,2,3,0,0,0), (312,1,0,1,0,0,0), (313,1,7,0,0,0,0), (314,1,50,0,0,0,0), (315,3,70,67,2,474,35), (318,1,27,2,0,0,0), (319,1,27,0,0,0,0), (320,1,2,3,0,0,0), (321,1,0,1,0,0,0), (322,1,7,0,0,0,0), (323,1,50,0,0,0,0), (324,3,70,120,2,899,39), (327,3,31,682,0,0,0), (330,1,0,0,0,0,0), (331,1,80,0,0,0,0), (332,1,27,1,0,0,0), (333,1,27,0,0,0,0), (334,1,2,3,0,0,0), (335,1,0,1,0,0,0), (336,1,7,0,0,0,0), (337,1,50,0,0,0,0), (338,1,27,0,0,0,0), (339,1,2,3,0,0,0), (340,1,0,2,0,0,0), (341,1,7,0,0,0,0), (342,1,50,0,0,0,0), (343,1,27,0,0,0,0), (344,1,2,3,0,0,0), (345,1,0,3,0,0,0), (346,1,7,0,0,0,0), (347,1,50,0,0,0,0), (348,3,70,70,4,479,40), (351,1,27,2,0,0,0), (352,1,27,0,0,0,0), (353,1,2,3,0,0,0), (354,1,0,1,0,0,0), (355,1,7,0,0,0,0), (356,1,50,0,0,0,0), (357,1,27,0,0,0,0), (358,1,2,3,0,0,0), (359,1,0,2,0,0,0), (360,1,7,0,0,0,0), (361,1,50,0,0,0,0), (362,1,27,0,0,0,0), (363,1,2,3,0,0,0), (364,1,0,3,0,0,0), (365,1,7,0,0,0,0), (366,1,50,0,0,0,0), (367,3,70,136,4,903,43), (370,3,31,682,0,0,0), (373,1,0,0,0,0,0), (374,1,80,0,0,0,0), (375,1,27,1,0,0,0), (376,1,27,0,0,0,0), (377,1,2,3,0,0,0), (378,1,0,1,0,0,0), (379,1,7,0,0,0,0), (380,1,50,0,0,0,0), (381,1,27,0,0,0,0), (382,1,2,3,0,0,0), (383,1,0,2,0,0,0), (384,1,7,0,0,0,0), (385,1,50,0,0,0,0), (386,1,27,0,0,0,0), (387,1,2,3,0,0,0), (388,1,0,3,0,0,0), (389,1,7,0,0,0,0), (390,1,50,0,0,0,0), (391,1,27,0,0,0,0), (392,1,2,3,0,0,0), (393,1,0,4,0,0,0), (394,1,7,0,0,0,0), (395,1,50,0,0,0,0), (396,3,70,71,5,565,44), (399,1,27,2,0,0,0), (400,1,27,0,0,0,0), (401,1,2,3,0,0,0), (402,1,0,1,0,0,0), (403,1,7,0,0,0,0), (404,1,50,0,0,0,0), (405,1,27,0,0,0,0), (406,1,2,3,0,0,0), (407,1,0,2,0,0,0), (408,1,7,0,0,0,0), (409,1,50,0,0,0,0), (410,1,27,0,0,0,0), (411,1,2,3,0,0,0), (412,1,0,3,0,0,0), (413,1,7,0,0,0,0), (414,1,50,0,0,0,0), (415,1,27,0,0,0,0), (416,1,2,3,0,0,0), (417,1,0,4,0,0,0), (418,1,7,0,0,0,0), (419,1,50,0,0,0,0), (420,3,70,137,5,968,48), (423,3,31,682,0,0,0), (426,1,0,0,0,0,0), (427,1,80,0,0,0,0), (428,1,27,1,0,0,0), (429,1,27,0,0,0,0), (430,1,2,3,0,0,0), (431,1,0,1,0,0,0), (432,1,7,0,0,0,0), (433,1,50,0,0,0,0), (434,1,27,0,0,0,0), (435,1,2,3,0,0,0), (436,1,0,2,0,0,0), (437,1,7,0,0,0,0), (438,1,50,0,0,0,0), (439,3,70,72,3,580,49), (442,1,27,2,0,0,0), (443,1,27,0,0,0,0), (444,1,2,3,0,0,0), (445,1,0,1,0,0,0), (446,1,7,0,0,0,0), (447,1,50,0,0,0,0), (448,1,27,0,0,0,0), (449,1,2,3,0,0,0), (450,1,0,2,0,0,0), (451,1,7,0,0,0,0), (452,1,50,0,0,0,0), (453,3,70,140,3,972,52), (456,3,31,682,0,0,0), (459,1,0,0,0,0,0), (460,1,80,0,0,0,0), (461,1,27,1,0,0,0), (462,1,27,0,0,0,0), (463,1,2,3,0,0,0), (464,1,0,1,0,0,0), (465,1,7,0,0,0,0), (466,1,50,0,0,0,0), (467,1,27,0,0,0,0), (468,1,2,3,0,0,0), (469,1,0,2,0,0,0), (470,1,7,0,0,0,0), (471,1,50,0,0,0,0), (472,3,70,73,3,586,53), (475,1,27,2,0,0,0), (476,1,27,0,0,0,0), (477,1,2,3,0,0,0), (478,1,0,1,0,0,0), (479,1,7,0,0,0,0), (480,1,50,0,0,0,0), (481,1,27,0,0,0,0), (482,1,2,3,0,0,0), (483,1,0,2,0,0,0), (484,1,7,0,0,0,0), (485,1,50,0,0,0,0), (486,3,70,141,3,984,56), (489,3,31,682,0,0,0), (492,1,0,0,0,0,0), (493,1,80,0,0,0,0), (494,1,27,1,0,0,0), (495,1,27,0,0,0,0), (496,1,2,3,0,0,0), (497,1,0,1,0,0,0), (498,1,7,0,0,0,0), (499,1,50,0,0,0,0), (500,1,27,0,0,0,0), (501,1,2,3,0,0,0), (502,1,0,2,0,0,0), (503,1,7,0,0,0,0), (504,1,50,0,0,0,0), (505,3,70,74,3,590,57), (508,1,27,2,0,0,0), (509,1,27,0,0,0,0), (510,1,2,3,0,0,0), (511,1,0,1,0,0,0), (512,1,7,0,0,0,0), (513,1,50,0,0,0,0), (514,1,27,0,0,0,0), (515,1,2,3,0,0,0), (516,1,0,2,0,0,0), (517,1,7,0,0,0,0), (518,1,50,0,0,0,0), (519,3,70,142,3,988,60), (522,3,31,682,0,0,0), (525,1,0,0,0,0,0), (526,1,80,0,0,0,0), (527,1,27,1,0,0,0), (528,1,27,0,0,0,0), (529,1,2,3,0,0,0), (530,1,0,1,0,0,0), (531,1,7,0,0,0,0), (532,1,50,0,0,0,0), (533,1,27,0,0,0,0), (534,1,2,3,0,0,0), (535,1,0,2,0,0,0), (536,1,7,0,0,0,0), (537,1,50,0,0,0,0), (538,3,70,75,3,594,61), (541,1,27,2,0,0,0), (542,1,27,0,0,0,0), (543,1,2,3,0,0,0), (544,1,0,1,0,0,0), (545,1,7,0,0,0,0), (546,1,50,0,0,0,0), (547,1,27,0,0,0,0), (548,1,2,3,0,0,0), (549,1,0,2,0,0,0), (550,1,7,0,0,0,0), (551,1,50,0,0,0,0), (552,3,70,144,3,992,64), (555,3,31,682,0,0,0), (558,1,0,0,0,0,0), (559,1,80,0,0,0,0), (560,1,27,1,0,0,0), (561,1,27,0,0,0,0), (562,1,2,3,0,0,0), (563,1,0,1,0,0,0), (564,1,7,0,0,0,0), (565,1,50,0,0,0,0), (566,3,70,76,2,612,65), (569,1,27,2,0,0,0), (570,1,27,0,0,0,0), (571,1,2,3,0,0,0), (572,1,0,1,0,0,0), (573,1,7,0,0,0,0), (574,1,50,0,0,0,0), (575,3,70,147,2,1000,68), (578,3,31,682,0,0,0), (581,1,0,0,0,0,0), (582,1,80,0,0,0,0), (583,1,27,1,0,0,0), (584,1,27,0,0,0,0), (585,1,2,3,0,0,0), (586,1,0,1,0,0,0), (587,1,7,0,0,0,0), (588,1,50,0,0,0,0), (589,3,70,77,2,616,69), (592,1,27,2,0,0,0), (593,1,27,0,0,0,0), (594,1,2,3,0,0,0), (595,1,0,1,0,0,0), (596,1,7,0,0,0,0), (597,1,50,0,0,0,0), (598,3,70,148,2,1012,72), (601,3,31,682,0,0,0), (604,1,0,0,0,0,0), (605,1,80,0,0,0,0), (606,1,27,1,0,0,0), (607,3,70,78,1,624,73), (610,1,27,2,0,0,0), (611,3,70,149,1,1016,77), (614,3,31,682,0,0,0), (617,1,0,0,0,0,0), (618,1,80,0,0,0,0), (619,1,27,1,0,0,0), (620,3,70,80,1,628,78), (623,1,27,2,0,0,0), (624,3,70,156,1,1020,81), (627,3,31,682,0,0,0), (630,1,0,0,0,0,0), (631,1,80,0,0,0,0), (632,1,27,1,0,0,0), (633,3,70,81,1,667,82), (636,1,27,2,0,0,0), (637,3,70,93,1,763,85), (640,3,31,682,0,0,0), (643,1,0,0,0,0,0), (644,1,80,0,0,0,0), (645,1,27,1,0,0,0), (646,1,27,0,0,0,0), (647,1,2,3,0,0,0), (648,1,0,1,0,0,0), (649,1,7,0,0,0,0), (650,1,50,0,0,0,0), (651,3,70,82,2,675,86), (654,1,27,2,0,0,0), (655,1,27,0,0,0,0), (656,1,2,3,0,0,0), (657,1,0,1,0,0,0), (658,1,7,0,0,0,0), (659,1,50,0,0,0,0), (660,3,70,158,2,1048,89), (663,3,31,682,0,0,0), (666,1,0,0,0,0,0), (667,1,80,0,0,0,0), (668,1,27,1,0,0,0), (669,3,70,83,1,679,90), (672,1,27,2,0,0,0), (673,3,70,159,1,1056,94), (676,1,19,0,0,0,0), (677,3,30,682,0,0,0), (680,1,0,0,0,0,0), (681,1,80,0,0,0,0), (682,3,5,3,5,0,0), (685,3,23,18,0,0,0), (688,1,0,1,0,0,0), (689,1,80,0,0,0,0)]
abbrev MH : Type := MethodName × ByteArray × Nat × Option FieldType × Nat × Nat × Nat × Nat × Nat × Nat × Nat × Nat
/-! name, code, locals, answer, class, frames below, words of locals below, cells and slots made, places in lw_tbl: code, instance or static, selects -/
def mh_X0_init : MH := (yX0_init, cX0_init, 1, none, 0, 1, 20, 8, 245, 126, 125, 0)
def mh_X0_copyRow : MH := (yX0_copyRow, cX0_copyRow, 2, none, 0, 1, 26, 0, 0, 381, 380, 0)
def mh_X0_takeFrom : MH := (yX0_takeFrom, cX0_takeFrom, 2, none, 0, 2, 47, 0, 0, 378, 377, 3)
def mh_X6_within : MH := (yX6_within, cX6_within, 3, (some .boolean), 6, 0, 0, 0, 0, 366, 365, 0)
def mh_X6_isSide : MH := (yX6_isSide, cX6_isSide, 1, (some .boolean), 6, 1, 22, 0, 0, 363, 362, 0)
def mh_X0_hasParagraph : MH := (yX0_hasParagraph, cX0_hasParagraph, 3, (some .boolean), 0, 2, 42, 0, 0, 432, 431, 12)
def mh_X0_slot : MH := (yX0_slot, cX0_slot, 2, (some .int), 0, 0, 0, 0, 0, 395, 394, 0)
def mh_X0_wordsIn : MH := (yX0_wordsIn, cX0_wordsIn, 3, (some .int), 0, 1, 21, 0, 0, 523, 522, 26)
def mh_X0_hasWord : MH := (yX0_hasWord, cX0_hasWord, 4, (some .boolean), 0, 3, 64, 0, 0, 572, 571, 36)
def mh_X0_hasTie : MH := (yX0_hasTie, cX0_hasTie, 2, (some .boolean), 0, 0, 0, 0, 0, 445, 444, 15)
def mh_X0_lengthOf : MH := (yX0_lengthOf, cX0_lengthOf, 4, (some .int), 0, 1, 21, 0, 0, 577, 576, 37)
def mh_X0_lineOf : MH := (yX0_lineOf, cX0_lineOf, 9, (some .int), 0, 0, 0, 0, 0, 407, 406, 7)
def mh_X0_linesIn : MH := (yX0_linesIn, cX0_linesIn, 2, (some .int), 0, 1, 28, 0, 0, 403, 402, 6)
def mh_X0_linesOfSide : MH := (yX0_linesOfSide, cX0_linesOfSide, 4, (some .int), 0, 2, 49, 0, 0, 399, 398, 5)
def mh_X0_addParagraph : MH := (yX0_addParagraph, cX0_addParagraph, 7, (some .int), 0, 3, 72, 0, 0, 391, 390, 4)
def mh_X0_dropTie : MH := (yX0_dropTie, cX0_dropTie, 3, (some .int), 0, 1, 26, 0, 0, 441, 440, 14)
def mh_X0_dropTiesOf : MH := (yX0_dropTiesOf, cX0_dropTiesOf, 5, (some .int), 0, 2, 48, 0, 0, 437, 436, 13)
def mh_X0_dropParagraph : MH := (yX0_dropParagraph, cX0_dropParagraph, 5, (some .int), 0, 3, 72, 0, 0, 428, 427, 11)
def mh_X0_changeWidth : MH := (yX0_changeWidth, cX0_changeWidth, 4, (some .int), 0, 3, 72, 0, 0, 453, 452, 16)
def mh_X0_changeSetting : MH := (yX0_changeSetting, cX0_changeSetting, 4, (some .int), 0, 1, 22, 0, 0, 461, 460, 17)
def mh_X0_addTie : MH := (yX0_addTie, cX0_addTie, 5, (some .int), 0, 3, 64, 0, 0, 473, 472, 18)
def mh_X0_cross : MH := (yX0_cross, cX0_cross, 3, (some .boolean), 0, 0, 0, 0, 0, 509, 508, 24)
def mh_X1_init : MH := (yX1_init, cX1_init, 1, none, 1, 1, 20, 1, 10, 256, 255, 0)
def mh_X1_findCrossed : MH := (yX1_findCrossed, cX1_findCrossed, 5, none, 1, 1, 22, 0, 0, 505, 504, 23)
def mh_X1_weightOf : MH := (yX1_weightOf, cX1_weightOf, 5, (some .int), 1, 0, 0, 0, 0, 513, 512, 25)
def mh_J6_bitCount_0f7a4 : MH := (yJ6_bitCount_0f7a4, cJ6_bitCount_0f7a4, 1, (some .int), 9, 0, 0, 0, 0, 516, 515, 0)
def mh_X1_follow : MH := (yX1_follow, cX1_follow, 5, none, 1, 2, 46, 0, 0, 501, 500, 22)
def mh_X2_init : MH := (yX2_init, cX2_init, 1, none, 2, 1, 20, 6, 4254, 279, 278, 0)
def mh_X2_setTolls : MH := (yX2_setTolls, cX2_setTolls, 7, none, 2, 0, 0, 0, 0, 536, 535, 29)
def mh_X2_markBegun : MH := (yX2_markBegun, cX2_markBegun, 6, none, 2, 0, 0, 0, 0, 539, 538, 0)
def mh_X2_rankBy : MH := (yX2_rankBy, cX2_rankBy, 7, (some .int), 2, 0, 0, 0, 0, 552, 551, 32)
def mh_X2_leastRank : MH := (yX2_leastRank, cX2_leastRank, 8, (some .int), 2, 1, 26, 0, 0, 547, 546, 31)
def mh_X2_rankAll : MH := (yX2_rankAll, cX2_rankAll, 6, none, 2, 2, 53, 0, 0, 543, 542, 30)
def mh_X2_takeMost : MH := (yX2_takeMost, cX2_takeMost, 7, none, 2, 1, 26, 0, 0, 560, 559, 34)
def mh_X2_walk : MH := (yX2_walk, cX2_walk, 2, none, 2, 2, 52, 0, 0, 556, 555, 33)
def mh_X2_follow : MH := (yX2_follow, cX2_follow, 5, none, 2, 3, 78, 0, 0, 531, 530, 28)
def mh_X2_taken0 : MH := (yX2_taken0, cX2_taken0, 2, (some .int), 2, 0, 0, 0, 0, 601, 600, 38)
def mh_X2_taken1 : MH := (yX2_taken1, cX2_taken1, 2, (some .int), 2, 0, 0, 0, 0, 605, 604, 39)
def mh_X2_costOf : MH := (yX2_costOf, cX2_costOf, 2, (some .int), 2, 1, 21, 0, 0, 609, 608, 40)
def mh_X2_openingWith : MH := (yX2_openingWith, cX2_openingWith, 5, (some .int), 2, 0, 0, 0, 0, 564, 563, 35)
def mh_X3_init : MH := (yX3_init, cX3_init, 1, none, 3, 1, 20, 2, 70, 233, 232, 0)
def mh_X3_allowBreaks : MH := (yX3_allowBreaks, cX3_allowBreaks, 4, none, 3, 0, 0, 0, 0, 497, 496, 21)
def mh_X3_follow : MH := (yX3_follow, cX3_follow, 5, none, 3, 2, 49, 0, 0, 491, 490, 20)
def mh_X4_init : MH := (yX4_init, cX4_init, 1, none, 4, 1, 20, 4, 481, 192, 191, 0)
def mh_X4_append : MH := (yX4_append, cX4_append, 2, (some .boolean), 4, 0, 0, 0, 0, 623, 622, 41)
def mh_X4_mostNumbers : MH := (yX4_mostNumbers, cX4_mostNumbers, 1, (some .int), 4, 0, 0, 0, 0, 653, 652, 0)
def mh_X4_beginOrder : MH := (yX4_beginOrder, cX4_beginOrder, 2, (some .boolean), 4, 1, 20, 0, 0, 662, 661, 47)
def mh_X4_numbersOfOrder : MH := (yX4_numbersOfOrder, cX4_numbersOfOrder, 1, (some .int), 4, 0, 0, 0, 0, 647, 646, 45)
def mh_X4_takeFigure : MH := (yX4_takeFigure, cX4_takeFigure, 2, (some .boolean), 4, 1, 20, 0, 0, 658, 657, 46)
def mh_X4_leastNumbers : MH := (yX4_leastNumbers, cX4_leastNumbers, 1, (some .int), 4, 1, 20, 0, 0, 650, 649, 0)
def mh_X4_endOrder : MH := (yX4_endOrder, cX4_endOrder, 1, (some .boolean), 4, 2, 40, 0, 0, 643, 642, 44)
def mh_X4_accepts : MH := (yX4_accepts, cX4_accepts, 2, (some .boolean), 4, 3, 60, 0, 0, 639, 638, 43)
def mh_X4_read : MH := (yX4_read, cX4_read, 2, (some .int), 4, 4, 81, 0, 0, 635, 634, 42)
def mh_X5_init : MH := (yX5_init, cX5_init, 2, none, 5, 2, 40, 55, 1530, 175, 174, 0)
def mh_X5_loseOldest : MH := (yX5_loseOldest, cX5_loseOldest, 3, none, 5, 0, 0, 0, 0, 419, 418, 10)
def mh_X5_keep : MH := (yX5_keep, cX5_keep, 2, none, 5, 3, 68, 0, 0, 415, 414, 9)
def mh_X5_giveBack : MH := (yX5_giveBack, cX5_giveBack, 2, (some .boolean), 5, 3, 68, 0, 0, 674, 673, 49)
def mh_X6_forgetPlans : MH := (yX6_forgetPlans, cX6_forgetPlans, 1, none, 6, 0, 0, 0, 0, 322, 321, 0)
def mh_X6_init : MH := (yX6_init, cX6_init, 1, none, 6, 3, 61, 97, 6972, 118, 117, 0)
def mh_X6_refuse : MH := (yX6_refuse, cX6_refuse, 3, (some .int), 6, 1, 22, 0, 0, 370, 369, 1)
def mh_X6_copyToTry : MH := (yX6_copyToTry, cX6_copyToTry, 1, (some (.object "FacingPages$Book")), 6, 3, 68, 0, 0, 374, 373, 2)
def mh_X6_settle : MH := (yX6_settle, cX6_settle, 2, (some .int), 6, 4, 89, 0, 0, 411, 410, 8)
def mh_X6_para : MH := (yX6_para, cX6_para, 5, (some .int), 6, 5, 110, 0, 0, 360, 358, 359)
def mh_X6_drops : MH := (yX6_drops, cX6_drops, 3, (some .int), 6, 5, 110, 0, 0, 424, 422, 423)
def mh_X6_widths : MH := (yX6_widths, cX6_widths, 3, (some .int), 6, 5, 110, 0, 0, 449, 447, 448)
def mh_X6_sets : MH := (yX6_sets, cX6_sets, 3, (some .int), 6, 5, 110, 0, 0, 457, 455, 456)
def mh_X6_ties : MH := (yX6_ties, cX6_ties, 4, (some .int), 6, 5, 110, 0, 0, 469, 467, 468)
def mh_X6_unties : MH := (yX6_unties, cX6_unties, 2, (some .int), 6, 5, 110, 0, 0, 477, 475, 476)
def mh_X6_measure : MH := (yX6_measure, cX6_measure, 2, none, 6, 3, 73, 0, 0, 487, 486, 19)
def mh_X6_layOut : MH := (yX6_layOut, cX6_layOut, 1, (some (.object "FacingPages$Layout")), 6, 4, 102, 0, 0, 527, 526, 27)
def mh_X6_of : MH := (yX6_of, cX6_of, 5, (some .int), 6, 5, 122, 0, 0, 482, 480, 481)
def mh_X6_word : MH := (yX6_word, cX6_word, 5, (some .int), 6, 4, 87, 0, 0, 568, 566, 567)
def mh_X6_tie : MH := (yX6_tie, cX6_tie, 3, (some .int), 6, 4, 94, 0, 0, 583, 581, 582)
def mh_X6_crossing : MH := (yX6_crossing, cX6_crossing, 7, (some .int), 6, 4, 94, 0, 0, 589, 587, 588)
def mh_X6_lawful : MH := (yX6_lawful, cX6_lawful, 3, (some .int), 6, 4, 94, 0, 0, 593, 591, 592)
def mh_X6_opening : MH := (yX6_opening, cX6_opening, 3, (some .int), 6, 5, 122, 0, 0, 597, 595, 596)
def mh_X6_count : MH := (yX6_count, cX6_count, 2, (some .int), 6, 5, 122, 0, 0, 615, 613, 614)
def mh_X6_type : MH := (yX6_type, cX6_type, 2, (some .int), 6, 2, 44, 0, 0, 619, 617, 618)
def mh_X6_clear : MH := (yX6_clear, cX6_clear, 2, (some .int), 6, 0, 0, 0, 0, 627, 625, 626)
def mh_X6_tryOrder : MH := (yX6_tryOrder, cX6_tryOrder, 5, (some .int), 6, 4, 98, 0, 0, 666, 665, 48)
def mh_X6_does : MH := (yX6_does, cX6_does, 3, (some .int), 6, 5, 122, 0, 0, 631, 629, 630)
def mh_X6_back : MH := (yX6_back, cX6_back, 1, (some .int), 6, 4, 89, 0, 0, 670, 668, 669)
def mh_X6_told : MH := (yX6_told, cX6_told, 2, (some .int), 6, 2, 44, 0, 0, 678, 676, 677)
def mh_X6_digest : MH := (yX6_digest, cX6_digest, 6, (some .long), 6, 6, 146, 0, 0, 682, 680, 681)
def mh_X7_init : MH := (yX7_init, cX7_init, 1, none, 7, 1, 20, 11, 10039, 694, 693, 0)
def mh_X7_bad : MH := (yX7_bad, cX7_bad, 1, (some .int), 7, 0, 0, 0, 0, 797, 796, 55)
def mh_X7_no : MH := (yX7_no, cX7_no, 1, (some .int), 7, 0, 0, 0, 0, 770, 769, 50)
def mh_X7_full : MH := (yX7_full, cX7_full, 1, (some .int), 7, 0, 0, 0, 0, 801, 800, 56)
def mh_X7_counted : MH := (yX7_counted, cX7_counted, 2, (some .int), 7, 1, 20, 0, 0, 793, 792, 54)
def mh_X7_in : MH := (yX7_in, cX7_in, 3, (some .boolean), 7, 0, 0, 0, 0, 781, 780, 0)
def mh_X7_puts : MH := (yX7_puts, cX7_puts, 3, none, 7, 0, 0, 0, 0, 805, 804, 57)
def mh_X7_takes : MH := (yX7_takes, cX7_takes, 3, none, 7, 0, 0, 0, 0, 774, 773, 51)
def mh_X7_leavesState : MH := (yX7_leavesState, cX7_leavesState, 2, none, 7, 0, 0, 0, 0, 844, 843, 66)
def mh_X7_back : MH := (yX7_back, cX7_back, 1, (some .int), 7, 1, 22, 0, 0, 766, 764, 765)
def mh_X7_at : MH := (yX7_at, cX7_at, 2, (some .int), 7, 0, 0, 0, 0, 812, 811, 0)
def mh_X7_many : MH := (yX7_many, cX7_many, 2, (some .int), 7, 0, 0, 0, 0, 789, 788, 53)
def mh_X7_wordsOf : MH := (yX7_wordsOf, cX7_wordsOf, 3, (some .int), 7, 1, 21, 0, 0, 832, 831, 63)
def mh_X7_lengthOf : MH := (yX7_lengthOf, cX7_lengthOf, 4, (some .int), 7, 1, 21, 0, 0, 840, 839, 65)
def mh_X7_lineOf : MH := (yX7_lineOf, cX7_lineOf, 9, (some .int), 7, 2, 44, 0, 0, 836, 835, 64)
def mh_X7_linesOf : MH := (yX7_linesOf, cX7_linesOf, 3, (some .int), 7, 3, 72, 0, 0, 828, 827, 62)
def mh_X7_firstOf : MH := (yX7_firstOf, cX7_firstOf, 5, (some .int), 7, 4, 94, 0, 0, 824, 823, 61)
def mh_X7_linesOfAll : MH := (yX7_linesOfAll, cX7_linesOfAll, 2, (some .int), 7, 5, 118, 0, 0, 820, 819, 60)
def mh_X7_isPara : MH := (yX7_isPara, cX7_isPara, 3, (some .boolean), 7, 1, 22, 0, 0, 852, 851, 67)
def mh_X7_isTooLong : MH := (yX7_isTooLong, cX7_isTooLong, 1, (some .boolean), 7, 6, 139, 0, 0, 816, 815, 59)
def mh_X7_canPara : MH := (yX7_canPara, cX7_canPara, 5, (some .int), 7, 1, 22, 0, 0, 785, 784, 52)
def mh_X7_paraComes : MH := (yX7_paraComes, cX7_paraComes, 5, (some .int), 7, 7, 159, 0, 0, 809, 808, 58)
def mh_X7_canWidth : MH := (yX7_canWidth, cX7_canWidth, 3, (some .int), 7, 1, 22, 0, 0, 871, 870, 70)
def mh_X7_widthBecomes : MH := (yX7_widthBecomes, cX7_widthBecomes, 4, (some .int), 7, 7, 159, 0, 0, 875, 874, 71)
def mh_X7_canSet : MH := (yX7_canSet, cX7_canSet, 4, (some .int), 7, 1, 22, 0, 0, 882, 881, 0)
def mh_X7_setBecomes : MH := (yX7_setBecomes, cX7_setBecomes, 4, (some .int), 7, 0, 0, 0, 0, 886, 885, 72)
def mh_X7_tieAt : MH := (yX7_tieAt, cX7_tieAt, 1, (some .int), 7, 0, 0, 0, 0, 859, 858, 0)
def mh_X7_ofTie : MH := (yX7_ofTie, cX7_ofTie, 3, (some .int), 7, 1, 20, 0, 0, 856, 855, 68)
def mh_X7_canTie : MH := (yX7_canTie, cX7_canTie, 6, (some .int), 7, 2, 44, 0, 0, 894, 893, 73)
def mh_X7_tieComes : MH := (yX7_tieComes, cX7_tieComes, 5, (some .int), 7, 1, 20, 0, 0, 898, 897, 74)
def mh_X7_tieGoes : MH := (yX7_tieGoes, cX7_tieGoes, 3, none, 7, 1, 20, 0, 0, 863, 862, 69)
def mh_X7_para : MH := (yX7_para, cX7_para, 6, (some .int), 7, 8, 183, 0, 0, 778, 776, 777)
def mh_X7_drops : MH := (yX7_drops, cX7_drops, 6, (some .int), 7, 2, 44, 0, 0, 848, 846, 847)
def mh_X7_widths : MH := (yX7_widths, cX7_widths, 4, (some .int), 7, 8, 182, 0, 0, 867, 865, 866)
def mh_X7_sets : MH := (yX7_sets, cX7_sets, 3, (some .int), 7, 2, 45, 0, 0, 879, 877, 878)
def mh_X7_ties : MH := (yX7_ties, cX7_ties, 5, (some .int), 7, 3, 69, 0, 0, 890, 888, 889)
def mh_X7_unties : MH := (yX7_unties, cX7_unties, 2, (some .int), 7, 2, 42, 0, 0, 902, 900, 901)
def mh_X7_areCrossing : MH := (yX7_areCrossing, cX7_areCrossing, 5, (some .boolean), 7, 2, 42, 0, 0, 926, 925, 79)
def mh_X7_isPlain : MH := (yX7_isPlain, cX7_isPlain, 5, (some .boolean), 7, 3, 66, 0, 0, 922, 921, 78)
def mh_X7_weightOf : MH := (yX7_weightOf, cX7_weightOf, 5, (some .int), 7, 2, 42, 0, 0, 918, 917, 77)
def mh_X7_findsKept : MH := (yX7_findsKept, cX7_findsKept, 4, none, 7, 4, 90, 0, 0, 914, 913, 76)
def mh_X7_findsBreaks : MH := (yX7_findsBreaks, cX7_findsBreaks, 6, none, 7, 4, 94, 0, 0, 930, 929, 80)
def mh_X7_all : MH := (yX7_all, cX7_all, 2, (some .int), 7, 1, 21, 0, 0, 934, 933, 81)
def mh_X7_costOf : MH := (yX7_costOf, cX7_costOf, 5, (some .int), 7, 0, 0, 0, 0, 955, 954, 86)
def mh_X7_areTied : MH := (yX7_areTied, cX7_areTied, 9, (some .boolean), 7, 2, 42, 0, 0, 947, 946, 84)
def mh_X7_canTake : MH := (yX7_canTake, cX7_canTake, 5, (some .boolean), 7, 3, 70, 0, 0, 943, 942, 83)
def mh_X7_costWith : MH := (yX7_costWith, cX7_costWith, 6, (some .int), 7, 2, 42, 0, 0, 951, 950, 85)
def mh_X7_finds : MH := (yX7_finds, cX7_finds, 9, none, 7, 4, 94, 0, 0, 938, 937, 82)
def mh_X7_follows : MH := (yX7_follows, cX7_follows, 9, none, 7, 4, 94, 0, 0, 959, 958, 87)
def mh_X7_lays : MH := (yX7_lays, cX7_lays, 3, none, 7, 5, 122, 0, 0, 910, 909, 75)
def mh_X7_openingOf : MH := (yX7_openingOf, cX7_openingOf, 7, (some .int), 7, 1, 22, 0, 0, 967, 966, 89)
def mh_X7_ofPara : MH := (yX7_ofPara, cX7_ofPara, 4, (some .int), 7, 5, 118, 0, 0, 963, 962, 88)
def mh_X7_of : MH := (yX7_of, cX7_of, 4, (some .int), 7, 6, 144, 0, 0, 906, 904, 905)
def mh_X7_word : MH := (yX7_word, cX7_word, 5, (some .int), 7, 3, 72, 0, 0, 971, 969, 970)
def mh_X7_crosses : MH := (yX7_crosses, cX7_crosses, 4, (some .int), 7, 3, 66, 0, 0, 983, 982, 91)
def mh_X7_tieIs : MH := (yX7_tieIs, cX7_tieIs, 3, (some .int), 7, 4, 89, 0, 0, 979, 978, 90)
def mh_X7_tie : MH := (yX7_tie, cX7_tie, 3, (some .int), 7, 6, 144, 0, 0, 975, 973, 974)
def mh_X7_crossing : MH := (yX7_crossing, cX7_crossing, 7, (some .int), 7, 3, 66, 0, 0, 987, 985, 986)
def mh_X7_lawful : MH := (yX7_lawful, cX7_lawful, 3, (some .int), 7, 6, 144, 0, 0, 991, 989, 990)
def mh_X7_openingIs : MH := (yX7_openingIs, cX7_openingIs, 6, (some .int), 7, 1, 24, 0, 0, 999, 998, 92)
def mh_X7_opening : MH := (yX7_opening, cX7_opening, 3, (some .int), 7, 6, 144, 0, 0, 995, 993, 994)
def mh_X7_crossings : MH := (yX7_crossings, cX7_crossings, 3, (some .int), 7, 4, 89, 0, 0, 1011, 1010, 94)
def mh_X7_countOf : MH := (yX7_countOf, cX7_countOf, 2, (some .int), 7, 6, 144, 0, 0, 1007, 1006, 93)
def mh_X7_count : MH := (yX7_count, cX7_count, 2, (some .int), 7, 7, 165, 0, 0, 1003, 1001, 1002)
def mh_X7_type : MH := (yX7_type, cX7_type, 2, (some .int), 7, 1, 22, 0, 0, 1015, 1013, 1014)
def mh_X7_clear : MH := (yX7_clear, cX7_clear, 2, (some .int), 7, 0, 0, 0, 0, 1019, 1017, 1018)
def mh_X7_isAt : MH := (yX7_isAt, cX7_isAt, 3, (some .boolean), 7, 1, 22, 0, 0, 1035, 1034, 97)
def mh_X7_blanks : MH := (yX7_blanks, cX7_blanks, 1, none, 7, 2, 44, 0, 0, 1031, 1030, 96)
def mh_X7_number : MH := (yX7_number, cX7_number, 3, (some .int), 7, 3, 64, 0, 0, 1043, 1042, 99)
def mh_X7_numbersOf : MH := (yX7_numbersOf, cX7_numbersOf, 3, none, 7, 4, 86, 0, 0, 1039, 1038, 98)
def mh_X7_doesOrder : MH := (yX7_doesOrder, cX7_doesOrder, 6, (some .int), 7, 8, 183, 0, 0, 1047, 1046, 100)
def mh_X7_reads : MH := (yX7_reads, cX7_reads, 5, none, 7, 9, 208, 0, 0, 1027, 1026, 95)
def mh_X7_does : MH := (yX7_does, cX7_does, 1, (some .int), 7, 10, 232, 0, 0, 1023, 1021, 1022)
def mh_X7_toldOf : MH := (yX7_toldOf, cX7_toldOf, 2, (some .int), 7, 0, 0, 0, 0, 1055, 1054, 101)
def mh_X7_told : MH := (yX7_told, cX7_told, 2, (some .int), 7, 1, 22, 0, 0, 1051, 1049, 1050)
def mh_X7_digest : MH := (yX7_digest, cX7_digest, 5, (some .long), 7, 7, 165, 0, 0, 1059, 1057, 1058)
def mh_L_law : MH := (yL_law, cL_law, 4, (some .boolean), 8, 11, 252, 110, 17044, 0, 0, 0)
def mhs : List MH := [mh_X0_init, mh_X0_copyRow, mh_X0_takeFrom, mh_X6_within, mh_X6_isSide, mh_X0_hasParagraph, mh_X0_slot, mh_X0_wordsIn, mh_X0_hasWord, mh_X0_hasTie, mh_X0_lengthOf, mh_X0_lineOf, mh_X0_linesIn, mh_X0_linesOfSide, mh_X0_addParagraph, mh_X0_dropTie, mh_X0_dropTiesOf, mh_X0_dropParagraph, mh_X0_changeWidth, mh_X0_changeSetting, mh_X0_addTie, mh_X0_cross, mh_X1_init, mh_X1_findCrossed, mh_X1_weightOf, mh_J6_bitCount_0f7a4, mh_X1_follow, mh_X2_init, mh_X2_setTolls, mh_X2_markBegun, mh_X2_rankBy, mh_X2_leastRank, mh_X2_rankAll, mh_X2_takeMost, mh_X2_walk, mh_X2_follow, mh_X2_taken0, mh_X2_taken1, mh_X2_costOf, mh_X2_openingWith, mh_X3_init, mh_X3_allowBreaks, mh_X3_follow, mh_X4_init, mh_X4_append, mh_X4_mostNumbers, mh_X4_beginOrder, mh_X4_numbersOfOrder, mh_X4_takeFigure, mh_X4_leastNumbers, mh_X4_endOrder, mh_X4_accepts, mh_X4_read, mh_X5_init, mh_X5_loseOldest, mh_X5_keep, mh_X5_giveBack, mh_X6_forgetPlans, mh_X6_init, mh_X6_refuse, mh_X6_copyToTry, mh_X6_settle, mh_X6_para, mh_X6_drops, mh_X6_widths, mh_X6_sets, mh_X6_ties, mh_X6_unties, mh_X6_measure, mh_X6_layOut, mh_X6_of, mh_X6_word, mh_X6_tie, mh_X6_crossing, mh_X6_lawful, mh_X6_opening, mh_X6_count, mh_X6_type, mh_X6_clear, mh_X6_tryOrder, mh_X6_does, mh_X6_back, mh_X6_told, mh_X6_digest, mh_X7_init, mh_X7_bad, mh_X7_no, mh_X7_full, mh_X7_counted, mh_X7_in, mh_X7_puts, mh_X7_takes, mh_X7_leavesState, mh_X7_back, mh_X7_at, mh_X7_many, mh_X7_wordsOf, mh_X7_lengthOf, mh_X7_lineOf, mh_X7_linesOf, mh_X7_firstOf, mh_X7_linesOfAll, mh_X7_isPara, mh_X7_isTooLong, mh_X7_canPara, mh_X7_paraComes, mh_X7_canWidth, mh_X7_widthBecomes, mh_X7_canSet, mh_X7_setBecomes, mh_X7_tieAt, mh_X7_ofTie, mh_X7_canTie, mh_X7_tieComes, mh_X7_tieGoes, mh_X7_para, mh_X7_drops, mh_X7_widths, mh_X7_sets, mh_X7_ties, mh_X7_unties, mh_X7_areCrossing, mh_X7_isPlain, mh_X7_weightOf, mh_X7_findsKept, mh_X7_findsBreaks, mh_X7_all, mh_X7_costOf, mh_X7_areTied, mh_X7_canTake, mh_X7_costWith, mh_X7_finds, mh_X7_follows, mh_X7_lays, mh_X7_openingOf, mh_X7_ofPara, mh_X7_of, mh_X7_word, mh_X7_crosses, mh_X7_tieIs, mh_X7_tie, mh_X7_crossing, mh_X7_lawful, mh_X7_openingIs, mh_X7_opening, mh_X7_crossings, mh_X7_countOf, mh_X7_count, mh_X7_type, mh_X7_clear, mh_X7_isAt, mh_X7_blanks, mh_X7_number, mh_X7_numbersOf, mh_X7_doesOrder, mh_X7_reads, mh_X7_does, mh_X7_toldOf, mh_X7_told, mh_X7_digest, mh_L_law]
def mts : List Tab := [tb_X0_init, tb_X0_copyRow, tb_X0_takeFrom, tb_X6_within, tb_X6_isSide, tb_X0_hasParagraph, tb_X0_slot, tb_X0_wordsIn, tb_X0_hasWord, tb_X0_hasTie, tb_X0_lengthOf, tb_X0_lineOf, tb_X0_linesIn, tb_X0_linesOfSide, tb_X0_addParagraph, tb_X0_dropTie, tb_X0_dropTiesOf, tb_X0_dropParagraph, tb_X0_changeWidth, tb_X0_changeSetting, tb_X0_addTie, tb_X0_cross, tb_X1_init, tb_X1_findCrossed, tb_X1_weightOf, tb_J6_bitCount_0f7a4, tb_X1_follow, tb_X2_init, tb_X2_setTolls, tb_X2_markBegun, tb_X2_rankBy, tb_X2_leastRank, tb_X2_rankAll, tb_X2_takeMost, tb_X2_walk, tb_X2_follow, tb_X2_taken0, tb_X2_taken1, tb_X2_costOf, tb_X2_openingWith, tb_X3_init, tb_X3_allowBreaks, tb_X3_follow, tb_X4_init, tb_X4_append, tb_X4_mostNumbers, tb_X4_beginOrder, tb_X4_numbersOfOrder, tb_X4_takeFigure, tb_X4_leastNumbers, tb_X4_endOrder, tb_X4_accepts, tb_X4_read, tb_X5_init, tb_X5_loseOldest, tb_X5_keep, tb_X5_giveBack, tb_X6_forgetPlans, tb_X6_init, tb_X6_refuse, tb_X6_copyToTry, tb_X6_settle, tb_X6_para, tb_X6_drops, tb_X6_widths, tb_X6_sets, tb_X6_ties, tb_X6_unties, tb_X6_measure, tb_X6_layOut, tb_X6_of, tb_X6_word, tb_X6_tie, tb_X6_crossing, tb_X6_lawful, tb_X6_opening, tb_X6_count, tb_X6_type, tb_X6_clear, tb_X6_tryOrder, tb_X6_does, tb_X6_back, tb_X6_told, tb_X6_digest, tb_X7_init, tb_X7_bad, tb_X7_no, tb_X7_full, tb_X7_counted, tb_X7_in, tb_X7_puts, tb_X7_takes, tb_X7_leavesState, tb_X7_back, tb_X7_at, tb_X7_many, tb_X7_wordsOf, tb_X7_lengthOf, tb_X7_lineOf, tb_X7_linesOf, tb_X7_firstOf, tb_X7_linesOfAll, tb_X7_isPara, tb_X7_isTooLong, tb_X7_canPara, tb_X7_paraComes, tb_X7_canWidth, tb_X7_widthBecomes, tb_X7_canSet, tb_X7_setBecomes, tb_X7_tieAt, tb_X7_ofTie, tb_X7_canTie, tb_X7_tieComes, tb_X7_tieGoes, tb_X7_para, tb_X7_drops, tb_X7_widths, tb_X7_sets, tb_X7_ties, tb_X7_unties, tb_X7_areCrossing, tb_X7_isPlain, tb_X7_weightOf, tb_X7_findsKept, tb_X7_findsBreaks, tb_X7_all, tb_X7_costOf, tb_X7_areTied, tb_X7_canTake, tb_X7_costWith, tb_X7_finds, tb_X7_follows, tb_X7_lays, tb_X7_openingOf, tb_X7_ofPara, tb_X7_of, tb_X7_word, tb_X7_crosses, tb_X7_tieIs, tb_X7_tie, tb_X7_crossing, tb_X7_lawful, tb_X7_openingIs, tb_X7_opening, tb_X7_crossings, tb_X7_countOf, tb_X7_count, tb_X7_type, tb_X7_clear, tb_X7_isAt, tb_X7_blanks, tb_X7_number, tb_X7_numbersOf, tb_X7_doesOrder, tb_X7_reads, tb_X7_does, tb_X7_toldOf, tb_X7_told, tb_X7_digest, tb_L_law]
def sws : List (List (Int × Nat) × Nat) := [([(97,108), (98,108), (99,117), (100,117), (101,117), (102,117), (103,117), (104,115), (105,117), (106,117), (107,117), (108,115), (109,117), (110,117), (111,117), (112,117), (113,117), (114,117), (115,115), (116,111), (117,117), (118,117), (119,113)], 117), ([(0,72), (1,82), (2,100), (3,108)], 124), ([(0,64), (1,74), (2,84), (3,94)], 106), ([(0,68), (1,78), (2,87), (3,97)], 106), ([(0,72), (1,72), (2,82), (3,82), (4,94), (5,102), (6,110), (7,118), (8,126)], 134), ([(97,148), (98,161), (99,247), (100,247), (101,247), (102,247), (103,247), (104,211), (105,247), (106,247), (107,247), (108,223), (109,247), (110,247), (111,247), (112,247), (113,247), (114,247), (115,235), (116,174), (117,247), (118,247), (119,195)], 247), ([(0,56), (1,56), (2,56), (3,63), (4,63), (5,75), (6,75), (7,75), (8,87), (9,95)], 103), ([(0,32), (1,39), (2,46), (3,53)], 65), ([(0,72), (1,74), (2,81), (3,84)], 91), ([(0,56), (1,56), (2,62), (3,62), (4,70), (5,78), (6,83), (7,88), (8,98)], 103), ([(97,60), (98,60), (116,97), (119,134)], 159), ([(0,52), (1,52), (2,52), (3,59), (4,59), (5,70), (6,70), (7,70), (8,81)], 86), ([(0,124), (1,167), (2,200), (3,233), (4,266), (5,309), (6,332), (7,375), (8,428), (9,461), (10,494), (11,527), (12,560), (13,583), (14,606), (15,619), (16,632), (17,645), (18,668)], 682)]
/-! the cells, in the order in which they are made: (0, its kind) an object, (1, n) ints, (2, n) booleans, (3, n) bytes, (4, n) books, (5, n) lines -/
def kds : List (Nat × Nat) := [(0,6), (0,0), (1,2), (1,16), (1,192), (1,2), (1,3), (1,10), (1,10), (1,10), (0,0), (1,2), (1,16), (1,192), (1,2), (1,3), (1,10), (1,10), (1,10), (0,5), (4,6), (0,0), (1,2), (1,16), (1,192), (1,2), (1,3), (1,10), (1,10), (1,10), (0,0), (1,2), (1,16), (1,192), (1,2), (1,3), (1,10), (1,10), (1,10), (0,0), (1,2), (1,16), (1,192), (1,2), (1,3), (1,10), (1,10), (1,10), (0,0), (1,2), (1,16), (1,192), (1,2), (1,3), (1,10), (1,10), (1,10), (0,0), (1,2), (1,16), (1,192), (1,2), (1,3), (1,10), (1,10), (1,10), (0,0), (1,2), (1,16), (1,192), (1,2), (1,3), (1,10), (1,10), (1,10), (0,4), (3,120), (1,120), (1,121), (1,120), (5,2), (0,3), (1,9), (2,61), (0,3), (1,9), (2,61), (0,1), (1,10), (0,2), (1,169), (1,3721), (1,61), (1,61), (1,121), (1,121), (1,3), (1,12), (0,7), (1,3), (1,260), (1,1820), (1,12), (2,122), (1,18), (1,3721), (1,3721), (1,121), (1,121), (1,120)]
def szs : List Nat := [11, 9, 2, 16, 192, 2, 3, 10, 10, 10, 9, 2, 16, 192, 2, 3, 10, 10, 10, 2, 6, 9, 2, 16, 192, 2, 3, 10, 10, 10, 9, 2, 16, 192, 2, 3, 10, 10, 10, 9, 2, 16, 192, 2, 3, 10, 10, 10, 9, 2, 16, 192, 2, 3, 10, 10, 10, 9, 2, 16, 192, 2, 3, 10, 10, 10, 9, 2, 16, 192, 2, 3, 10, 10, 10, 9, 120, 120, 121, 120, 2, 3, 9, 61, 3, 9, 61, 4, 10, 11, 169, 3721, 61, 61, 121, 121, 3, 12, 22, 3, 260, 1820, 12, 122, 18, 3721, 3721, 121, 121, 120]
abbrev n_X0_init : Nat := 0
abbrev n_X0_copyRow : Nat := 1
abbrev n_X0_takeFrom : Nat := 2
abbrev n_X6_within : Nat := 3
abbrev n_X6_isSide : Nat := 4
abbrev n_X0_hasParagraph : Nat := 5
abbrev n_X0_slot : Nat := 6
abbrev n_X0_wordsIn : Nat := 7
abbrev n_X0_hasWord : Nat := 8
abbrev n_X0_hasTie : Nat := 9
abbrev n_X0_lengthOf : Nat := 10
abbrev n_X0_lineOf : Nat := 11
abbrev n_X0_linesIn : Nat := 12
abbrev n_X0_linesOfSide : Nat := 13
abbrev n_X0_addParagraph : Nat := 14
abbrev n_X0_dropTie : Nat := 15
abbrev n_X0_dropTiesOf : Nat := 16
abbrev n_X0_dropParagraph : Nat := 17
abbrev n_X0_changeWidth : Nat := 18
abbrev n_X0_changeSetting : Nat := 19
abbrev n_X0_addTie : Nat := 20
abbrev n_X0_cross : Nat := 21
abbrev n_X1_init : Nat := 22
abbrev n_X1_findCrossed : Nat := 23
abbrev n_X1_weightOf : Nat := 24
abbrev n_J6_bitCount_0f7a4 : Nat := 25
abbrev n_X1_follow : Nat := 26
abbrev n_X2_init : Nat := 27
abbrev n_X2_setTolls : Nat := 28
abbrev n_X2_markBegun : Nat := 29
abbrev n_X2_rankBy : Nat := 30
abbrev n_X2_leastRank : Nat := 31
abbrev n_X2_rankAll : Nat := 32
abbrev n_X2_takeMost : Nat := 33
abbrev n_X2_walk : Nat := 34
abbrev n_X2_follow : Nat := 35
abbrev n_X2_taken0 : Nat := 36
abbrev n_X2_taken1 : Nat := 37
abbrev n_X2_costOf : Nat := 38
abbrev n_X2_openingWith : Nat := 39
abbrev n_X3_init : Nat := 40
abbrev n_X3_allowBreaks : Nat := 41
abbrev n_X3_follow : Nat := 42
abbrev n_X4_init : Nat := 43
abbrev n_X4_append : Nat := 44
abbrev n_X4_mostNumbers : Nat := 45
abbrev n_X4_beginOrder : Nat := 46
abbrev n_X4_numbersOfOrder : Nat := 47
abbrev n_X4_takeFigure : Nat := 48
abbrev n_X4_leastNumbers : Nat := 49
abbrev n_X4_endOrder : Nat := 50
abbrev n_X4_accepts : Nat := 51
abbrev n_X4_read : Nat := 52
abbrev n_X5_init : Nat := 53
abbrev n_X5_loseOldest : Nat := 54
abbrev n_X5_keep : Nat := 55
abbrev n_X5_giveBack : Nat := 56
abbrev n_X6_forgetPlans : Nat := 57
abbrev n_X6_init : Nat := 58
abbrev n_X6_refuse : Nat := 59
abbrev n_X6_copyToTry : Nat := 60
abbrev n_X6_settle : Nat := 61
abbrev n_X6_para : Nat := 62
abbrev n_X6_drops : Nat := 63
abbrev n_X6_widths : Nat := 64
abbrev n_X6_sets : Nat := 65
abbrev n_X6_ties : Nat := 66
abbrev n_X6_unties : Nat := 67
abbrev n_X6_measure : Nat := 68
abbrev n_X6_layOut : Nat := 69
abbrev n_X6_of : Nat := 70
abbrev n_X6_word : Nat := 71
abbrev n_X6_tie : Nat := 72
abbrev n_X6_crossing : Nat := 73
abbrev n_X6_lawful : Nat := 74
abbrev n_X6_opening : Nat := 75
abbrev n_X6_count : Nat := 76
abbrev n_X6_type : Nat := 77
abbrev n_X6_clear : Nat := 78
abbrev n_X6_tryOrder : Nat := 79
abbrev n_X6_does : Nat := 80
abbrev n_X6_back : Nat := 81
abbrev n_X6_told : Nat := 82
abbrev n_X6_digest : Nat := 83
abbrev n_X7_init : Nat := 84
abbrev n_X7_bad : Nat := 85
abbrev n_X7_no : Nat := 86
abbrev n_X7_full : Nat := 87
abbrev n_X7_counted : Nat := 88
abbrev n_X7_in : Nat := 89
abbrev n_X7_puts : Nat := 90
abbrev n_X7_takes : Nat := 91
abbrev n_X7_leavesState : Nat := 92
abbrev n_X7_back : Nat := 93
abbrev n_X7_at : Nat := 94
abbrev n_X7_many : Nat := 95
abbrev n_X7_wordsOf : Nat := 96
abbrev n_X7_lengthOf : Nat := 97
abbrev n_X7_lineOf : Nat := 98
abbrev n_X7_linesOf : Nat := 99
abbrev n_X7_firstOf : Nat := 100
abbrev n_X7_linesOfAll : Nat := 101
abbrev n_X7_isPara : Nat := 102
abbrev n_X7_isTooLong : Nat := 103
abbrev n_X7_canPara : Nat := 104
abbrev n_X7_paraComes : Nat := 105
abbrev n_X7_canWidth : Nat := 106
abbrev n_X7_widthBecomes : Nat := 107
abbrev n_X7_canSet : Nat := 108
abbrev n_X7_setBecomes : Nat := 109
abbrev n_X7_tieAt : Nat := 110
abbrev n_X7_ofTie : Nat := 111
abbrev n_X7_canTie : Nat := 112
abbrev n_X7_tieComes : Nat := 113
abbrev n_X7_tieGoes : Nat := 114
abbrev n_X7_para : Nat := 115
abbrev n_X7_drops : Nat := 116
abbrev n_X7_widths : Nat := 117
abbrev n_X7_sets : Nat := 118
abbrev n_X7_ties : Nat := 119
abbrev n_X7_unties : Nat := 120
abbrev n_X7_areCrossing : Nat := 121
abbrev n_X7_isPlain : Nat := 122
abbrev n_X7_weightOf : Nat := 123
abbrev n_X7_findsKept : Nat := 124
abbrev n_X7_findsBreaks : Nat := 125
abbrev n_X7_all : Nat := 126
abbrev n_X7_costOf : Nat := 127
abbrev n_X7_areTied : Nat := 128
abbrev n_X7_canTake : Nat := 129
abbrev n_X7_costWith : Nat := 130
abbrev n_X7_finds : Nat := 131
abbrev n_X7_follows : Nat := 132
abbrev n_X7_lays : Nat := 133
abbrev n_X7_openingOf : Nat := 134
abbrev n_X7_ofPara : Nat := 135
abbrev n_X7_of : Nat := 136
abbrev n_X7_word : Nat := 137
abbrev n_X7_crosses : Nat := 138
abbrev n_X7_tieIs : Nat := 139
abbrev n_X7_tie : Nat := 140
abbrev n_X7_crossing : Nat := 141
abbrev n_X7_lawful : Nat := 142
abbrev n_X7_openingIs : Nat := 143
abbrev n_X7_opening : Nat := 144
abbrev n_X7_crossings : Nat := 145
abbrev n_X7_countOf : Nat := 146
abbrev n_X7_count : Nat := 147
abbrev n_X7_type : Nat := 148
abbrev n_X7_clear : Nat := 149
abbrev n_X7_isAt : Nat := 150
abbrev n_X7_blanks : Nat := 151
abbrev n_X7_number : Nat := 152
abbrev n_X7_numbersOf : Nat := 153
abbrev n_X7_doesOrder : Nat := 154
abbrev n_X7_reads : Nat := 155
abbrev n_X7_does : Nat := 156
abbrev n_X7_toldOf : Nat := 157
abbrev n_X7_told : Nat := 158
abbrev n_X7_digest : Nat := 159
abbrev n_L_law : Nat := 160
def mI (n : Nat) : Int32 := -(nI n)
def mh0 : MH := (⟨"", "", ""⟩, ⟨#[]⟩, 0, none, 0, 0, 0, 0, 0, 0, 0, 0)
def mH (μ : Nat) : MH := mhs.getD μ mh0
def mT (μ : Nat) : Tab := mts.getD μ []
def mY (μ : Nat) : MethodName := (mH μ).1
def mB (μ : Nat) : ByteArray := (mH μ).2.1
def mX (μ : Nat) : Nat := (mH μ).2.2.1
def mA (μ : Nat) : Option FieldType := (mH μ).2.2.2.1
def mC (μ : Nat) : Nat := (mH μ).2.2.2.2.1
def mF (μ : Nat) : Nat := (mH μ).2.2.2.2.2.1
def mL (μ : Nat) : Nat := (mH μ).2.2.2.2.2.2.1
def mK (μ : Nat) : Nat := (mH μ).2.2.2.2.2.2.2.1
def mS (μ : Nat) : Nat := (mH μ).2.2.2.2.2.2.2.2.1
def mP1 (μ : Nat) : Nat := (mH μ).2.2.2.2.2.2.2.2.2.1
def mP2 (μ : Nat) : Nat := (mH μ).2.2.2.2.2.2.2.2.2.2.1
def mP3 (μ : Nat) : Nat := (mH μ).2.2.2.2.2.2.2.2.2.2.2
def kd (c : Nat) : Nat × Nat := kds.getD c (if c = 1000 ∨ c = 1001 ∨ c = 1002 then (6, 0) else (9, 0))
def NT : Nat := 110
def bfl (ci k : Nat) : Bool := match ci, k with
  | 6, 9 => true
  | 6, 10 => true
  | 7, 4 => true
  | 7, 18 => true
  | 7, 21 => true
  | _, _ => false
end
section
/-! THE TABLES ARE THE CODE: what each op row says, held against the decoded bytes and the words of lw_tbl. -/
def cN (ci : Nat) : String := match ci with
  | 0 => RX0 | 1 => RX1 | 2 => RX2 | 3 => RX3 | 4 => RX4 | 5 => RX5 | 6 => RX6 | 7 => RX7 | 8 => RL | 9 => RJ6 | _ => RJ9
def cT (ci : Nat) : u_T := match ci with
  | 0 => TX0 | 1 => TX1 | 2 => TX2 | 3 => TX3 | 4 => TX4 | 5 => TX5 | 6 => TX6 | _ => TX7
def cF (ci : Nat) : Nat := match ci with
  | 0 => 9 | 1 => 4 | 2 => 11 | 3 => 3 | 4 => 9 | 5 => 2 | 6 => 11 | _ => 22
def cTy (ci : Nat) : Nat → FieldType := match ci with
  | 0 => tyX0 | 1 => tyX1 | 2 => tyX2 | 3 => tyX3 | 4 => tyX4 | 5 => tyX5 | 6 => tyX6 | _ => tyX7
/-- is the place a reference's -/
def isr (ci k : Nat) : Bool := (cTy ci k).isReference
def dI (μ pc : Nat) (i : Instr) (m n : Nat) : Bool := decide (decode (mB μ) pc = .ok (i, m)) && n == m
def wA (c : Nat) (w : Jvm.Cond) : Bool := decide (lw_tbl[c]? = some w)
def cO (b : Nat) : Jvm.ClassFile.Cond := match b with
  | 0 => .eq | 1 => .ne | 2 => .lt | 3 => .ge | 4 => .gt | _ => .le
def kc : Int → List (Int × Nat) → Bool
  | _, [] => true
  | lo, q :: r => q.1 == lo && kc (lo + 1) r
def aty (g : Nat) : ArrayType := match g with
  | 1 => .int | 2 => .boolean | _ => .byte
def fty (g : Nat) : FieldType := match g with
  | 1 => .int | 2 => .boolean | 3 => .byte | 4 => .object RX0 | _ => .object RX3
def f4 (a : Nat) (f : Fin 4 → Bool) : Bool := if h : a < 4 then f ⟨a, h⟩ else false
def sgN (g : Nat) : String := match g with
  | 1001 => "SETTING_FROM" | _ => "SETTING_TO"
/-- the head of a method: its words -/
def hE (μ : Nat) : Bool := wA (mP1 μ) (.code (mY μ) (mB μ) (mX μ) (mA μ)) && decide ((mY μ).cls = cN (mC μ)) && plainName (mY μ).cls
/-- a callee's room -/
def rE (μ ν : Nat) : Bool := decide (mF ν + 1 ≤ mF μ) && decide (8 + (mX ν + 11) + mL ν ≤ mL μ)
def pE (ν n : Nat) : Bool := decide ((parseMethodDescriptor (mY ν).desc).map (fun d => d.parameters.length) = some n)
def cE (μ : Nat) (q : Nat × Nat × Nat × Nat × Nat × Nat × Nat) : Bool := match q with
  | (pc, n, t, a, b, c, d) => match t with
    | 0 => (dI μ pc (.iconst a) 1 n && decide (Int32.ofInt a = nI a)) || (dI μ pc (.bipush a) 2 n && decide ((Int8.ofInt a).toInt32 = nI a)) || (dI μ pc (.sipush a) 3 n && decide ((Int16.ofInt a).toInt32 = nI a)) || (dI μ pc (.ldc d) 2 n && wA c (.constant (cN (mC μ)) d (nI a))) || (dI μ pc (.ldc_w d) 3 n && wA c (.constant (cN (mC μ)) d (nI a)))
    | 1 => (dI μ pc (.iconst (-(a : Int))) 1 n && decide (Int32.ofInt (-(a : Int)) = mI a)) || (dI μ pc (.bipush (-(a : Int))) 2 n && decide ((Int8.ofInt (-(a : Int))).toInt32 = mI a)) || (dI μ pc (.sipush (-(a : Int))) 3 n && decide ((Int16.ofInt (-(a : Int))).toInt32 = mI a))
    | 2 => dI μ pc (.iload a) 2 n || f4 a (fun k => dI μ pc (.iload_n k) 1 n)
    | 27 => dI μ pc (.aload a) 2 n || f4 a (fun k => dI μ pc (.aload_n k) 1 n)
    | 28 => dI μ pc (.lload a) 2 n || f4 a (fun k => dI μ pc (.lload_n k) 1 n)
    | 3 => (dI μ pc (.istore a) 2 n || f4 a (fun k => dI μ pc (.istore_n k) 1 n)) && decide (a < mX μ)
    | 29 => (dI μ pc (.astore a) 2 n || f4 a (fun k => dI μ pc (.astore_n k) 1 n)) && decide (a < mX μ)
    | 4 => (dI μ pc (.lstore a) 2 n || f4 a (fun k => dI μ pc (.lstore_n k) 1 n)) && decide (a + 1 < mX μ)
    | 5 => dI μ pc (.iinc a b) 3 n && decide (Int32.ofInt b = nI b) && decide (a < mX μ)
    | 6 => dI μ pc (.iinc a (-(b : Int))) 3 n && decide (Int32.ofInt (-(b : Int)) = mI b) && decide (a < mX μ)
    | 7 => dI μ pc .iadd 1 n
    | 8 => dI μ pc .isub 1 n
    | 9 => dI μ pc .imul 1 n
    | 10 => dI μ pc .iand 1 n
    | 11 => dI μ pc .ior 1 n
    | 12 => dI μ pc .ishl 1 n
    | 13 => dI μ pc .ishr 1 n
    | 14 => dI μ pc .iushr 1 n
    | 15 => dI μ pc .i2l 1 n
    | 16 => dI μ pc .i2b 1 n
    | 17 => dI μ pc .ladd 1 n
    | 18 => dI μ pc .lmul 1 n
    | 19 => dI μ pc .lcmp 1 n
    | 20 => dI μ pc .dup 1 n
    | 21 => dI μ pc .dup2 1 n
    | 22 => dI μ pc .pop 1 n
    | 23 => dI μ pc (.goto ((a : Int) - pc)) 3 n
    | 24 => dI μ pc (.ldc2_w d) 3 n && wA c (.constantLong (cN (mC μ)) d (lN a))
    | 25 => dI μ pc .idiv 1 n
    | 26 => dI μ pc .irem 1 n
    | 30 => dI μ pc (.ifCond (cO b) ((a : Int) - pc)) 3 n
    | 31 => dI μ pc (.if_icmp (cO b) ((a : Int) - pc)) 3 n
    | 32 => match sws[a]? with
      | some (q :: r, e) => kc q.1 (q :: r) && dI μ pc (.tableswitch ((e : Int) - pc) q.1 (q.1 + r.length) (((q :: r).map (fun z => (z.2 : Int) - pc)).toArray)) n n
      | _ => false
    | 33 => match sws[a]? with
      | some (l, e) => dI μ pc (.lookupswitch ((e : Int) - pc) ((l.map (fun z => (z.1, (z.2 : Int) - pc))).toArray)) n n && ((l.map (fun z => (z.1, (z.2 : Int) - pc))).zip ((l.map (fun z => (z.1, (z.2 : Int) - pc))).drop 1)).all (fun (z, next) => z.1 < next.1)
      | _ => false
    | 40 => dI μ pc (.getfield d) 3 n && decide (b < 8) && decide (a < cF b) && (isr b a == false) && (wA c (.fieldLink (cN (mC μ)) d (cN b) (cT b a).2.1 (cT b a).2.2.1) || wA c (.fieldLinkNest (cN (mC μ)) d (cN b) (cT b a).2.1 (cT b a).2.2.1 RX6))
    | 41 => dI μ pc (.getfield d) 3 n && decide (b < 8) && decide (a < cF b) && (isr b a == true) && (wA c (.fieldLink (cN (mC μ)) d (cN b) (cT b a).2.1 (cT b a).2.2.1) || wA c (.fieldLinkNest (cN (mC μ)) d (cN b) (cT b a).2.1 (cT b a).2.2.1 RX6))
    | 42 => dI μ pc (.putfield d) 3 n && decide (b < 8) && decide (a < cF b) && (isr b a == false) && ((cT b a).2.2.2 == false) && decide (cTy b a = if bfl b a = true then .boolean else .int) && (wA c (.fieldLink (cN (mC μ)) d (cN b) (cT b a).2.1 (cT b a).2.2.1) || wA c (.fieldLinkNest (cN (mC μ)) d (cN b) (cT b a).2.1 (cT b a).2.2.1 RX6))
    | 43 => dI μ pc (.putfield d) 3 n && decide (b < 8) && decide (a < cF b) && (isr b a == true) && ((cT b a).2.2.2 == true) && decide ((mY μ).name = "<init>") && decide (b = mC μ) && wA c (.fieldLink (cN (mC μ)) d (cN b) (cT b a).2.1 (cT b a).2.2.1)
    | 44 => dI μ pc (.getstatic d) 3 n && (a == 1001 || a == 1002) && (wA c (.fieldLink (cN (mC μ)) d RX6 (sgN a) "[I") || wA c (.fieldLinkNest (cN (mC μ)) d RX6 (sgN a) "[I" RX6))
    | 50 => dI μ pc .iaload 1 n
    | 51 => dI μ pc .iastore 1 n
    | 52 => dI μ pc .baload 1 n
    | 53 => dI μ pc .bastore 1 n
    | 54 => dI μ pc .aaload 1 n
    | 55 => dI μ pc .aastore 1 n
    | 56 => dI μ pc .arraylength 1 n
    | 60 => dI μ pc (.new d) 3 n && decide (a < 8) && wA c (.classLink (cN (mC μ)) d (cN a)) && wA b (.instantiable (cN a) (cF a))
    | 61 => dI μ pc (.newarray (aty a)) 2 n && (a == 1 || a == 2 || a == 3) && wA c (.arrayClass (fty a))
    | 62 => dI μ pc (.anewarray d) 3 n && ((a == 4 && wA c (.classLink (cN (mC μ)) d RX0)) || (a == 5 && wA c (.classLink (cN (mC μ)) d RX3)))
    | 70 => dI μ pc (.invokevirtual d) 3 n && hE a && rE μ a && pE a (b - 1) && decide (1 ≤ b) && decide (mC a < 8) && (wA c (.methodLink (cN (mC μ)) d (mY a)) || wA c (.methodLinkNest (cN (mC μ)) d (mY a) RX6)) && wA (mP2 a) (.instanceMethod (mY a)) && wA (mP3 a) (.selects (cN (mC a)) (mY a) (mY a)) && decide (mK a = 0) && decide (mS a = 0)
    | 71 => dI μ pc (.invokespecial d) 3 n && wA c (.methodLink (cN (mC μ)) d objectInit) && decide (1 ≤ mF μ) && decide (20 ≤ mL μ)
    | 72 => dI μ pc (.invokestatic d) 3 n && wA c (.methodLink (cN (mC μ)) d arraycopyName) && decide (1 ≤ mF μ) && decide (26 ≤ mL μ)
    | 73 => dI μ pc (.invokestatic d) 3 n && hE a && rE μ a && pE a b && (wA c (.methodLink (cN (mC μ)) d (mY a)) || wA c (.methodLinkNest (cN (mC μ)) d (mY a) RX6)) && wA (mP2 a) (.static (mY a)) && decide (mK a = 0) && decide (mS a = 0)
    | 74 => dI μ pc (.invokespecial d) 3 n && hE a && rE μ a && pE a 0 && (wA c (.methodLink (cN (mC μ)) d (mY a)) || wA c (.methodLinkNest (cN (mC μ)) d (mY a) RX6)) && wA (mP2 a) (.instanceMethod (mY a)) && decide ((mY a).name = "<init>") && decide (mA a = none)
    | 75 => dI μ pc (.invokestatic d) 3 n && wA c (.methodLink (cN (mC μ)) d Lib.Math.min.name) && decide (1 ≤ mF μ) && decide (21 ≤ mL μ)
    | 80 => dI μ pc .ireturn 1 n && decide (mA μ = some .int ∨ mA μ = some .boolean)
    | 81 => dI μ pc .lreturn 1 n && decide (mA μ = some .long)
    | 82 => dI μ pc .areturn 1 n && decide (mA μ = some (.object RX0) ∨ mA μ = some (.object RX2))
    | 83 => dI μ pc .return_ 1 n && decide (mA μ = none)
    | _ => false
theorem all_cut {α : Type} {f : α → Bool} {l : List α} (k m : Nat) (h1 : ((l.drop k).take m).all f = true) (h2 : (l.drop (k + m)).all f = true) : (l.drop k).all f = true := by
  rw [← List.take_append_drop m (l.drop k), List.all_append, h1, List.drop_drop, h2]
  rfl
set_option maxRecDepth 100000 in
theorem ck_X0_init : (mT 0).all (cE 0) = true := by decide +kernel
set_option maxRecDepth 100000 in
theorem ck_X0_copyRow : (mT 1).all (cE 1) = true := by decide +kernel
set_option maxRecDepth 100000 in
theorem ck_X0_takeFrom : (mT 2).all (cE 2) = true := by decide +kernel
set_option maxRecDepth 100000 in
theorem ck_X6_within : (mT 3).all (cE 3) = true := by decide +kernel
set_option maxRecDepth 100000 in
theorem ck_X6_isSide : (mT 4).all (cE 4) = true := by decide +kernel
set_option maxRecDepth 100000 in
theorem ck_X0_hasParagraph : (mT 5).all (cE 5) = true := by decide +kernel
set_option maxRecDepth 100000 in
theorem ck_X0_slot : (mT 6).all (cE 6) = true := by decide +kernel
set_option maxRecDepth 100000 in
theorem ck_X0_wordsIn : (mT 7).all (cE 7) = true := by decide +kernel
set_option maxRecDepth 100000 in
theorem ck_X0_hasWord : (mT 8).all (cE 8) = true := by decide +kernel
set_option maxRecDepth 100000 in
theorem ck_X0_hasTie : (mT 9).all (cE 9) = true := by decide +kernel
set_option maxRecDepth 100000 in
theorem ck_X0_lengthOf : (mT 10).all (cE 10) = true := by decide +kernel
set_option maxRecDepth 100000 in
theorem ck_X0_lineOf : (mT 11).all (cE 11) = true := by decide +kernel
set_option maxRecDepth 100000 in
theorem ck_X0_linesIn : (mT 12).all (cE 12) = true := by decide +kernel
set_option maxRecDepth 100000 in
theorem ck_X0_linesOfSide : (mT 13).all (cE 13) = true := by decide +kernel
set_option maxRecDepth 100000 in
theorem ck_X0_addParagraph : (mT 14).all (cE 14) = true := by decide +kernel
set_option maxRecDepth 100000 in
theorem ck_X0_dropTie : (mT 15).all (cE 15) = true := by decide +kernel
set_option maxRecDepth 100000 in
theorem ck_X0_dropTiesOf : (mT 16).all (cE 16) = true := by decide +kernel
set_option maxRecDepth 100000 in
theorem ck_X0_dropParagraph : (mT 17).all (cE 17) = true := by decide +kernel
set_option maxRecDepth 100000 in
theorem ck_X0_changeWidth : (mT 18).all (cE 18) = true := by decide +kernel
set_option maxRecDepth 100000 in
theorem ck_X0_changeSetting : (mT 19).all (cE 19) = true := by decide +kernel
set_option maxRecDepth 100000 in
theorem ck_X0_addTie : (mT 20).all (cE 20) = true := by decide +kernel
set_option maxRecDepth 100000 in
theorem ck_X0_cross : (mT 21).all (cE 21) = true := by decide +kernel
set_option maxRecDepth 100000 in
theorem ck_X1_init : (mT 22).all (cE 22) = true := by decide +kernel
set_option maxRecDepth 100000 in
theorem ck_X1_findCrossed : (mT 23).all (cE 23) = true := by decide +kernel
set_option maxRecDepth 100000 in
theorem ck_X1_weightOf : (mT 24).all (cE 24) = true := by decide +kernel
set_option maxRecDepth 100000 in
theorem ck_J6_bitCount_0f7a4 : (mT 25).all (cE 25) = true := by decide +kernel
set_option maxRecDepth 100000 in
theorem ck_X1_follow : (mT 26).all (cE 26) = true := by decide +kernel
set_option maxRecDepth 100000 in
theorem ck_X2_init : (mT 27).all (cE 27) = true := by decide +kernel
set_option maxRecDepth 100000 in
theorem ck_X2_setTolls : (mT 28).all (cE 28) = true := by decide +kernel
set_option maxRecDepth 100000 in
theorem ck_X2_markBegun : (mT 29).all (cE 29) = true := by decide +kernel
set_option maxRecDepth 100000 in
theorem ck_X2_rankBy : (mT 30).all (cE 30) = true := by decide +kernel
set_option maxRecDepth 100000 in
theorem ck_X2_leastRank : (mT 31).all (cE 31) = true := by decide +kernel
set_option maxRecDepth 100000 in
theorem ck_X2_rankAll : (mT 32).all (cE 32) = true := by decide +kernel
set_option maxRecDepth 100000 in
theorem ck_X2_takeMost : (mT 33).all (cE 33) = true := by decide +kernel
set_option maxRecDepth 100000 in
theorem ck_X2_walk : (mT 34).all (cE 34) = true := by decide +kernel
set_option maxRecDepth 100000 in
theorem ck_X2_follow : (mT 35).all (cE 35) = true := by decide +kernel
set_option maxRecDepth 100000 in
theorem ck_X2_taken0 : (mT 36).all (cE 36) = true := by decide +kernel
set_option maxRecDepth 100000 in
theorem ck_X2_taken1 : (mT 37).all (cE 37) = true := by decide +kernel
set_option maxRecDepth 100000 in
theorem ck_X2_costOf : (mT 38).all (cE 38) = true := by decide +kernel
set_option maxRecDepth 100000 in
theorem ck_X2_openingWith : (mT 39).all (cE 39) = true := by decide +kernel
set_option maxRecDepth 100000 in
theorem ck_X3_init : (mT 40).all (cE 40) = true := by decide +kernel
set_option maxRecDepth 100000 in
theorem ck_X3_allowBreaks : (mT 41).all (cE 41) = true := by decide +kernel
set_option maxRecDepth 100000 in
theorem ck_X3_follow : (mT 42).all (cE 42) = true := by decide +kernel
set_option maxRecDepth 100000 in
theorem ck_X4_init : (mT 43).all (cE 43) = true := by decide +kernel
set_option maxRecDepth 100000 in
theorem ck_X4_append : (mT 44).all (cE 44) = true := by decide +kernel
set_option maxRecDepth 100000 in
theorem ck_X4_mostNumbers : (mT 45).all (cE 45) = true := by decide +kernel
set_option maxRecDepth 100000 in
theorem ck_X4_beginOrder : (mT 46).all (cE 46) = true := by decide +kernel
set_option maxRecDepth 100000 in
theorem ck_X4_numbersOfOrder : (mT 47).all (cE 47) = true := by decide +kernel
set_option maxRecDepth 100000 in
theorem ck_X4_takeFigure : (mT 48).all (cE 48) = true := by decide +kernel
set_option maxRecDepth 100000 in
theorem ck_X4_leastNumbers : (mT 49).all (cE 49) = true := by decide +kernel
set_option maxRecDepth 100000 in
theorem ck_X4_endOrder : (mT 50).all (cE 50) = true := by decide +kernel
set_option maxRecDepth 100000 in
theorem ck_X4_accepts : (mT 51).all (cE 51) = true := by decide +kernel
set_option maxRecDepth 100000 in
theorem ck_X4_read : (mT 52).all (cE 52) = true := by decide +kernel
set_option maxRecDepth 100000 in
theorem ck_X5_init : (mT 53).all (cE 53) = true := by decide +kernel
set_option maxRecDepth 100000 in
theorem ck_X5_loseOldest : (mT 54).all (cE 54) = true := by decide +kernel
set_option maxRecDepth 100000 in
theorem ck_X5_keep : (mT 55).all (cE 55) = true := by decide +kernel
set_option maxRecDepth 100000 in
theorem ck_X5_giveBack : (mT 56).all (cE 56) = true := by decide +kernel
set_option maxRecDepth 100000 in
theorem ck_X6_forgetPlans : (mT 57).all (cE 57) = true := by decide +kernel
set_option maxRecDepth 100000 in
theorem ck_X6_init : (mT 58).all (cE 58) = true := by decide +kernel
set_option maxRecDepth 100000 in
theorem ck_X6_refuse : (mT 59).all (cE 59) = true := by decide +kernel
set_option maxRecDepth 100000 in
theorem ck_X6_copyToTry : (mT 60).all (cE 60) = true := by decide +kernel
set_option maxRecDepth 100000 in
theorem ck_X6_settle : (mT 61).all (cE 61) = true := by decide +kernel
set_option maxRecDepth 100000 in
theorem ck_X6_para : (mT 62).all (cE 62) = true := by decide +kernel
set_option maxRecDepth 100000 in
theorem ck_X6_drops : (mT 63).all (cE 63) = true := by decide +kernel
set_option maxRecDepth 100000 in
theorem ck_X6_widths : (mT 64).all (cE 64) = true := by decide +kernel
set_option maxRecDepth 100000 in
theorem ck_X6_sets : (mT 65).all (cE 65) = true := by decide +kernel
set_option maxRecDepth 100000 in
theorem ck_X6_ties : (mT 66).all (cE 66) = true := by decide +kernel
set_option maxRecDepth 100000 in
theorem ck_X6_unties : (mT 67).all (cE 67) = true := by decide +kernel
set_option maxRecDepth 100000 in
theorem ck_X6_measure : (mT 68).all (cE 68) = true := by decide +kernel
set_option maxRecDepth 100000 in
theorem ck_X6_layOut : (mT 69).all (cE 69) = true := by decide +kernel
set_option maxRecDepth 100000 in
theorem ck_X6_of : (mT 70).all (cE 70) = true := by decide +kernel
set_option maxRecDepth 100000 in
theorem ck_X6_word : (mT 71).all (cE 71) = true := by decide +kernel
set_option maxRecDepth 100000 in
theorem ck_X6_tie : (mT 72).all (cE 72) = true := by decide +kernel
set_option maxRecDepth 100000 in
theorem ck_X6_crossing : (mT 73).all (cE 73) = true := by decide +kernel
set_option maxRecDepth 100000 in
theorem ck_X6_lawful : (mT 74).all (cE 74) = true := by decide +kernel
set_option maxRecDepth 100000 in
theorem ck_X6_opening : (mT 75).all (cE 75) = true := by decide +kernel
set_option maxRecDepth 100000 in
theorem ck_X6_count : (mT 76).all (cE 76) = true := by decide +kernel
set_option maxRecDepth 100000 in
theorem ck_X6_type : (mT 77).all (cE 77) = true := by decide +kernel
set_option maxRecDepth 100000 in
theorem ck_X6_clear : (mT 78).all (cE 78) = true := by decide +kernel
set_option maxRecDepth 100000 in
theorem ck_X6_tryOrder : (mT 79).all (cE 79) = true := by decide +kernel
set_option maxRecDepth 100000 in
theorem ck_X6_does : (mT 80).all (cE 80) = true := by decide +kernel
set_option maxRecDepth 100000 in
theorem ck_X6_back : (mT 81).all (cE 81) = true := by decide +kernel
set_option maxRecDepth 100000 in
theorem ck_X6_told : (mT 82).all (cE 82) = true := by decide +kernel
set_option maxRecDepth 100000 in
theorem ck_X6_digest_0 : (((mT 83).drop 0).take 40).all (cE 83) = true := by decide +kernel
set_option maxRecDepth 100000 in
theorem ck_X6_digest_40 : (((mT 83).drop 40).take 40).all (cE 83) = true := by decide +kernel
set_option maxRecDepth 100000 in
theorem ck_X6_digest_80 : (((mT 83).drop 80).take 40).all (cE 83) = true := by decide +kernel
set_option maxRecDepth 100000 in
theorem ck_X6_digest_120 : (((mT 83).drop 120).take 40).all (cE 83) = true := by decide +kernel
theorem ck_X6_digest_160 : ((mT 83).drop 160).all (cE 83) = true := by decide +kernel
theorem ck_X6_digest : (mT 83).all (cE 83) = true := all_cut 0 40 ck_X6_digest_0 (all_cut 40 40 ck_X6_digest_40 (all_cut 80 40 ck_X6_digest_80 (all_cut 120 40 ck_X6_digest_120 ck_X6_digest_160)))
set_option maxRecDepth 100000 in
theorem ck_X7_init : (mT 84).all (cE 84) = true := by decide +kernel
set_option maxRecDepth 100000 in
theorem ck_X7_bad : (mT 85).all (cE 85) = true := by decide +kernel
set_option maxRecDepth 100000 in
theorem ck_X7_no : (mT 86).all (cE 86) = true := by decide +kernel
set_option maxRecDepth 100000 in
theorem ck_X7_full : (mT 87).all (cE 87) = true := by decide +kernel
set_option maxRecDepth 100000 in
theorem ck_X7_counted : (mT 88).all (cE 88) = true := by decide +kernel
set_option maxRecDepth 100000 in
theorem ck_X7_in : (mT 89).all (cE 89) = true := by decide +kernel
set_option maxRecDepth 100000 in
theorem ck_X7_puts : (mT 90).all (cE 90) = true := by decide +kernel
set_option maxRecDepth 100000 in
theorem ck_X7_takes : (mT 91).all (cE 91) = true := by decide +kernel
set_option maxRecDepth 100000 in
theorem ck_X7_leavesState : (mT 92).all (cE 92) = true := by decide +kernel
set_option maxRecDepth 100000 in
theorem ck_X7_back : (mT 93).all (cE 93) = true := by decide +kernel
set_option maxRecDepth 100000 in
theorem ck_X7_at : (mT 94).all (cE 94) = true := by decide +kernel
set_option maxRecDepth 100000 in
theorem ck_X7_many : (mT 95).all (cE 95) = true := by decide +kernel
set_option maxRecDepth 100000 in
theorem ck_X7_wordsOf : (mT 96).all (cE 96) = true := by decide +kernel
set_option maxRecDepth 100000 in
theorem ck_X7_lengthOf : (mT 97).all (cE 97) = true := by decide +kernel
set_option maxRecDepth 100000 in
theorem ck_X7_lineOf : (mT 98).all (cE 98) = true := by decide +kernel
set_option maxRecDepth 100000 in
theorem ck_X7_linesOf : (mT 99).all (cE 99) = true := by decide +kernel
set_option maxRecDepth 100000 in
theorem ck_X7_firstOf : (mT 100).all (cE 100) = true := by decide +kernel
set_option maxRecDepth 100000 in
theorem ck_X7_linesOfAll : (mT 101).all (cE 101) = true := by decide +kernel
set_option maxRecDepth 100000 in
theorem ck_X7_isPara : (mT 102).all (cE 102) = true := by decide +kernel
set_option maxRecDepth 100000 in
theorem ck_X7_isTooLong : (mT 103).all (cE 103) = true := by decide +kernel
set_option maxRecDepth 100000 in
theorem ck_X7_canPara : (mT 104).all (cE 104) = true := by decide +kernel
set_option maxRecDepth 100000 in
theorem ck_X7_paraComes : (mT 105).all (cE 105) = true := by decide +kernel
set_option maxRecDepth 100000 in
theorem ck_X7_canWidth : (mT 106).all (cE 106) = true := by decide +kernel
set_option maxRecDepth 100000 in
theorem ck_X7_widthBecomes : (mT 107).all (cE 107) = true := by decide +kernel
set_option maxRecDepth 100000 in
theorem ck_X7_canSet : (mT 108).all (cE 108) = true := by decide +kernel
set_option maxRecDepth 100000 in
theorem ck_X7_setBecomes : (mT 109).all (cE 109) = true := by decide +kernel
set_option maxRecDepth 100000 in
theorem ck_X7_tieAt : (mT 110).all (cE 110) = true := by decide +kernel
set_option maxRecDepth 100000 in
theorem ck_X7_ofTie : (mT 111).all (cE 111) = true := by decide +kernel
set_option maxRecDepth 100000 in
theorem ck_X7_canTie : (mT 112).all (cE 112) = true := by decide +kernel
set_option maxRecDepth 100000 in
theorem ck_X7_tieComes : (mT 113).all (cE 113) = true := by decide +kernel
set_option maxRecDepth 100000 in
theorem ck_X7_tieGoes : (mT 114).all (cE 114) = true := by decide +kernel
set_option maxRecDepth 100000 in
theorem ck_X7_para : (mT 115).all (cE 115) = true := by decide +kernel
set_option maxRecDepth 100000 in
theorem ck_X7_drops : (mT 116).all (cE 116) = true := by decide +kernel
set_option maxRecDepth 100000 in
theorem ck_X7_widths : (mT 117).all (cE 117) = true := by decide +kernel
set_option maxRecDepth 100000 in
theorem ck_X7_sets : (mT 118).all (cE 118) = true := by decide +kernel
set_option maxRecDepth 100000 in
theorem ck_X7_ties : (mT 119).all (cE 119) = true := by decide +kernel
set_option maxRecDepth 100000 in
theorem ck_X7_unties : (mT 120).all (cE 120) = true := by decide +kernel
set_option maxRecDepth 100000 in
theorem ck_X7_areCrossing : (mT 121).all (cE 121) = true := by decide +kernel
set_option maxRecDepth 100000 in
theorem ck_X7_isPlain : (mT 122).all (cE 122) = true := by decide +kernel
set_option maxRecDepth 100000 in
theorem ck_X7_weightOf : (mT 123).all (cE 123) = true := by decide +kernel
set_option maxRecDepth 100000 in
theorem ck_X7_findsKept : (mT 124).all (cE 124) = true := by decide +kernel
set_option maxRecDepth 100000 in
theorem ck_X7_findsBreaks : (mT 125).all (cE 125) = true := by decide +kernel
set_option maxRecDepth 100000 in
theorem ck_X7_all : (mT 126).all (cE 126) = true := by decide +kernel
set_option maxRecDepth 100000 in
theorem ck_X7_costOf : (mT 127).all (cE 127) = true := by decide +kernel
set_option maxRecDepth 100000 in
theorem ck_X7_areTied : (mT 128).all (cE 128) = true := by decide +kernel
set_option maxRecDepth 100000 in
theorem ck_X7_canTake : (mT 129).all (cE 129) = true := by decide +kernel
set_option maxRecDepth 100000 in
theorem ck_X7_costWith : (mT 130).all (cE 130) = true := by decide +kernel
set_option maxRecDepth 100000 in
theorem ck_X7_finds : (mT 131).all (cE 131) = true := by decide +kernel
set_option maxRecDepth 100000 in
theorem ck_X7_follows_0 : (((mT 132).drop 0).take 40).all (cE 132) = true := by decide +kernel
set_option maxRecDepth 100000 in
theorem ck_X7_follows_40 : (((mT 132).drop 40).take 40).all (cE 132) = true := by decide +kernel
set_option maxRecDepth 100000 in
theorem ck_X7_follows_80 : (((mT 132).drop 80).take 40).all (cE 132) = true := by decide +kernel
set_option maxRecDepth 100000 in
theorem ck_X7_follows_120 : (((mT 132).drop 120).take 40).all (cE 132) = true := by decide +kernel
theorem ck_X7_follows_160 : ((mT 132).drop 160).all (cE 132) = true := by decide +kernel
theorem ck_X7_follows : (mT 132).all (cE 132) = true := all_cut 0 40 ck_X7_follows_0 (all_cut 40 40 ck_X7_follows_40 (all_cut 80 40 ck_X7_follows_80 (all_cut 120 40 ck_X7_follows_120 ck_X7_follows_160)))
set_option maxRecDepth 100000 in
theorem ck_X7_lays : (mT 133).all (cE 133) = true := by decide +kernel
set_option maxRecDepth 100000 in
theorem ck_X7_openingOf : (mT 134).all (cE 134) = true := by decide +kernel
set_option maxRecDepth 100000 in
theorem ck_X7_ofPara : (mT 135).all (cE 135) = true := by decide +kernel
set_option maxRecDepth 100000 in
theorem ck_X7_of : (mT 136).all (cE 136) = true := by decide +kernel
set_option maxRecDepth 100000 in
theorem ck_X7_word : (mT 137).all (cE 137) = true := by decide +kernel
set_option maxRecDepth 100000 in
theorem ck_X7_crosses : (mT 138).all (cE 138) = true := by decide +kernel
set_option maxRecDepth 100000 in
theorem ck_X7_tieIs : (mT 139).all (cE 139) = true := by decide +kernel
set_option maxRecDepth 100000 in
theorem ck_X7_tie : (mT 140).all (cE 140) = true := by decide +kernel
set_option maxRecDepth 100000 in
theorem ck_X7_crossing : (mT 141).all (cE 141) = true := by decide +kernel
set_option maxRecDepth 100000 in
theorem ck_X7_lawful : (mT 142).all (cE 142) = true := by decide +kernel
set_option maxRecDepth 100000 in
theorem ck_X7_openingIs : (mT 143).all (cE 143) = true := by decide +kernel
set_option maxRecDepth 100000 in
theorem ck_X7_opening : (mT 144).all (cE 144) = true := by decide +kernel
set_option maxRecDepth 100000 in
theorem ck_X7_crossings : (mT 145).all (cE 145) = true := by decide +kernel
set_option maxRecDepth 100000 in
theorem ck_X7_countOf : (mT 146).all (cE 146) = true := by decide +kernel
set_option maxRecDepth 100000 in
theorem ck_X7_count : (mT 147).all (cE 147) = true := by decide +kernel
set_option maxRecDepth 100000 in
theorem ck_X7_type : (mT 148).all (cE 148) = true := by decide +kernel
set_option maxRecDepth 100000 in
theorem ck_X7_clear : (mT 149).all (cE 149) = true := by decide +kernel
set_option maxRecDepth 100000 in
theorem ck_X7_isAt : (mT 150).all (cE 150) = true := by decide +kernel
set_option maxRecDepth 100000 in
theorem ck_X7_blanks : (mT 151).all (cE 151) = true := by decide +kernel
set_option maxRecDepth 100000 in
theorem ck_X7_number : (mT 152).all (cE 152) = true := by decide +kernel
set_option maxRecDepth 100000 in
theorem ck_X7_numbersOf : (mT 153).all (cE 153) = true := by decide +kernel
set_option maxRecDepth 100000 in
theorem ck_X7_doesOrder : (mT 154).all (cE 154) = true := by decide +kernel
set_option maxRecDepth 100000 in
theorem ck_X7_reads_0 : (((mT 155).drop 0).take 40).all (cE 155) = true := by decide +kernel
set_option maxRecDepth 100000 in
theorem ck_X7_reads_40 : (((mT 155).drop 40).take 40).all (cE 155) = true := by decide +kernel
set_option maxRecDepth 100000 in
theorem ck_X7_reads_80 : (((mT 155).drop 80).take 40).all (cE 155) = true := by decide +kernel
set_option maxRecDepth 100000 in
theorem ck_X7_reads_120 : (((mT 155).drop 120).take 40).all (cE 155) = true := by decide +kernel
theorem ck_X7_reads_160 : ((mT 155).drop 160).all (cE 155) = true := by decide +kernel
theorem ck_X7_reads : (mT 155).all (cE 155) = true := all_cut 0 40 ck_X7_reads_0 (all_cut 40 40 ck_X7_reads_40 (all_cut 80 40 ck_X7_reads_80 (all_cut 120 40 ck_X7_reads_120 ck_X7_reads_160)))
set_option maxRecDepth 100000 in
theorem ck_X7_does : (mT 156).all (cE 156) = true := by decide +kernel
set_option maxRecDepth 100000 in
theorem ck_X7_toldOf : (mT 157).all (cE 157) = true := by decide +kernel
set_option maxRecDepth 100000 in
theorem ck_X7_told : (mT 158).all (cE 158) = true := by decide +kernel
set_option maxRecDepth 100000 in
theorem ck_X7_digest : (mT 159).all (cE 159) = true := by decide +kernel
set_option maxRecDepth 100000 in
theorem ck_L_law_0 : (((mT 160).drop 0).take 40).all (cE 160) = true := by decide +kernel
set_option maxRecDepth 100000 in
theorem ck_L_law_40 : (((mT 160).drop 40).take 40).all (cE 160) = true := by decide +kernel
set_option maxRecDepth 100000 in
theorem ck_L_law_80 : (((mT 160).drop 80).take 40).all (cE 160) = true := by decide +kernel
set_option maxRecDepth 100000 in
theorem ck_L_law_120 : (((mT 160).drop 120).take 40).all (cE 160) = true := by decide +kernel
set_option maxRecDepth 100000 in
theorem ck_L_law_160 : (((mT 160).drop 160).take 40).all (cE 160) = true := by decide +kernel
set_option maxRecDepth 100000 in
theorem ck_L_law_200 : (((mT 160).drop 200).take 40).all (cE 160) = true := by decide +kernel
set_option maxRecDepth 100000 in
theorem ck_L_law_240 : (((mT 160).drop 240).take 40).all (cE 160) = true := by decide +kernel
set_option maxRecDepth 100000 in
theorem ck_L_law_280 : (((mT 160).drop 280).take 40).all (cE 160) = true := by decide +kernel
set_option maxRecDepth 100000 in
theorem ck_L_law_320 : (((mT 160).drop 320).take 40).all (cE 160) = true := by decide +kernel
set_option maxRecDepth 100000 in
theorem ck_L_law_360 : (((mT 160).drop 360).take 40).all (cE 160) = true := by decide +kernel
set_option maxRecDepth 100000 in
theorem ck_L_law_400 : (((mT 160).drop 400).take 40).all (cE 160) = true := by decide +kernel
set_option maxRecDepth 100000 in
theorem ck_L_law_440 : (((mT 160).drop 440).take 40).all (cE 160) = true := by decide +kernel
theorem ck_L_law_480 : ((mT 160).drop 480).all (cE 160) = true := by decide +kernel
theorem ck_L_law : (mT 160).all (cE 160) = true := all_cut 0 40 ck_L_law_0 (all_cut 40 40 ck_L_law_40 (all_cut 80 40 ck_L_law_80 (all_cut 120 40 ck_L_law_120 (all_cut 160 40 ck_L_law_160 (all_cut 200 40 ck_L_law_200 (all_cut 240 40 ck_L_law_240 (all_cut 280 40 ck_L_law_280 (all_cut 320 40 ck_L_law_320 (all_cut 360 40 ck_L_law_360 (all_cut 400 40 ck_L_law_400 (all_cut 440 40 ck_L_law_440 ck_L_law_480)))))))))))
theorem ck_all : ∀ μ, μ < 161 → (mT μ).all (cE μ) = true := by
  intro μ h
  match μ, h with
  | 0, _ => exact ck_X0_init
  | 1, _ => exact ck_X0_copyRow
  | 2, _ => exact ck_X0_takeFrom
  | 3, _ => exact ck_X6_within
  | 4, _ => exact ck_X6_isSide
  | 5, _ => exact ck_X0_hasParagraph
  | 6, _ => exact ck_X0_slot
  | 7, _ => exact ck_X0_wordsIn
  | 8, _ => exact ck_X0_hasWord
  | 9, _ => exact ck_X0_hasTie
  | 10, _ => exact ck_X0_lengthOf
  | 11, _ => exact ck_X0_lineOf
  | 12, _ => exact ck_X0_linesIn
  | 13, _ => exact ck_X0_linesOfSide
  | 14, _ => exact ck_X0_addParagraph
  | 15, _ => exact ck_X0_dropTie
  | 16, _ => exact ck_X0_dropTiesOf
  | 17, _ => exact ck_X0_dropParagraph
  | 18, _ => exact ck_X0_changeWidth
  | 19, _ => exact ck_X0_changeSetting
  | 20, _ => exact ck_X0_addTie
  | 21, _ => exact ck_X0_cross
  | 22, _ => exact ck_X1_init
  | 23, _ => exact ck_X1_findCrossed
  | 24, _ => exact ck_X1_weightOf
  | 25, _ => exact ck_J6_bitCount_0f7a4
  | 26, _ => exact ck_X1_follow
  | 27, _ => exact ck_X2_init
  | 28, _ => exact ck_X2_setTolls
  | 29, _ => exact ck_X2_markBegun
  | 30, _ => exact ck_X2_rankBy
  | 31, _ => exact ck_X2_leastRank
  | 32, _ => exact ck_X2_rankAll
  | 33, _ => exact ck_X2_takeMost
  | 34, _ => exact ck_X2_walk
  | 35, _ => exact ck_X2_follow
  | 36, _ => exact ck_X2_taken0
  | 37, _ => exact ck_X2_taken1
  | 38, _ => exact ck_X2_costOf
  | 39, _ => exact ck_X2_openingWith
  | 40, _ => exact ck_X3_init
  | 41, _ => exact ck_X3_allowBreaks
  | 42, _ => exact ck_X3_follow
  | 43, _ => exact ck_X4_init
  | 44, _ => exact ck_X4_append
  | 45, _ => exact ck_X4_mostNumbers
  | 46, _ => exact ck_X4_beginOrder
  | 47, _ => exact ck_X4_numbersOfOrder
  | 48, _ => exact ck_X4_takeFigure
  | 49, _ => exact ck_X4_leastNumbers
  | 50, _ => exact ck_X4_endOrder
  | 51, _ => exact ck_X4_accepts
  | 52, _ => exact ck_X4_read
  | 53, _ => exact ck_X5_init
  | 54, _ => exact ck_X5_loseOldest
  | 55, _ => exact ck_X5_keep
  | 56, _ => exact ck_X5_giveBack
  | 57, _ => exact ck_X6_forgetPlans
  | 58, _ => exact ck_X6_init
  | 59, _ => exact ck_X6_refuse
  | 60, _ => exact ck_X6_copyToTry
  | 61, _ => exact ck_X6_settle
  | 62, _ => exact ck_X6_para
  | 63, _ => exact ck_X6_drops
  | 64, _ => exact ck_X6_widths
  | 65, _ => exact ck_X6_sets
  | 66, _ => exact ck_X6_ties
  | 67, _ => exact ck_X6_unties
  | 68, _ => exact ck_X6_measure
  | 69, _ => exact ck_X6_layOut
  | 70, _ => exact ck_X6_of
  | 71, _ => exact ck_X6_word
  | 72, _ => exact ck_X6_tie
  | 73, _ => exact ck_X6_crossing
  | 74, _ => exact ck_X6_lawful
  | 75, _ => exact ck_X6_opening
  | 76, _ => exact ck_X6_count
  | 77, _ => exact ck_X6_type
  | 78, _ => exact ck_X6_clear
  | 79, _ => exact ck_X6_tryOrder
  | 80, _ => exact ck_X6_does
  | 81, _ => exact ck_X6_back
  | 82, _ => exact ck_X6_told
  | 83, _ => exact ck_X6_digest
  | 84, _ => exact ck_X7_init
  | 85, _ => exact ck_X7_bad
  | 86, _ => exact ck_X7_no
  | 87, _ => exact ck_X7_full
  | 88, _ => exact ck_X7_counted
  | 89, _ => exact ck_X7_in
  | 90, _ => exact ck_X7_puts
  | 91, _ => exact ck_X7_takes
  | 92, _ => exact ck_X7_leavesState
  | 93, _ => exact ck_X7_back
  | 94, _ => exact ck_X7_at
  | 95, _ => exact ck_X7_many
  | 96, _ => exact ck_X7_wordsOf
  | 97, _ => exact ck_X7_lengthOf
  | 98, _ => exact ck_X7_lineOf
  | 99, _ => exact ck_X7_linesOf
  | 100, _ => exact ck_X7_firstOf
  | 101, _ => exact ck_X7_linesOfAll
  | 102, _ => exact ck_X7_isPara
  | 103, _ => exact ck_X7_isTooLong
  | 104, _ => exact ck_X7_canPara
  | 105, _ => exact ck_X7_paraComes
  | 106, _ => exact ck_X7_canWidth
  | 107, _ => exact ck_X7_widthBecomes
  | 108, _ => exact ck_X7_canSet
  | 109, _ => exact ck_X7_setBecomes
  | 110, _ => exact ck_X7_tieAt
  | 111, _ => exact ck_X7_ofTie
  | 112, _ => exact ck_X7_canTie
  | 113, _ => exact ck_X7_tieComes
  | 114, _ => exact ck_X7_tieGoes
  | 115, _ => exact ck_X7_para
  | 116, _ => exact ck_X7_drops
  | 117, _ => exact ck_X7_widths
  | 118, _ => exact ck_X7_sets
  | 119, _ => exact ck_X7_ties
  | 120, _ => exact ck_X7_unties
  | 121, _ => exact ck_X7_areCrossing
  | 122, _ => exact ck_X7_isPlain
  | 123, _ => exact ck_X7_weightOf
  | 124, _ => exact ck_X7_findsKept
  | 125, _ => exact ck_X7_findsBreaks
  | 126, _ => exact ck_X7_all
  | 127, _ => exact ck_X7_costOf
  | 128, _ => exact ck_X7_areTied
  | 129, _ => exact ck_X7_canTake
  | 130, _ => exact ck_X7_costWith
  | 131, _ => exact ck_X7_finds
  | 132, _ => exact ck_X7_follows
  | 133, _ => exact ck_X7_lays
  | 134, _ => exact ck_X7_openingOf
  | 135, _ => exact ck_X7_ofPara
  | 136, _ => exact ck_X7_of
  | 137, _ => exact ck_X7_word
  | 138, _ => exact ck_X7_crosses
  | 139, _ => exact ck_X7_tieIs
  | 140, _ => exact ck_X7_tie
  | 141, _ => exact ck_X7_crossing
  | 142, _ => exact ck_X7_lawful
  | 143, _ => exact ck_X7_openingIs
  | 144, _ => exact ck_X7_opening
  | 145, _ => exact ck_X7_crossings
  | 146, _ => exact ck_X7_countOf
  | 147, _ => exact ck_X7_count
  | 148, _ => exact ck_X7_type
  | 149, _ => exact ck_X7_clear
  | 150, _ => exact ck_X7_isAt
  | 151, _ => exact ck_X7_blanks
  | 152, _ => exact ck_X7_number
  | 153, _ => exact ck_X7_numbersOf
  | 154, _ => exact ck_X7_doesOrder
  | 155, _ => exact ck_X7_reads
  | 156, _ => exact ck_X7_does
  | 157, _ => exact ck_X7_toldOf
  | 158, _ => exact ck_X7_told
  | 159, _ => exact ck_X7_digest
  | 160, _ => exact ck_L_law
  | μ + 161, h => exact absurd h (by omega)
end
section
/-! THE ABSTRACT MACHINE. Values as the machine has them, but a reference is the number of a cell (its place in the order of making).
A heap: how many cells are made; what reference places hold (0: null, j + 1: cell j); what number places hold. -/
abbrev LT : Type := List (Option Value)
abbrev HP : Type := Nat × (Nat → Nat → Nat) × (Nat → Nat → Int32)
abbrev PT : Type := Option Value → HP → Prop
def lk : Tab → Nat → Option (Nat × Nat × Nat × Nat × Nat × Nat)
  | [], _ => none
  | q :: r, pc => match Nat.beq q.1 pc with
    | true => some q.2
    | false => lk r pc
def lget : LT → Nat → Option Value
  | [], _ => none
  | x :: _, 0 => x
  | _ :: r, n + 1 => lget r n
def lset : LT → Nat → Option Value → LT
  | [], _, _ => []
  | _ :: r, 0, v => v :: r
  | x :: r, n + 1, v => x :: lset r n v
/-- no long stands just below place a -/
def lok (L : LT) (a : Nat) : Bool := match a with
  | 0 => true
  | n + 1 => match lget L n with
    | some (.long _) => false
    | some (.double _) => false
    | _ => true
def slt (n : Nat) : Nat := (szs.take n).sum
def swf : List (Int × Nat) → Nat → Int → Nat
  | [], d, _ => d
  | q :: r, d, x => if x = q.1 then q.2 else swf r d x
def swt (k : Nat) (x : Int32) : Nat := match sws[k]? with
  | some q => swf q.1 q.2 x.toInt
  | none => 0
def hset (f : Nat → Nat → Int32) (o k : Nat) (x : Int32) : Nat → Nat → Int32 := fun c => if c = o then upd (f c) k x else f c
def hputs (f : Nat → Nat → Int32) (o : Nat) (g : Nat → Int32) : Nat → Nat → Int32 := fun c => if c = o then g else f c
def rset (f : Nat → Nat → Nat) (o k j : Nat) : Nat → Nat → Nat := fun c i => if c = o ∧ i = k then j else f c i
def mkc (h : HP) : HP := (h.1 + 1, (fun c i => if c = h.1 then 0 else h.2.1 c i), fun c i => if c = h.1 then 0 else h.2.2 c i)
def cnd (b : Nat) (x y : Int32) : Prop := match b with
  | 0 => x = y
  | 1 => ¬ x = y
  | 2 => x < y
  | 3 => y ≤ x
  | 4 => y < x
  | _ => x ≤ y
/-- steps that need nothing but the frame -/
def ps (T : Tab) (pc : Nat) (L : LT) (st : List Value) : Option (Nat × LT × List Value) :=
  match lk T pc with
  | none => none
  | some (n, t, a, b, _, _) =>
    match t with
    | 0 => some (pc + n, L, .int (nI a) :: st)
    | 1 => some (pc + n, L, .int (mI a) :: st)
    | 2 => match lget L a with
      | some (.int x) => some (pc + n, L, .int x :: st)
      | _ => none
    | 27 => match lget L a with
      | some (.ref x) => some (pc + n, L, .ref x :: st)
      | _ => none
    | 28 => match lget L a with
      | some (.long x) => some (pc + n, L, .long x :: st)
      | _ => none
    | 3 => match st, lok L a with
      | .int x :: r, true => some (pc + n, lset L a (some (.int x)), r)
      | _, _ => none
    | 29 => match st, lok L a with
      | .ref x :: r, true => some (pc + n, lset L a (some (.ref x)), r)
      | _, _ => none
    | 4 => match st, lok L a with
      | .long x :: r, true => some (pc + n, lset (lset L a (some (.long x))) (a + 1) none, r)
      | _, _ => none
    | 5 => match lget L a, lok L a with
      | some (.int x), true => some (pc + n, lset L a (some (.int (x + nI b))), st)
      | _, _ => none
    | 6 => match lget L a, lok L a with
      | some (.int x), true => some (pc + n, lset L a (some (.int (x + mI b))), st)
      | _, _ => none
    | 7 => match st with
      | .int y :: .int x :: r => some (pc + n, L, .int (x + y) :: r)
      | _ => none
    | 8 => match st with
      | .int y :: .int x :: r => some (pc + n, L, .int (x - y) :: r)
      | _ => none
    | 9 => match st with
      | .int y :: .int x :: r => some (pc + n, L, .int (x * y) :: r)
      | _ => none
    | 10 => match st with
      | .int y :: .int x :: r => some (pc + n, L, .int (x &&& y) :: r)
      | _ => none
    | 11 => match st with
      | .int y :: .int x :: r => some (pc + n, L, .int (x ||| y) :: r)
      | _ => none
    | 12 => match st with
      | .int y :: .int x :: r => some (pc + n, L, .int (x <<< (y &&& 31)) :: r)
      | _ => none
    | 13 => match st with
      | .int y :: .int x :: r => some (pc + n, L, .int (x >>> (y &&& 31)) :: r)
      | _ => none
    | 14 => match st with
      | .int y :: .int x :: r => some (pc + n, L, .int ((x.toUInt32 >>> (y.toUInt32 &&& Int32.toUInt32 31)).toInt32) :: r)
      | _ => none
    | 15 => match st with
      | .int x :: r => some (pc + n, L, .long x.toInt64 :: r)
      | _ => none
    | 16 => match st with
      | .int x :: r => some (pc + n, L, .int x.toInt8.toInt32 :: r)
      | _ => none
    | 17 => match st with
      | .long y :: .long x :: r => some (pc + n, L, .long (x + y) :: r)
      | _ => none
    | 18 => match st with
      | .long y :: .long x :: r => some (pc + n, L, .long (x * y) :: r)
      | _ => none
    | 19 => match st with
      | .long y :: .long x :: r => some (pc + n, L, .int (lg_cmp x y) :: r)
      | _ => none
    | 20 => match st with
      | .int x :: r => some (pc + n, L, .int x :: .int x :: r)
      | .ref x :: r => some (pc + n, L, .ref x :: .ref x :: r)
      | _ => none
    | 21 => match st with
      | .int y :: .ref x :: r => some (pc + n, L, .int y :: .ref x :: .int y :: .ref x :: r)
      | _ => none
    | 22 => match st with
      | .int _ :: r => some (pc + n, L, r)
      | .ref _ :: r => some (pc + n, L, r)
      | _ => none
    | 23 => some (a, L, st)
    | 24 => some (pc + n, L, .long (lN a) :: st)
    | 44 => some (pc + n, L, .ref a :: st)
    | _ => none
def cat1 : List Value → Bool
  | [] => true
  | .int _ :: r => cat1 r
  | .ref _ :: r => cat1 r
  | _ => false
/-- the locals at a method's entry -/
def ini (μ : Nat) (as : List Value) : LT := as.map some ++ List.replicate (mX μ - as.length) none
abbrev KT : Type := Nat → Nat → Nat → LT → List Value → HP → PT → Prop
/-! the rules -/
def R_pure (K : KT) : Prop := ∀ (μ n0 pc : Nat) (L : LT) (st : List Value) (h : HP) (Φ : PT) (pc' : Nat) (L' : LT) (st' : List Value), ps (mT μ) pc L st = some (pc', L', st') → K μ n0 pc' L' st' h Φ → K μ n0 pc L st h Φ
def R_div (K : KT) : Prop := ∀ (μ n0 pc : Nat) (L : LT) (st : List Value) (h : HP) (Φ : PT) (n a b c d : Nat) (x y : Int32), lk (mT μ) pc = some (n, 25, a, b, c, d) → ¬ y = 0 → K μ n0 (pc + n) L (.int (x / y) :: st) h Φ → K μ n0 pc L (.int y :: .int x :: st) h Φ
def R_rem (K : KT) : Prop := ∀ (μ n0 pc : Nat) (L : LT) (st : List Value) (h : HP) (Φ : PT) (n a b c d : Nat) (x y : Int32), lk (mT μ) pc = some (n, 26, a, b, c, d) → ¬ y = 0 → K μ n0 (pc + n) L (.int (x - x / y * y) :: st) h Φ → K μ n0 pc L (.int y :: .int x :: st) h Φ
def R_if (K : KT) : Prop := ∀ (μ n0 pc : Nat) (L : LT) (st : List Value) (h : HP) (Φ : PT) (n a b c d : Nat) (x : Int32), lk (mT μ) pc = some (n, 30, a, b, c, d) → (cnd b x 0 → K μ n0 a L st h Φ) → (¬ cnd b x 0 → K μ n0 (pc + n) L st h Φ) → K μ n0 pc L (.int x :: st) h Φ
def R_cmp (K : KT) : Prop := ∀ (μ n0 pc : Nat) (L : LT) (st : List Value) (h : HP) (Φ : PT) (n a b c d : Nat) (x y : Int32), lk (mT μ) pc = some (n, 31, a, b, c, d) → (cnd b x y → K μ n0 a L st h Φ) → (¬ cnd b x y → K μ n0 (pc + n) L st h Φ) → K μ n0 pc L (.int y :: .int x :: st) h Φ
def R_sw (K : KT) : Prop := ∀ (μ n0 pc : Nat) (L : LT) (st : List Value) (h : HP) (Φ : PT) (n t a b c d : Nat) (x : Int32), lk (mT μ) pc = some (n, t, a, b, c, d) → t = 32 ∨ t = 33 → K μ n0 (swt a x) L st h Φ → K μ n0 pc L (.int x :: st) h Φ
def R_geti (K : KT) : Prop := ∀ (μ n0 pc : Nat) (L : LT) (st : List Value) (h : HP) (Φ : PT) (n a b c d o : Nat), lk (mT μ) pc = some (n, 40, a, b, c, d) → kd o = (0, b) → o < h.1 → K μ n0 (pc + n) L (.int (h.2.2 o a) :: st) h Φ → K μ n0 pc L (.ref o :: st) h Φ
def R_getr (K : KT) : Prop := ∀ (μ n0 pc : Nat) (L : LT) (st : List Value) (h : HP) (Φ : PT) (n a b c d o j : Nat), lk (mT μ) pc = some (n, 41, a, b, c, d) → kd o = (0, b) → o < h.1 → h.2.1 o a = j + 1 → K μ n0 (pc + n) L (.ref j :: st) h Φ → K μ n0 pc L (.ref o :: st) h Φ
def R_puti (K : KT) : Prop := ∀ (μ n0 pc : Nat) (L : LT) (st : List Value) (h : HP) (Φ : PT) (n a b c d o : Nat) (x : Int32), lk (mT μ) pc = some (n, 42, a, b, c, d) → kd o = (0, b) → o < h.1 → (bfl b a = true → x = 0 ∨ x = 1) → K μ n0 (pc + n) L st (h.1, h.2.1, hset h.2.2 o a x) Φ → K μ n0 pc L (.int x :: .ref o :: st) h Φ
def R_putr (K : KT) : Prop := ∀ (μ n0 pc : Nat) (L : LT) (st : List Value) (h : HP) (Φ : PT) (n a b c d o j : Nat), lk (mT μ) pc = some (n, 43, a, b, c, d) → kd o = (0, b) → o < h.1 → K μ n0 (pc + n) L st (h.1, rset h.2.1 o a (j + 1), h.2.2) Φ → K μ n0 pc L (.ref j :: .ref o :: st) h Φ
def R_ald (K : KT) : Prop := ∀ (μ n0 pc : Nat) (L : LT) (st : List Value) (h : HP) (Φ : PT) (n a b c d o N : Nat) (i : Int32), lk (mT μ) pc = some (n, 50, a, b, c, d) → kd o = (1, N) → o < h.1 → vp_in i N → K μ n0 (pc + n) L (.int (h.2.2 o i.toNatClampNeg) :: st) h Φ → K μ n0 pc L (.int i :: .ref o :: st) h Φ
def R_aldx (K : KT) : Prop := ∀ (μ n0 pc : Nat) (L : LT) (st : List Value) (h : HP) (Φ : PT) (n a b c d o : Nat) (i : Int32), lk (mT μ) pc = some (n, 50, a, b, c, d) → kd o = (6, 0) → vp_in i (h.2.1 o 0) → K μ n0 (pc + n) L (.int (h.2.2 o i.toNatClampNeg) :: st) h Φ → K μ n0 pc L (.int i :: .ref o :: st) h Φ
def R_ast (K : KT) : Prop := ∀ (μ n0 pc : Nat) (L : LT) (st : List Value) (h : HP) (Φ : PT) (n a b c d o N : Nat) (i x : Int32), lk (mT μ) pc = some (n, 51, a, b, c, d) → kd o = (1, N) → o < h.1 → vp_in i N → K μ n0 (pc + n) L st (h.1, h.2.1, hset h.2.2 o i.toNatClampNeg x) Φ → K μ n0 pc L (.int x :: .int i :: .ref o :: st) h Φ
def R_bld (K : KT) : Prop := ∀ (μ n0 pc : Nat) (L : LT) (st : List Value) (h : HP) (Φ : PT) (n a b c d o g N : Nat) (i : Int32), lk (mT μ) pc = some (n, 52, a, b, c, d) → kd o = (g, N) → g = 2 ∨ g = 3 → o < h.1 → vp_in i N → K μ n0 (pc + n) L (.int (h.2.2 o i.toNatClampNeg) :: st) h Φ → K μ n0 pc L (.int i :: .ref o :: st) h Φ
def R_zst (K : KT) : Prop := ∀ (μ n0 pc : Nat) (L : LT) (st : List Value) (h : HP) (Φ : PT) (n a b c d o N : Nat) (i x : Int32), lk (mT μ) pc = some (n, 53, a, b, c, d) → kd o = (2, N) → o < h.1 → vp_in i N → K μ n0 (pc + n) L st (h.1, h.2.1, hset h.2.2 o i.toNatClampNeg (vp_nar .boolean x)) Φ → K μ n0 pc L (.int x :: .int i :: .ref o :: st) h Φ
def R_bst (K : KT) : Prop := ∀ (μ n0 pc : Nat) (L : LT) (st : List Value) (h : HP) (Φ : PT) (n a b c d o N : Nat) (i x : Int32), lk (mT μ) pc = some (n, 53, a, b, c, d) → kd o = (3, N) → o < h.1 → vp_in i N → K μ n0 (pc + n) L st (h.1, h.2.1, hset h.2.2 o i.toNatClampNeg (vp_nar .byte x)) Φ → K μ n0 pc L (.int x :: .int i :: .ref o :: st) h Φ
def R_rld (K : KT) : Prop := ∀ (μ n0 pc : Nat) (L : LT) (st : List Value) (h : HP) (Φ : PT) (n a b c d o g N j : Nat) (i : Int32), lk (mT μ) pc = some (n, 54, a, b, c, d) → kd o = (g, N) → g = 4 ∨ g = 5 → o < h.1 → vp_in i N → h.2.1 o i.toNatClampNeg = j + 1 → K μ n0 (pc + n) L (.ref j :: st) h Φ → K μ n0 pc L (.int i :: .ref o :: st) h Φ
def R_rst (K : KT) : Prop := ∀ (μ n0 pc : Nat) (L : LT) (st : List Value) (h : HP) (Φ : PT) (n a b c d o g N j : Nat) (i : Int32), lk (mT μ) pc = some (n, 55, a, b, c, d) → kd o = (g, N) → (g = 4 ∧ kd j = (0, 0)) ∨ (g = 5 ∧ kd j = (0, 3)) → o < h.1 → j < h.1 → vp_in i N → K μ n0 (pc + n) L st (h.1, rset h.2.1 o i.toNatClampNeg (j + 1), h.2.2) Φ → K μ n0 pc L (.ref j :: .int i :: .ref o :: st) h Φ
def R_len (K : KT) : Prop := ∀ (μ n0 pc : Nat) (L : LT) (st : List Value) (h : HP) (Φ : PT) (n a b c d o N : Nat), lk (mT μ) pc = some (n, 56, a, b, c, d) → kd o = (1, N) → o < h.1 → K μ n0 (pc + n) L (.int (nI N) :: st) h Φ → K μ n0 pc L (.ref o :: st) h Φ
def R_lenx (K : KT) : Prop := ∀ (μ n0 pc : Nat) (L : LT) (st : List Value) (h : HP) (Φ : PT) (n a b c d o : Nat), lk (mT μ) pc = some (n, 56, a, b, c, d) → o = 1000 → K μ n0 (pc + n) L (.int (nI (h.2.1 o 0)) :: st) h Φ → K μ n0 pc L (.ref o :: st) h Φ
def R_new (K : KT) : Prop := ∀ (μ n0 pc : Nat) (L : LT) (st : List Value) (h : HP) (Φ : PT) (n a b c d : Nat), lk (mT μ) pc = some (n, 60, a, b, c, d) → kd h.1 = (0, a) → h.1 + 1 ≤ n0 + mK μ → slt (h.1 + 1) ≤ slt n0 + mS μ → K μ n0 (pc + n) L (.ref h.1 :: st) (mkc h) Φ → K μ n0 pc L st h Φ
def R_newa (K : KT) : Prop := ∀ (μ n0 pc : Nat) (L : LT) (st : List Value) (h : HP) (Φ : PT) (n t a b c d N : Nat), lk (mT μ) pc = some (n, t, a, b, c, d) → t = 61 ∨ t = 62 → kd h.1 = (a, N) → h.1 + 1 ≤ n0 + mK μ → slt (h.1 + 1) ≤ slt n0 + mS μ → K μ n0 (pc + n) L (.ref h.1 :: st) (mkc h) Φ → K μ n0 pc L (.int (nI N) :: st) h Φ
def R_oin (K : KT) : Prop := ∀ (μ n0 pc : Nat) (L : LT) (st : List Value) (h : HP) (Φ : PT) (n a b c d o : Nat), lk (mT μ) pc = some (n, 71, a, b, c, d) → (st.map fun v => v.category).sum ≤ 8 → K μ n0 (pc + n) L st h Φ → K μ n0 pc L (.ref o :: st) h Φ
def R_cpy (K : KT) : Prop := ∀ (μ n0 pc : Nat) (L : LT) (st : List Value) (h : HP) (Φ : PT) (n a b c d o o2 N N2 sp dp k : Nat), lk (mT μ) pc = some (n, 72, a, b, c, d) → kd o = (1, N) → kd o2 = (1, N2) → o < h.1 → o2 < h.1 → sp + k ≤ N → dp + k ≤ N2 → (st.map fun v => v.category).sum ≤ 8 → K μ n0 (pc + n) L st (h.1, h.2.1, hputs h.2.2 o2 (va_cpy (h.2.2 o) (h.2.2 o2) sp dp k)) Φ → K μ n0 pc L (.int (nI k) :: .int (nI dp) :: .ref o2 :: .int (nI sp) :: .ref o :: st) h Φ
def R_min (K : KT) : Prop := ∀ (μ n0 pc : Nat) (L : LT) (st : List Value) (h : HP) (Φ : PT) (n a b c d : Nat) (x y : Int32), lk (mT μ) pc = some (n, 75, a, b, c, d) → (st.map fun v => v.category).sum ≤ 8 → K μ n0 (pc + n) L (.int (if y < x then y else x) :: st) h Φ → K μ n0 pc L (.int y :: .int x :: st) h Φ
/-- a call of a method of an object -/
def R_call (K : KT) : Prop := ∀ (μ n0 pc : Nat) (L : LT) (st : List Value) (h : HP) (Φ : PT) (n ν b c d o : Nat) (as : List Value) (Ψ : PT), lk (mT μ) pc = some (n, 70, ν, b, c, d) → kd o = (0, mC ν) → o < h.1 → as.length + 1 = b → cat1 as = true → as.length + 1 ≤ mX ν → (st.map fun v => v.category).sum ≤ 8 → K ν h.1 0 (ini ν (.ref o :: as)) [] h Ψ → (∀ v h', Ψ v h' → K μ n0 (pc + n) L (v.toList ++ st) h' Φ) → K μ n0 pc L (as.reverse ++ .ref o :: st) h Φ
def R_scall (K : KT) : Prop := ∀ (μ n0 pc : Nat) (L : LT) (st : List Value) (h : HP) (Φ : PT) (n ν b c d : Nat) (as : List Value) (Ψ : PT), lk (mT μ) pc = some (n, 73, ν, b, c, d) → as.length = b → cat1 as = true → as.length ≤ mX ν → (st.map fun v => v.category).sum ≤ 8 → K ν h.1 0 (ini ν as) [] h Ψ → (∀ v h', Ψ v h' → K μ n0 (pc + n) L (v.toList ++ st) h' Φ) → K μ n0 pc L (as.reverse ++ st) h Φ
def R_icall (K : KT) : Prop := ∀ (μ n0 pc : Nat) (L : LT) (st : List Value) (h : HP) (Φ : PT) (n ν b c d o : Nat) (Ψ : PT), lk (mT μ) pc = some (n, 74, ν, b, c, d) → o < h.1 → b = 1 → 1 ≤ mX ν → (st.map fun v => v.category).sum ≤ 8 → h.1 + mK ν ≤ n0 + mK μ → slt h.1 + mS ν = slt (h.1 + mK ν) → slt (h.1 + mK ν) ≤ slt n0 + mS μ → K ν h.1 0 (ini ν [.ref o]) [] h Ψ → (∀ v h', Ψ v h' → v = none ∧ K μ n0 (pc + n) L st h' Φ) → K μ n0 pc L (.ref o :: st) h Φ
/-- less said of the locals -/
def lle : LT → LT → Prop
  | [], _ => True
  | none :: r, _ :: r' => lle r r'
  | some v :: r, some v' :: r' => v = v' ∧ lle r r'
  | _ :: _, _ => False
def R_fgt (K : KT) : Prop := ∀ (μ n0 pc : Nat) (L L' : LT) (st : List Value) (h : HP) (Φ : PT), lle L L' → K μ n0 pc L st h Φ → K μ n0 pc L' st h Φ
def R_ret (K : KT) : Prop := ∀ (μ n0 pc : Nat) (L : LT) (h : HP) (Φ : PT) (n a b c d : Nat) (x : Int32), lk (mT μ) pc = some (n, 80, a, b, c, d) → (mA μ = some .boolean → x = 0 ∨ x = 1) → h.1 = n0 + mK μ → Φ (some (.int x)) h → K μ n0 pc L [.int x] h Φ
def R_lret (K : KT) : Prop := ∀ (μ n0 pc : Nat) (L : LT) (h : HP) (Φ : PT) (n a b c d : Nat) (x : Int64), lk (mT μ) pc = some (n, 81, a, b, c, d) → h.1 = n0 + mK μ → Φ (some (.long x)) h → K μ n0 pc L [.long x] h Φ
def R_rret (K : KT) : Prop := ∀ (μ n0 pc : Nat) (L : LT) (h : HP) (Φ : PT) (n a b c d x : Nat), lk (mT μ) pc = some (n, 82, a, b, c, d) → h.1 = n0 + mK μ → Φ (some (.ref x)) h → K μ n0 pc L [.ref x] h Φ
def R_vret (K : KT) : Prop := ∀ (μ n0 pc : Nat) (L : LT) (h : HP) (Φ : PT) (n a b c d : Nat), lk (mT μ) pc = some (n, 83, a, b, c, d) → h.1 = n0 + mK μ → Φ none h → K μ n0 pc L [] h Φ
def Cl (K : KT) : Prop := (R_pure K ∧ R_div K ∧ R_rem K ∧ R_if K ∧ R_cmp K ∧ R_sw K ∧ R_geti K ∧ R_getr K) ∧ (R_puti K ∧ R_putr K ∧ R_ald K ∧ R_aldx K ∧ R_ast K ∧ R_bld K ∧ R_zst K ∧ R_bst K) ∧ (R_rld K ∧ R_rst K ∧ R_len K ∧ R_lenx K ∧ R_new K ∧ R_newa K ∧ R_oin K ∧ R_cpy K ∧ R_min K) ∧ R_call K ∧ R_scall K ∧ R_icall K ∧ R_ret K ∧ R_lret K ∧ R_rret K ∧ R_vret K ∧ R_fgt K
/-- THE MACHINE RUNS from this frame to its end, and there Φ holds -/
def Run (μ n0 pc : Nat) (L : LT) (st : List Value) (h : HP) (Φ : PT) : Prop := ∀ K : KT, Cl K → K μ n0 pc L st h Φ
theorem r_pure : R_pure Run := fun μ n0 pc L st h Φ pc' L' st' h1 h2 K C => C.1.1 μ n0 pc L st h Φ pc' L' st' h1 (h2 K C)
theorem r_div : R_div Run := fun μ n0 pc L st h Φ n a b c d x y h1 h2 h3 K C => C.1.2.1 μ n0 pc L st h Φ n a b c d x y h1 h2 (h3 K C)
theorem r_rem : R_rem Run := fun μ n0 pc L st h Φ n a b c d x y h1 h2 h3 K C => C.1.2.2.1 μ n0 pc L st h Φ n a b c d x y h1 h2 (h3 K C)
theorem r_if : R_if Run := fun μ n0 pc L st h Φ n a b c d x h1 h2 h3 K C => C.1.2.2.2.1 μ n0 pc L st h Φ n a b c d x h1 (fun q => h2 q K C) (fun q => h3 q K C)
theorem r_cmp : R_cmp Run := fun μ n0 pc L st h Φ n a b c d x y h1 h2 h3 K C => C.1.2.2.2.2.1 μ n0 pc L st h Φ n a b c d x y h1 (fun q => h2 q K C) (fun q => h3 q K C)
theorem r_sw : R_sw Run := fun μ n0 pc L st h Φ n t a b c d x h1 h2 h3 K C => C.1.2.2.2.2.2.1 μ n0 pc L st h Φ n t a b c d x h1 h2 (h3 K C)
theorem r_geti : R_geti Run := fun μ n0 pc L st h Φ n a b c d o h1 h2 h3 h4 K C => C.1.2.2.2.2.2.2.1 μ n0 pc L st h Φ n a b c d o h1 h2 h3 (h4 K C)
theorem r_getr : R_getr Run := fun μ n0 pc L st h Φ n a b c d o j h1 h2 h3 h4 h5 K C => C.1.2.2.2.2.2.2.2 μ n0 pc L st h Φ n a b c d o j h1 h2 h3 h4 (h5 K C)
theorem r_puti : R_puti Run := fun μ n0 pc L st h Φ n a b c d o x h1 h2 h3 h4 h5 K C => C.2.1.1 μ n0 pc L st h Φ n a b c d o x h1 h2 h3 h4 (h5 K C)
theorem r_putr : R_putr Run := fun μ n0 pc L st h Φ n a b c d o j h1 h2 h3 h5 K C => C.2.1.2.1 μ n0 pc L st h Φ n a b c d o j h1 h2 h3 (h5 K C)
theorem r_ald : R_ald Run := fun μ n0 pc L st h Φ n a b c d o N i h1 h2 h3 h4 h5 K C => C.2.1.2.2.1 μ n0 pc L st h Φ n a b c d o N i h1 h2 h3 h4 (h5 K C)
theorem r_aldx : R_aldx Run := fun μ n0 pc L st h Φ n a b c d o i h1 h2 h3 h4 K C => C.2.1.2.2.2.1 μ n0 pc L st h Φ n a b c d o i h1 h2 h3 (h4 K C)
theorem r_ast : R_ast Run := fun μ n0 pc L st h Φ n a b c d o N i x h1 h2 h3 h4 h5 K C => C.2.1.2.2.2.2.1 μ n0 pc L st h Φ n a b c d o N i x h1 h2 h3 h4 (h5 K C)
theorem r_bld : R_bld Run := fun μ n0 pc L st h Φ n a b c d o g N i h1 h2 h3 h4 h5 h6 K C => C.2.1.2.2.2.2.2.1 μ n0 pc L st h Φ n a b c d o g N i h1 h2 h3 h4 h5 (h6 K C)
theorem r_zst : R_zst Run := fun μ n0 pc L st h Φ n a b c d o N i x h1 h2 h3 h4 h5 K C => C.2.1.2.2.2.2.2.2.1 μ n0 pc L st h Φ n a b c d o N i x h1 h2 h3 h4 (h5 K C)
theorem r_bst : R_bst Run := fun μ n0 pc L st h Φ n a b c d o N i x h1 h2 h3 h4 h5 K C => C.2.1.2.2.2.2.2.2.2 μ n0 pc L st h Φ n a b c d o N i x h1 h2 h3 h4 (h5 K C)
theorem r_rld : R_rld Run := fun μ n0 pc L st h Φ n a b c d o g N j i h1 h2 h3 h4 h5 h6 h7 K C => C.2.2.1.1 μ n0 pc L st h Φ n a b c d o g N j i h1 h2 h3 h4 h5 h6 (h7 K C)
theorem r_rst : R_rst Run := fun μ n0 pc L st h Φ n a b c d o g N j i h1 h2 h3 h4 h5 h6 h7 K C => C.2.2.1.2.1 μ n0 pc L st h Φ n a b c d o g N j i h1 h2 h3 h4 h5 h6 (h7 K C)
theorem r_len : R_len Run := fun μ n0 pc L st h Φ n a b c d o N h1 h2 h3 h4 K C => C.2.2.1.2.2.1 μ n0 pc L st h Φ n a b c d o N h1 h2 h3 (h4 K C)
theorem r_lenx : R_lenx Run := fun μ n0 pc L st h Φ n a b c d o h1 h2 h3 K C => C.2.2.1.2.2.2.1 μ n0 pc L st h Φ n a b c d o h1 h2 (h3 K C)
theorem r_new : R_new Run := fun μ n0 pc L st h Φ n a b c d h1 h2 h3 h4 h5 K C => C.2.2.1.2.2.2.2.1 μ n0 pc L st h Φ n a b c d h1 h2 h3 h4 (h5 K C)
theorem r_newa : R_newa Run := fun μ n0 pc L st h Φ n t a b c d N h1 h2 h3 h4 h5 h6 K C => C.2.2.1.2.2.2.2.2.1 μ n0 pc L st h Φ n t a b c d N h1 h2 h3 h4 h5 (h6 K C)
theorem r_oin : R_oin Run := fun μ n0 pc L st h Φ n a b c d o h1 h2 h3 K C => C.2.2.1.2.2.2.2.2.2.1 μ n0 pc L st h Φ n a b c d o h1 h2 (h3 K C)
theorem r_cpy : R_cpy Run := fun μ n0 pc L st h Φ n a b c d o o2 N N2 sp dp k h1 h2 h3 h4 h5 h6 h7 h8 h9 K C => C.2.2.1.2.2.2.2.2.2.2.1 μ n0 pc L st h Φ n a b c d o o2 N N2 sp dp k h1 h2 h3 h4 h5 h6 h7 h8 (h9 K C)
theorem r_min : R_min Run := fun μ n0 pc L st h Φ n a b c d x y h1 h2 h3 K C => C.2.2.1.2.2.2.2.2.2.2.2 μ n0 pc L st h Φ n a b c d x y h1 h2 (h3 K C)
theorem r_call : R_call Run := fun μ n0 pc L st h Φ n ν b c d o as Ψ h1 h2 h3 h4 h5 h6 h7 h8 h9 K C => C.2.2.2.1 μ n0 pc L st h Φ n ν b c d o as Ψ h1 h2 h3 h4 h5 h6 h7 (h8 K C) (fun v h' q => h9 v h' q K C)
theorem r_scall : R_scall Run := fun μ n0 pc L st h Φ n ν b c d as Ψ h1 h2 h3 h4 h5 h6 h7 K C => C.2.2.2.2.1 μ n0 pc L st h Φ n ν b c d as Ψ h1 h2 h3 h4 h5 (h6 K C) (fun v h' q => h7 v h' q K C)
theorem r_icall : R_icall Run := fun μ n0 pc L st h Φ n ν b c d o Ψ h1 h2 h3 h4 h5 h6 h7 h8 h9 ha K C => C.2.2.2.2.2.1 μ n0 pc L st h Φ n ν b c d o Ψ h1 h2 h3 h4 h5 h6 h7 h8 (h9 K C) (fun v h' q => ⟨(ha v h' q).1, (ha v h' q).2 K C⟩)
theorem r_ret : R_ret Run := fun μ n0 pc L h Φ n a b c d x h1 h2 h3 h4 K C => C.2.2.2.2.2.2.1 μ n0 pc L h Φ n a b c d x h1 h2 h3 h4
theorem r_lret : R_lret Run := fun μ n0 pc L h Φ n a b c d x h1 h2 h3 K C => C.2.2.2.2.2.2.2.1 μ n0 pc L h Φ n a b c d x h1 h2 h3
theorem r_rret : R_rret Run := fun μ n0 pc L h Φ n a b c d x h1 h2 h3 K C => C.2.2.2.2.2.2.2.2.1 μ n0 pc L h Φ n a b c d x h1 h2 h3
theorem r_vret : R_vret Run := fun μ n0 pc L h Φ n a b c d h1 h2 h3 K C => C.2.2.2.2.2.2.2.2.2.1 μ n0 pc L h Φ n a b c d h1 h2 h3
theorem r_fgt : R_fgt Run := fun μ n0 pc L L' st h Φ h1 h2 K C => C.2.2.2.2.2.2.2.2.2.2 μ n0 pc L L' st h Φ h1 (h2 K C)
end
section
/-! SOUNDNESS: what the abstract machine runs, the machine runs. -/
theorem lk_mem : ∀ (T : Tab) (pc : Nat) (q : Nat × Nat × Nat × Nat × Nat × Nat), lk T pc = some q → (pc, q) ∈ T := by
  intro T
  induction T with
  | nil => intro pc q h; simp [lk] at h
  | cons a r ih =>
    intro pc q h
    unfold lk at h
    split at h
    · rename_i hb
      have hb' : a.1 = pc := Nat.eq_of_beq_eq_true hb
      cases h
      rw [← hb']
      exact List.mem_cons_self
    · exact List.mem_cons_of_mem _ (ih pc q h)
theorem getD_big {α : Type} (l : List α) (d : α) (n : Nat) (h : l.length ≤ n) : l.getD n d = d := by
  rw [List.getD_eq_getElem?_getD, List.getElem?_eq_none h]
  rfl
set_option maxRecDepth 20000 in
theorem mT_big {μ : Nat} (h : ¬ μ < 161) : mT μ = [] := by
  unfold mT
  exact getD_big _ _ _ (Nat.le_trans (Nat.le_of_eq (by decide)) (Nat.not_lt.mp h))
theorem tab_ok {μ pc : Nat} {q : Nat × Nat × Nat × Nat × Nat × Nat} (h : lk (mT μ) pc = some q) : cE μ (pc, q) = true := by
  by_cases hm : μ < 161
  · exact List.all_eq_true.mp (ck_all μ hm) _ (lk_mem _ _ _ h)
  · rw [mT_big hm] at h
    simp [lk] at h
theorem dI_spec {μ pc : Nat} {i : Instr} {m n : Nat} (h : dI μ pc i m n = true) : decode (mB μ) pc = .ok (i, m) ∧ n = m := by
  simp only [dI, Bool.and_eq_true, decide_eq_true_eq, beq_iff_eq] at h
  exact h
theorem wA_spec {c : Nat} {w : Jvm.Cond} (h : wA c w = true) : w ∈ lw_tbl := by
  simp only [wA, decide_eq_true_eq] at h
  exact List.mem_of_getElem? h
theorem f4_spec {a : Nat} {f : Fin 4 → Bool} (h : f4 a f = true) : ∃ h4 : a < 4, f ⟨a, h4⟩ = true := by
  unfold f4 at h
  split at h
  · rename_i h4
    exact ⟨h4, h⟩
  · cases h
/-- the tables' words that every method takes along -/
def CW : List Jvm.Cond := lw_tbl.filter goodWord
theorem CW_in {w : Jvm.Cond} (h : w ∈ lw_tbl) (hg : goodWord w = true) : w ∈ CW := List.mem_filter.mpr ⟨h, hg⟩
def nst (w : Jvm.Cond) : Bool := match w with
  | .fieldLinkNest _ _ _ _ _ _ => true
  | .methodLinkNest _ _ _ _ => true
  | _ => false
/-- base, script, two static rows; the script's length and ints; the classes' numbers; the array classes -/
abbrev GP : Type := (Nat × Nat × Nat × Nat) × (Nat × (Nat → Int32)) × va_G × (Nat → ClassId)
def ad (g : GP) (c : Nat) : Nat := if c < 1000 then g.1.1 + c else if c = 1000 then g.1.2.1 else if c = 1001 then g.1.2.2.1 else g.1.2.2.2
def cv (g : GP) : Value → Value
  | .ref c => .ref (ad g c)
  | v => v
def rv (g : GP) : Nat → Option Nat
  | 0 => none
  | j + 1 => some (ad g j)
def fvs (g : GP) (h : HP) (ci c : Nat) : List Value := (List.range (cF ci)).map (fun k => if isr ci k = true then va_rf (rv g (h.2.1 c k)) else .int (h.2.2 c k))
def cel (g : GP) (h : HP) (c : Nat) : va_E := match (kd c).1 with
  | 0 => .inr ((kd c).2, fvs g h (kd c).2 c)
  | 4 => .inl (g.2.2.2 4, (kd c).2, .inr (.inr (.inr (.inr (fun j => rv g (h.2.1 c j))))))
  | 5 => .inl (g.2.2.2 5, (kd c).2, .inr (.inr (.inr (.inr (fun j => rv g (h.2.1 c j))))))
  | t => .inl (g.2.2.2 t, (kd c).2, .inl (h.2.2 c))
def wsh (g : GP) (h : HP) : va_W := (List.range h.1).map (fun c => (ad g c, cel g h c))
def tysL (g : GP) : List (ClassId × FieldType) := [(g.2.2.2 0, .int), (g.2.2.2 1, .int), (g.2.2.2 2, .boolean), (g.2.2.2 3, .byte), (g.2.2.2 4, .object RX0), (g.2.2.2 5, .object RX3)]
def AG (g : GP) : Nat → Prop := fun q => g.1.1 ≤ q
def sf1 (j : Nat) : Int32 := if j = 0 then 2 else if j = 1 then 1 else 0
def sf2 (j : Nat) : Int32 := if j = 0 then 12 else if j = 1 then 3 else 9
def SP (g : GP) (h : HP) : Prop := h.2.1 1000 0 = g.2.1.1 ∧ h.2.2 1000 = g.2.1.2 ∧ h.2.1 1001 0 = 3 ∧ h.2.2 1001 = sf1 ∧ h.2.1 1002 0 = 3 ∧ h.2.2 1002 = sf2
def WH (g : GP) (h : HP) (H : Heap) : Prop := va_P g.2.2.1 vwCl (wsh g h) H ∧ h.1 ≤ NT ∧ SP g h
def WK (g : GP) (U : State) : Prop := va_K g.2.2.1 vwCl (tysL g) U ∧ (∀ w ∈ lw_tbl, nst w = true → va_Nw w U) ∧ va_AO RX0 U ∧ va_AO RX3 U
def XS (g : GP) (U : State) : Prop := (g.1.2.1 < g.1.1 ∧ g.1.2.2.1 < g.1.1 ∧ g.1.2.2.2 < g.1.1) ∧ va_X g.1.2.1 g.2.1.1 g.2.1.2 U U.heap ∧ va_T .int g.1.2.2.1 3 (fun j => .int (sf1 j)) (AG g) U U.heap ∧ va_T .int g.1.2.2.2 3 (fun j => .int (sf2 j)) (AG g) U U.heap ∧ va_Z RX6 "SETTING_FROM" "[I" (.ref g.1.2.2.1) (AG g) U U.heap ∧ va_Z RX6 "SETTING_TO" "[I" (.ref g.1.2.2.2) (AG g) U U.heap
def LR (g : GP) (ls : Array Slot) (n : Nat) (L : LT) : Prop := ls.size = n ∧ lv_wf ls ∧ ∀ (i : Nat) (v : Value), lget L i = some v → ls[i]? = some (.val (cv g v))
def CX (g : GP) (μ n0 : Nat) (p : Program) (R : Room) (s : State) (m : MethodId) (args : Array Value) (meth : Method) (c : Code) : Prop :=
  p.tables.exec = Jvm.exec ∧ c.code = mB μ ∧ c.maxLocals = mX μ ∧ s.vm.findClass (cN (mC μ)) = some m.cls ∧ (∀ w ∈ CW, w.before args s = true) ∧ ((mY μ).name = "<init>" → meth.name = "<init>") ∧ WK g s ∧ XS g s ∧ s.heap.size = g.1.1 + n0 ∧ mF μ ≤ R.frames ∧ mL μ ≤ R.locals ∧ mK μ ≤ R.cells ∧ mS μ ≤ R.slots
def CN (μ n0 : Nat) (h : HP) (cells slots : Nat) : Prop := n0 ≤ h.1 ∧ h.1 ≤ n0 + mK μ ∧ cells = h.1 - n0 ∧ slt n0 ≤ slt h.1 ∧ slt h.1 ≤ slt n0 + mS μ ∧ slots = slt h.1 - slt n0
def RA (μ pc : Nat) (v : Option Value) : Prop := match v with
  | some (.int x) => decode (mB μ) pc = .ok (.ireturn, 1) ∧ (mA μ = some .int ∨ (mA μ = some .boolean ∧ (x = 0 ∨ x = 1)))
  | some (.long _) => decode (mB μ) pc = .ok (.lreturn, 1) ∧ mA μ = some .long
  | some (.ref _) => decode (mB μ) pc = .ok (.areturn, 1) ∧ ∃ n, mA μ = some (.object n)
  | none => decode (mB μ) pc = .ok (.return_, 1) ∧ mA μ = none
  | _ => False
/-- what a run of the abstract machine says of the machine -/
def Sim (l : Launch) (g : GP) : KT := fun μ n0 pc L st h Φ =>
  ∀ (p : Program) (e : Env) (R : Room) (s : State) (m : MethodId) (args : Array Value) (below : List Frame) (meth : Method) (c : Code) (H : Heap) (locs : List Loc) (cells slots : Nat) (Q : State → Prop) (ls : Array Slot),
    CX g μ n0 p R s m args meth c → WH g h H → va_S (AG g) s.heap H locs → LR g ls (mX μ) L → CN μ n0 h cells slots →
    (∀ (v : Option Value) (h' : HP) (H' : Heap) (locs' : List Loc) (pc' : Nat) (ls' : Array Slot), Φ v h' → WH g h' H' → va_S (AG g) s.heap H' locs' → h'.1 = n0 + mK μ → RA μ pc' v →
      W p l e R s m args below meth c H' locs' (mK μ) (mS μ) Q (F0 m pc' ls' (v.toList.map (cv g)))) →
    W p l e R s m args below meth c H locs cells slots Q (F0 m pc ls (st.map (cv g)))
/-! locals -/
theorem lget_set : ∀ (L : LT) (a i : Nat) (x : Option Value) (v : Value), lget (lset L a x) i = some v → (i = a ∧ x = some v) ∨ (i ≠ a ∧ lget L i = some v) := by
  intro L
  induction L with
  | nil => intro a i x v h; simp [lset, lget] at h
  | cons y r ih =>
    intro a i x v h
    cases a with
    | zero =>
      cases i with
      | zero => simp [lset, lget] at h; exact Or.inl ⟨rfl, h⟩
      | succ i => simp [lset, lget] at h; exact Or.inr ⟨by omega, by simpa [lget] using h⟩
    | succ a =>
      cases i with
      | zero => simp [lset, lget] at h; exact Or.inr ⟨by omega, by simpa [lget] using h⟩
      | succ i =>
        simp [lset, lget] at h
        rcases ih a i x v h with ⟨h1, h2⟩ | ⟨h1, h2⟩
        · exact Or.inl ⟨by omega, h2⟩
        · exact Or.inr ⟨by omega, by simpa [lget] using h2⟩
theorem lok_spec {L : LT} {a i : Nat} {v : Value} (h : lok L a = true) (hi : i + 1 = a) (hv : lget L i = some v) : ¬ v.category = 2 := by
  subst hi
  unfold lok at h
  simp only [hv] at h
  cases v <;> simp_all [Value.category]
def lvl (g : GP) (L : LT) : List (Nat × Value) := (List.range L.length).filterMap (fun i => (lget L i).map (fun v => (i, cv g v)))
theorem lget_lt : ∀ (L : LT) (i : Nat) (v : Value), lget L i = some v → i < L.length := by
  intro L
  induction L with
  | nil => intro i v h; simp [lget] at h
  | cons y r ih =>
    intro i v h
    cases i with
    | zero => simp
    | succ i => simp only [lget] at h; have := ih i v h; simp; omega
theorem lvl_mem {g : GP} {L : LT} {i : Nat} {v : Value} (h : lget L i = some v) : (i, cv g v) ∈ lvl g L := by
  unfold lvl
  refine List.mem_filterMap.mpr ⟨i, List.mem_range.mpr (lget_lt L i v h), ?_⟩
  rw [h]; rfl
theorem lvl_of {g : GP} {L : LT} {q : Nat × Value} (h : q ∈ lvl g L) : ∃ v, lget L q.1 = some v ∧ q.2 = cv g v := by
  unfold lvl at h
  obtain ⟨i, -, hi⟩ := List.mem_filterMap.mp h
  cases hv : lget L i with
  | none => rw [hv] at hi; cases hi
  | some v => rw [hv] at hi; cases hi; exact ⟨v, hv, rfl⟩
theorem LR.has {g : GP} {ls : Array Slot} {n : Nat} {L : LT} (h : LR g ls n L) : lv_has ls n (lvl g L) := by
  refine ⟨h.1, h.2.1, fun q hq => ?_⟩
  obtain ⟨v, h1, h2⟩ := lvl_of hq
  rw [h2]
  exact h.2.2 _ _ h1
theorem cv_cat (g : GP) (v : Value) : (cv g v).category = v.category := by cases v <;> rfl
theorem LR.st1 {g : GP} {ls : Array Slot} {n a : Nat} {L : LT} {v : Value} (hok : lok L a = true)
    (h : lv_has ls n ((a, cv g v) :: (lvl g L).filter (fun q => !(q.1 == a) && !(q.1 + 1 == a && q.2.category == 2)))) : LR g ls n (lset L a (some v)) := by
  refine ⟨h.1, h.2.1, fun i w hw => ?_⟩
  rcases lget_set L a i _ w hw with ⟨h1, h2⟩ | ⟨h1, h2⟩
  · cases h2
    subst h1
    exact h.2.2 (i, cv g v) List.mem_cons_self
  · refine h.2.2 (i, cv g w) (List.mem_cons_of_mem _ (List.mem_filter.mpr ⟨lvl_mem h2, ?_⟩))
    simp only [Bool.and_eq_true, Bool.not_eq_true', beq_eq_false_iff_ne, Bool.and_eq_false_iff]
    refine ⟨h1, ?_⟩
    by_cases hi : i + 1 = a
    · exact Or.inr (by rw [cv_cat]; exact lok_spec hok hi h2)
    · exact Or.inl hi
theorem LR.st2 {g : GP} {ls : Array Slot} {n a : Nat} {L : LT} {v : Value} (hok : lok L a = true)
    (h : lv_has ls n ((a, cv g v) :: (lvl g L).filter (fun q => !(q.1 == a) && (!(q.1 == a + 1) && !(q.1 + 1 == a && q.2.category == 2))))) : LR g ls n (lset (lset L a (some v)) (a + 1) none) := by
  refine ⟨h.1, h.2.1, fun i w hw => ?_⟩
  rcases lget_set _ (a + 1) i _ w hw with ⟨h1, h2⟩ | ⟨h0, hw⟩
  · cases h2
  rcases lget_set L a i _ w hw with ⟨h1, h2⟩ | ⟨h1, h2⟩
  · cases h2
    subst h1
    exact h.2.2 (i, cv g v) List.mem_cons_self
  · refine h.2.2 (i, cv g w) (List.mem_cons_of_mem _ (List.mem_filter.mpr ⟨lvl_mem h2, ?_⟩))
    simp only [Bool.and_eq_true, Bool.not_eq_true', beq_eq_false_iff_ne, Bool.and_eq_false_iff]
    refine ⟨h1, h0, ?_⟩
    by_cases hi : i + 1 = a
    · exact Or.inr (by rw [cv_cat]; exact lok_spec hok hi h2)
    · exact Or.inl hi
set_option maxHeartbeats 4000000 in
theorem sim_pure (l : Launch) (g : GP) : R_pure (Sim l g) := by
  intro μ n0 pc L st h Φ pc' L' st' hps hK p e R s m args below meth c H locs cells slots Q ls C hW hS hl hC hret
  have hx := C.1
  have hb := C.2.1
  have hown := C.2.2.2.1
  have hts := C.2.2.2.2.1
  have hsz := hl.1
  have kk := fun ls' hl' => hK p e R s m args below meth c H locs cells slots Q ls' C hW hS hl' hC hret
  unfold ps at hps
  split at hps
  · cases hps
  rename_i n t a b cc d hlk
  have hc := tab_ok hlk
  split at hps
  · -- const
    simp only [Option.some.injEq, Prod.mk.injEq] at hps
    obtain ⟨rfl, rfl, rfl⟩ := hps
    simp only [cE, Bool.or_eq_true, Bool.and_eq_true, decide_eq_true_eq] at hc
    rcases hc with (((⟨hd, hv⟩ | ⟨hd, hv⟩) | ⟨hd, hv⟩) | ⟨hd, hw⟩) | ⟨hd, hw⟩ <;> (replace hd := dI_spec hd; obtain ⟨hd, rfl⟩ := hd)
    · exact lv_iconst hx hb hd hv (kk ls hl)
    · exact lv_bipush hx hb hd hv (kk ls hl)
    · exact lv_sipush hx hb hd hv (kk ls hl)
    · exact lv_ldc hx hb hown (hts _ (CW_in (wA_spec hw) rfl)) hd (kk ls hl)
    · exact lv_ldcw hx hb hown (hts _ (CW_in (wA_spec hw) rfl)) hd (kk ls hl)
  · simp only [Option.some.injEq, Prod.mk.injEq] at hps
    obtain ⟨rfl, rfl, rfl⟩ := hps
    simp only [cE, Bool.or_eq_true, Bool.and_eq_true, decide_eq_true_eq] at hc
    rcases hc with (⟨hd, hv⟩ | ⟨hd, hv⟩) | ⟨hd, hv⟩ <;> (replace hd := dI_spec hd; obtain ⟨hd, rfl⟩ := hd)
    · exact lv_iconst hx hb hd hv (kk ls hl)
    · exact lv_bipush hx hb hd hv (kk ls hl)
    · exact lv_sipush hx hb hd hv (kk ls hl)
  · -- iload
    split at hps
    · rename_i x hv
      simp only [Option.some.injEq, Prod.mk.injEq] at hps
      obtain ⟨rfl, rfl, rfl⟩ := hps
      simp only [cE, Bool.or_eq_true] at hc
      rcases hc with hd | hd
      · replace hd := dI_spec hd
        obtain ⟨hd, rfl⟩ := hd
        exact lv_iload hx hb hd (hl.2.2 _ _ hv) (kk ls hl)
      · replace hd := f4_spec hd
        obtain ⟨h4, hd⟩ := hd
        replace hd := dI_spec hd
        obtain ⟨hd, rfl⟩ := hd
        exact lv_iload_n hx hb hd rfl (hl.2.2 _ _ hv) (kk ls hl)
    · cases hps
  · split at hps
    · rename_i x hv
      simp only [Option.some.injEq, Prod.mk.injEq] at hps
      obtain ⟨rfl, rfl, rfl⟩ := hps
      simp only [cE, Bool.or_eq_true] at hc
      rcases hc with hd | hd
      · replace hd := dI_spec hd
        obtain ⟨hd, rfl⟩ := hd
        exact lv_aload hx hb hd (hl.2.2 _ _ hv) (kk ls hl)
      · replace hd := f4_spec hd
        obtain ⟨h4, hd⟩ := hd
        replace hd := dI_spec hd
        obtain ⟨hd, rfl⟩ := hd
        exact lv_aload_n hx hb hd rfl (hl.2.2 _ _ hv) (kk ls hl)
    · cases hps
  · split at hps
    · rename_i x hv
      simp only [Option.some.injEq, Prod.mk.injEq] at hps
      obtain ⟨rfl, rfl, rfl⟩ := hps
      simp only [cE, Bool.or_eq_true] at hc
      rcases hc with hd | hd
      · replace hd := dI_spec hd
        obtain ⟨hd, rfl⟩ := hd
        exact lv_lload hx hb hd (hl.2.2 _ _ hv) (kk ls hl)
      · replace hd := f4_spec hd
        obtain ⟨h4, hd⟩ := hd
        replace hd := dI_spec hd
        obtain ⟨hd, rfl⟩ := hd
        exact lv_lload_n hx hb hd rfl (hl.2.2 _ _ hv) (kk ls hl)
    · cases hps
  · -- istore
    split at hps
    · rename_i x r hok
      simp only [Option.some.injEq, Prod.mk.injEq] at hps
      obtain ⟨rfl, rfl, rfl⟩ := hps
      simp only [cE, Bool.or_eq_true, Bool.and_eq_true, decide_eq_true_eq] at hc
      obtain ⟨hd, ha⟩ := hc
      rcases hd with hd | hd
      · replace hd := dI_spec hd
        obtain ⟨hd, rfl⟩ := hd
        exact lv_istore hx hb hd hl.has ha rfl (fun ls' h' => kk ls' (LR.st1 (v := .int x) hok h'))
      · replace hd := f4_spec hd
        obtain ⟨h4, hd⟩ := hd
        replace hd := dI_spec hd
        obtain ⟨hd, rfl⟩ := hd
        exact lv_istore_n hx hb hd rfl hl.has ha rfl (fun ls' h' => kk ls' (LR.st1 (v := .int x) hok h'))
    · cases hps
  · split at hps
    · rename_i x r hok
      simp only [Option.some.injEq, Prod.mk.injEq] at hps
      obtain ⟨rfl, rfl, rfl⟩ := hps
      simp only [cE, Bool.or_eq_true, Bool.and_eq_true, decide_eq_true_eq] at hc
      obtain ⟨hd, ha⟩ := hc
      rcases hd with hd | hd
      · replace hd := dI_spec hd
        obtain ⟨hd, rfl⟩ := hd
        exact lv_astore hx hb hd hl.has ha rfl (fun ls' h' => kk ls' (LR.st1 (v := .ref x) hok h'))
      · replace hd := f4_spec hd
        obtain ⟨h4, hd⟩ := hd
        replace hd := dI_spec hd
        obtain ⟨hd, rfl⟩ := hd
        exact lv_astore_n hx hb hd rfl hl.has ha rfl (fun ls' h' => kk ls' (LR.st1 (v := .ref x) hok h'))
    · cases hps
  · split at hps
    · rename_i x r hok
      simp only [Option.some.injEq, Prod.mk.injEq] at hps
      obtain ⟨rfl, rfl, rfl⟩ := hps
      simp only [cE, Bool.or_eq_true, Bool.and_eq_true, decide_eq_true_eq] at hc
      obtain ⟨hd, ha⟩ := hc
      rcases hd with hd | hd
      · replace hd := dI_spec hd
        obtain ⟨hd, rfl⟩ := hd
        exact lv_lstore hx hb hd hl.has ha rfl (fun ls' h' => kk ls' (LR.st2 (v := .long x) hok h'))
      · replace hd := f4_spec hd
        obtain ⟨h4, hd⟩ := hd
        replace hd := dI_spec hd
        obtain ⟨hd, rfl⟩ := hd
        exact lv_lstore_n hx hb hd rfl hl.has ha rfl (fun ls' h' => kk ls' (LR.st2 (v := .long x) hok h'))
    · cases hps
  · -- iinc
    split at hps
    · rename_i x hv hok
      simp only [Option.some.injEq, Prod.mk.injEq] at hps
      obtain ⟨rfl, rfl, rfl⟩ := hps
      simp only [cE, Bool.and_eq_true, decide_eq_true_eq] at hc
      obtain ⟨⟨hd, he⟩, ha⟩ := hc
      replace hd := dI_spec hd
      obtain ⟨hd, rfl⟩ := hd
      obtain ⟨k, hk⟩ := List.getElem?_of_mem (lvl_mem (g := g) hv)
      exact lv_iinc hx hb hd hl.has hk (by rw [he]) ha rfl (fun ls' h' => kk ls' (LR.st1 (v := .int (x + nI b)) hok h'))
    · cases hps
  · split at hps
    · rename_i x hv hok
      simp only [Option.some.injEq, Prod.mk.injEq] at hps
      obtain ⟨rfl, rfl, rfl⟩ := hps
      simp only [cE, Bool.and_eq_true, decide_eq_true_eq] at hc
      obtain ⟨⟨hd, he⟩, ha⟩ := hc
      replace hd := dI_spec hd
      obtain ⟨hd, rfl⟩ := hd
      obtain ⟨k, hk⟩ := List.getElem?_of_mem (lvl_mem (g := g) hv)
      exact lv_iinc hx hb hd hl.has hk (by rw [he]) ha rfl (fun ls' h' => kk ls' (LR.st1 (v := .int (x + mI b)) hok h'))
    · cases hps
  · split at hps
    · simp only [Option.some.injEq, Prod.mk.injEq] at hps
      obtain ⟨rfl, rfl, rfl⟩ := hps
      simp only [cE] at hc
      obtain ⟨hd, rfl⟩ := dI_spec hc
      exact lv_iadd hx hb hd (kk ls hl)
    · cases hps
  · split at hps
    · simp only [Option.some.injEq, Prod.mk.injEq] at hps
      obtain ⟨rfl, rfl, rfl⟩ := hps
      simp only [cE] at hc
      obtain ⟨hd, rfl⟩ := dI_spec hc
      exact lv_isub hx hb hd (kk ls hl)
    · cases hps
  · split at hps
    · simp only [Option.some.injEq, Prod.mk.injEq] at hps
      obtain ⟨rfl, rfl, rfl⟩ := hps
      simp only [cE] at hc
      obtain ⟨hd, rfl⟩ := dI_spec hc
      exact lv_imul hx hb hd (kk ls hl)
    · cases hps
  · split at hps
    · simp only [Option.some.injEq, Prod.mk.injEq] at hps
      obtain ⟨rfl, rfl, rfl⟩ := hps
      simp only [cE] at hc
      obtain ⟨hd, rfl⟩ := dI_spec hc
      exact lv_iand hx hb hd (kk ls hl)
    · cases hps
  · split at hps
    · simp only [Option.some.injEq, Prod.mk.injEq] at hps
      obtain ⟨rfl, rfl, rfl⟩ := hps
      simp only [cE] at hc
      obtain ⟨hd, rfl⟩ := dI_spec hc
      exact lv_ior hx hb hd (kk ls hl)
    · cases hps
  · split at hps
    · simp only [Option.some.injEq, Prod.mk.injEq] at hps
      obtain ⟨rfl, rfl, rfl⟩ := hps
      simp only [cE] at hc
      obtain ⟨hd, rfl⟩ := dI_spec hc
      exact lv_ishl hx hb hd (kk ls hl)
    · cases hps
  · split at hps
    · simp only [Option.some.injEq, Prod.mk.injEq] at hps
      obtain ⟨rfl, rfl, rfl⟩ := hps
      simp only [cE] at hc
      obtain ⟨hd, rfl⟩ := dI_spec hc
      exact lv_ishr hx hb hd (kk ls hl)
    · cases hps
  · split at hps
    · simp only [Option.some.injEq, Prod.mk.injEq] at hps
      obtain ⟨rfl, rfl, rfl⟩ := hps
      simp only [cE] at hc
      obtain ⟨hd, rfl⟩ := dI_spec hc
      exact lv_iushr hx hb hd rfl (kk ls hl)
    · cases hps
  · split at hps
    · simp only [Option.some.injEq, Prod.mk.injEq] at hps
      obtain ⟨rfl, rfl, rfl⟩ := hps
      simp only [cE] at hc
      obtain ⟨hd, rfl⟩ := dI_spec hc
      exact lv_i2l hx hb hd rfl (kk ls hl)
    · cases hps
  · split at hps
    · simp only [Option.some.injEq, Prod.mk.injEq] at hps
      obtain ⟨rfl, rfl, rfl⟩ := hps
      simp only [cE] at hc
      obtain ⟨hd, rfl⟩ := dI_spec hc
      exact lv_i2b hx hb hd rfl (kk ls hl)
    · cases hps
  · split at hps
    · simp only [Option.some.injEq, Prod.mk.injEq] at hps
      obtain ⟨rfl, rfl, rfl⟩ := hps
      simp only [cE] at hc
      obtain ⟨hd, rfl⟩ := dI_spec hc
      exact lv_ladd hx hb hd (kk ls hl)
    · cases hps
  · split at hps
    · simp only [Option.some.injEq, Prod.mk.injEq] at hps
      obtain ⟨rfl, rfl, rfl⟩ := hps
      simp only [cE] at hc
      obtain ⟨hd, rfl⟩ := dI_spec hc
      exact lv_lmul hx hb hd (kk ls hl)
    · cases hps
  · split at hps
    · simp only [Option.some.injEq, Prod.mk.injEq] at hps
      obtain ⟨rfl, rfl, rfl⟩ := hps
      simp only [cE] at hc
      obtain ⟨hd, rfl⟩ := dI_spec hc
      exact W.lcmp hx hb hd (kk ls hl)
    · cases hps
  · split at hps
    · simp only [Option.some.injEq, Prod.mk.injEq] at hps
      obtain ⟨rfl, rfl, rfl⟩ := hps
      simp only [cE] at hc
      obtain ⟨hd, rfl⟩ := dI_spec hc
      exact lv_dup hx hb hd rfl (kk ls hl)
    · simp only [Option.some.injEq, Prod.mk.injEq] at hps
      obtain ⟨rfl, rfl, rfl⟩ := hps
      simp only [cE] at hc
      obtain ⟨hd, rfl⟩ := dI_spec hc
      exact lv_dup hx hb hd rfl (kk ls hl)
    · cases hps
  · split at hps
    · simp only [Option.some.injEq, Prod.mk.injEq] at hps
      obtain ⟨rfl, rfl, rfl⟩ := hps
      simp only [cE] at hc
      obtain ⟨hd, rfl⟩ := dI_spec hc
      exact lv_dup2_11 hx hb hd rfl rfl (kk ls hl)
    · cases hps
  · split at hps
    · simp only [Option.some.injEq, Prod.mk.injEq] at hps
      obtain ⟨rfl, rfl, rfl⟩ := hps
      simp only [cE] at hc
      obtain ⟨hd, rfl⟩ := dI_spec hc
      exact lv_pop hx hb hd rfl (kk ls hl)
    · simp only [Option.some.injEq, Prod.mk.injEq] at hps
      obtain ⟨rfl, rfl, rfl⟩ := hps
      simp only [cE] at hc
      obtain ⟨hd, rfl⟩ := dI_spec hc
      exact lv_pop hx hb hd rfl (kk ls hl)
    · cases hps
  · simp only [Option.some.injEq, Prod.mk.injEq] at hps
    obtain ⟨rfl, rfl, rfl⟩ := hps
    simp only [cE] at hc
    obtain ⟨hd, rfl⟩ := dI_spec hc
    exact lv_goto hx hb hd (by omega) (kk ls hl)
  · simp only [Option.some.injEq, Prod.mk.injEq] at hps
    obtain ⟨rfl, rfl, rfl⟩ := hps
    simp only [cE, Bool.and_eq_true] at hc
    obtain ⟨hd, hw⟩ := hc
    replace hd := dI_spec hd
    obtain ⟨hd, rfl⟩ := hd
    exact lv_ldc2 hx hb hown (hts _ (CW_in (wA_spec hw) rfl)) hd (kk ls hl)
  · -- getstatic
    simp only [Option.some.injEq, Prod.mk.injEq] at hps
    obtain ⟨rfl, rfl, rfl⟩ := hps
    simp only [cE, Bool.or_eq_true, Bool.and_eq_true, beq_iff_eq] at hc
    obtain ⟨⟨hd, ha⟩, hw⟩ := hc
    replace hd := dI_spec hd
    obtain ⟨hd, rfl⟩ := hd
    obtain ⟨-, -, -, -, hZ1, hZ2⟩ := C.2.2.2.2.2.2.2.1
    rcases ha with rfl | rfl
    · rcases hw with hw | hw
      · exact va_gets hx hb hZ1 hS hown (hts _ (CW_in (wA_spec hw) rfl)) (fun _ h => h) hd (kk ls hl)
      · exact va_getsN hx hb hZ1 hS hown (va_Nw.use rfl (C.2.2.2.2.2.2.1.2.1 _ (wA_spec hw) rfl)) (fun _ h => h) hd (kk ls hl)
    · rcases hw with hw | hw
      · exact va_gets hx hb hZ2 hS hown (hts _ (CW_in (wA_spec hw) rfl)) (fun _ h => h) hd (kk ls hl)
      · exact va_getsN hx hb hZ2 hS hown (va_Nw.use rfl (C.2.2.2.2.2.2.1.2.1 _ (wA_spec hw) rfl)) (fun _ h => h) hd (kk ls hl)
  · cases hps
end
section
/-! SOUNDNESS, the rest: branches, heap, calls. -/
theorem sim_div (l : Launch) (g : GP) : R_div (Sim l g) := by
  intro μ n0 pc L st h Φ n a b cc d x y hlk hy hK p e R s m args below meth c H locs cells slots Q ls C hW hS hl hC hret
  have hc := tab_ok hlk
  simp only [cE] at hc
  obtain ⟨hd, rfl⟩ := dI_spec hc
  exact lv_idiv C.1 C.2.1 hd hy (hK p e R s m args below meth c H locs cells slots Q ls C hW hS hl hC hret)
theorem sim_rem (l : Launch) (g : GP) : R_rem (Sim l g) := by
  intro μ n0 pc L st h Φ n a b cc d x y hlk hy hK p e R s m args below meth c H locs cells slots Q ls C hW hS hl hC hret
  have hc := tab_ok hlk
  simp only [cE] at hc
  obtain ⟨hd, rfl⟩ := dI_spec hc
  exact lv_irem C.1 C.2.1 hd hy (hK p e R s m args below meth c H locs cells slots Q ls C hW hS hl hC hret)
theorem sim_if (l : Launch) (g : GP) : R_if (Sim l g) := by
  intro μ n0 pc L st h Φ n a b cc d x hlk k1 k2 p e R s m args below meth c H locs cells slots Q ls C hW hS hl hC hret
  have hc := tab_ok hlk
  simp only [cE] at hc
  obtain ⟨hd, rfl⟩ := dI_spec hc
  have kt := fun q => k1 q p e R s m args below meth c H locs cells slots Q ls C hW hS hl hC hret
  have kf := fun q => k2 q p e R s m args below meth c H locs cells slots Q ls C hW hS hl hC hret
  match b, hd, kt, kf with
  | 0, hd, kt, kf => exact lv_if_eq C.1 C.2.1 hd (by omega) kt kf
  | 1, hd, kt, kf => exact lv_if_ne C.1 C.2.1 hd (by omega) kt (fun q => kf (fun z => z q))
  | 2, hd, kt, kf => exact lv_if_lt C.1 C.2.1 hd (by omega) kt kf
  | 3, hd, kt, kf => exact lv_if_ge C.1 C.2.1 hd (by omega) kt kf
  | 4, hd, kt, kf => exact lv_if_gt C.1 C.2.1 hd (by omega) kt kf
  | k + 5, hd, kt, kf => exact lv_if_le C.1 C.2.1 hd (by omega) kt kf
theorem sim_cmp (l : Launch) (g : GP) : R_cmp (Sim l g) := by
  intro μ n0 pc L st h Φ n a b cc d x y hlk k1 k2 p e R s m args below meth c H locs cells slots Q ls C hW hS hl hC hret
  have hc := tab_ok hlk
  simp only [cE] at hc
  obtain ⟨hd, rfl⟩ := dI_spec hc
  have kt := fun q => k1 q p e R s m args below meth c H locs cells slots Q ls C hW hS hl hC hret
  have kf := fun q => k2 q p e R s m args below meth c H locs cells slots Q ls C hW hS hl hC hret
  match b, hd, kt, kf with
  | 0, hd, kt, kf => exact lv_icmp_eq C.1 C.2.1 hd (by omega) kt kf
  | 1, hd, kt, kf => exact lv_icmp_ne C.1 C.2.1 hd (by omega) kt (fun q => kf (fun z => z q))
  | 2, hd, kt, kf => exact lv_icmp_lt C.1 C.2.1 hd (by omega) kt kf
  | 3, hd, kt, kf => exact lv_icmp_ge C.1 C.2.1 hd (by omega) kt kf
  | 4, hd, kt, kf => exact lv_icmp_gt C.1 C.2.1 hd (by omega) kt kf
  | k + 5, hd, kt, kf => exact lv_icmp_le C.1 C.2.1 hd (by omega) kt kf
theorem kc_out : ∀ (l : List (Int × Nat)) (lo : Int) (d : Nat) (x : Int), kc lo l = true → (x < lo ∨ lo + l.length ≤ x) → swf l d x = d := by
  intro l
  induction l with
  | nil => intro lo d x _ _; rfl
  | cons q r ih =>
    intro lo d x hk hx
    simp only [kc, Bool.and_eq_true, beq_iff_eq] at hk
    simp only [List.length_cons] at hx
    unfold swf
    rw [if_neg (by omega)]
    exact ih (lo + 1) d x hk.2 (by omega)
theorem kc_in : ∀ (l : List (Int × Nat)) (lo : Int) (d j : Nat), kc lo l = true → j < l.length → ∃ q, l[j]? = some q ∧ swf l d (lo + j) = q.2 := by
  intro l
  induction l with
  | nil => intro lo d j _ h; simp at h
  | cons q r ih =>
    intro lo d j hk hj
    simp only [kc, Bool.and_eq_true, beq_iff_eq] at hk
    cases j with
    | zero => exact ⟨q, rfl, by unfold swf; rw [if_pos (by omega)]⟩
    | succ j =>
      simp only [List.length_cons] at hj
      obtain ⟨z, h1, h2⟩ := ih (lo + 1) d j hk.2 (by omega)
      refine ⟨z, by simpa using h1, ?_⟩
      unfold swf
      rw [if_neg (by omega), show lo + ((j + 1 : Nat) : Int) = lo + 1 + (j : Int) by omega]
      exact h2
theorem lks_off : ∀ (l : List (Int × Nat)) (d pc : Nat) (x : Int), (pc : Int) + Op.lookupswitch.offset (l.map (fun z => (z.1, (z.2 : Int) - pc))) ((d : Int) - pc) x = (swf l d x : Int) := by
  intro l
  induction l with
  | nil => intro d pc x; simp [Op.lookupswitch.offset, swf]; omega
  | cons q r ih =>
    intro d pc x
    simp only [List.map_cons, Op.lookupswitch.offset_cons, swf]
    by_cases hq : q.1 = x
    · rw [if_pos hq, if_pos hq.symm]; omega
    · rw [if_neg hq, if_neg (fun z => hq z.symm)]; exact ih d pc x
theorem sim_sw (l : Launch) (g : GP) : R_sw (Sim l g) := by
  intro μ n0 pc L st h Φ n t a b cc d x hlk ht hK p e R s m args below meth c H locs cells slots Q ls C hW hS hl hC hret
  have hc := tab_ok hlk
  have kk := hK p e R s m args below meth c H locs cells slots Q ls C hW hS hl hC hret
  rcases ht with rfl | rfl
  · simp only [cE] at hc
    split at hc
    · rename_i q r en hs
      simp only [Bool.and_eq_true] at hc
      obtain ⟨hk, hd⟩ := hc
      obtain ⟨hd, -⟩ := dI_spec hd
      have hsw : swt a x = swf (q :: r) en x.toInt := by unfold swt; rw [hs]
      by_cases h1 : x.toInt < q.1 ∨ q.1 + r.length < x.toInt
      · refine lv_tableOut (tgt := swt a x) C.1 C.2.1 hd h1 ?_ kk
        rw [hsw, kc_out (q :: r) q.1 en _ hk (by simp only [List.length_cons]; omega)]
        omega
      · obtain ⟨z, h2, h3⟩ := kc_in (q :: r) q.1 en (x.toInt - q.1).toNat hk (by simp only [List.length_cons]; omega)
        rw [show q.1 + ((x.toInt - q.1).toNat : Int) = x.toInt by omega] at h3
        refine lv_tableIn (off := (z.2 : Int) - pc) (tgt := swt a x) C.1 C.2.1 hd (by omega) (by omega) ?_ ?_ kk
        · rw [List.getElem?_toArray, List.getElem?_map, h2]; rfl
        · rw [hsw, h3]; omega
    · cases hc
  · simp only [cE] at hc
    split at hc
    · rename_i lst en hs
      simp only [Bool.and_eq_true] at hc
      obtain ⟨hd, hp⟩ := hc
      obtain ⟨hd, -⟩ := dI_spec hd
      refine lv_lookup (tgt := swt a x) C.1 C.2.1 hd (by simpa using hp) rfl ?_ kk
      unfold swt
      rw [hs]
      exact lks_off lst en pc x.toInt
    · cases hc
/-! the classes -/
set_option maxRecDepth 100000 in
theorem uws_tbl : ∀ b, b < 8 → (u_ws (cN b) (cT b) (cF b)).all (fun w => decide (w ∈ lw_tbl) && goodWord w) = true := by decide +kernel
theorem cls_get {b : Nat} (h : b < 8) : vwCl[b]? = some (cN b, cT b, cF b) := by
  match b, h with
  | 0, _ => rfl
  | 1, _ => rfl
  | 2, _ => rfl
  | 3, _ => rfl
  | 4, _ => rfl
  | 5, _ => rfl
  | 6, _ => rfl
  | 7, _ => rfl
theorem cls_ws {b : Nat} (h : b < 8) : ∀ w ∈ u_ws (cN b) (cT b) (cF b), w ∈ CW := by
  intro w hw
  have h1 := List.all_eq_true.mp (uws_tbl b h) w hw
  simp only [Bool.and_eq_true, decide_eq_true_eq] at h1
  exact CW_in h1.1 h1.2
theorem cls_ty {b : Nat} (h : b < 8) : ∀ k, k < cF b → parseFieldDescriptor (cT b k).2.2.1 = some (cTy b k) := by
  match b, h with
  | 0, _ => exact tyX0_ok
  | 1, _ => exact tyX1_ok
  | 2, _ => exact tyX2_ok
  | 3, _ => exact tyX3_ok
  | 4, _ => exact tyX4_ok
  | 5, _ => exact tyX5_ok
  | 6, _ => exact tyX6_ok
  | 7, _ => exact tyX7_ok
theorem cls_nm {b : Nat} (h : b < 8) : ∀ x, x < cF b → ∀ y, y < cF b → x ≠ y → (cT b x).2.1 ≠ (cT b y).2.1 := by
  match b, h with
  | 0, _ => exact nmX0
  | 1, _ => exact nmX1
  | 2, _ => exact nmX2
  | 3, _ => exact nmX3
  | 4, _ => exact nmX4
  | 5, _ => exact nmX5
  | 6, _ => exact nmX6
  | 7, _ => exact nmX7
theorem cls_own : ∀ b, b < 8 → ∀ k, k < cF b → (cT b k).1 = cN b := by decide +kernel
/-! the world of a heap -/
theorem wsh_get {g : GP} {h : HP} {c : Nat} (hc : c < h.1) : (wsh g h)[c]? = some (ad g c, cel g h c) := by
  unfold wsh
  rw [List.getElem?_map, List.getElem?_range hc]
  rfl
theorem wsh_set {g : GP} {h h' : HP} {o : Nat} {e : va_E} (hn : h'.1 = h.1) (he : cel g h' o = e) (ho : ∀ c, c ≠ o → cel g h' c = cel g h c) : (wsh g h).set o (ad g o, e) = wsh g h' := by
  refine List.ext_getElem? fun i => ?_
  rw [List.getElem?_set]
  by_cases hi : i < h.1
  · rw [wsh_get (h := h') (by omega)]
    split
    · rename_i h1
      subst h1
      rw [if_pos (by simp [wsh]; exact hi), he]
    · rename_i h1
      rw [wsh_get hi, ho i (fun z => h1 z.symm)]
  · have h1 : (wsh g h')[i]? = none := by simp [wsh]; omega
    have h2 : (wsh g h)[i]? = none := by simp [wsh]; omega
    rw [h1, h2]
    split
    · rw [if_neg (by simp [wsh]; omega)]
    · rfl
theorem cel_congr {g : GP} {h h' : HP} {c : Nat} (h1 : h'.2.1 c = h.2.1 c) (h2 : h'.2.2 c = h.2.2 c) : cel g h' c = cel g h c := by
  unfold cel fvs
  rw [h1, h2]
theorem cel_obj {g : GP} {h : HP} {o b : Nat} (hk : kd o = (0, b)) : cel g h o = .inr (b, fvs g h b o) := by
  unfold cel
  rw [hk]
  rfl
theorem cel_arr {g : GP} {h : HP} {o t N : Nat} (hk : kd o = (t, N)) (ht : t = 1 ∨ t = 2 ∨ t = 3) : cel g h o = .inl (g.2.2.2 t, N, .inl (h.2.2 o)) := by
  unfold cel
  rw [hk]
  rcases ht with rfl | rfl | rfl <;> rfl
theorem cel_ref {g : GP} {h : HP} {o t N : Nat} (hk : kd o = (t, N)) (ht : t = 4 ∨ t = 5) : cel g h o = .inl (g.2.2.2 t, N, .inr (.inr (.inr (.inr (fun j => rv g (h.2.1 o j)))))) := by
  unfold cel
  rw [hk]
  rcases ht with rfl | rfl <;> rfl
theorem fvs_get {g : GP} {h : HP} {ci o k : Nat} (hk : k < cF ci) : (fvs g h ci o)[k]? = some (if isr ci k = true then va_rf (rv g (h.2.1 o k)) else .int (h.2.2 o k)) := by
  unfold fvs
  rw [List.getElem?_map, List.getElem?_range hk]
  rfl
theorem fvs_len {g : GP} {h : HP} {ci o : Nat} : (fvs g h ci o).length = cF ci := by simp [fvs]
theorem fvs_seti {g : GP} {h : HP} {ci o k : Nat} {x : Int32} (hk : k < cF ci) (hi : isr ci k = false) : (fvs g h ci o).set k (.int x) = fvs g (h.1, h.2.1, hset h.2.2 o k x) ci o := by
  refine List.ext_getElem? fun i => ?_
  rw [List.getElem?_set]
  by_cases hl : i < cF ci
  · rw [fvs_get (h := (h.1, h.2.1, hset h.2.2 o k x)) hl]
    by_cases hik : k = i
    · subst hik
      rw [if_pos rfl, if_pos (by rw [fvs_len]; exact hk)]
      simp [hi, hset, upd]
    · rw [if_neg hik, fvs_get hl]
      simp [hset, upd, Ne.symm hik]
  · have h1 : (fvs g (h.1, h.2.1, hset h.2.2 o k x) ci o)[i]? = none := by simp [fvs]; omega
    have h2 : (fvs g h ci o)[i]? = none := by simp [fvs]; omega
    rw [if_neg (by omega), h1, h2]
theorem fvs_setr {g : GP} {h : HP} {ci o k j : Nat} (hk : k < cF ci) (hi : isr ci k = true) : (fvs g h ci o).set k (.ref (ad g j)) = fvs g (h.1, rset h.2.1 o k (j + 1), h.2.2) ci o := by
  refine List.ext_getElem? fun i => ?_
  rw [List.getElem?_set]
  by_cases hl : i < cF ci
  · rw [fvs_get (h := (h.1, rset h.2.1 o k (j + 1), h.2.2)) hl]
    by_cases hik : k = i
    · subst hik
      rw [if_pos rfl, if_pos (by rw [fvs_len]; exact hk)]
      simp [hi, rset, rv, va_rf]
    · rw [if_neg hik, fvs_get hl]
      simp [rset, Ne.symm hik]
  · have h1 : (fvs g (h.1, rset h.2.1 o k (j + 1), h.2.2) ci o)[i]? = none := by simp [fvs]; omega
    have h2 : (fvs g h ci o)[i]? = none := by simp [fvs]; omega
    rw [if_neg (by omega), h1, h2]
theorem hset_ne {f : Nat → Nat → Int32} {o k c : Nat} {x : Int32} (h : c ≠ o) : hset f o k x c = f c := by simp [hset, h]
theorem rset_ne {f : Nat → Nat → Nat} {o k c j : Nat} (h : c ≠ o) : rset f o k j c = f c := by funext i; simp [rset, h]
theorem hputs_ne {f : Nat → Nat → Int32} {o c : Nat} {x : Nat → Int32} (h : c ≠ o) : hputs f o x c = f c := by simp [hputs, h]
theorem ad_in {g : GP} {c : Nat} (h : c < 1000) : ad g c = g.1.1 + c := by simp [ad, h]
theorem wsh_D {g : GP} {h : HP} (hn : h.1 ≤ NT) : va_D (AG g) (wsh g h) := by
  have at' : ∀ (i : Nat) (p : Nat × va_E), (wsh g h)[i]? = some p → i < h.1 ∧ p.1 = g.1.1 + i := by
    intro i p hp
    have hi : i < h.1 := by
      have := (List.getElem?_eq_some_iff.mp hp).1
      simpa [wsh] using this
    rw [wsh_get hi] at hp
    cases hp
    exact ⟨hi, ad_in (by unfold NT at hn; omega)⟩
  refine ⟨fun i j p q hp hq he => ?_, fun k q hq => ?_⟩
  · have h1 := (at' i p hp).2
    have h2 := (at' j q hq).2
    omega
  · have h1 := (at' k q hq).2
    unfold AG
    omega
theorem SP.i {g : GP} {h : HP} {f : Nat → Nat → Int32} (hs : SP g h) (h0 : f 1000 = h.2.2 1000) (h1 : f 1001 = h.2.2 1001) (h2 : f 1002 = h.2.2 1002) : SP g (h.1, h.2.1, f) := by
  obtain ⟨a1, a2, a3, a4, a5, a6⟩ := hs
  exact ⟨a1, h0.trans a2, a3, h1.trans a4, a5, h2.trans a6⟩
theorem SP.r {g : GP} {h : HP} {f : Nat → Nat → Nat} (hs : SP g h) (h0 : f 1000 = h.2.1 1000) (h1 : f 1001 = h.2.1 1001) (h2 : f 1002 = h.2.1 1002) : SP g (h.1, f, h.2.2) := by
  obtain ⟨a1, a2, a3, a4, a5, a6⟩ := hs
  exact ⟨by show f 1000 0 = _; rw [h0]; exact a1, a2, by show f 1001 0 = _; rw [h1]; exact a3, a4, by show f 1002 0 = _; rw [h2]; exact a5, a6⟩
theorem sim_geti (l : Launch) (g : GP) : R_geti (Sim l g) := by
  intro μ n0 pc L st h Φ n a b cc d o hlk hk ho hK p e R s m args below meth c H locs cells slots Q ls C hW hS hl hC hret
  have hc := tab_ok hlk
  have kk := hK p e R s m args below meth c H locs cells slots Q ls C hW hS hl hC hret
  simp only [cE, Bool.or_eq_true, Bool.and_eq_true, decide_eq_true_eq, beq_iff_eq] at hc
  obtain ⟨⟨⟨⟨hd, hb⟩, ha⟩, hi⟩, hw⟩ := hc
  replace hd := dI_spec hd
  obtain ⟨hd, rfl⟩ := hd
  have he := wsh_get (g := g) ho
  rw [cel_obj hk] at he
  have hv : (fvs g h b o)[a]? = some (.int (h.2.2 o a)) := by rw [fvs_get ha, hi]; rfl
  have hK0 := C.2.2.2.2.2.2.1
  rcases hw with hw | hw
  · exact va_get C.1 C.2.1 C.2.2.2.2.1 (cls_ws hb) C.2.2.2.1 hK0.1 hW.1 o he (cls_get hb) a ha (C.2.2.2.2.1 _ (CW_in (wA_spec hw) rfl)) (fun x hx => by rw [cls_own b hb a ha] at hx; exact hx) hv hd kk
  · exact va_getN C.1 C.2.1 C.2.2.2.2.1 (cls_ws hb) C.2.2.2.1 hK0.1 hW.1 o he (cls_get hb) a ha (va_Nw.use rfl (hK0.2.1 _ (wA_spec hw) rfl)) (fun x hx => by rw [cls_own b hb a ha] at hx; exact hx) hv hd kk
theorem sim_getr (l : Launch) (g : GP) : R_getr (Sim l g) := by
  intro μ n0 pc L st h Φ n a b cc d o j hlk hk ho hj hK p e R s m args below meth c H locs cells slots Q ls C hW hS hl hC hret
  have hc := tab_ok hlk
  have kk := hK p e R s m args below meth c H locs cells slots Q ls C hW hS hl hC hret
  simp only [cE, Bool.or_eq_true, Bool.and_eq_true, decide_eq_true_eq, beq_iff_eq] at hc
  obtain ⟨⟨⟨⟨hd, hb⟩, ha⟩, hi⟩, hw⟩ := hc
  replace hd := dI_spec hd
  obtain ⟨hd, rfl⟩ := hd
  have he := wsh_get (g := g) ho
  rw [cel_obj hk] at he
  have hv : (fvs g h b o)[a]? = some (.ref (ad g j)) := by rw [fvs_get ha, hi, hj]; rfl
  have hK0 := C.2.2.2.2.2.2.1
  rcases hw with hw | hw
  · exact va_get C.1 C.2.1 C.2.2.2.2.1 (cls_ws hb) C.2.2.2.1 hK0.1 hW.1 o he (cls_get hb) a ha (C.2.2.2.2.1 _ (CW_in (wA_spec hw) rfl)) (fun x hx => by rw [cls_own b hb a ha] at hx; exact hx) hv hd kk
  · exact va_getN C.1 C.2.1 C.2.2.2.2.1 (cls_ws hb) C.2.2.2.1 hK0.1 hW.1 o he (cls_get hb) a ha (va_Nw.use rfl (hK0.2.1 _ (wA_spec hw) rfl)) (fun x hx => by rw [cls_own b hb a ha] at hx; exact hx) hv hd kk
theorem WH.seti {g : GP} {h : HP} {H1 : Heap} {o : Nat} {e : va_E} {f : Nat → Nat → Int32} (ho : o < h.1) (hn : h.1 ≤ NT) (hs : SP g h) (hP : va_P g.2.2.1 vwCl ((wsh g h).set o (ad g o, e)) H1) (he : cel g (h.1, h.2.1, f) o = e) (hf : ∀ c, c ≠ o → f c = h.2.2 c) : WH g (h.1, h.2.1, f) H1 := by
  rw [wsh_set (h := h) (h' := (h.1, h.2.1, f)) rfl he (fun c hc => cel_congr rfl (hf c hc))] at hP
  refine ⟨hP, hn, hs.i (hf _ ?_) (hf _ ?_) (hf _ ?_)⟩ <;> (unfold NT at hn; omega)
theorem WH.setr {g : GP} {h : HP} {H1 : Heap} {o : Nat} {e : va_E} {f : Nat → Nat → Nat} (ho : o < h.1) (hn : h.1 ≤ NT) (hs : SP g h) (hP : va_P g.2.2.1 vwCl ((wsh g h).set o (ad g o, e)) H1) (he : cel g (h.1, f, h.2.2) o = e) (hf : ∀ c, c ≠ o → f c = h.2.1 c) : WH g (h.1, f, h.2.2) H1 := by
  rw [wsh_set (h := h) (h' := (h.1, f, h.2.2)) rfl he (fun c hc => cel_congr (hf c hc) rfl)] at hP
  refine ⟨hP, hn, hs.r (hf _ ?_) (hf _ ?_) (hf _ ?_)⟩ <;> (unfold NT at hn; omega)
theorem sim_puti (l : Launch) (g : GP) : R_puti (Sim l g) := by
  intro μ n0 pc L st h Φ n a b cc d o x hlk hk ho hbx hK p e R s m args below meth c H locs cells slots Q ls C hW hS hl hC hret
  have hc := tab_ok hlk
  simp only [cE, Bool.or_eq_true, Bool.and_eq_true, decide_eq_true_eq, beq_iff_eq] at hc
  obtain ⟨⟨⟨⟨⟨⟨hd, hb⟩, ha⟩, hi⟩, hf⟩, hty⟩, hw⟩ := hc
  replace hd := dI_spec hd
  obtain ⟨hd, rfl⟩ := hd
  have he := wsh_get (g := g) ho
  rw [cel_obj hk] at he
  have hK0 := C.2.2.2.2.2.2.1
  have hn : narrow (cTy b a) (.int x) = .int x ∧ fits (cTy b a) (.int x) = true := by
    rw [hty]
    by_cases hz : bfl b a = true
    · rw [if_pos hz]
      rcases hbx hz with rfl | rfl <;> decide
    · rw [if_neg hz]
      exact ⟨rfl, rfl⟩
  have kk := fun (H1 : Heap) (locs1 : List Loc) (hP : va_P g.2.2.1 vwCl ((wsh g h).set o (ad g o, .inr (b, (fvs g h b o).set a (.int x)))) H1) (hS1 : va_S (AG g) s.heap H1 locs1) => hK p e R s m args below meth c H1 locs1 cells slots Q ls C (WH.seti ho hW.2.1 hW.2.2 hP (by rw [cel_obj hk, fvs_seti ha hi]) (fun q hq => hset_ne hq)) hS1 hl hC hret
  rcases hw with hw | hw
  · exact va_put C.1 C.2.1 C.2.2.2.2.1 (cls_ws hb) (cTy b) (cls_ty hb) (cls_nm hb) C.2.2.2.1 hK0.1 hW.1 (wsh_D hW.2.1) hS o he (cls_get hb) a ha (C.2.2.2.2.1 _ (CW_in (wA_spec hw) rfl)) (fun x hx => by rw [cls_own b hb a ha] at hx; exact hx) hf (cls_ty hb a ha) hn.1 hn.2 (by rw [fvs_len]; exact ha) hd (fun H1 locs1 q1 _ q3 => kk H1 locs1 q1 q3)
  · exact va_putN C.1 C.2.1 C.2.2.2.2.1 (cls_ws hb) (cTy b) (cls_ty hb) (cls_nm hb) C.2.2.2.1 hK0.1 hW.1 (wsh_D hW.2.1) hS o he (cls_get hb) a ha (va_Nw.use rfl (hK0.2.1 _ (wA_spec hw) rfl)) (fun x hx => by rw [cls_own b hb a ha] at hx; exact hx) hf (cls_ty hb a ha) hn.1 hn.2 (by rw [fvs_len]; exact ha) hd (fun H1 locs1 q1 _ q3 => kk H1 locs1 q1 q3)
theorem sim_putr (l : Launch) (g : GP) : R_putr (Sim l g) := by
  intro μ n0 pc L st h Φ n a b cc d o j hlk hk ho hK p e R s m args below meth c H locs cells slots Q ls C hW hS hl hC hret
  have hc := tab_ok hlk
  simp only [cE, Bool.and_eq_true, decide_eq_true_eq, beq_iff_eq] at hc
  obtain ⟨⟨⟨⟨⟨⟨⟨hd, hb⟩, ha⟩, hi⟩, hf⟩, hin⟩, hm⟩, hw⟩ := hc
  replace hd := dI_spec hd
  obtain ⟨hd, rfl⟩ := hd
  subst hm
  have he := wsh_get (g := g) ho
  rw [cel_obj hk] at he
  have hK0 := C.2.2.2.2.2.2.1
  have hn : narrow (cTy (mC μ) a) (.ref (ad g j)) = .ref (ad g j) ∧ fits (cTy (mC μ) a) (.ref (ad g j)) = true := by
    unfold isr at hi
    cases hz : cTy (mC μ) a <;> rw [hz] at hi <;> first | (cases hi; done) | exact ⟨rfl, rfl⟩
  refine va_putF C.1 C.2.1 C.2.2.2.2.1 (cls_ws hb) (cTy _) (cls_ty hb) (cls_nm hb) C.2.2.2.1 hK0.1 hW.1 (wsh_D hW.2.1) hS o he (cls_get hb) a ha (C.2.2.2.2.1 _ (CW_in (wA_spec hw) rfl)) (fun x hx => by rw [cls_own _ hb a ha] at hx; exact hx) hf (C.2.2.2.2.2.1 hin) (cls_own _ hb a ha) (cls_ty hb a ha) hn.1 hn.2 (by rw [fvs_len]; exact ha) hd (fun H1 locs1 q1 _ q3 => ?_)
  exact hK p e R s m args below meth c H1 locs1 cells slots Q ls C (WH.setr ho hW.2.1 hW.2.2 q1 (by rw [cel_obj hk]; show _ = Sum.inr (mC μ, (fvs g h (mC μ) o).set a (.ref (ad g j))); rw [fvs_setr ha hi]) (fun q hq => rset_ne hq)) q3 hl hC hret
end
section
/-! SOUNDNESS: arrays -/
theorem tys_get {g : GP} {t : Nat} (ht : t = 1 ∨ t = 2 ∨ t = 3 ∨ t = 4 ∨ t = 5) : (tysL g)[t]? = some (g.2.2.2 t, fty t) := by
  rcases ht with rfl | rfl | rfl | rfl | rfl <;> rfl
theorem sim_ald (l : Launch) (g : GP) : R_ald (Sim l g) := by
  intro μ n0 pc L st h Φ n a b cc d o N i hlk hk ho hin hK p e R s m args below meth c H locs cells slots Q ls C hW hS hl hC hret
  have hc := tab_ok hlk
  simp only [cE] at hc
  obtain ⟨hd, rfl⟩ := dI_spec hc
  have he := wsh_get (g := g) ho
  rw [cel_arr hk (Or.inl rfl)] at he
  exact va_iald C.1 C.2.1 C.2.2.2.2.2.2.1.1 hW.1 o 1 he rfl hin hd (hK p e R s m args below meth c H locs cells slots Q ls C hW hS hl hC hret)
set_option maxRecDepth 20000 in
theorem kd_in : ∀ c, c < 110 → (kd c).1 ≠ 6 := by decide +kernel
theorem kd_six {o : Nat} (h : kd o = (6, 0)) : o = 1000 ∨ o = 1001 ∨ o = 1002 := by
  by_cases h1 : o < 110
  · exact absurd (by rw [h]) (kd_in o h1)
  · unfold kd at h
    rw [getD_big _ _ _ (Nat.le_trans (Nat.le_of_eq (by decide)) (Nat.not_lt.mp h1))] at h
    split at h
    · rename_i h2; exact h2
    · cases h
theorem sim_aldx (l : Launch) (g : GP) : R_aldx (Sim l g) := by
  intro μ n0 pc L st h Φ n a b cc d o i hlk hk hin hK p e R s m args below meth c H locs cells slots Q ls C hW hS hl hC hret
  have hc := tab_ok hlk
  simp only [cE] at hc
  obtain ⟨hd, rfl⟩ := dI_spec hc
  have kk := hK p e R s m args below meth c H locs cells slots Q ls C hW hS hl hC hret
  obtain ⟨⟨q1, q2, q3⟩, X1, X2, X3, -, -⟩ := C.2.2.2.2.2.2.2.1
  have hz := C.2.2.2.2.2.2.2.2.1
  obtain ⟨a1, a2, a3, a4, a5, a6⟩ := hW.2.2
  have hna : ∀ q, q < g.1.1 → ¬ AG g q := fun q hq => Nat.not_le.mpr hq
  rcases kd_six hk with rfl | rfl | rfl
  · rw [a1] at hin
    rw [a2] at kk
    exact va_sld C.1 C.2.1 X1 (by omega) (hna _ q1) hS hin hd kk
  · rw [a3] at hin
    rw [a4] at kk
    exact va_ti C.1 C.2.1 X2 hS hin rfl hd kk
  · rw [a5] at hin
    rw [a6] at kk
    exact va_ti C.1 C.2.1 X3 hS hin rfl hd kk
theorem sim_ast (l : Launch) (g : GP) : R_ast (Sim l g) := by
  intro μ n0 pc L st h Φ n a b cc d o N i x hlk hk ho hin hK p e R s m args below meth c H locs cells slots Q ls C hW hS hl hC hret
  have hc := tab_ok hlk
  simp only [cE] at hc
  obtain ⟨hd, rfl⟩ := dI_spec hc
  have he := wsh_get (g := g) ho
  rw [cel_arr hk (Or.inl rfl)] at he
  refine va_iast C.1 C.2.1 C.2.2.2.2.2.2.1.1 hW.1 (wsh_D hW.2.1) hS o 1 he rfl hin hd (fun H1 locs1 q1 _ q3 => ?_)
  exact hK p e R s m args below meth c H1 locs1 cells slots Q ls C (WH.seti ho hW.2.1 hW.2.2 q1 (by rw [cel_arr hk (Or.inl rfl)]; simp [hset]) (fun q hq => hset_ne hq)) q3 hl hC hret
theorem sim_bld (l : Launch) (g : GP) : R_bld (Sim l g) := by
  intro μ n0 pc L st h Φ n a b cc d o t N i hlk hk ht ho hin hK p e R s m args below meth c H locs cells slots Q ls C hW hS hl hC hret
  have hc := tab_ok hlk
  simp only [cE] at hc
  obtain ⟨hd, rfl⟩ := dI_spec hc
  have he := wsh_get (g := g) ho
  have kk := hK p e R s m args below meth c H locs cells slots Q ls C hW hS hl hC hret
  rcases ht with rfl | rfl
  · rw [cel_arr hk (Or.inr (Or.inl rfl))] at he
    exact va_zald C.1 C.2.1 C.2.2.2.2.2.2.1.1 hW.1 o 2 he rfl hin hd kk
  · rw [cel_arr hk (Or.inr (Or.inr rfl))] at he
    exact va_bald C.1 C.2.1 C.2.2.2.2.2.2.1.1 hW.1 o 3 he rfl hin hd kk
theorem sim_zst (l : Launch) (g : GP) : R_zst (Sim l g) := by
  intro μ n0 pc L st h Φ n a b cc d o N i x hlk hk ho hin hK p e R s m args below meth c H locs cells slots Q ls C hW hS hl hC hret
  have hc := tab_ok hlk
  simp only [cE] at hc
  obtain ⟨hd, rfl⟩ := dI_spec hc
  have he := wsh_get (g := g) ho
  rw [cel_arr hk (Or.inr (Or.inl rfl))] at he
  refine va_zast C.1 C.2.1 C.2.2.2.2.2.2.1.1 hW.1 (wsh_D hW.2.1) hS o 2 he rfl hin hd (fun H1 locs1 q1 _ q3 => ?_)
  exact hK p e R s m args below meth c H1 locs1 cells slots Q ls C (WH.seti ho hW.2.1 hW.2.2 q1 (by rw [cel_arr hk (Or.inr (Or.inl rfl))]; simp [hset]) (fun q hq => hset_ne hq)) q3 hl hC hret
theorem sim_bst (l : Launch) (g : GP) : R_bst (Sim l g) := by
  intro μ n0 pc L st h Φ n a b cc d o N i x hlk hk ho hin hK p e R s m args below meth c H locs cells slots Q ls C hW hS hl hC hret
  have hc := tab_ok hlk
  simp only [cE] at hc
  obtain ⟨hd, rfl⟩ := dI_spec hc
  have he := wsh_get (g := g) ho
  rw [cel_arr hk (Or.inr (Or.inr rfl))] at he
  refine va_bast C.1 C.2.1 C.2.2.2.2.2.2.1.1 hW.1 (wsh_D hW.2.1) hS o 3 he rfl hin hd (fun H1 locs1 q1 _ q3 => ?_)
  exact hK p e R s m args below meth c H1 locs1 cells slots Q ls C (WH.seti ho hW.2.1 hW.2.2 q1 (by rw [cel_arr hk (Or.inr (Or.inr rfl))]; simp [hset]) (fun q hq => hset_ne hq)) q3 hl hC hret
theorem sim_rld (l : Launch) (g : GP) : R_rld (Sim l g) := by
  intro μ n0 pc L st h Φ n a b cc d o t N j i hlk hk ht ho hin hj hK p e R s m args below meth c H locs cells slots Q ls C hW hS hl hC hret
  have hc := tab_ok hlk
  simp only [cE] at hc
  obtain ⟨hd, rfl⟩ := dI_spec hc
  have he := wsh_get (g := g) ho
  rw [cel_ref hk ht] at he
  have kk := hK p e R s m args below meth c H locs cells slots Q ls C hW hS hl hC hret
  rcases ht with rfl | rfl
  · refine va_aldq C.1 C.2.1 C.2.2.2.2.2.2.1.1 hW.1 o 4 he rfl hin hd ?_
    rw [hj]
    exact kk
  · refine va_aldq C.1 C.2.1 C.2.2.2.2.2.2.1.1 hW.1 o 5 he rfl hin hd ?_
    rw [hj]
    exact kk
theorem cel_ref_set {g : GP} {h : HP} {o k j : Nat} : (fun i => rv g (rset h.2.1 o k (j + 1) o i)) = va_up (fun i => rv g (h.2.1 o i)) k (some (ad g j)) := by
  funext i
  by_cases hi : i = k
  · subst hi
    simp [rset, rv, va_up]
  · simp [rset, va_up, hi]
theorem sim_rst (l : Launch) (g : GP) : R_rst (Sim l g) := by
  intro μ n0 pc L st h Φ n a b cc d o t N j i hlk hk ht ho hj hin hK p e R s m args below meth c H locs cells slots Q ls C hW hS hl hC hret
  have hc := tab_ok hlk
  simp only [cE] at hc
  obtain ⟨hd, rfl⟩ := dI_spec hc
  have he := wsh_get (g := g) ho
  have hv := wsh_get (g := g) hj
  rcases ht with ⟨rfl, hkj⟩ | ⟨rfl, hkj⟩
  · rw [cel_ref hk (Or.inl rfl)] at he
    rw [cel_obj hkj] at hv
    refine va_astq (r := (RX0, TX0, 9)) C.1 C.2.1 C.2.2.2.2.2.2.1.1 hW.1 (wsh_D hW.2.1) hS o 4 j 0 he rfl hv rfl hin hd (fun H1 locs1 q1 _ q3 => ?_)
    exact hK p e R s m args below meth c H1 locs1 cells slots Q ls C (WH.setr ho hW.2.1 hW.2.2 q1 (by rw [cel_ref hk (Or.inl rfl), cel_ref_set]) (fun q hq => rset_ne hq)) q3 hl hC hret
  · rw [cel_ref hk (Or.inr rfl)] at he
    rw [cel_obj hkj] at hv
    refine va_astq (r := (RX3, TX3, 3)) C.1 C.2.1 C.2.2.2.2.2.2.1.1 hW.1 (wsh_D hW.2.1) hS o 5 j 3 he rfl hv rfl hin hd (fun H1 locs1 q1 _ q3 => ?_)
    exact hK p e R s m args below meth c H1 locs1 cells slots Q ls C (WH.setr ho hW.2.1 hW.2.2 q1 (by rw [cel_ref hk (Or.inr rfl), cel_ref_set]) (fun q hq => rset_ne hq)) q3 hl hC hret
theorem sim_len (l : Launch) (g : GP) : R_len (Sim l g) := by
  intro μ n0 pc L st h Φ n a b cc d o N hlk hk ho hK p e R s m args below meth c H locs cells slots Q ls C hW hS hl hC hret
  have hc := tab_ok hlk
  simp only [cE] at hc
  obtain ⟨hd, rfl⟩ := dI_spec hc
  have he := wsh_get (g := g) ho
  rw [cel_arr hk (Or.inl rfl)] at he
  exact va_alen C.1 C.2.1 C.2.2.2.2.2.2.1.1 hW.1 o 1 he (ty := .int) rfl rfl hd (hK p e R s m args below meth c H locs cells slots Q ls C hW hS hl hC hret)
theorem sim_lenx (l : Launch) (g : GP) : R_lenx (Sim l g) := by
  intro μ n0 pc L st h Φ n a b cc d o hlk hk hK p e R s m args below meth c H locs cells slots Q ls C hW hS hl hC hret
  have hc := tab_ok hlk
  simp only [cE] at hc
  obtain ⟨hd, rfl⟩ := dI_spec hc
  have kk := hK p e R s m args below meth c H locs cells slots Q ls C hW hS hl hC hret
  obtain ⟨⟨q1, q2, q3⟩, X1, X2, X3, -, -⟩ := C.2.2.2.2.2.2.2.1
  have hz := C.2.2.2.2.2.2.2.2.1
  obtain ⟨a1, a2, a3, a4, a5, a6⟩ := hW.2.2
  have hna : ∀ q, q < g.1.1 → ¬ AG g q := fun q hq => Nat.not_le.mpr hq
  subst hk
  rw [a1] at kk
  exact va_slen C.1 C.2.1 X1 (by show g.1.2.1 < _; omega) (hna _ q1) hS hd kk
theorem mn_st : Jvm.Cond.static Lib.Math.min.name ∈ CW := CW_in (List.mem_of_getElem? (i := 383) (by decide +kernel)) rfl
theorem mn_in : Jvm.Cond.initialized "java/lang/Math" ∈ CW := CW_in (List.mem_of_getElem? (i := 111) (by decide +kernel)) rfl
theorem mn_co : Jvm.Cond.code Lib.Math.min.name Lib.Math.min.code 2 (some .int) ∈ CW := CW_in (List.mem_of_getElem? (i := 384) (by decide +kernel)) rfl
theorem sim_min (l : Launch) (g : GP) : R_min (Sim l g) := by
  intro μ n0 pc L st h Φ n a b cc d x y hlk hst hK p e R s m args below meth c H locs cells slots Q ls C hW hS hl hC hret
  have hc := tab_ok hlk
  have kk := hK p e R s m args below meth c H locs cells slots Q ls C hW hS hl hC hret
  simp only [cE, Bool.and_eq_true, decide_eq_true_eq] at hc
  obtain ⟨⟨⟨hd, hw⟩, hf⟩, hlo⟩ := hc
  replace hd := dI_spec hd
  obtain ⟨hd, rfl⟩ := hd
  obtain ⟨hx, hb, hml, hown, hts, hnm, hK0, hX0, hsz, hRf, hRl, hRc, hRs⟩ := C
  have hcat : ((st.map (cv g)).map fun v => v.category).sum ≤ 8 := by
    rw [List.map_map]
    refine Nat.le_trans (Nat.le_of_eq ?_) hst
    congr 1
    exact List.map_congr_left (fun v _ => cv_cat g v)
  obtain ⟨c1, c2, c3, c4, c5, c6⟩ := hC
  exact va_mmin hx hb (by rw [hml, hl.1]) hown (hts _ (CW_in (wA_spec hw) rfl)) (hts _ mn_st) (hts _ mn_in) (hts _ mn_co) (by omega) (by omega) (by omega) (by omega) hd kk
end
section
/-! SOUNDNESS: making cells, copying, calls, returns; the theorem. -/
section SZ
variable {l : Launch} {g : GP} {μ n0 : Nat} {p : Program} {e : Env} {R : Room} {s : State} {m : MethodId} {args : Array Value} {below : List Frame} {meth : Method} {c : Code} {H : Heap} {locs : List Loc} {cells slots : Nat} {Q : State → Prop} {h : HP}
theorem sz_eq {T : State} (C : CX g μ n0 p R s m args meth c) (hW : WH g h H) (hS : va_S (AG g) s.heap H locs) (hn : n0 ≤ h.1) (hc : cells ≤ h.1 - n0) (hT : T.heap = H) (X : Stand p l e R s m args below meth c T locs cells slots) : H.size = g.1.1 + h.1 := by
  have h1 := X.heapSize
  rw [hT, C.2.2.2.2.2.2.2.2.1] at h1
  have h2 := hS.1
  rw [C.2.2.2.2.2.2.2.2.1] at h2
  have h4 := hW.2.1
  unfold NT at h4
  by_cases h0 : h.1 = 0
  · omega
  · have h3 := (hW.1 (h.1 - 1) _ (wsh_get (by omega))).lt
    rw [ad_in (by omega)] at h3
    omega
theorem szW {f : JFrame} (C : CX g μ n0 p R s m args meth c) (hW : WH g h H) (hS : va_S (AG g) s.heap H locs) (hC : CN μ n0 h cells slots) (kk : H.size = g.1.1 + h.1 → W p l e R s m args below meth c H locs cells slots Q f) : W p l e R s m args below meth c H locs cells slots Q f := by
  intro T hT X
  exact kk (sz_eq C hW hS hC.1 (by rw [hC.2.2.1]; omega) hT X) T hT X
end SZ
theorem mkc_cel {g : GP} {h : HP} {c : Nat} (hc : c ≠ h.1) : cel g (mkc h) c = cel g h c := by
  refine cel_congr ?_ ?_
  · funext i; simp [mkc, hc]
  · funext i; simp [mkc, hc]
theorem mkc_wsh {g : GP} {h : HP} : wsh g (mkc h) = wsh g h ++ [(ad g h.1, cel g (mkc h) h.1)] := by
  unfold wsh
  show (List.range (h.1 + 1)).map _ = _
  rw [List.range_succ, List.map_append]
  congr 1
  refine List.map_congr_left (fun c hc => ?_)
  rw [mkc_cel (Nat.ne_of_lt (List.mem_range.mp hc))]
set_option maxRecDepth 20000 in
theorem kds_len : ∀ c, 110 ≤ c → c < 1000 → (kd c) = (9, 0) := by
  intro c h1 h2
  unfold kd
  rw [getD_big _ _ _ (Nat.le_trans (Nat.le_of_eq (by decide)) h1), if_neg (by omega)]
theorem mkc_SP {g : GP} {h : HP} (hn : h.1 < 1000) (hs : SP g h) : SP g (mkc h) := by
  have n0 : (1000 : Nat) ≠ h.1 := by omega
  have n1 : (1001 : Nat) ≠ h.1 := by omega
  have n2 : (1002 : Nat) ≠ h.1 := by omega
  obtain ⟨a1, a2, a3, a4, a5, a6⟩ := hs
  refine ⟨?_, ?_, ?_, ?_, ?_, ?_⟩
  · simp only [mkc, if_neg n0]; exact a1
  · funext i; simp only [mkc, if_neg n0]; rw [a2]
  · simp only [mkc, if_neg n1]; exact a3
  · funext i; simp only [mkc, if_neg n1]; rw [a4]
  · simp only [mkc, if_neg n2]; exact a5
  · funext i; simp only [mkc, if_neg n2]; rw [a6]
/-- a new cell's address is the next -/
theorem new_ad {g : GP} {h : HP} {e : va_E} {q : Nat} {H1 : Heap} (hn : h.1 ≤ NT) (hD : va_D (AG g) (wsh g h ++ [(q, e)])) (hz : q < H1.size) (hs : H1.size ≤ g.1.1 + h.1 + 1) : q = ad g h.1 := by
  unfold NT at hn
  rw [ad_in (by omega)]
  have hl : (wsh g h).length = h.1 := by simp [wsh]
  have hq : (wsh g h ++ [(q, e)])[h.1]? = some (q, e) := by
    rw [List.getElem?_append_right (by omega), hl]
    simp
  have h1 : g.1.1 ≤ q := hD.2 _ _ hq
  by_cases h2 : q < g.1.1 + h.1
  · have h3 : (wsh g h ++ [(q, e)])[q - g.1.1]? = some (ad g (q - g.1.1), cel g h (q - g.1.1)) := by
      rw [List.getElem?_append_left (by omega), wsh_get (by omega)]
    have h4 := hD.1 _ _ _ _ h3 hq (by rw [ad_in (by omega)]; show g.1.1 + (q - g.1.1) = q; omega)
    omega
  · omega
theorem szs_step : ∀ c, c < 110 → slt (c + 1) = slt c + (if (kd c).1 = 0 then cF (kd c).2 else (kd c).2) := by decide +kernel
theorem kd_small {c : Nat} {t N : Nat} (h : kd c = (t, N)) (ht : t < 6) (hc : c ≤ NT) : c < 110 := by
  unfold NT at hc
  by_cases h1 : c < 110
  · exact h1
  · rw [kds_len c (by omega) (by omega)] at h
    cases h
    omega
theorem dflt_ok : ∀ a, a < 8 → ∀ j, j < cF a → (match cTy a j with | .int => true | .boolean => true | .array _ => true | .object _ => true | _ => false) = true := by decide +kernel
set_option maxRecDepth 100000 in
theorem ini_tbl : ∀ ci, ci < 11 → Jvm.Cond.initialized (cN ci) ∈ lw_tbl := by decide +kernel
theorem ini_in (ci : Nat) (h : ci < 11) : Jvm.Cond.initialized (cN ci) ∈ CW := CW_in (ini_tbl ci h) rfl
theorem sim_new (l : Launch) (g : GP) : R_new (Sim l g) := by
  intro μ n0 pc L st h Φ n a b cc d hlk hk hn1 hn2 hK p e R s m args below meth c H locs cells slots Q ls C hW hS hl hC hret
  have hc := tab_ok hlk
  simp only [cE, Bool.and_eq_true, decide_eq_true_eq] at hc
  obtain ⟨⟨⟨hd, ha⟩, hw⟩, hw2⟩ := hc
  replace hd := dI_spec hd
  obtain ⟨hd, rfl⟩ := hd
  obtain ⟨hx, hb, hml, hown, hts, hnm, hK0, hX0, hsz, hRf, hRl, hRc, hRs⟩ := id C
  obtain ⟨c1, c2, c3, c4, c5, c6⟩ := hC
  have hlt := kd_small hk (by omega) hW.2.1
  have hstep := szs_step h.1 hlt
  rw [hk, if_pos rfl] at hstep
  dsimp only at hstep
  have hfs : ∀ j, j < cF a → defaultValue (cTy a j) = vp_V (fvs g (mkc h) a h.1) j := by
    intro j hj
    unfold vp_V
    rw [List.getD_eq_getElem?_getD, fvs_get hj]
    cases hz : cTy a j <;> simp [isr, hz, FieldType.isReference, defaultValue, mkc, rv, va_rf]
    all_goals exact absurd (dflt_ok a ha j hj) (by rw [hz]; decide)
  have hin : (Jvm.Cond.initialized (cN a)).before args s = true := hts _ (ini_in a (by omega))
  refine va_new hx hb hts (cls_ws ha) (cTy a) (cls_ty ha) hown (hts _ (CW_in (wA_spec hw) rfl)) (hts _ (CW_in (wA_spec hw2) rfl)) hin hK0.1 hW.1 (wsh_D hW.2.1) hS (fun q hq => by unfold AG; omega) (cls_get ha) hfs (by omega) (by omega) hd (fun q H1 hP1 hD1 hS1 => ?_)
  intro T hT X
  have hz := X.heapSize
  rw [hT, hsz] at hz
  have hlq : q < H1.size := by
    have h3 := hP1 h.1 (q, .inr (a, fvs g (mkc h) a h.1)) (by rw [List.getElem?_append_right (by simp [wsh])]; simp [wsh])
    exact h3.lt
  have hq := new_ad hW.2.1 hD1 hlq (by omega)
  subst hq
  have hcel : cel g (mkc h) h.1 = .inr (a, fvs g (mkc h) a h.1) := cel_obj hk
  rw [← hcel, ← mkc_wsh] at hP1
  have hn1' : (mkc h).1 = h.1 + 1 := rfl
  have hW' : WH g (mkc h) H1 := ⟨hP1, by show h.1 + 1 ≤ NT; unfold NT; omega, mkc_SP (by omega) hW.2.2⟩
  exact hK p e R s m args below meth c H1 locs (cells + 1) (slots + cF a) Q ls C hW' hS1 hl ⟨by omega, by omega, by omega, by rw [hn1']; omega, by rw [hn1']; omega, by rw [hn1']; omega⟩ hret T hT X
theorem sim_newa (l : Launch) (g : GP) : R_newa (Sim l g) := by
  intro μ n0 pc L st h Φ n t a b cc d N hlk ht hk hn1 hn2 hK p e R s m args below meth c H locs cells slots Q ls C hW hS hl hC hret
  have hc := tab_ok hlk
  obtain ⟨hx, hb, hml, hown, hts, hnm, hK0, hX0, hsz, hRf, hRl, hRc, hRs⟩ := id C
  obtain ⟨c1, c2, c3, c4, c5, c6⟩ := hC
  have hn1' : (mkc h).1 = h.1 + 1 := rfl
  have hNb : ∀ c, c < 110 → (kd c).1 = 0 ∨ (kd c).2 < 100000 := by decide +kernel
  rcases ht with rfl | rfl
  · simp only [cE, Bool.or_eq_true, Bool.and_eq_true, beq_iff_eq] at hc
    obtain ⟨⟨hd, ha⟩, hw⟩ := hc
    replace hd := dI_spec hd
    obtain ⟨hd, rfl⟩ := hd
    have hlt := kd_small hk (by omega) hW.2.1
    have hstep := szs_step h.1 hlt
    rw [hk, if_neg (by show ¬ a = 0; omega)] at hstep
    have hN : N < 100000 := by
      rcases hNb h.1 hlt with h1 | h1
      · rw [hk] at h1; simp at h1; omega
      · rw [hk] at h1; exact h1
    have hcl : (nI N).toNatClampNeg = N := nI_clamp (by omega)
    have go : ∀ (q : Nat) (cA : ClassId) (H1 : Heap), va_K g.2.2.1 vwCl (tysL g ++ [(cA, fty a)]) s → va_P g.2.2.1 vwCl (wsh g h ++ [(q, .inl (cA, N, .inl (fun _ => 0)))]) H1 → va_D (AG g) (wsh g h ++ [(q, .inl (cA, N, .inl (fun _ => 0)))]) → va_S (AG g) s.heap H1 locs →
        W p l e R s m args below meth c H1 locs (cells + 1) (slots + N) Q (F0 m (pc + 2) ls (.ref q :: st.map (cv g))) := by
      intro q cA H1 hKa hP1 hD1 hS1 T hT X
      have hz := X.heapSize
      rw [hT, hsz] at hz
      have hlq : q < H1.size := by
        have h3 := hP1 h.1 (q, .inl (cA, N, .inl (fun _ => 0))) (by rw [List.getElem?_append_right (by simp [wsh])]; simp [wsh])
        exact h3.lt
      have hq := new_ad hW.2.1 hD1 hlq (by omega)
      subst hq
      have hsame : cA = g.2.2.2 a := by
        have k1 := (hKa.2 6 (cA, fty a) rfl).2
        have k2 := (hK0.1.2 a (g.2.2.2 a, fty a) (tys_get (by omega))).2
        rcases ha with (rfl | rfl) | rfl <;> exact Option.some.inj (k1.symm.trans k2)
      subst hsame
      have hcel : cel g (mkc h) h.1 = .inl (g.2.2.2 a, N, .inl (fun _ => 0)) := by
        rw [cel_arr hk (by omega)]
        congr 3
        simp [mkc]
      rw [← hcel, ← mkc_wsh] at hP1
      have hW' : WH g (mkc h) H1 := ⟨hP1, by show h.1 + 1 ≤ NT; unfold NT; omega, mkc_SP (by omega) hW.2.2⟩
      exact hK p e R s m args below meth c H1 locs (cells + 1) (slots + N) Q ls C hW' hS1 hl ⟨by omega, by omega, by omega, by rw [hn1']; omega, by rw [hn1']; omega, by rw [hn1']; omega⟩ hret T hT X
    rcases ha with (rfl | rfl) | rfl
    · exact va_newa (atype := .int) hx hb (hts _ (CW_in (wA_spec hw) rfl)) rfl hK0.1 hW.1 (wsh_D hW.2.1) hS (fun q hq => by unfold AG; omega) (a0 := (N, .inl (fun _ => 0))) (fun cA => rfl) (nI_pos (by omega)) hcl (by show N * 4 ≤ _; omega) (by omega) (by omega) hd go
    · exact va_newa (atype := .boolean) hx hb (hts _ (CW_in (wA_spec hw) rfl)) rfl hK0.1 hW.1 (wsh_D hW.2.1) hS (fun q hq => by unfold AG; omega) (a0 := (N, .inl (fun _ => 0))) (fun cA => rfl) (nI_pos (by omega)) hcl (by show N * 1 ≤ _; omega) (by omega) (by omega) hd go
    · exact va_newa (atype := .byte) hx hb (hts _ (CW_in (wA_spec hw) rfl)) rfl hK0.1 hW.1 (wsh_D hW.2.1) hS (fun q hq => by unfold AG; omega) (a0 := (N, .inl (fun _ => 0))) (fun cA => rfl) (nI_pos (by omega)) hcl (by show N * 1 ≤ _; omega) (by omega) (by omega) hd go
  · simp only [cE, Bool.or_eq_true, Bool.and_eq_true, beq_iff_eq] at hc
    obtain ⟨hd, ha⟩ := hc
    replace hd := dI_spec hd
    obtain ⟨hd, rfl⟩ := hd
    have ha' : a = 4 ∨ a = 5 := ha.elim (fun z => Or.inl z.1) (fun z => Or.inr z.1)
    have hlt := kd_small hk (by omega) hW.2.1
    have hstep := szs_step h.1 hlt
    rw [hk, if_neg (by show ¬ a = 0; omega)] at hstep
    have hN : N < 100000 := by
      rcases hNb h.1 hlt with h1 | h1
      · rw [hk] at h1; simp at h1; omega
      · rw [hk] at h1; exact h1
    have hcl : (nI N).toNatClampNeg = N := nI_clamp (by omega)
    have go : ∀ (q : Nat) (cA : ClassId) (H1 : Heap), va_K g.2.2.1 vwCl (tysL g ++ [(cA, fty a)]) s → va_P g.2.2.1 vwCl (wsh g h ++ [(q, .inl (cA, N, .inr (.inr (.inr (.inr (fun _ => none))))))]) H1 → va_D (AG g) (wsh g h ++ [(q, .inl (cA, N, .inr (.inr (.inr (.inr (fun _ => none))))))]) → va_S (AG g) s.heap H1 locs →
        W p l e R s m args below meth c H1 locs (cells + 1) (slots + N) Q (F0 m (pc + 3) ls (.ref q :: st.map (cv g))) := by
      intro q cA H1 hKa hP1 hD1 hS1 T hT X
      have hz := X.heapSize
      rw [hT, hsz] at hz
      have hlq : q < H1.size := by
        have h3 := hP1 h.1 (q, .inl (cA, N, .inr (.inr (.inr (.inr (fun _ => none)))))) (by rw [List.getElem?_append_right (by simp [wsh])]; simp [wsh])
        exact h3.lt
      have hq := new_ad hW.2.1 hD1 hlq (by omega)
      subst hq
      have hsame : cA = g.2.2.2 a := by
        have k1 := (hKa.2 6 (cA, fty a) rfl).2
        have k2 := (hK0.1.2 a (g.2.2.2 a, fty a) (tys_get (by omega))).2
        rcases ha' with rfl | rfl <;> (obtain ⟨_, _, _, _, _, k1⟩ := k1; obtain ⟨_, _, _, _, _, k2⟩ := k2; exact Option.some.inj (k1.symm.trans k2))
      subst hsame
      have hcel : cel g (mkc h) h.1 = .inl (g.2.2.2 a, N, .inr (.inr (.inr (.inr (fun _ => none))))) := by
        rw [cel_ref hk ha']
        congr 6
        simp [mkc, rv]
      rw [← hcel, ← mkc_wsh] at hP1
      have hW' : WH g (mkc h) H1 := ⟨hP1, by show h.1 + 1 ≤ NT; unfold NT; omega, mkc_SP (by omega) hW.2.2⟩
      exact hK p e R s m args below meth c H1 locs (cells + 1) (slots + N) Q ls C hW' hS1 hl ⟨by omega, by omega, by omega, by rw [hn1']; omega, by rw [hn1']; omega, by rw [hn1']; omega⟩ hret T hT X
    rcases ha with ⟨rfl, hw⟩ | ⟨rfl, hw⟩
    · exact va_newq hx hb hown (hts _ (CW_in (wA_spec hw) rfl)) hK0.2.2.1 hK0.1 hW.1 (wsh_D hW.2.1) hS (fun q hq => by unfold AG; omega) (nI_pos (by omega)) hcl (by omega) (by omega) (by omega) hd go
    · exact va_newq hx hb hown (hts _ (CW_in (wA_spec hw) rfl)) hK0.2.2.2 hK0.1 hW.1 (wsh_D hW.2.1) hS (fun q hq => by unfold AG; omega) (nI_pos (by omega)) hcl (by omega) (by omega) (by omega) hd go
end
section
/-! SOUNDNESS: calls and returns; the theorem. -/
theorem cat_cv (g : GP) (st : List Value) : ((st.map (cv g)).map fun v => v.category).sum = (st.map fun v => v.category).sum := by
  rw [List.map_map]
  congr 1
  exact List.map_congr_left (fun v _ => cv_cat g v)
theorem ob_in : Jvm.Cond.instanceMethod objectInit ∈ CW := CW_in (List.mem_of_getElem? (i := 120) (by decide +kernel)) rfl
theorem ob_co : Jvm.Cond.code objectInit ⟨#[0xb1]⟩ 1 none ∈ CW := CW_in (List.mem_of_getElem? (i := 121) (by decide +kernel)) rfl
theorem ac_na : Jvm.Cond.native arraycopyName ∈ CW := CW_in (List.mem_of_getElem? (i := 387) (by decide +kernel)) rfl
theorem ac_st : Jvm.Cond.static arraycopyName ∈ CW := CW_in (List.mem_of_getElem? (i := 386) (by decide +kernel)) rfl
theorem ac_in : Jvm.Cond.initialized "java/lang/System" ∈ CW := CW_in (List.mem_of_getElem? (i := 112) (by decide +kernel)) rfl
theorem sim_oin (l : Launch) (g : GP) : R_oin (Sim l g) := by
  intro μ n0 pc L st h Φ n a b cc d o hlk hst hK p e R s m args below meth c H locs cells slots Q ls C hW hS hl hC hret
  have hc := tab_ok hlk
  have kk := hK p e R s m args below meth c H locs cells slots Q ls C hW hS hl hC hret
  simp only [cE, Bool.and_eq_true, decide_eq_true_eq] at hc
  obtain ⟨⟨⟨hd, hw⟩, hf⟩, hlo⟩ := hc
  replace hd := dI_spec hd
  obtain ⟨hd, rfl⟩ := hd
  obtain ⟨hx, hb, hml, hown, hts, hnm, hK0, hX0, hsz, hRf, hRl, hRc, hRs⟩ := C
  have hcat := cat_cv g st
  exact W.objInit (g := F0 m pc ls (.ref (ad g o) :: st.map (cv g))) hx hb hown (hts _ (CW_in (wA_spec hw) rfl)) (hts _ ob_in) (hts _ ob_co) rfl (by rw [hml]; exact hl.1) rfl hd (by omega) (by show 2 * 0 + _ + 12 ≤ _; omega) kk
theorem sim_cpy (l : Launch) (g : GP) : R_cpy (Sim l g) := by
  intro μ n0 pc L st h Φ n a b cc d o o2 N N2 sp dp k hlk hk hk2 ho ho2 hsp hdp hst hK p e R s m args below meth c H locs cells slots Q ls C hW hS hl hC hret
  have hc := tab_ok hlk
  simp only [cE, Bool.and_eq_true, decide_eq_true_eq] at hc
  obtain ⟨⟨⟨hd, hw⟩, hf⟩, hlo⟩ := hc
  replace hd := dI_spec hd
  obtain ⟨hd, rfl⟩ := hd
  have hNb : ∀ c, c < 110 → (kd c).1 = 0 ∨ (kd c).2 < 100000 := by decide +kernel
  have hb1 : N < 100000 := by
    rcases hNb o (kd_small hk (by omega) (by have := hW.2.1; omega)) with h1 | h1 <;> rw [hk] at h1
    · cases h1
    · exact h1
  have hb2 : N2 < 100000 := by
    rcases hNb o2 (kd_small hk2 (by omega) (by have := hW.2.1; omega)) with h1 | h1 <;> rw [hk2] at h1
    · cases h1
    · exact h1
  have he := wsh_get (g := g) ho
  rw [cel_arr hk (Or.inl rfl)] at he
  have he2 := wsh_get (g := g) ho2
  rw [cel_arr hk2 (Or.inl rfl)] at he2
  have e1 : (nI sp).toNatClampNeg = sp := nI_clamp (by omega)
  have e2 : (nI dp).toNatClampNeg = dp := nI_clamp (by omega)
  have e3 : (nI k).toNatClampNeg = k := nI_clamp (by omega)
  have hcat := cat_cv g st
  obtain ⟨hx, hb, hml, hown, hts, hnm, hK0, hX0, hsz, hRf, hRl, hRc, hRs⟩ := id C
  refine va_copyi (ty := .int) hx hb (by rw [hml, hl.1]) hown (hts _ (CW_in (wA_spec hw) rfl)) (hts _ ac_na) (hts _ ac_st) (hts _ ac_in) hK0.1 hW.1 (wsh_D hW.2.1) hS o o2 1 1 he he2 rfl rfl rfl (nI_pos (by omega)) (nI_pos (by omega)) (nI_pos (by omega)) (by rw [e1, e3]; exact hsp) (by rw [e2, e3]; exact hdp) (fun i _ => rfl) (by omega) (by show _ + (7 + 11) ≤ _; omega) hd (fun H1 locs1 q1 _ q3 => ?_)
  rw [e1, e2, e3] at q1
  exact hK p e R s m args below meth c H1 locs1 cells slots Q ls C (WH.seti ho2 hW.2.1 hW.2.2 q1 (by rw [cel_arr hk2 (Or.inl rfl)]; simp [hputs]) (fun q hq => hputs_ne hq)) q3 hl hC hret
/-! the state's own facts move with it -/
theorem WK.warm {g : GP} {s U : State} (h : WK g s) (hW : s.WarmedH U.vm) : WK g U := by
  obtain ⟨h1, h2, h3, h4⟩ := h
  refine ⟨va_K.moved hW.alike h1, fun w hw hn => ?_, va_AO.moved hW.alike h3, va_AO.moved hW.alike h4⟩
  have h5 := h2 w hw hn
  cases w <;> first | (cases hn; done) | exact va_Nw.warmF hW h5 | exact va_Nw.warmM hW h5
theorem WK.same {g : GP} {s U : State} (h : WK g s) (hv : s.vm = U.vm) : WK g U := by
  obtain ⟨h1, h2, h3, h4⟩ := h
  have ha : s.vm.Alike U.vm := by rw [hv]; exact Vm.Alike.refl _
  refine ⟨va_K.moved ha h1, fun w hw hn => ?_, va_AO.moved ha h3, va_AO.moved ha h4⟩
  have h5 := h2 w hw hn
  cases w <;> first | (cases hn; done) | exact va_Nw.same rfl hv h5
theorem XS.to {g : GP} {s U : State} {locs : List Loc} (h : XS g s) (ha : s.vm.Alike U.vm) (hb : g.1.1 ≤ s.heap.size) (hS : va_S (AG g) s.heap U.heap locs) : XS g U := by
  obtain ⟨⟨q1, q2, q3⟩, X1, X2, X3, Z1, Z2⟩ := h
  have hk : ∀ q, q < g.1.1 → U.heap[q]? = s.heap[q]? := fun q hq => hS.2.1 q (by omega) (Nat.not_le.mpr hq)
  exact ⟨⟨q1, q2, q3⟩, va_X.moved ha (va_X.kept X1 (hk _ q1)), va_T.moved ha (va_T.kept X2 hS.2.1), va_T.moved ha (va_T.kept X3 hS.2.1), va_Z.moved ha (va_Z.kept Z1 hS.2.1), va_Z.moved ha (va_Z.kept Z2 hS.2.1)⟩
/-! contracts of methods -/
def mW (ν : Nat) : List Jvm.Cond := Jvm.Cond.code (mY ν) (mB ν) (mX ν) (mA ν) :: CW
def mRm (ν : Nat) : Room := { frames := mF ν, cells := mK ν, slots := mS ν, locals := mL ν }
def BU (g : GP) (h : HP) (U : State) : Prop := U.heap.size = g.1.1 + h.1 ∧ WH g h U.heap ∧ WK g U ∧ XS g U
def QC (g : GP) (k : Nat) (Ψ : PT) : Array Value → State → Outcome → State → Prop := fun _ st o t => (∃ (v : Option Value) (h' : HP), o = .returned (v.map (cv g)) ∧ Ψ v h' ∧ h'.1 = k ∧ WH g h' t.heap) ∧ va_F (AG g) st t
theorem lga {g : GP} : ∀ (as : List Value) (k : Nat) (r : LT), cat1 as = true → (∀ i, lget r i = none) → ∀ (i : Nat) (v : Value), lget (as.map some ++ r) i = some v → (k + i, cv g v) ∈ lv_args k (as.map (cv g)) := by
  intro as
  induction as with
  | nil => intro k r _ hr i v h; rw [List.map_nil, List.nil_append, hr] at h; cases h
  | cons x t ih =>
    intro k r hc hr i v h
    have hx : ¬ (cv g x).category = 2 := by rw [cv_cat]; cases x <;> simp_all [cat1, Value.category]
    have ht : cat1 t = true := by cases x <;> simp_all [cat1]
    rw [List.map_cons, lv_args, if_neg hx]
    cases i with
    | zero =>
      have h' : some x = some v := h
      cases h'
      exact List.mem_cons_self
    | succ i =>
      have h' : lget (t.map some ++ r) i = some v := h
      have := ih (k + 1) r ht hr i v h'
      rw [show k + 1 + i = k + (i + 1) by omega] at this
      exact List.mem_cons_of_mem _ this
theorem lgr : ∀ (n i : Nat), lget (List.replicate n none) i = none := by
  intro n
  induction n with
  | zero => intro i; rfl
  | succ n ih => intro i; cases i with
    | zero => rfl
    | succ i => exact ih i
theorem lgs {g : GP} : ∀ (as : List Value), cat1 as = true → (lg_sl (as.map (cv g))).length = as.length := by
  intro as
  induction as with
  | nil => intro _; rfl
  | cons x t ih =>
    intro hc
    have hx : ¬ (cv g x).category = 2 := by rw [cv_cat]; cases x <;> simp_all [cat1, Value.category]
    have ht : cat1 t = true := by cases x <;> simp_all [cat1]
    have := ih ht
    simp only [lg_sl, List.map_cons, List.flatMap_cons, if_neg hx, List.length_append, List.length_cons, List.length_nil] at this ⊢
    omega
theorem hE_spec {ν : Nat} (h : hE ν = true) : Jvm.Cond.code (mY ν) (mB ν) (mX ν) (mA ν) ∈ lw_tbl ∧ (mY ν).cls = cN (mC ν) ∧ plainName (mY ν).cls = true := by
  simp only [hE, Bool.and_eq_true, decide_eq_true_eq] at h
  exact ⟨wA_spec h.1.1, h.1.2, h.2⟩
theorem met_of {l : Launch} {g : GP} {ν : Nat} {h : HP} {as : List Value} {Ψ : PT} (hh : hE ν = true) (hc : cat1 as = true) (hlen : as.length ≤ mX ν) (hsim : Sim l g ν h.1 0 (ini ν as) [] h Ψ) :
    Met l (mY ν) (mW ν) (mRm ν) (va_Pc (as.map (cv g)) (BU g h)) (QC g (h.1 + mK ν) Ψ) (mK ν) (mS ν) (AG g) := by
  obtain ⟨hcode, hcls, hpl⟩ := hE_spec hh
  refine Met.ofW (cc := mB ν) (maxL := mX ν) (ret := mA ν) hpl rfl ?_
  intro p e s m args below meth c s₁ B hml hv
  obtain ⟨rfl, hsz, hW, hK, hX⟩ := hv
  have hts := atoms_spec (ws := mW ν) B.pre
  have hown : s.vm.findClass (mY ν).cls = some m.cls := findClass_of_methodNamed B.named
  have hlocks := B.notSynchronized
  have hl := lv_entry (as.map (cv g)) (n := mX ν) (by rw [lgs as hc]; exact hlen)
  rw [lg_entry_eq]
  generalize (lg_sl (as.map (cv g)) ++ List.replicate (mX ν - (lg_sl (as.map (cv g))).length) Slot.unset).toArray = ls at hl ⊢
  have hLR : LR g ls (mX ν) (ini ν as) := by
    refine ⟨hl.1, hl.2.1, fun i v hv => ?_⟩
    have := lga (g := g) as 0 _ hc (lgr _) i v hv
    rw [Nat.zero_add] at this
    exact hl.2.2 _ this
  refine hsim p e _ s m _ below meth c s.heap [] 0 0 _ ls ⟨B.exec, B.bytes, hml, by rw [← hcls]; exact hown, fun w hw => hts w (List.mem_cons_of_mem _ hw), (fun hq => by rw [(name_of_methodNamed B.named B.method).1]; exact hq), hK, hX, hsz, Nat.le_refl _, Nat.le_refl _, Nat.le_refl _, Nat.le_refl _⟩ hW va_S.rf hLR ⟨Nat.le_refl _, Nat.le_add_right _ _, by omega, Nat.le_refl _, Nat.le_add_right _ _, by omega⟩ ?_
  intro v h' H' locs' pc' ls' hΨ hW' hS' hn hRA
  have hr := B.returns
  have hb := B.bytes
  have hx := B.exec
  match v, hΨ, hRA with
  | some (.int x), hΨ, hRA =>
    obtain ⟨hd, hA | ⟨hA, hx01⟩⟩ := hRA
    · exact W.iret hx hb (by rw [hr, hA]) (fun t ht hW2 => ⟨⟨some (.int x), h', rfl, hΨ, hn, by rw [ht]; exact hW'⟩, hS'.F ht⟩) hS'.2.2 hd
    · refine W.zret (ty := .boolean) hx hb (by rw [hr, hA]) ?_ (fun t ht hW2 => ⟨⟨some (.int x), h', rfl, hΨ, hn, by rw [ht]; exact hW'⟩, hS'.F ht⟩) hS'.2.2 hd
      rcases hx01 with rfl | rfl <;> decide
  | some (.long x), hΨ, hRA =>
    exact W.lret hx hb (by rw [hr, hRA.2]) (fun t ht hW2 => ⟨⟨some (.long x), h', rfl, hΨ, hn, by rw [ht]; exact hW'⟩, hS'.F ht⟩) hS'.2.2 hRA.1
  | some (.ref x), hΨ, hRA =>
    obtain ⟨hd, n, hA⟩ := hRA
    exact W.aret (rt := .object n) hx hb (by rw [hr, hA]) (Or.inl ⟨n, rfl⟩) (Or.inr ⟨_, rfl⟩) (fun t ht hW2 => ⟨⟨some (.ref x), h', rfl, hΨ, hn, by rw [ht]; exact hW'⟩, hS'.F ht⟩) hS'.2.2 hd
  | none, hΨ, hRA =>
    exact W.vret hx hb (by rw [hr, hRA.2]) (fun t ht hW2 => ⟨⟨none, h', rfl, hΨ, hn, by rw [ht]; exact hW'⟩, hS'.F ht⟩) hS'.2.2 hRA.1
section CALL
variable {l : Launch} {g : GP} {p : Program} {e : Env} {R : Room} {s : State} {m : MethodId} {args : Array Value} {below : List Frame} {meth : Method} {c : Code} {H : Heap} {locs : List Loc} {cells slots mc ms pc : Nat} {Q : State → Prop} {ls : Array Slot} {rest st0 : List Value} {a : Array Value} {Ψ : PT} {nk : Nat}
theorem go_call (hr : va_Run p l e R s m args below meth c H locs cells slots mc ms (F0 m pc ls st0) rest (QC g nk Ψ a) (AG g)) (hS : va_S (AG g) s.heap H locs)
    (kk : ∀ (v : Option Value) (h' : HP) (H1 : Heap) (locs1 : List Loc), Ψ v h' → h'.1 = nk → WH g h' H1 → va_S (AG g) s.heap H1 locs1 → W p l e R s m args below meth c H1 locs1 (cells + mc) (slots + ms) Q (F0 m (pc + 3) ls ((v.map (cv g)).toList ++ rest))) : W p l e R s m args below meth c H locs cells slots Q (F0 m pc ls st0) := by
  intro T hT X
  obtain ⟨v, st₀, t, T', L, h0, X', hL, e1, e2, ⟨⟨v', h', hv, hp, hkn, hb⟩, hz, hk⟩, st⟩ := hr T hT X
  cases hv
  rw [h0] at hz hk
  rw [← e1] at hb hz hk
  obtain ⟨t2, a1, b1⟩ := kk v' h' T'.heap (locs ++ L) hp hkn hb ⟨Nat.le_trans hS.1 hz, fun q h1 h2 => by rw [hk q (Nat.lt_of_lt_of_le h1 hS.1) h2]; exact hS.2.1 q h1 h2, fun q hq => by
      rcases List.mem_append.mp hq with h | h
      · exact hS.2.2 q h
      · exact hL q h⟩ T' rfl X'
  exact ⟨t2, st t2 a1, b1⟩
theorem blind {as : List Value} {h : HP} : FrameBlind (va_Pc (as.map (cv g)) (BU g h)) := by
  intro a U gf mk q
  obtain ⟨q0, q1, q2, q3, q4⟩ := q
  refine ⟨q0, q1, q2, WK.same q3 rfl, ?_⟩
  obtain ⟨r0, r1, r2, r3, r4, r5⟩ := q4
  exact ⟨r0, va_X.moved (Vm.Alike.refl U.vm) r1, va_T.moved (Vm.Alike.refl U.vm) r2, va_T.moved (Vm.Alike.refl U.vm) r3, va_Z.moved (Vm.Alike.refl U.vm) r4, va_Z.moved (Vm.Alike.refl U.vm) r5⟩
theorem pre_at {μ n0 : Nat} {h : HP} (C : CX g μ n0 p R s m args meth c) (hW : WH g h H) (hS : va_S (AG g) s.heap H locs) (hz : H.size = g.1.1 + h.1) {U : State} (hU : U.heap = H) (hwm : s.WarmedH U.vm) : BU g h U := by
  have hs := C.2.2.2.2.2.2.2.2.1
  exact ⟨by rw [hU]; exact hz, by rw [hU]; exact hW, C.2.2.2.2.2.2.1.warm hwm, C.2.2.2.2.2.2.2.1.to hwm.alike (by omega) (by rw [hU]; exact hS)⟩
end CALL
theorem good_mW {ν : Nat} (hh : hE ν = true) : GoodIn CW (mW ν) := by
  intro w hw
  have hg : ∀ w ∈ CW, w ∈ CW ∧ ((w.onTables && w.keeps) = true ∨ ∃ ty, w = .arrayClass ty) := fun w h => ⟨h, good_of_word (List.mem_filter.mp h).2⟩
  rcases List.mem_cons.mp hw with h1 | h1
  · rw [h1]
    exact hg _ (CW_in (hE_spec hh).1 rfl)
  · exact hg w h1
theorem cN_ok : ∀ ci, ci < 11 → cN ci ≠ "java/lang/invoke/MethodHandle" ∧ cN ci ≠ "java/lang/invoke/VarHandle" := by decide +kernel
set_option maxRecDepth 20000 in
theorem mC_ok : ∀ ν, ν < 161 → mC ν < 11 := by decide +kernel
set_option maxRecDepth 20000 in
theorem mC_lt (ν : Nat) : mC ν < 11 := by
  by_cases h : ν < 161
  · exact mC_ok ν h
  · unfold mC mH
    rw [getD_big _ _ _ (Nat.le_trans (Nat.le_of_eq (by decide)) (Nat.not_lt.mp h))]
    decide
theorem rE_spec {μ ν : Nat} (h : rE μ ν = true) : mF ν + 1 ≤ mF μ ∧ 8 + (mX ν + 11) + mL ν ≤ mL μ := by
  simp only [rE, Bool.and_eq_true, decide_eq_true_eq] at h
  exact h
theorem pE_spec {ν n : Nat} (h : pE ν n = true) : (parseMethodDescriptor (mY ν).desc).map (fun d => d.parameters.length) = some n := by
  simp only [pE, decide_eq_true_eq] at h
  exact h
theorem v_app (g : GP) (v : Option Value) (st : List Value) : (v.map (cv g)).toList ++ st.map (cv g) = (v.toList ++ st).map (cv g) := by cases v <;> simp

theorem sim_call (l : Launch) (g : GP) : R_call (Sim l g) := by
  intro μ n0 pc L st h Φ n ν b cc d o as Ψ hlk hko ho hlen hcat hmx hst hK1 hK2 p e R s m args below meth c H locs cells slots Q ls C hW hS hl hC hret
  have hc := tab_ok hlk
  simp only [cE, Bool.or_eq_true, Bool.and_eq_true, decide_eq_true_eq] at hc
  obtain ⟨⟨⟨⟨⟨⟨⟨⟨⟨⟨hd, hh⟩, hrE⟩, hpE⟩, hb1⟩, hm8⟩, hw⟩, hin⟩, hse⟩, hmk⟩, hms⟩ := hc
  replace hd := dI_spec hd
  obtain ⟨hd, rfl⟩ := hd
  obtain ⟨hx, hb, hml, hown, hts, hnm, hK0, hX0, hsz, hRf, hRl, hRc, hRs⟩ := id C
  obtain ⟨hcode, hcls, hpl⟩ := hE_spec hh
  have hM := met_of (as := .ref o :: as) hh hcat (by simpa using hmx) hK1
  rw [hmk, hms] at hM
  have hrm := rE_spec hrE
  have hpm := pE_spec hpE
  rw [show b - 1 = as.length by omega] at hpm
  have hcat' := cat_cv g st
  refine szW C hW hS hC (fun hz => ?_)
  have hini : (Jvm.Cond.initialized (mY ν).cls).before args s = true := by rw [hcls]; exact hts _ (ini_in _ (mC_lt ν))
  have hyy := cN_ok (mC ν) (mC_lt ν)
  rw [← hcls] at hyy
  have he := wsh_get (g := g) ho
  rw [cel_obj hko] at he
  have hrecv := va_recv hK0.1 hW.1 (cls_get hm8) he
  have hin' := hts _ (CW_in (wA_spec hin) rfl)
  have hse' := hts _ (CW_in (wA_spec hse) rfl)
  have hpre : PreV s H (cN (mC ν)) (ad g o) (va_Pc ((Value.ref o :: as).map (cv g)) (BU g h)) (as.map (cv g)) := ⟨blind, hrecv, fun U hU hwm => ⟨rfl, pre_at C hW hS hz hU hwm⟩⟩
  have hstk : (as.reverse ++ Value.ref o :: st).map (cv g) = (as.map (cv g)).reverse ++ Value.ref (ad g o) :: st.map (cv g) := by simp [cv]
  rw [hstk]
  obtain ⟨c1, c2, c3, c4, c5, c6⟩ := id hC
  have kk : ∀ (v : Option Value) (h' : HP) (H1 : Heap) (locs1 : List Loc), Ψ v h' → h'.1 = h.1 + 0 → WH g h' H1 → va_S (AG g) s.heap H1 locs1 → W p l e R s m args below meth c H1 locs1 (cells + 0) (slots + 0) Q (F0 m (pc + 3) ls ((v.map (cv g)).toList ++ st.map (cv g))) := by
    intro v h' H1 locs1 hΨ hn hW1 hS1
    rw [v_app]
    have hn' : h'.1 = h.1 := hn
    exact hK2 v h' hΨ p e R s m args below meth c H1 locs1 (cells + 0) (slots + 0) Q ls C hW1 hS1 hl (by unfold CN; rw [hn']; exact ⟨c1, c2, c3, c4, c5, c6⟩) hret
  have hrl : (mRm ν).frames + 1 ≤ R.frames ∧ 8 + (mX ν + 11) + (mRm ν).locals ≤ R.locals := ⟨by show mF ν + 1 ≤ _; omega, by show 8 + (mX ν + 11) + mL ν ≤ _; omega⟩
  rcases hw with hw | hw
  · exact go_call (va_runV (C := cN (mC ν)) (n := as.length) (nL := mX μ) ⟨hx, hb, hml, hown, hts⟩ hM ⟨callB_of as.length hts (good_mW hh) rfl hmk hms hini (hts _ (CW_in (wA_spec hw) rfl)) ⟨hyy.1, hyy.2, hpm⟩ hrl, hin', hse'⟩ hpre rfl (by simp) hl.1 rfl (lv_room (by rw [hcat']; exact hst)) hd ⟨by omega, by omega⟩) hS kk
  · exact go_call (va_runVN (C := cN (mC ν)) (n := as.length) (nL := mX μ) ⟨hx, hb, hml, hown, hts⟩ hM ⟨va_cnB as.length hts (good_mW hh) rfl hmk hms (hK0.2.1 _ (wA_spec hw) rfl) hini ⟨hyy.1, hyy.2, hpm⟩ hrl, hin', hse'⟩ hpre rfl (by simp) hl.1 rfl (lv_room (by rw [hcat']; exact hst)) hd ⟨by omega, by omega⟩) hS kk
theorem sim_scall (l : Launch) (g : GP) : R_scall (Sim l g) := by
  intro μ n0 pc L st h Φ n ν b cc d as Ψ hlk hlen hcat hmx hst hK1 hK2 p e R s m args below meth c H locs cells slots Q ls C hW hS hl hC hret
  have hc := tab_ok hlk
  simp only [cE, Bool.or_eq_true, Bool.and_eq_true, decide_eq_true_eq] at hc
  obtain ⟨⟨⟨⟨⟨⟨⟨hd, hh⟩, hrE⟩, hpE⟩, hw⟩, hin⟩, hmk⟩, hms⟩ := hc
  replace hd := dI_spec hd
  obtain ⟨hd, rfl⟩ := hd
  obtain ⟨hx, hb, hml, hown, hts, hnm, hK0, hX0, hsz, hRf, hRl, hRc, hRs⟩ := id C
  obtain ⟨hcode, hcls, hpl⟩ := hE_spec hh
  have hM := met_of (as := as) hh hcat hmx hK1
  rw [hmk, hms] at hM
  have hrm := rE_spec hrE
  have hpm := pE_spec hpE
  rw [← hlen] at hpm
  have hcat' := cat_cv g st
  refine szW C hW hS hC (fun hz => ?_)
  have hini : (Jvm.Cond.initialized (mY ν).cls).before args s = true := by rw [hcls]; exact hts _ (ini_in _ (mC_lt ν))
  have hyy := cN_ok (mC ν) (mC_lt ν)
  rw [← hcls] at hyy
  have hin' := hts _ (CW_in (wA_spec hin) rfl)
  have hpre : PreS s H (va_Pc (as.map (cv g)) (BU g h)) (as.map (cv g)) := ⟨blind, fun U hU hwm => ⟨rfl, pre_at C hW hS hz hU hwm⟩⟩
  have hstk : (as.reverse ++ st).map (cv g) = (as.map (cv g)).reverse ++ st.map (cv g) := by simp
  rw [hstk]
  obtain ⟨c1, c2, c3, c4, c5, c6⟩ := id hC
  have kk : ∀ (v : Option Value) (h' : HP) (H1 : Heap) (locs1 : List Loc), Ψ v h' → h'.1 = h.1 + 0 → WH g h' H1 → va_S (AG g) s.heap H1 locs1 → W p l e R s m args below meth c H1 locs1 (cells + 0) (slots + 0) Q (F0 m (pc + 3) ls ((v.map (cv g)).toList ++ st.map (cv g))) := by
    intro v h' H1 locs1 hΨ hn hW1 hS1
    rw [v_app]
    have hn' : h'.1 = h.1 := hn
    exact hK2 v h' hΨ p e R s m args below meth c H1 locs1 (cells + 0) (slots + 0) Q ls C hW1 hS1 hl (by unfold CN; rw [hn']; exact ⟨c1, c2, c3, c4, c5, c6⟩) hret
  have hrl : (mRm ν).frames + 1 ≤ R.frames ∧ 8 + (mX ν + 11) + (mRm ν).locals ≤ R.locals := ⟨by show mF ν + 1 ≤ _; omega, by show 8 + (mX ν + 11) + mL ν ≤ _; omega⟩
  rcases hw with hw | hw
  · exact go_call (va_runS (n := as.length) (nL := mX μ) ⟨hx, hb, hml, hown, hts⟩ hM ⟨callB_of as.length hts (good_mW hh) rfl hmk hms hini (hts _ (CW_in (wA_spec hw) rfl)) ⟨hyy.1, hyy.2, hpm⟩ hrl, hin'⟩ hpre rfl (by simp) hl.1 rfl (lv_room (by rw [hcat']; exact hst)) hd ⟨by omega, by omega⟩) hS kk
  · exact go_call (va_runSN (n := as.length) (nL := mX μ) ⟨hx, hb, hml, hown, hts⟩ hM ⟨va_cnB as.length hts (good_mW hh) rfl hmk hms (hK0.2.1 _ (wA_spec hw) rfl) hini ⟨hyy.1, hyy.2, hpm⟩ hrl, hin', trivial⟩ hpre rfl (by simp) hl.1 rfl (lv_room (by rw [hcat']; exact hst)) hd ⟨by omega, by omega⟩) hS kk
theorem sim_icall (l : Launch) (g : GP) : R_icall (Sim l g) := by
  intro μ n0 pc L st h Φ n ν b cc d o Ψ hlk ho hb1 hmx hst hn1 hn2 hn3 hK1 hK2 p e R s m args below meth c H locs cells slots Q ls C hW hS hl hC hret
  have hc := tab_ok hlk
  simp only [cE, Bool.or_eq_true, Bool.and_eq_true, decide_eq_true_eq] at hc
  obtain ⟨⟨⟨⟨⟨⟨⟨hd, hh⟩, hrE⟩, hpE⟩, hw⟩, hin⟩, hnmi⟩, hA⟩ := hc
  replace hd := dI_spec hd
  obtain ⟨hd, rfl⟩ := hd
  obtain ⟨hx, hb, hml, hown, hts, hnm, hK0, hX0, hsz, hRf, hRl, hRc, hRs⟩ := id C
  obtain ⟨hcode, hcls, hpl⟩ := hE_spec hh
  have hM := met_of (as := [.ref o]) hh rfl hmx hK1
  have hrm := rE_spec hrE
  have hpm := pE_spec hpE
  have hcat' := cat_cv g st
  refine szW C hW hS hC (fun hz => ?_)
  have hini : (Jvm.Cond.initialized (mY ν).cls).before args s = true := by rw [hcls]; exact hts _ (ini_in _ (mC_lt ν))
  have hyy := cN_ok (mC ν) (mC_lt ν)
  rw [← hcls] at hyy
  have hin' := hts _ (CW_in (wA_spec hin) rfl)
  have hpre : PreS s H (va_Pc ([Value.ref o].map (cv g)) (BU g h)) (.ref (ad g o) :: []) := ⟨blind, fun U hU hwm => ⟨rfl, pre_at C hW hS hz hU hwm⟩⟩
  obtain ⟨c1, c2, c3, c4, c5, c6⟩ := id hC
  have kk : ∀ (v : Option Value) (h' : HP) (H1 : Heap) (locs1 : List Loc), Ψ v h' → h'.1 = h.1 + mK ν → WH g h' H1 → va_S (AG g) s.heap H1 locs1 → W p l e R s m args below meth c H1 locs1 (cells + mK ν) (slots + mS ν) Q (F0 m (pc + 3) ls ((v.map (cv g)).toList ++ st.map (cv g))) := by
    intro v h' H1 locs1 hΨ hn hW1 hS1
    obtain ⟨rfl, hk⟩ := hK2 v h' hΨ
    exact hk p e R s m args below meth c H1 locs1 (cells + mK ν) (slots + mS ν) Q ls C hW1 hS1 hl (by unfold CN; rw [hn]; exact ⟨by omega, by omega, by omega, by omega, by omega, by omega⟩) hret
  have hrl : (mRm ν).frames + 1 ≤ R.frames ∧ 8 + (mX ν + 11) + (mRm ν).locals ≤ R.locals := ⟨by show mF ν + 1 ≤ _; omega, by show 8 + (mX ν + 11) + mL ν ≤ _; omega⟩
  have hA' : mW ν = Jvm.Cond.code (mY ν) (mB ν) (mX ν) none :: CW := by unfold mW; rw [hA]
  rcases hw with hw | hw
  · exact go_call (va_runI (n := 0) (nL := mX μ) (As := []) ⟨hx, hb, hml, hown, hts⟩ hM ⟨callB_of 0 hts (good_mW hh) hA' rfl rfl hini (hts _ (CW_in (wA_spec hw) rfl)) ⟨hyy.1, hyy.2, hpm⟩ hrl, hnmi, hin'⟩ hpre rfl rfl hl.1 rfl (lv_room (by rw [hcat']; exact hst)) hd ⟨by omega, by omega⟩) hS kk
  · exact go_call (va_runIN (n := 0) (nL := mX μ) (As := []) ⟨hx, hb, hml, hown, hts⟩ hM ⟨va_cnB 0 hts (good_mW hh) hA' rfl rfl (hK0.2.1 _ (wA_spec hw) rfl) hini ⟨hyy.1, hyy.2, hpm⟩ hrl, hnmi, hin'⟩ hpre rfl rfl hl.1 rfl (lv_room (by rw [hcat']; exact hst)) hd ⟨by omega, by omega⟩) hS kk
theorem sim_ret (l : Launch) (g : GP) : R_ret (Sim l g) := by
  intro μ n0 pc L h Φ n a b cc d x hlk hx01 hn hΦ p e R s m args below meth c H locs cells slots Q ls C hW hS hl hC hret
  have hc := tab_ok hlk
  simp only [cE, Bool.and_eq_true, decide_eq_true_eq] at hc
  obtain ⟨hd, hA⟩ := hc
  replace hd := dI_spec hd
  obtain ⟨hd, rfl⟩ := hd
  obtain ⟨c1, c2, c3, c4, c5, c6⟩ := id hC
  refine W.widen (k := mK μ) (n := mS μ) (by omega) (by omega) ?_
  exact hret (some (.int x)) h H locs pc ls hΦ hW hS hn ⟨hd, hA.elim Or.inl (fun z => Or.inr ⟨z, hx01 z⟩)⟩
theorem sim_lret (l : Launch) (g : GP) : R_lret (Sim l g) := by
  intro μ n0 pc L h Φ n a b cc d x hlk hn hΦ p e R s m args below meth c H locs cells slots Q ls C hW hS hl hC hret
  have hc := tab_ok hlk
  simp only [cE, Bool.and_eq_true, decide_eq_true_eq] at hc
  obtain ⟨hd, hA⟩ := hc
  replace hd := dI_spec hd
  obtain ⟨hd, rfl⟩ := hd
  obtain ⟨c1, c2, c3, c4, c5, c6⟩ := id hC
  refine W.widen (k := mK μ) (n := mS μ) (by omega) (by omega) ?_
  exact hret (some (.long x)) h H locs pc ls hΦ hW hS hn ⟨hd, hA⟩
theorem sim_rret (l : Launch) (g : GP) : R_rret (Sim l g) := by
  intro μ n0 pc L h Φ n a b cc d x hlk hn hΦ p e R s m args below meth c H locs cells slots Q ls C hW hS hl hC hret
  have hc := tab_ok hlk
  simp only [cE, Bool.and_eq_true, decide_eq_true_eq] at hc
  obtain ⟨hd, hA⟩ := hc
  replace hd := dI_spec hd
  obtain ⟨hd, rfl⟩ := hd
  obtain ⟨c1, c2, c3, c4, c5, c6⟩ := id hC
  refine W.widen (k := mK μ) (n := mS μ) (by omega) (by omega) ?_
  exact hret (some (.ref x)) h H locs pc ls hΦ hW hS hn ⟨hd, hA.elim (fun z => ⟨_, z⟩) (fun z => ⟨_, z⟩)⟩
theorem sim_vret (l : Launch) (g : GP) : R_vret (Sim l g) := by
  intro μ n0 pc L h Φ n a b cc d hlk hn hΦ p e R s m args below meth c H locs cells slots Q ls C hW hS hl hC hret
  have hc := tab_ok hlk
  simp only [cE, Bool.and_eq_true, decide_eq_true_eq] at hc
  obtain ⟨hd, hA⟩ := hc
  replace hd := dI_spec hd
  obtain ⟨hd, rfl⟩ := hd
  obtain ⟨c1, c2, c3, c4, c5, c6⟩ := id hC
  refine W.widen (k := mK μ) (n := mS μ) (by omega) (by omega) ?_
  exact hret none h H locs pc ls hΦ hW hS hn ⟨hd, hA⟩
theorem lle_get : ∀ (L L' : LT), lle L L' → ∀ (i : Nat) (v : Value), lget L i = some v → lget L' i = some v := by
  intro L
  induction L with
  | nil => intro L' _ i v hv; simp [lget] at hv
  | cons x r ih =>
    intro L' hq i v hv
    cases L' with
    | nil => cases x <;> simp [lle] at hq
    | cons x' r' =>
      cases x with
      | none =>
        cases i with
        | zero => simp [lget] at hv
        | succ i => exact ih r' hq i v hv
      | some w =>
        cases x' with
        | none => simp [lle] at hq
        | some w' =>
          obtain ⟨hw, hq⟩ := hq
          subst hw
          cases i with
          | zero => exact hv
          | succ i => exact ih r' hq i v hv
theorem sim_fgt (l : Launch) (g : GP) : R_fgt (Sim l g) := by
  intro μ n0 pc L L' st h Φ hq hK p e R s m args below meth c H locs cells slots Q ls C hW hS hl hC hret
  exact hK p e R s m args below meth c H locs cells slots Q ls C hW hS ⟨hl.1, hl.2.1, fun i v hv => hl.2.2 i v (lle_get L L' hq i v hv)⟩ hC hret
/-- THE SOUNDNESS THEOREM -/
theorem sim_all (l : Launch) (g : GP) : Cl (Sim l g) := ⟨⟨sim_pure l g, sim_div l g, sim_rem l g, sim_if l g, sim_cmp l g, sim_sw l g, sim_geti l g, sim_getr l g⟩, ⟨sim_puti l g, sim_putr l g, sim_ald l g, sim_aldx l g, sim_ast l g, sim_bld l g, sim_zst l g, sim_bst l g⟩, ⟨sim_rld l g, sim_rst l g, sim_len l g, sim_lenx l g, sim_new l g, sim_newa l g, sim_oin l g, sim_cpy l g, sim_min l g⟩, sim_call l g, sim_scall l g, sim_icall l g, sim_ret l g, sim_lret l g, sim_rret l g, sim_vret l g, sim_fgt l g⟩
theorem run_sim {l : Launch} {g : GP} {μ n0 pc : Nat} {L : LT} {st : List Value} {h : HP} {Φ : PT} (hr : Run μ n0 pc L st h Φ) : Sim l g μ n0 pc L st h Φ := hr _ (sim_all l g)
end
section
def R_law : String := "FacingPagesLaw"
def lw_P (b : Addr) (xs : List Int32) (args : Array Value) (s : State) : Prop := args = #[.ref b] ∧ s.IntsAt b xs ∧ xs.length ≤ 2560 ∧ (Jvm.Cond.and given_1 narrow_1).before args s = true
def lw_Q (_ : Array Value) (s : State) (o : Outcome) (t : State) : Prop := o = .returned (some (.int 1)) ∧ Framed s o t [] 600000 7302250
def lw_Z (below : List Frame) (a : Array Value) (s : State) : State → Prop := fun t => ∃ o, t.status = .running ∧ Ended t below o ∧ lw_Q a s o t
/-- the law's own end, with 1 on the stack, nothing written that was there before, its room as the claim has it -/
theorem lw_ret {p : Program} {l : Launch} {e : Env} {s : State} {m : MethodId} {below : List Frame} {meth : Method} {c : Code} {b : Nat} (hx : p.tables.exec = Jvm.exec) (hb : c.code = code) (hr : meth.sig.returnType = ret) (hlocks : meth.locks = false) {pc : Nat} {H : Heap} {ls : Array Slot} (hdg : decode code pc = .ok (.ireturn, 1)) : W p l e room_1 s m #[Value.ref b] below meth c H [] 600000 7302250 (lw_Z below #[Value.ref b] s) (F0 m pc ls [.int 1]) := by
  intro T hT X
  obtain ⟨fs, hret, hrun, hended, hW, hframe⟩ := X.leave (v := some (.int 1)) (hlocks := hlocks) (fun h => by rw [hr] at h; cases h)
  have hmeth' : T.vm.method? m = some meth := X.method'
  refine ⟨T.setFrames fs, ?_, .returned (some (.int 1)), hrun, hended, rfl, ⟨_, rfl⟩, hW, hframe⟩
  jvm_step X.here [X.here.top, hx, hb, hdg, hmeth', hr, ret, narrow_b1]
  (try refine ⟨rfl, ?_⟩); (try refine ⟨rfl, ?_⟩)
  first | (intro acts; rw [hret _ acts rfl rfl rfl]) | rw [hret _ _ rfl rfl rfl]
  exact Steps.refl _
/-- what holds at the law's entry: the machine, the code, the tables' words (any of lw_tbl by 'hts w (by decide +kernel)'), the script of L ints xs at the cell b, what the Statement gives of the start (any of its parts by flat_of_before) -/
def lw_At (p : Program) (s : State) (m : MethodId) (meth : Method) (c : Code) (b L : Nat) (xs : Nat → Int32) : Prop :=
  p.tables.exec = Jvm.exec ∧ c.code = code ∧ meth.sig.returnType = ret ∧ c.maxLocals = 4 ∧ s.vm.findClass R_law = some m.cls ∧ (∀ w ∈ lw_tbl, w.before #[Value.ref b] s = true) ∧ va_X b L xs s s.heap ∧ b < s.heap.size ∧ meth.locks = false ∧ (Jvm.Cond.and given_1 narrow_1).before #[Value.ref b] s = true
/-! THE START: from the law's entry to a run of the abstract machine. -/
def hp0 (L : Nat) (xs : Nat → Int32) : HP := (0, (fun c _ => if c = 1000 then L else if c = 1001 then 3 else if c = 1002 then 3 else 0), fun c => if c = 1000 then xs else if c = 1001 then sf1 else if c = 1002 then sf2 else fun _ => 0)
set_option maxRecDepth 100000 in
theorem st_inst : ∀ b, b < 8 → Jvm.Cond.instantiable (cN b) (cF b) ∈ lw_tbl := by decide +kernel
theorem st_tys : (Jvm.Cond.arrayClass .int ∈ lw_tbl ∧ Jvm.Cond.arrayClass .boolean ∈ lw_tbl ∧ Jvm.Cond.arrayClass .byte ∈ lw_tbl) ∧ Jvm.Cond.arrayOver (.object RX0) ∈ lw_tbl ∧ Jvm.Cond.arrayOver (.object RX3) ∈ lw_tbl := by decide +kernel
theorem st_lay : Jvm.Cond.laysStatic RX6 "SETTING_FROM" "[I" ∈ lw_tbl ∧ Jvm.Cond.laysStatic RX6 "SETTING_TO" "[I" ∈ lw_tbl := by decide +kernel
def fty0 (t : Nat) : FieldType := match t with
  | 0 => .int | t => fty t
set_option maxRecDepth 100000 in
set_option maxHeartbeats 4000000 in
theorem whole_of (hrun : ∀ (L : Nat) (xs : Nat → Int32), L ≤ 2560 → Run n_L_law 0 0 (ini n_L_law [.ref 1000]) [] (hp0 L xs) (fun v _ => v = some (.int 1))) {p : Program} {e : Env} {s : State} {m : MethodId} {below : List Frame} {meth : Method} {c : Code} (l : Launch) {b L : Nat} {xs : Nat → Int32} (hL : L ≤ 2560) (C0 : lw_At p s m meth c b L xs) : W p l e room_1 s m #[Value.ref b] below meth c s.heap [] 0 0 (lw_Z below #[Value.ref b] s) (entryFrame m ([Value.ref b] : List Value).toArray 4) := by
  obtain ⟨hx, hb, hr, hml, hown, hts, hX, hbl, hlocks, hgv⟩ := C0
  have hcl : ∀ ci, ∃ z : ClassId × (Nat → Nat), ci < 8 → u_Kn s (cN ci) (cT ci) (cF ci) z.1 z.2 := by
    intro ci
    by_cases h8 : ci < 8
    · obtain ⟨cC, iS, hk⟩ := u_known (C := cN ci) (T := cT ci) (N := cF ci) (n := cF ci) hts (fun w hw => (List.mem_filter.mp (cls_ws h8 w hw)).1) (hts _ (st_inst ci h8))
      exact ⟨(cC, iS), fun _ => hk⟩
    · exact ⟨(0, fun _ => 0), fun h9 => absurd h9 h8⟩
  have hty : ∀ t, ∃ cA : ClassId, t < 6 → ArrOfT s cA (fty0 t) ∧ va_RA s cA (fty0 t) := by
    intro t
    have prim : ∀ ty : FieldType, Jvm.Cond.arrayClass ty ∈ lw_tbl → ∃ cA : ClassId, ArrOfT s cA ty ∧ s.vm.findClass ("[" ++ ty.toString) = some cA := by
      intro ty hm
      obtain ⟨cA, kA, comp, q1, q2, q3⟩ := Cond.arrayClass_spec (hts _ hm)
      exact ⟨cA, fun n z => ⟨fun k hq => (by cases hq), kA, q2, comp, q3⟩, q1⟩
    have refs : ∀ C : String, Jvm.Cond.arrayOver (.object C) ∈ lw_tbl → ∃ cA : ClassId, ArrOfT s cA (.object C) ∧ va_RA s cA (.object C) := by
      intro C hm
      obtain ⟨comp, cA, kA, q1, q2, q3, q4, q5⟩ := Cond.arrayOver_spec (hts _ hm)
      exact ⟨cA, fun n z => ⟨fun k hq => (by cases hq), kA, q3, comp, q4⟩, kA, comp, q3, q4, q1, q5⟩
    match t with
    | 0 => obtain ⟨cA, q1, q2⟩ := prim .int st_tys.1.1; exact ⟨cA, fun _ => ⟨q1, q2⟩⟩
    | 1 => obtain ⟨cA, q1, q2⟩ := prim .int st_tys.1.1; exact ⟨cA, fun _ => ⟨q1, q2⟩⟩
    | 2 => obtain ⟨cA, q1, q2⟩ := prim .boolean st_tys.1.2.1; exact ⟨cA, fun _ => ⟨q1, q2⟩⟩
    | 3 => obtain ⟨cA, q1, q2⟩ := prim .byte st_tys.1.2.2; exact ⟨cA, fun _ => ⟨q1, q2⟩⟩
    | 4 => obtain ⟨cA, q1, q2⟩ := refs RX0 st_tys.2.1; exact ⟨cA, fun _ => ⟨q1, q2⟩⟩
    | 5 => obtain ⟨cA, q1, q2⟩ := refs RX3 st_tys.2.2; exact ⟨cA, fun _ => ⟨q1, q2⟩⟩
    | k + 6 => exact ⟨0, fun h9 => absurd h9 (by omega)⟩
  have hfl := flat_of_before _ hgv
  have hA : ∀ a : Nat, a < s.heap.size → ¬ (fun q : Nat => s.heap.size ≤ q) a := fun a ha => Nat.not_le.mpr ha
  obtain ⟨t1, he1, hT1⟩ := va_Tof (A := fun q : Nat => s.heap.size ≤ q) (tm := .static RX6 "SETTING_FROM" "[I") (ty := .int) (N := 3) (f := fun j => .int (sf1 j)) (by decide) (hfl _ (by decide +kernel)) (va_eqt (z := 3) (hfl _ (by decide +kernel))) (fun j hj => by
    match j, hj with
    | 0, _ => exact va_eqt (z := 2) (hfl _ (by decide +kernel))
    | 1, _ => exact va_eqt (z := 1) (hfl _ (by decide +kernel))
    | 2, _ => exact va_eqt (z := 0) (hfl _ (by decide +kernel))) hA
  obtain ⟨t2, he2, hT2⟩ := va_Tof (A := fun q : Nat => s.heap.size ≤ q) (tm := .static RX6 "SETTING_TO" "[I") (ty := .int) (N := 3) (f := fun j => .int (sf2 j)) (by decide) (hfl _ (by decide +kernel)) (va_eqt (z := 3) (hfl _ (by decide +kernel))) (fun j hj => by
    match j, hj with
    | 0, _ => exact va_eqt (z := 12) (hfl _ (by decide +kernel))
    | 1, _ => exact va_eqt (z := 3) (hfl _ (by decide +kernel))
    | 2, _ => exact va_eqt (z := 9) (hfl _ (by decide +kernel))) hA
  have hZ1 : va_Z RX6 "SETTING_FROM" "[I" (.ref t1) (fun q : Nat => s.heap.size ≤ q) s s.heap := va_Zof (hts _ st_lay.1) (hts _ (ini_tbl 6 (by omega))) he1 hA
  have hZ2 : va_Z RX6 "SETTING_TO" "[I" (.ref t2) (fun q : Nat => s.heap.size ≤ q) s s.heap := va_Zof (hts _ st_lay.2) (hts _ (ini_tbl 6 (by omega))) he2 hA
  let g : GP := ((s.heap.size, b, t1, t2), (L, xs), ((fun ci => (Classical.choose (hcl ci)).1, fun ci => (Classical.choose (hcl ci)).2)), fun t => Classical.choose (hty t))
  have hb1 : t1 < s.heap.size := by
    obtain ⟨cell, q1, -⟩ := hT1
    exact (Array.getElem?_eq_some_iff.mp q1).1
  have hb2 : t2 < s.heap.size := by
    obtain ⟨cell, q1, -⟩ := hT2
    exact (Array.getElem?_eq_some_iff.mp q1).1
  have hXS : XS g s := ⟨⟨hbl, hb1, hb2⟩, hX, hT1, hT2, hZ1, hZ2⟩
  have hWK : WK g s := by
    refine ⟨⟨fun ci q hq => ?_, fun t q hq => ?_⟩, fun w hw hn => ?_, va_AO.of (hts _ st_tys.2.1), va_AO.of (hts _ st_tys.2.2)⟩
    · have h8 : ci < 8 := (List.getElem?_eq_some_iff.mp hq).1
      rw [cls_get h8] at hq
      cases hq
      exact Classical.choose_spec (hcl ci) h8
    · have h6 : t < 6 := (List.getElem?_eq_some_iff.mp hq).1
      have hz := Classical.choose_spec (hty t) h6
      match t, h6, hq, hz with
      | 0, _, hq, hz => cases hq; exact hz
      | 1, _, hq, hz => cases hq; exact hz
      | 2, _, hq, hz => cases hq; exact hz
      | 3, _, hq, hz => cases hq; exact hz
      | 4, _, hq, hz => cases hq; exact hz
      | 5, _, hq, hz => cases hq; exact hz
    · have hz := hts w hw
      cases w <;> first | (cases hn; done) | exact va_Nw.of rfl hz
  have hl := lv_entry ([Value.ref 1000].map (cv g)) (n := 4) (Nat.le_of_ble_eq_true rfl)
  show W p l e room_1 s m #[Value.ref b] below meth c s.heap [] 0 0 (lw_Z below #[Value.ref b] s) (entryFrame m (([Value.ref 1000].map (cv g)) : List Value).toArray 4)
  rw [lg_entry_eq]
  generalize (lg_sl ([Value.ref 1000].map (cv g)) ++ List.replicate (4 - (lg_sl ([Value.ref 1000].map (cv g))).length) Slot.unset).toArray = ls at hl ⊢
  have hLR : LR g ls (mX n_L_law) (ini n_L_law [.ref 1000]) := by
    refine ⟨hl.1, hl.2.1, fun i v hv => ?_⟩
    have h9 := lga (g := g) [.ref 1000] 0 _ rfl (lgr _) i v hv
    rw [Nat.zero_add] at h9
    exact hl.2.2 _ h9
  have hW0 : WH g (hp0 L xs) s.heap := ⟨fun k q hq => (by cases hq), Nat.zero_le _, ⟨rfl, rfl, rfl, rfl, rfl, rfl⟩⟩
  refine run_sim (l := l) (g := g) (hrun L xs hL) p e room_1 s m #[Value.ref b] below meth c s.heap [] 0 0 _ ls ⟨hx, hb, hml, hown, fun w hw => hts w (List.mem_filter.mp hw).1, fun hq => absurd hq (by decide +kernel), hWK, hXS, rfl, Nat.le_of_ble_eq_true rfl, Nat.le_of_ble_eq_true rfl, Nat.le_of_ble_eq_true rfl, Nat.le_of_ble_eq_true rfl⟩ hW0 va_S.rf hLR ⟨Nat.le_refl _, Nat.zero_le _, rfl, Nat.le_refl _, Nat.zero_le _, rfl⟩ ?_
  intro v h' H' locs' pc' ls' hΨ hW' hS' hn hRA
  subst hΨ
  refine va_forget (fun q hq => hS'.2.2 q hq) ?_
  refine W.widen (k := 600000) (n := 7302250) (Nat.le_of_ble_eq_true rfl) (Nat.le_of_ble_eq_true rfl) ?_
  exact lw_ret hx hb hr hlocks hRA.1
end
section
/-! ROWS over Run, for the reader of methods. -/
def psn : Nat → Tab → Nat → LT → List Value → Nat × LT × List Value
  | 0, _, pc, L, st => (pc, L, st)
  | n + 1, T, pc, L, st => match ps T pc L st with
    | some (pc', L', st') => psn n T pc' L' st'
    | none => (pc, L, st)
def Ret (v : Option Value) (h : HP) : PT := fun v' h' => v' = v ∧ h' = h
section ROWS
variable {μ n0 pc : Nat} {L : LT} {st : List Value} {h : HP} {Φ : PT} {T : Tab}
theorem g_ps (n : Nat) (hT : mT μ = T) {pc' : Nat} {L' : LT} {st' : List Value} (e : psn n T pc L st = (pc', L', st')) (k : Run μ n0 pc' L' st' h Φ) : Run μ n0 pc L st h Φ := by
  induction n generalizing pc L st with
  | zero =>
    simp only [psn, Prod.mk.injEq] at e
    obtain ⟨rfl, rfl, rfl⟩ := e
    exact k
  | succ n ih =>
    unfold psn at e
    split at e
    · rename_i pc2 L2 st2 hp
      exact r_pure _ _ _ _ _ _ _ _ _ _ (by rw [hT]; exact hp) (ih e)
    · simp only [Prod.mk.injEq] at e
      obtain ⟨rfl, rfl, rfl⟩ := e
      exact k
theorem g_if (hT : mT μ = T) {n a b c d : Nat} {x : Int32} (e : lk T pc = some (n, 30, a, b, c, d)) (kt : cnd b x 0 → Run μ n0 a L st h Φ) (kf : ¬ cnd b x 0 → Run μ n0 (pc + n) L st h Φ) : Run μ n0 pc L (.int x :: st) h Φ := r_if _ _ _ _ _ _ _ _ _ _ _ _ _ (by rw [hT]; exact e) kt kf
theorem g_cmp (hT : mT μ = T) {n a b c d : Nat} {x y : Int32} (e : lk T pc = some (n, 31, a, b, c, d)) (kt : cnd b x y → Run μ n0 a L st h Φ) (kf : ¬ cnd b x y → Run μ n0 (pc + n) L st h Φ) : Run μ n0 pc L (.int y :: .int x :: st) h Φ := r_cmp _ _ _ _ _ _ _ _ _ _ _ _ _ _ (by rw [hT]; exact e) kt kf
theorem g_div (hT : mT μ = T) {n a b c d : Nat} {x y : Int32} (e : lk T pc = some (n, 25, a, b, c, d)) (hy : ¬ y = 0) (k : Run μ n0 (pc + n) L (.int (x / y) :: st) h Φ) : Run μ n0 pc L (.int y :: .int x :: st) h Φ := r_div _ _ _ _ _ _ _ _ _ _ _ _ _ _ (by rw [hT]; exact e) hy k
theorem g_rem (hT : mT μ = T) {n a b c d : Nat} {x y : Int32} (e : lk T pc = some (n, 26, a, b, c, d)) (hy : ¬ y = 0) (k : Run μ n0 (pc + n) L (.int (x - x / y * y) :: st) h Φ) : Run μ n0 pc L (.int y :: .int x :: st) h Φ := r_rem _ _ _ _ _ _ _ _ _ _ _ _ _ _ (by rw [hT]; exact e) hy k
theorem g_divN (hT : mT μ = T) {n a b c d u v : Nat} (e : lk T pc = some (n, 25, a, b, c, d)) (hu : u < 2 ^ 31) (hv : 0 < v) (hv2 : v < 2 ^ 31) (k : Run μ n0 (pc + n) L (.int (nI (u / v)) :: st) h Φ) : Run μ n0 pc L (.int (nI v) :: .int (nI u) :: st) h Φ := g_div hT e (nI_ne0 hv hv2) (by rw [pk_div hu hv hv2]; exact k)
theorem g_remN (hT : mT μ = T) {n a b c d u v : Nat} (e : lk T pc = some (n, 26, a, b, c, d)) (hu : u < 2 ^ 31) (hv : 0 < v) (hv2 : v < 2 ^ 31) (k : Run μ n0 (pc + n) L (.int (nI (u % v)) :: st) h Φ) : Run μ n0 pc L (.int (nI v) :: .int (nI u) :: st) h Φ := g_rem hT e (nI_ne0 hv hv2) (by rw [pk_rem hu hv hv2]; exact k)
theorem g_sw (hT : mT μ = T) {n t a b c d : Nat} {x : Int32} (e : lk T pc = some (n, t, a, b, c, d)) (ht : t = 32 ∨ t = 33) {pc' : Nat} (hp : swt a x = pc') (k : Run μ n0 pc' L st h Φ) : Run μ n0 pc L (.int x :: st) h Φ := r_sw _ _ _ _ _ _ _ _ _ _ _ _ _ _ (by rw [hT]; exact e) ht (by rw [hp]; exact k)
theorem g_geti (hT : mT μ = T) {n a b c d o : Nat} (e : lk T pc = some (n, 40, a, b, c, d)) (hk : kd o = (0, b)) (ho : o < h.1) (k : Run μ n0 (pc + n) L (.int (h.2.2 o a) :: st) h Φ) : Run μ n0 pc L (.ref o :: st) h Φ := r_geti _ _ _ _ _ _ _ _ _ _ _ _ _ (by rw [hT]; exact e) hk ho k
theorem g_getr (hT : mT μ = T) {n a b c d o j : Nat} (e : lk T pc = some (n, 41, a, b, c, d)) (hk : kd o = (0, b)) (ho : o < h.1) (hj : h.2.1 o a = j + 1) (k : Run μ n0 (pc + n) L (.ref j :: st) h Φ) : Run μ n0 pc L (.ref o :: st) h Φ := r_getr _ _ _ _ _ _ _ _ _ _ _ _ _ _ (by rw [hT]; exact e) hk ho hj k
theorem g_puti (hT : mT μ = T) {n a b c d o : Nat} {x : Int32} (e : lk T pc = some (n, 42, a, b, c, d)) (hk : kd o = (0, b)) (ho : o < h.1) (hb : bfl b a = true → x = 0 ∨ x = 1) (k : Run μ n0 (pc + n) L st (h.1, h.2.1, hset h.2.2 o a x) Φ) : Run μ n0 pc L (.int x :: .ref o :: st) h Φ := r_puti _ _ _ _ _ _ _ _ _ _ _ _ _ _ (by rw [hT]; exact e) hk ho hb k
theorem g_ald (hT : mT μ = T) {n a b c d o N i : Nat} (e : lk T pc = some (n, 50, a, b, c, d)) (hk : kd o = (1, N)) (ho : o < h.1) (hN : N < 2 ^ 31) (hi : i < N) (k : Run μ n0 (pc + n) L (.int (h.2.2 o i) :: st) h Φ) : Run μ n0 pc L (.int (nI i) :: .ref o :: st) h Φ := r_ald _ _ _ _ _ _ _ _ _ _ _ _ _ _ _ (by rw [hT]; exact e) hk ho (vp_in_nI hi hN) (by rw [nI_clamp (Nat.lt_trans hi hN)]; exact k)
theorem g_ast (hT : mT μ = T) {n a b c d o N i : Nat} {x : Int32} (e : lk T pc = some (n, 51, a, b, c, d)) (hk : kd o = (1, N)) (ho : o < h.1) (hN : N < 2 ^ 31) (hi : i < N) (k : Run μ n0 (pc + n) L st (h.1, h.2.1, hset h.2.2 o i x) Φ) : Run μ n0 pc L (.int x :: .int (nI i) :: .ref o :: st) h Φ := r_ast _ _ _ _ _ _ _ _ _ _ _ _ _ _ _ _ (by rw [hT]; exact e) hk ho (vp_in_nI hi hN) (by rw [nI_clamp (Nat.lt_trans hi hN)]; exact k)
theorem g_bld (hT : mT μ = T) {n a b c d o g N i : Nat} (e : lk T pc = some (n, 52, a, b, c, d)) (hk : kd o = (g, N)) (hg : g = 2 ∨ g = 3) (ho : o < h.1) (hN : N < 2 ^ 31) (hi : i < N) (k : Run μ n0 (pc + n) L (.int (h.2.2 o i) :: st) h Φ) : Run μ n0 pc L (.int (nI i) :: .ref o :: st) h Φ := r_bld _ _ _ _ _ _ _ _ _ _ _ _ _ _ _ _ (by rw [hT]; exact e) hk hg ho (vp_in_nI hi hN) (by rw [nI_clamp (Nat.lt_trans hi hN)]; exact k)
theorem nar_z {x : Int32} (h : x = 0 ∨ x = 1) : vp_nar .boolean x = x := by rcases h with rfl | rfl <;> decide
theorem g_zst (hT : mT μ = T) {n a b c d o N i : Nat} {x : Int32} (e : lk T pc = some (n, 53, a, b, c, d)) (hk : kd o = (2, N)) (ho : o < h.1) (hN : N < 2 ^ 31) (hi : i < N) (hx : x = 0 ∨ x = 1) (k : Run μ n0 (pc + n) L st (h.1, h.2.1, hset h.2.2 o i x) Φ) : Run μ n0 pc L (.int x :: .int (nI i) :: .ref o :: st) h Φ := r_zst _ _ _ _ _ _ _ _ _ _ _ _ _ _ _ _ (by rw [hT]; exact e) hk ho (vp_in_nI hi hN) (by rw [nI_clamp (Nat.lt_trans hi hN), nar_z hx]; exact k)
theorem g_bst (hT : mT μ = T) {n a b c d o N i : Nat} {x : Int32} (e : lk T pc = some (n, 53, a, b, c, d)) (hk : kd o = (3, N)) (ho : o < h.1) (hN : N < 2 ^ 31) (hi : i < N) (k : Run μ n0 (pc + n) L st (h.1, h.2.1, hset h.2.2 o i (vp_nar .byte x)) Φ) : Run μ n0 pc L (.int x :: .int (nI i) :: .ref o :: st) h Φ := r_bst _ _ _ _ _ _ _ _ _ _ _ _ _ _ _ _ (by rw [hT]; exact e) hk ho (vp_in_nI hi hN) (by rw [nI_clamp (Nat.lt_trans hi hN)]; exact k)
theorem g_rld (hT : mT μ = T) {n a b c d o g N j i : Nat} (e : lk T pc = some (n, 54, a, b, c, d)) (hk : kd o = (g, N)) (hg : g = 4 ∨ g = 5) (ho : o < h.1) (hN : N < 2 ^ 31) (hi : i < N) (hj : h.2.1 o i = j + 1) (k : Run μ n0 (pc + n) L (.ref j :: st) h Φ) : Run μ n0 pc L (.int (nI i) :: .ref o :: st) h Φ := r_rld _ _ _ _ _ _ _ _ _ _ _ _ _ _ _ _ _ (by rw [hT]; exact e) hk hg ho (vp_in_nI hi hN) (by rw [nI_clamp (Nat.lt_trans hi hN)]; exact hj) k
theorem g_rst (hT : mT μ = T) {n a b c d o g N j i : Nat} (e : lk T pc = some (n, 55, a, b, c, d)) (hk : kd o = (g, N)) (hg : (g = 4 ∧ kd j = (0, 0)) ∨ (g = 5 ∧ kd j = (0, 3))) (ho : o < h.1) (hj : j < h.1) (hN : N < 2 ^ 31) (hi : i < N) (k : Run μ n0 (pc + n) L st (h.1, rset h.2.1 o i (j + 1), h.2.2) Φ) : Run μ n0 pc L (.ref j :: .int (nI i) :: .ref o :: st) h Φ := r_rst _ _ _ _ _ _ _ _ _ _ _ _ _ _ _ _ _ (by rw [hT]; exact e) hk hg ho hj (vp_in_nI hi hN) (by rw [nI_clamp (Nat.lt_trans hi hN)]; exact k)
theorem g_len (hT : mT μ = T) {n a b c d o N : Nat} (e : lk T pc = some (n, 56, a, b, c, d)) (hk : kd o = (1, N)) (ho : o < h.1) (k : Run μ n0 (pc + n) L (.int (nI N) :: st) h Φ) : Run μ n0 pc L (.ref o :: st) h Φ := r_len _ _ _ _ _ _ _ _ _ _ _ _ _ _ (by rw [hT]; exact e) hk ho k
theorem g_min (hT : mT μ = T) {n a b c d : Nat} {x y : Int32} (e : lk T pc = some (n, 75, a, b, c, d)) (hs : (st.map fun v => v.category).sum ≤ 8) (k : Run μ n0 (pc + n) L (.int (if y < x then y else x) :: st) h Φ) : Run μ n0 pc L (.int y :: .int x :: st) h Φ := r_min _ _ _ _ _ _ _ _ _ _ _ _ _ _ (by rw [hT]; exact e) hs k
theorem g_minN (hT : mT μ = T) {n a b c d x y : Nat} (e : lk T pc = some (n, 75, a, b, c, d)) (hs : (st.map fun v => v.category).sum ≤ 8) (hx : x < 2 ^ 31) (hy : y < 2 ^ 31) (k : Run μ n0 (pc + n) L (.int (nI (min x y)) :: st) h Φ) : Run μ n0 pc L (.int (nI y) :: .int (nI x) :: st) h Φ := g_min hT e hs (by
  rw [show (if nI y < nI x then nI y else nI x) = nI (min x y) by
    by_cases hq : y < x
    · rw [if_pos ((nI_ltI hy hx).mpr hq), Nat.min_eq_right (Nat.le_of_lt hq)]
    · rw [if_neg (fun z => hq ((nI_ltI hy hx).mp z)), Nat.min_eq_left (Nat.not_lt.mp hq)]]
  exact k)
theorem g_cpy (hT : mT μ = T) {n a b c d o o2 N N2 sp dp k : Nat} (e : lk T pc = some (n, 72, a, b, c, d)) (hk : kd o = (1, N)) (hk2 : kd o2 = (1, N2)) (ho : o < h.1) (ho2 : o2 < h.1) (h1 : sp + k ≤ N) (h2 : dp + k ≤ N2) (hs : (st.map fun v => v.category).sum ≤ 8) (kk : Run μ n0 (pc + n) L st (h.1, h.2.1, hputs h.2.2 o2 (va_cpy (h.2.2 o) (h.2.2 o2) sp dp k)) Φ) : Run μ n0 pc L (.int (nI k) :: .int (nI dp) :: .ref o2 :: .int (nI sp) :: .ref o :: st) h Φ := r_cpy _ _ _ _ _ _ _ _ _ _ _ _ _ _ _ _ _ _ _ (by rw [hT]; exact e) hk hk2 ho ho2 h1 h2 hs kk
/-- a call whose end is known -/
theorem g_call (hT : mT μ = T) {n ν b c d o : Nat} (as : List Value) {v : Option Value} {h2 : HP} (e : lk T pc = some (n, 70, ν, b, c, d)) (hst : st = as.reverse ++ .ref o :: st.drop b) (hk : kd o = (0, mC ν)) (ho : o < h.1) (hb : as.length + 1 = b) (hc : cat1 as = true) (hx : as.length + 1 ≤ mX ν) (hs : ((st.drop b).map fun v => v.category).sum ≤ 8) (hr : Run ν h.1 0 (ini ν (.ref o :: as)) [] h (Ret v h2)) (k : Run μ n0 (pc + n) L (v.toList ++ st.drop b) h2 Φ) : Run μ n0 pc L st h Φ := by
  rw [hst]
  refine r_call _ _ _ _ _ _ _ _ _ _ _ _ _ as _ (by rw [hT]; exact e) hk ho hb hc hx hs hr (fun v' h' q => ?_)
  obtain ⟨rfl, rfl⟩ := q
  exact k
theorem g_scall (hT : mT μ = T) {n ν b c d : Nat} (as : List Value) {v : Option Value} {h2 : HP} (e : lk T pc = some (n, 73, ν, b, c, d)) (hst : st = as.reverse ++ st.drop b) (hb : as.length = b) (hc : cat1 as = true) (hx : as.length ≤ mX ν) (hs : ((st.drop b).map fun v => v.category).sum ≤ 8) (hr : Run ν h.1 0 (ini ν as) [] h (Ret v h2)) (k : Run μ n0 (pc + n) L (v.toList ++ st.drop b) h2 Φ) : Run μ n0 pc L st h Φ := by
  rw [hst]
  refine r_scall _ _ _ _ _ _ _ _ _ _ _ _ as _ (by rw [hT]; exact e) hb hc hx hs hr (fun v' h' q => ?_)
  obtain ⟨rfl, rfl⟩ := q
  exact k
theorem g_ret (hT : mT μ = T) {n a b c d : Nat} {x : Int32} (e : lk T pc = some (n, 80, a, b, c, d)) (hz : mA μ = some .boolean → x = 0 ∨ x = 1) (hn : h.1 = n0 + mK μ) (k : Φ (some (.int x)) h) : Run μ n0 pc L [.int x] h Φ := r_ret _ _ _ _ _ _ _ _ _ _ _ _ (by rw [hT]; exact e) hz hn k
theorem g_lret (hT : mT μ = T) {n a b c d : Nat} {x : Int64} (e : lk T pc = some (n, 81, a, b, c, d)) (hn : h.1 = n0 + mK μ) (k : Φ (some (.long x)) h) : Run μ n0 pc L [.long x] h Φ := r_lret _ _ _ _ _ _ _ _ _ _ _ _ (by rw [hT]; exact e) hn k
theorem g_rret (hT : mT μ = T) {n a b c d x : Nat} (e : lk T pc = some (n, 82, a, b, c, d)) (hn : h.1 = n0 + mK μ) (k : Φ (some (.ref x)) h) : Run μ n0 pc L [.ref x] h Φ := r_rret _ _ _ _ _ _ _ _ _ _ _ _ (by rw [hT]; exact e) hn k
theorem g_vret (hT : mT μ = T) {n a b c d : Nat} (e : lk T pc = some (n, 83, a, b, c, d)) (hn : h.1 = n0 + mK μ) (k : Φ none h) : Run μ n0 pc L [] h Φ := r_vret _ _ _ _ _ _ _ _ _ _ _ (by rw [hT]; exact e) hn k
end ROWS
/-! the heap once the constructors are through: references stand still, but for the row of kept books (cell 20) -/
def rts : List (List Nat) := [[2, 11, 20, 76, 81, 88, 90, 97, 98], [3, 4, 5, 6, 7, 8, 9, 10], [], [], [], [], [], [], [], [], [12, 13, 14, 15, 16, 17, 18, 19], [], [], [], [], [], [], [], [], [21], [], [23, 24, 25, 26, 27, 28, 29, 30], [], [], [], [], [], [], [], [], [32, 33, 34, 35, 36, 37, 38, 39], [], [], [], [], [], [], [], [], [41, 42, 43, 44, 45, 46, 47, 48], [], [], [], [], [], [], [], [], [50, 51, 52, 53, 54, 55, 56, 57], [], [], [], [], [], [], [], [], [59, 60, 61, 62, 63, 64, 65, 66], [], [], [], [], [], [], [], [], [68, 69, 70, 71, 72, 73, 74, 75], [], [], [], [], [], [], [], [], [77, 0, 78, 79, 80], [], [], [], [], [82, 85], [83, 84], [], [], [86, 87], [], [], [89], [], [91, 92, 93, 94, 95, 96], [], [], [], [], [], [], [], [], [100, 101, 102, 0, 0, 103, 0, 104, 105, 106, 107, 0, 0, 108, 109, 110], [], [], [], [], [], [], [], [], [], [], []]
def RR (n : Nat) (kf : Nat → Nat) (c i : Nat) : Nat := if c = 20 then kf i else if c = 1000 then n else if c = 1001 then 3 else if c = 1002 then 3 else (rts.getD c []).getD i 0
abbrev HH (n : Nat) (kf : Nat → Nat) (f : Nat → Nat → Int32) : HP := (110, RR n kf, f)
def isBk (b : Nat) : Prop := b = 1 ∨ b = 10 ∨ b = 21 ∨ b = 30 ∨ b = 39 ∨ b = 48 ∨ b = 57 ∨ b = 66
theorem bk_kd {b : Nat} (h : isBk b) : kd b = (0, 0) ∧ kd (b + 1) = (1, 2) ∧ kd (b + 2) = (1, 16) ∧ kd (b + 3) = (1, 192) ∧ kd (b + 4) = (1, 2) ∧ kd (b + 5) = (1, 3) ∧ kd (b + 6) = (1, 10) ∧ kd (b + 7) = (1, 10) ∧ kd (b + 8) = (1, 10) := by
  rcases h with rfl | rfl | rfl | rfl | rfl | rfl | rfl | rfl <;> decide
theorem bk_lt {b : Nat} (h : isBk b) : b + 8 < 110 := by
  rcases h with rfl | rfl | rfl | rfl | rfl | rfl | rfl | rfl <;> decide
theorem bk_rr {b : Nat} (h : isBk b) (n : Nat) (kf : Nat → Nat) (i : Nat) (hi : i < 8) : RR n kf b i = b + 1 + i + 1 := by
  rcases h with rfl | rfl | rfl | rfl | rfl | rfl | rfl | rfl <;> (match i, hi with
    | 0, _ => rfl
    | 1, _ => rfl
    | 2, _ => rfl
    | 3, _ => rfl
    | 4, _ => rfl
    | 5, _ => rfl
    | 6, _ => rfl
    | 7, _ => rfl)

/-! THE ROWS, the constructors being through -/
section VROWS
variable {μ pc m : Nat} {L : LT} {st : List Value} {kf : Nat → Nat} {f : Nat → Nat → Int32} {Φ : PT} {T : Tab}
theorem v_p (hT : mT μ = T) {p1 pc' : Nat} {L1 L' : LT} {s1 st' : List Value} {n0 : Nat} {h : HP} (e1 : ps T pc L st = some (p1, L1, s1)) (e : psn 60 T p1 L1 s1 = (pc', L', st')) (k : Run μ n0 pc' L' st' h Φ) : Run μ n0 pc L st h Φ := r_pure _ _ _ _ _ _ _ _ _ _ (by rw [hT]; exact e1) (g_ps 60 hT e k)
theorem v_fgt {L2 : LT} {n0 : Nat} {h : HP} (hq : lle L2 L) (k : Run μ n0 pc L2 st h Φ) : Run μ n0 pc L st h Φ := r_fgt _ _ _ _ _ _ _ _ hq k
theorem v_cv {L2 : LT} {st2 : List Value} {n0 : Nat} {h h2 : HP} (k : Run μ n0 pc L2 st2 h2 Φ) (hq : lle L2 L) (hs : st = st2) (hf : h = h2) : Run μ n0 pc L st h Φ := by
  subst hs
  subst hf
  exact r_fgt _ _ _ _ _ _ _ _ hq k
theorem v_geti (hT : mT μ = T) {n a b c d o : Nat} (e : lk T pc = some (n, 40, a, b, c, d)) (hk : kd o = (0, b)) (ho : o < 110) (k : Run μ 110 (pc + n) L (.int (f o a) :: st) (HH m kf f) Φ) : Run μ 110 pc L (.ref o :: st) (HH m kf f) Φ := g_geti hT e hk ho k
theorem v_getr (hT : mT μ = T) {n a b c d o j : Nat} (e : lk T pc = some (n, 41, a, b, c, d)) (hk : kd o = (0, b)) (ho : o < 110) (hj : RR m kf o a = j + 1) (k : Run μ 110 (pc + n) L (.ref j :: st) (HH m kf f) Φ) : Run μ 110 pc L (.ref o :: st) (HH m kf f) Φ := g_getr hT e hk ho hj k
theorem v_puti (hT : mT μ = T) {n a b c d o : Nat} {x : Int32} (e : lk T pc = some (n, 42, a, b, c, d)) (hk : kd o = (0, b)) (ho : o < 110) (hb : bfl b a = true → x = 0 ∨ x = 1) (k : Run μ 110 (pc + n) L st (HH m kf (hset f o a x)) Φ) : Run μ 110 pc L (.int x :: .ref o :: st) (HH m kf f) Φ := g_puti hT e hk ho hb k
theorem v_ald (hT : mT μ = T) {n a b c d o N i : Nat} (e : lk T pc = some (n, 50, a, b, c, d)) (hk : kd o = (1, N)) (ho : o < 110) (hN : N < 2 ^ 31) (hi : i < N) (k : Run μ 110 (pc + n) L (.int (f o i) :: st) (HH m kf f) Φ) : Run μ 110 pc L (.int (nI i) :: .ref o :: st) (HH m kf f) Φ := g_ald hT e hk ho hN hi k
theorem v_aldx (hT : mT μ = T) {n a b c d o i : Nat} (e : lk T pc = some (n, 50, a, b, c, d)) (hk : kd o = (6, 0)) (hN : RR m kf o 0 < 2 ^ 31) (hi : i < RR m kf o 0) (k : Run μ 110 (pc + n) L (.int (f o i) :: st) (HH m kf f) Φ) : Run μ 110 pc L (.int (nI i) :: .ref o :: st) (HH m kf f) Φ := r_aldx _ _ _ _ _ _ _ _ _ _ _ _ _ _ (by rw [hT]; exact e) hk (vp_in_nI hi hN) (by rw [nI_clamp (Nat.lt_trans hi hN)]; exact k)
theorem v_lenx (hT : mT μ = T) {n a b c d : Nat} (e : lk T pc = some (n, 56, a, b, c, d)) (k : Run μ 110 (pc + n) L (.int (nI (RR m kf 1000 0)) :: st) (HH m kf f) Φ) : Run μ 110 pc L (.ref 1000 :: st) (HH m kf f) Φ := r_lenx _ _ _ _ _ _ _ _ _ _ _ _ _ (by rw [hT]; exact e) rfl k
theorem v_ast (hT : mT μ = T) {n a b c d o N i : Nat} {x : Int32} (e : lk T pc = some (n, 51, a, b, c, d)) (hk : kd o = (1, N)) (ho : o < 110) (hN : N < 2 ^ 31) (hi : i < N) (k : Run μ 110 (pc + n) L st (HH m kf (hset f o i x)) Φ) : Run μ 110 pc L (.int x :: .int (nI i) :: .ref o :: st) (HH m kf f) Φ := g_ast hT e hk ho hN hi k
theorem v_bld (hT : mT μ = T) {n a b c d o g N i : Nat} (e : lk T pc = some (n, 52, a, b, c, d)) (hk : kd o = (g, N)) (hg : g = 2 ∨ g = 3) (ho : o < 110) (hN : N < 2 ^ 31) (hi : i < N) (k : Run μ 110 (pc + n) L (.int (f o i) :: st) (HH m kf f) Φ) : Run μ 110 pc L (.int (nI i) :: .ref o :: st) (HH m kf f) Φ := g_bld hT e hk hg ho hN hi k
theorem v_zst (hT : mT μ = T) {n a b c d o N i : Nat} {x : Int32} (e : lk T pc = some (n, 53, a, b, c, d)) (hk : kd o = (2, N)) (ho : o < 110) (hN : N < 2 ^ 31) (hi : i < N) (hx : x = 0 ∨ x = 1) (k : Run μ 110 (pc + n) L st (HH m kf (hset f o i x)) Φ) : Run μ 110 pc L (.int x :: .int (nI i) :: .ref o :: st) (HH m kf f) Φ := g_zst hT e hk ho hN hi hx k
theorem v_bst (hT : mT μ = T) {n a b c d o N i : Nat} {x : Int32} (e : lk T pc = some (n, 53, a, b, c, d)) (hk : kd o = (3, N)) (ho : o < 110) (hN : N < 2 ^ 31) (hi : i < N) (k : Run μ 110 (pc + n) L st (HH m kf (hset f o i (vp_nar .byte x))) Φ) : Run μ 110 pc L (.int x :: .int (nI i) :: .ref o :: st) (HH m kf f) Φ := g_bst hT e hk ho hN hi k
theorem v_rld (hT : mT μ = T) {n a b c d o g N j i : Nat} (e : lk T pc = some (n, 54, a, b, c, d)) (hk : kd o = (g, N)) (hg : g = 4 ∨ g = 5) (ho : o < 110) (hN : N < 2 ^ 31) (hi : i < N) (hj : RR m kf o i = j + 1) (k : Run μ 110 (pc + n) L (.ref j :: st) (HH m kf f) Φ) : Run μ 110 pc L (.int (nI i) :: .ref o :: st) (HH m kf f) Φ := g_rld hT e hk hg ho hN hi hj k
theorem v_len (hT : mT μ = T) {n a b c d o N : Nat} (e : lk T pc = some (n, 56, a, b, c, d)) (hk : kd o = (1, N)) (ho : o < 110) (k : Run μ 110 (pc + n) L (.int (nI N) :: st) (HH m kf f) Φ) : Run μ 110 pc L (.ref o :: st) (HH m kf f) Φ := g_len hT e hk ho k
theorem v_cpy (hT : mT μ = T) {n a b c d o o2 N N2 sp dp k : Nat} (e : lk T pc = some (n, 72, a, b, c, d)) (hk : kd o = (1, N)) (hk2 : kd o2 = (1, N2)) (ho : o < 110) (ho2 : o2 < 110) (h1 : sp + k ≤ N) (h2 : dp + k ≤ N2) (hs : (st.map fun v => v.category).sum ≤ 8) (kk : Run μ 110 (pc + n) L st (HH m kf (hputs f o2 (va_cpy (f o) (f o2) sp dp k))) Φ) : Run μ 110 pc L (.int (nI k) :: .int (nI dp) :: .ref o2 :: .int (nI sp) :: .ref o :: st) (HH m kf f) Φ := g_cpy hT e hk hk2 ho ho2 h1 h2 hs kk
theorem v_call (hT : mT μ = T) {n ν b c d o : Nat} (as : List Value) {v : Option Value} {h2 : HP} (e : lk T pc = some (n, 70, ν, b, c, d)) (hst : st = as.reverse ++ .ref o :: st.drop b) (hk : kd o = (0, mC ν)) (ho : o < 110) (hb : as.length + 1 = b) (hc : cat1 as = true) (hx : as.length + 1 ≤ mX ν) (hs : ((st.drop b).map fun v => v.category).sum ≤ 8) (hr : Run ν 110 0 (ini ν (.ref o :: as)) [] (HH m kf f) (Ret v h2)) (k : Run μ 110 (pc + n) L (v.toList ++ st.drop b) h2 Φ) : Run μ 110 pc L st (HH m kf f) Φ := g_call hT as e hst hk ho hb hc hx hs hr k
theorem v_scall (hT : mT μ = T) {n ν b c d : Nat} (as : List Value) {v : Option Value} {h2 : HP} (e : lk T pc = some (n, 73, ν, b, c, d)) (hst : st = as.reverse ++ st.drop b) (hb : as.length = b) (hc : cat1 as = true) (hx : as.length ≤ mX ν) (hs : ((st.drop b).map fun v => v.category).sum ≤ 8) (hr : Run ν 110 0 (ini ν as) [] (HH m kf f) (Ret v h2)) (k : Run μ 110 (pc + n) L (v.toList ++ st.drop b) h2 Φ) : Run μ 110 pc L st (HH m kf f) Φ := g_scall hT as e hst hb hc hx hs hr k
theorem v_ret (hT : mT μ = T) {n a b c d : Nat} {x : Int32} (e : lk T pc = some (n, 80, a, b, c, d)) (hz : mA μ = some .boolean → x = 0 ∨ x = 1) (hn : mK μ = 0) (k : Φ (some (.int x)) (HH m kf f)) : Run μ 110 pc L [.int x] (HH m kf f) Φ := g_ret hT e hz (by show 110 = 110 + mK μ; rw [hn]) k
theorem v_lret (hT : mT μ = T) {n a b c d : Nat} {x : Int64} (e : lk T pc = some (n, 81, a, b, c, d)) (hn : mK μ = 0) (k : Φ (some (.long x)) (HH m kf f)) : Run μ 110 pc L [.long x] (HH m kf f) Φ := g_lret hT e (by show 110 = 110 + mK μ; rw [hn]) k
theorem v_rret (hT : mT μ = T) {n a b c d x : Nat} (e : lk T pc = some (n, 82, a, b, c, d)) (hn : mK μ = 0) (k : Φ (some (.ref x)) (HH m kf f)) : Run μ 110 pc L [.ref x] (HH m kf f) Φ := g_rret hT e (by show 110 = 110 + mK μ; rw [hn]) k
theorem v_vret (hT : mT μ = T) {n a b c d : Nat} (e : lk T pc = some (n, 83, a, b, c, d)) (hn : mK μ = 0) (k : Φ none (HH m kf f)) : Run μ 110 pc L [] (HH m kf f) Φ := g_vret hT e (by show 110 = 110 + mK μ; rw [hn]) k
end VROWS
theorem cj_gt {a b : Nat} (ha : a < 2 ^ 31) (hb : b < 2 ^ 31) : cnd 4 (nI a) (nI b) ↔ b < a := nI_ltI hb ha
theorem cj_lt {a b : Nat} (ha : a < 2 ^ 31) (hb : b < 2 ^ 31) : cnd 2 (nI a) (nI b) ↔ a < b := nI_ltI ha hb
theorem cj_ge {a b : Nat} (ha : a < 2 ^ 31) (hb : b < 2 ^ 31) : cnd 3 (nI a) (nI b) ↔ b ≤ a := nI_leI hb ha
theorem cj_le {a b : Nat} (ha : a < 2 ^ 31) (hb : b < 2 ^ 31) : cnd 5 (nI a) (nI b) ↔ a ≤ b := nI_leI ha hb
theorem cj_eq {a b : Nat} (ha : a < 2 ^ 31) (hb : b < 2 ^ 31) : cnd 0 (nI a) (nI b) ↔ a = b := nI_eq ha hb
theorem cj_ne {a b : Nat} (ha : a < 2 ^ 31) (hb : b < 2 ^ 31) : cnd 1 (nI a) (nI b) ↔ ¬ a = b := not_congr (nI_eq ha hb)
end
section
/-! THE MATHEMATICS: a book, its lines. -/
def bI (b : Bool) : Int32 := if b = true then 1 else 0
theorem bI_or (b : Bool) : bI b = 0 ∨ bI b = 1 := by cases b <;> decide
theorem bI_t : bI true = 1 := rfl
theorem bI_f : bI false = 0 := rfl
theorem bI_z (b : Bool) : bI b = 0 ↔ b = false := by cases b <;> decide
noncomputable def pB (P : Prop) : Bool := @decide P (Classical.propDecidable P)
theorem pB_t {P : Prop} (h : P) : pB P = true := @decide_eq_true P (Classical.propDecidable P) h
theorem pB_f {P : Prop} (h : ¬ P) : pB P = false := @decide_eq_false P (Classical.propDecidable P) h
theorem pB_of {P : Prop} (h : pB P = true) : P := @of_decide_eq_true P (Classical.propDecidable P) h
theorem pB_nof {P : Prop} (h : pB P = false) : ¬ P := @of_decide_eq_false P (Classical.propDecidable P) h
/-- counts of paragraphs; of words; lengths; widths; settings; count of ties; ties (0: p, 1: q, 2: weight) -/
abbrev BK : Type := (Nat → Nat) × (Nat → Nat → Nat) × (Nat → Nat → Nat → Nat) × (Nat → Nat) × (Nat → Nat) × Nat × (Nat → Nat → Nat)
abbrev bNp (B : BK) : Nat → Nat := B.1
abbrev bNw (B : BK) : Nat → Nat → Nat := B.2.1
abbrev bLn (B : BK) : Nat → Nat → Nat → Nat := B.2.2.1
abbrev bWd (B : BK) : Nat → Nat := B.2.2.2.1
abbrev bSe (B : BK) : Nat → Nat := B.2.2.2.2.1
abbrev bNt (B : BK) : Nat := B.2.2.2.2.2.1
abbrev bTi (B : BK) : Nat → Nat → Nat := B.2.2.2.2.2.2
/-- the filling of lines: line and what is used of it, at word k -/
def lineF (w : Nat) (ln : Nat → Nat) : Nat → Nat × Nat
  | 0 => (0, ln 0)
  | k + 1 => if (lineF w ln k).2 + 1 + ln (k + 1) ≤ w then ((lineF w ln k).1, (lineF w ln k).2 + 1 + ln (k + 1)) else ((lineF w ln k).1 + 1, ln (k + 1))
theorem lineF_le (w : Nat) (ln : Nat → Nat) (k : Nat) : (lineF w ln k).1 ≤ k := by
  induction k with
  | zero => exact Nat.le_refl _
  | succ k ih => unfold lineF; split <;> (dsimp only; omega)
theorem lineF_used (w c : Nat) (ln : Nat → Nat) (k : Nat) (hc : w ≤ c) (h : ∀ i, i ≤ k → ln i ≤ c) : (lineF w ln k).2 ≤ c := by
  induction k with
  | zero => exact h 0 (Nat.le_refl _)
  | succ k ih =>
    unfold lineF
    split
    · dsimp only; omega
    · exact h (k + 1) (Nat.le_refl _)
theorem lineF_congr {w : Nat} {ln ln' : Nat → Nat} (k : Nat) (h : ∀ i, i ≤ k → ln i = ln' i) : lineF w ln k = lineF w ln' k := by
  induction k with
  | zero => unfold lineF; rw [h 0 (Nat.le_refl _)]
  | succ k ih =>
    have h1 := ih (fun i hi => h i (by omega))
    unfold lineF
    rw [h1, h (k + 1) (Nat.le_refl _)]
/-- lines of a paragraph; the first line of paragraph p; all lines -/
def linF (B : BK) (s p : Nat) : Nat := (lineF (bWd B s) (bLn B s p) (bNw B s p - 1)).1 + 1
def fstF (B : BK) (s : Nat) : Nat → Nat
  | 0 => 0
  | p + 1 => fstF B s p + linF B s p
def totF (B : BK) (s : Nat) : Nat := fstF B s (bNp B s)
/-- well formed, but for the lines -/
def VB0 (B : BK) : Prop := (∀ s, s < 2 → bNp B s ≤ 8) ∧ (∀ s p, s < 2 → p < bNp B s → 1 ≤ bNw B s p ∧ bNw B s p ≤ 12 ∧ ∀ k, k < bNw B s p → 1 ≤ bLn B s p k ∧ bLn B s p k ≤ 9) ∧ (∀ s, s < 2 → 9 ≤ bWd B s ∧ bWd B s ≤ 40) ∧ ((2 ≤ bSe B 0 ∧ bSe B 0 ≤ 12) ∧ (1 ≤ bSe B 1 ∧ bSe B 1 ≤ 3) ∧ bSe B 2 ≤ 9) ∧ bNt B ≤ 10 ∧ ∀ i, i < bNt B → bTi B 0 i < bNp B 0 ∧ bTi B 1 i < bNp B 1 ∧ 1 ≤ bTi B 2 i ∧ bTi B 2 i ≤ 9
def VB (B : BK) : Prop := VB0 B ∧ ∀ s, s < 2 → totF B s ≤ 60
theorem linF_pos (B : BK) (s p : Nat) : 1 ≤ linF B s p := by unfold linF; omega
theorem linF_le {B : BK} (h : VB0 B) {s p : Nat} (hs : s < 2) (hp : p < bNp B s) : linF B s p ≤ 12 := by
  have h1 := lineF_le (bWd B s) (bLn B s p) (bNw B s p - 1)
  have h2 := h.2.1 s p hs hp
  unfold linF
  omega
theorem fstF_le {B : BK} (h : VB0 B) {s : Nat} (hs : s < 2) : ∀ p, p ≤ bNp B s → fstF B s p ≤ 12 * p := by
  intro p
  induction p with
  | zero => intro _; exact Nat.le_refl _
  | succ p ih =>
    intro hp
    have h1 := ih (by omega)
    have h2 := linF_le h hs (show p < bNp B s by omega)
    unfold fstF
    omega
theorem fstF_mono (B : BK) (s : Nat) {p q : Nat} (h : p ≤ q) : fstF B s p ≤ fstF B s q := by
  induction q with
  | zero => rw [Nat.le_zero.mp h]; exact Nat.le_refl _
  | succ q ih =>
    by_cases hq : p = q + 1
    · rw [hq]; exact Nat.le_refl _
    · have h1 := ih (by omega)
      show fstF B s p ≤ fstF B s q + linF B s q
      omega
theorem fstF_lt (B : BK) (s : Nat) {p q : Nat} (h : p < q) : fstF B s p < fstF B s q := by
  have h1 : fstF B s p + linF B s p ≤ fstF B s q := fstF_mono B s (show p + 1 ≤ q from h)
  have h2 := linF_pos B s p
  omega
/-- a book's cells hold a book -/
def bkR (f : Nat → Nat → Int32) (b : Nat) (B : BK) : Prop := (∀ s, s < 2 → f (b + 1) s = nI (bNp B s)) ∧ (∀ s p, s < 2 → p < bNp B s → f (b + 2) (s * 8 + p) = nI (bNw B s p) ∧ ∀ k, k < bNw B s p → f (b + 3) ((s * 8 + p) * 12 + k) = nI (bLn B s p k)) ∧ (∀ s, s < 2 → f (b + 4) s = nI (bWd B s)) ∧ (∀ i, i < 3 → f (b + 5) i = nI (bSe B i)) ∧ f b 8 = nI (bNt B) ∧ ∀ i, i < bNt B → f (b + 6) i = nI (bTi B 0 i) ∧ f (b + 7) i = nI (bTi B 1 i) ∧ f (b + 8) i = nI (bTi B 2 i)
def crossB (B : BK) (i j : Nat) : Bool := decide ((bTi B 0 i < bTi B 0 j ∧ bTi B 1 j < bTi B 1 i) ∨ (bTi B 0 j < bTi B 0 i ∧ bTi B 1 i < bTi B 1 j))
/-! ints as they come -/
theorem nI_small {n : Nat} (x : Int32) (hn : n < 2 ^ 31) : (0 ≤ x ∧ x < nI n) ↔ ∃ k, k < n ∧ x = nI k := by
  constructor
  · intro ⟨h1, h2⟩
    obtain ⟨j, hj, rfl⟩ := nI_of (Int32.not_lt.mpr h1)
    exact ⟨j, (nI_ltI hj hn).mp h2, rfl⟩
  · intro ⟨k, hk, e⟩
    subst e
    exact ⟨nI_pos' (by omega), nI_lt hk hn⟩
theorem in_range {a b : Nat} (x : Int32) (hb : b < 2 ^ 31 - 1) : (nI a ≤ x ∧ x ≤ nI b) → a ≤ b → ∃ k, a ≤ k ∧ k ≤ b ∧ x = nI k := by
  intro ⟨h1, h2⟩ hab
  have h0 : ¬ x < 0 := by
    intro hx
    exact absurd (Int32.lt_of_le_of_lt h1 hx) (nI_pos (by omega))
  obtain ⟨j, hj, rfl⟩ := nI_of h0
  exact ⟨j, (nI_leI (by omega) hj).mp h1, (nI_leI hj (by omega)).mp h2, rfl⟩
end
section
/-! THE CLASS: its small methods, and a book's reads. -/
theorem s_within (x y z : Int32) {n : Nat} {kf : Nat → Nat} {f : Nat → Nat → Int32} : Run n_X6_within 110 0 (ini n_X6_within [.int x, .int y, .int z]) [] (HH n kf f) (Ret (some (.int (bI (decide (y ≤ x ∧ x ≤ z))))) (HH n kf f)) := by
  have hT : mT n_X6_within = tb_X6_within := rfl
  refine v_p hT rfl rfl ?_
  refine g_cmp hT rfl (fun q => ?_) (fun q => ?_)
  · have q : x < y := q
    refine v_p hT rfl rfl ?_
    refine v_ret hT rfl (fun _ => Or.inl rfl) rfl ⟨?_, rfl⟩
    rw [decide_eq_false (fun z => Int32.not_le.mpr q z.1)]
    rfl
  · have q : ¬ x < y := q
    refine v_p hT rfl rfl ?_
    refine g_cmp hT rfl (fun q2 => ?_) (fun q2 => ?_)
    · have q2 : z < x := q2
      refine v_p hT rfl rfl ?_
      refine v_ret hT rfl (fun _ => Or.inl rfl) rfl ⟨?_, rfl⟩
      rw [decide_eq_false (fun z => Int32.not_le.mpr q2 z.2)]
      rfl
    · have q2 : ¬ z < x := q2
      refine v_p hT rfl rfl ?_
      refine v_ret hT rfl (fun _ => Or.inr rfl) rfl ⟨?_, rfl⟩
      rw [decide_eq_true ⟨Int32.not_lt.mp q, Int32.not_lt.mp q2⟩]
      rfl
theorem s_isSide (x : Int32) {n : Nat} {kf : Nat → Nat} {f : Nat → Nat → Int32} : Run n_X6_isSide 110 0 (ini n_X6_isSide [.int x]) [] (HH n kf f) (Ret (some (.int (bI (decide (0 ≤ x ∧ x ≤ 1))))) (HH n kf f)) := by
  have hT : mT n_X6_isSide = tb_X6_isSide := rfl
  refine v_p hT rfl rfl ?_
  refine v_scall hT [.int x, .int (nI 0), .int (nI 1)] rfl rfl rfl rfl (Nat.le_of_ble_eq_true rfl) (Nat.le_of_ble_eq_true rfl) (s_within x (nI 0) (nI 1)) ?_
  refine v_ret hT rfl (fun _ => bI_or _) rfl ⟨?_, rfl⟩
  rfl
theorem s_slot (s p : Nat) {n : Nat} {kf : Nat → Nat} {f : Nat → Nat → Int32} : Run n_X0_slot 110 0 (ini n_X0_slot [.int (nI s), .int (nI p)]) [] (HH n kf f) (Ret (some (.int (nI (s * 8 + p)))) (HH n kf f)) := by
  have hT : mT n_X0_slot = tb_X0_slot := rfl
  refine v_p hT rfl rfl ?_
  simp only [nI_add, pk_mul]
  refine v_ret hT rfl (fun z => by cases z) rfl ⟨rfl, rfl⟩
theorem int_lo {x : Int32} (h : 0 ≤ x ∧ x ≤ 1) : x = nI 0 ∨ x = nI 1 := by
  obtain ⟨k, h1, h2, e⟩ := in_range (a := 0) (b := 1) x (by omega) h (by omega)
  subst e
  rcases (show k = 0 ∨ k = 1 by omega) with rfl | rfl
  · exact Or.inl rfl
  · exact Or.inr rfl
/-- is it a paragraph's side and number -/
noncomputable def isPa (B : BK) (s p : Int32) : Bool := pB (∃ s2 p2 : Nat, s2 < 2 ∧ p2 < bNp B s2 ∧ s = nI s2 ∧ p = nI p2)
theorem isPa_t {B : BK} {s p : Nat} (hs : s < 2) (hp : p < bNp B s) : isPa B (nI s) (nI p) = true := pB_t ⟨s, p, hs, hp, rfl, rfl⟩
theorem isPa_of {B : BK} {s p : Int32} (h : isPa B s p = true) : ∃ s2 p2 : Nat, s2 < 2 ∧ p2 < bNp B s2 ∧ s = nI s2 ∧ p = nI p2 := pB_of h
theorem isPa_n {B : BK} {s p : Int32} (h : ¬ ∃ s2 p2 : Nat, s2 < 2 ∧ p2 < bNp B s2 ∧ s = nI s2 ∧ p = nI p2) : isPa B s p = false := pB_f h
theorem s_hasParagraph {b n : Nat} {kf : Nat → Nat} {f : Nat → Nat → Int32} {B : BK} (hb : isBk b) (hR : bkR f b B) (hV : VB0 B) (s p : Int32) :
    Run n_X0_hasParagraph 110 0 (ini n_X0_hasParagraph [.ref b, .int s, .int p]) [] (HH n kf f) (Ret (some (.int (bI (isPa B s p)))) (HH n kf f)) := by
  have hT : mT n_X0_hasParagraph = tb_X0_hasParagraph := rfl
  obtain ⟨k0, k1, k2, k3, k4, k5, k6, k7, k8⟩ := bk_kd hb
  have hlt := bk_lt hb
  refine v_p hT rfl rfl ?_
  refine v_scall hT [.int s] rfl rfl rfl rfl (Nat.le_of_ble_eq_true rfl) (Nat.le_of_ble_eq_true rfl) (s_isSide s) ?_
  by_cases hs : 0 ≤ s ∧ s ≤ 1
  · rw [decide_eq_true hs]
    obtain ⟨s2, hs2, rfl⟩ : ∃ s2 : Nat, s2 < 2 ∧ s = nI s2 := by rcases int_lo hs with e | e <;> exact ⟨_, by omega, e⟩
    have hn8 := hV.1 s2 hs2
    refine g_if hT rfl (fun q => ?_) (fun q => ?_)
    · exact absurd (show (1 : Int32) = 0 from q) (by decide)
    · refine v_p hT rfl rfl ?_
      refine g_if hT rfl (fun q2 => ?_) (fun q2 => ?_)
      · have q2 : p < 0 := q2
        refine v_p hT rfl rfl ?_
        refine v_ret hT rfl (fun _ => Or.inl rfl) rfl ⟨?_, rfl⟩
        rw [isPa_n]
        · rfl
        · intro ⟨s3, p3, h1, h2, h3, h4⟩
          have hn := hV.1 s3 h1
          rw [h4] at q2
          exact nI_pos (by omega) q2
      · have q2 : ¬ p < 0 := q2
        obtain ⟨p2, hp2, rfl⟩ := nI_of q2
        repeat (first | refine v_p hT rfl rfl ?_ | refine v_getr hT rfl rfl (by omega) rfl ?_ | refine v_getr hT rfl k0 (by omega) (bk_rr hb _ _ _ (by decide)) ?_ | refine v_geti hT rfl (by first | rfl | assumption) (by omega) ?_ | refine v_ald hT rfl (by first | assumption | rfl) (by omega) (by decide) (by omega) ?_ | simp only [nI_add, pk_mul, hR.1 s2 hs2])
        refine g_cmp hT rfl (fun q3 => ?_) (fun q3 => ?_)
        · have q3 := (cj_ge hp2 (by omega)).mp q3
          refine v_p hT rfl rfl ?_
          refine v_ret hT rfl (fun _ => Or.inl rfl) rfl ⟨?_, rfl⟩
          rw [isPa_n]
          · rfl
          · intro ⟨s3, p3, h1, h2, h3, h4⟩
            have e1 := (nI_eq (by omega) (by omega)).mp h3
            subst e1
            have e2 := (nI_eq hp2 (by omega)).mp h4
            omega
        · have q3 := (not_congr (cj_ge hp2 (by omega))).mp q3
          refine v_p hT rfl rfl ?_
          refine v_ret hT rfl (fun _ => Or.inr rfl) rfl ⟨?_, rfl⟩
          rw [isPa_t hs2 (by omega)]
          rfl
  · rw [decide_eq_false hs]
    refine g_if hT rfl (fun q => ?_) (fun q => ?_)
    · refine v_p hT rfl rfl ?_
      refine v_ret hT rfl (fun _ => Or.inl rfl) rfl ⟨?_, rfl⟩
      rw [isPa_n]
      · rfl
      · intro ⟨s3, p3, h1, h2, h3, h4⟩
        rw [h3] at hs
        exact hs ⟨nI_pos' (by omega), nI_le (b := 1) (by omega) (by omega)⟩
    · exact absurd rfl q
theorem s_wordsIn {b n s p : Nat} {kf : Nat → Nat} {f : Nat → Nat → Int32} (hb : isBk b) (hs : s * 8 + p < 16) :
    Run n_X0_wordsIn 110 0 (ini n_X0_wordsIn [.ref b, .int (nI s), .int (nI p)]) [] (HH n kf f) (Ret (some (.int (f (b + 2) (s * 8 + p)))) (HH n kf f)) := by
  have hT : mT n_X0_wordsIn = tb_X0_wordsIn := rfl
  obtain ⟨k0, k1, k2, k3, k4, k5, k6, k7, k8⟩ := bk_kd hb
  have hlt := bk_lt hb
  repeat (first | refine v_p hT rfl rfl ?_ | refine v_getr hT rfl rfl (by omega) rfl ?_ | refine v_getr hT rfl k0 (by omega) (bk_rr hb _ _ _ (by decide)) ?_ | refine v_geti hT rfl (by first | rfl | assumption) (by omega) ?_ | refine v_ald hT rfl (by first | assumption | rfl) (by omega) (by decide) (by omega) ?_ | simp only [nI_add, pk_mul])
  refine v_scall hT [.int (nI s), .int (nI p)] rfl rfl rfl rfl (Nat.le_of_ble_eq_true rfl) (Nat.le_of_ble_eq_true rfl) (s_slot s p) ?_
  refine v_ald hT rfl (by first | assumption | rfl) (by omega) (by decide) (by omega) ?_
  refine v_ret hT rfl (fun z => by cases z) rfl ⟨rfl, rfl⟩
theorem s_lengthOf {b n s p k : Nat} {kf : Nat → Nat} {f : Nat → Nat → Int32} (hb : isBk b) (hs : s * 8 + p < 16) (hk : k < 12) :
    Run n_X0_lengthOf 110 0 (ini n_X0_lengthOf [.ref b, .int (nI s), .int (nI p), .int (nI k)]) [] (HH n kf f) (Ret (some (.int (f (b + 3) ((s * 8 + p) * 12 + k)))) (HH n kf f)) := by
  have hT : mT n_X0_lengthOf = tb_X0_lengthOf := rfl
  obtain ⟨k0, k1, k2, k3, k4, k5, k6, k7, k8⟩ := bk_kd hb
  have hlt := bk_lt hb
  repeat (first | refine v_p hT rfl rfl ?_ | refine v_getr hT rfl rfl (by omega) rfl ?_ | refine v_getr hT rfl k0 (by omega) (bk_rr hb _ _ _ (by decide)) ?_ | refine v_geti hT rfl (by first | rfl | assumption) (by omega) ?_ | refine v_ald hT rfl (by first | assumption | rfl) (by omega) (by decide) (by omega) ?_ | simp only [nI_add, pk_mul])
  refine v_scall hT [.int (nI s), .int (nI p)] rfl rfl rfl rfl (Nat.le_of_ble_eq_true rfl) (Nat.le_of_ble_eq_true rfl) (s_slot s p) ?_
  repeat (first | refine v_p hT rfl rfl ?_ | refine v_getr hT rfl rfl (by omega) rfl ?_ | refine v_getr hT rfl k0 (by omega) (bk_rr hb _ _ _ (by decide)) ?_ | refine v_geti hT rfl (by first | rfl | assumption) (by omega) ?_ | refine v_ald hT rfl (by first | assumption | rfl) (by omega) (by decide) (by omega) ?_ | simp only [nI_add, pk_mul])
  refine v_ret hT rfl (fun z => by cases z) rfl ⟨rfl, rfl⟩
theorem s_lineOf {b n sl k w : Nat} {kf : Nat → Nat} {f : Nat → Nat → Int32} {ln : Nat → Nat} (hb : isBk b) (hs : sl < 16) (hk : k < 12) (hw : f (b + 4) (sl / 8) = nI w) (hw2 : w ≤ 1000) (hln : ∀ i, i ≤ k → f (b + 3) (sl * 12 + i) = nI (ln i)) (hl2 : ∀ i, i ≤ k → ln i ≤ 1000) :
    Run n_X0_lineOf 110 0 (ini n_X0_lineOf [.ref b, .int (nI sl), .int (nI k)]) [] (HH n kf f) (Ret (some (.int (nI (lineF w ln k).1))) (HH n kf f)) := by
  have hT : mT n_X0_lineOf = tb_X0_lineOf := rfl
  obtain ⟨k0, k1, k2, k3, k4, k5, k6, k7, k8⟩ := bk_kd hb
  have hlt := bk_lt hb
  have loop : ∀ dd i : Nat, i + dd = k + 1 → 1 ≤ i → Run n_X0_lineOf 110 34 [some (.ref b), some (.int (nI sl)), some (.int (nI k)), some (.int (nI w)), some (.int (nI (sl * 12))), some (.int (nI (lineF w ln (i - 1)).1)), some (.int (nI (lineF w ln (i - 1)).2)), some (.int (nI i)), none] [.int (nI k), .int (nI i)] (HH n kf f) (Ret (some (.int (nI (lineF w ln k).1))) (HH n kf f)) := by
    intro dd
    induction dd with
    | zero =>
      intro i hi h1
      refine g_cmp hT rfl (fun q => ?_) (fun q => ?_)
      · refine v_p hT rfl rfl ?_
        refine v_ret hT rfl (fun z => by cases z) rfl ⟨?_, rfl⟩
        rw [show i - 1 = k by omega]
      · exact absurd ((cj_gt (by omega) (by omega)).mpr (by omega)) q
    | succ dd ih =>
      intro i hi h1
      refine g_cmp hT rfl (fun q => ?_) (fun q => ?_)
      · exact absurd ((cj_gt (by omega) (by omega)).mp q) (by omega)
      · repeat (first | refine v_p hT rfl rfl ?_ | refine v_getr hT rfl rfl (by omega) rfl ?_ | refine v_getr hT rfl k0 (by omega) (bk_rr hb _ _ _ (by decide)) ?_ | refine v_geti hT rfl (by first | rfl | assumption) (by omega) ?_ | refine v_ald hT rfl (by first | assumption | rfl) (by omega) (by decide) (by omega) ?_ | simp only [nI_add, pk_mul, hln i (by omega)])
        have hu := lineF_used w 1000 ln (i - 1) hw2 (fun z hz => hl2 z (by omega))
        have hli := hl2 i (by omega)
        obtain ⟨j, rfl⟩ : ∃ j, i = j + 1 := ⟨i - 1, by omega⟩
        refine g_cmp hT rfl (fun q => ?_) (fun q => ?_)
        · have q := (cj_gt (by omega) (by omega)).mp q
          have e : lineF w ln (j + 1) = ((lineF w ln j).1 + 1, ln (j + 1)) := by
            show (if _ then _ else _) = _
            rw [if_neg (by simp at q; omega)]
          refine v_p hT rfl rfl ?_
          refine v_cv (ih (j + 1 + 1) (by omega) (by omega)) ⟨rfl, rfl, rfl, rfl, rfl, ?_, ?_, ?_, trivial⟩ ?_ rfl <;> simp [e, nI_add]
        · have q := (not_congr (cj_gt (by omega) (by omega))).mp q
          have e : lineF w ln (j + 1) = ((lineF w ln j).1, (lineF w ln j).2 + 1 + ln (j + 1)) := by
            show (if _ then _ else _) = _
            rw [if_pos (by simp at q; omega)]
          refine v_p hT rfl rfl ?_
          refine v_cv (ih (j + 1 + 1) (by omega) (by omega)) ⟨rfl, rfl, rfl, rfl, rfl, ?_, ?_, ?_, trivial⟩ ?_ rfl <;> simp [e, nI_add, Nat.add_assoc]
  refine v_p hT rfl rfl ?_
  refine v_getr hT rfl k0 (by omega) (bk_rr hb _ _ _ (by decide)) ?_
  refine v_p hT rfl rfl ?_
  refine g_divN hT rfl (by omega) (by omega) (by omega) ?_
  refine v_ald hT rfl (by first | assumption | rfl) (by omega) (by decide) (by omega) ?_
  rw [hw]
  repeat (first | refine v_p hT rfl rfl ?_ | refine v_getr hT rfl rfl (by omega) rfl ?_ | refine v_getr hT rfl k0 (by omega) (bk_rr hb _ _ _ (by decide)) ?_ | refine v_geti hT rfl (by first | rfl | assumption) (by omega) ?_ | refine v_ald hT rfl (by first | assumption | rfl) (by omega) (by decide) (by omega) ?_ | simp only [nI_add, pk_mul, show f (b + 3) (sl * 12) = nI (ln 0) from hln 0 (by omega)])
  exact loop k 1 (by omega) (by omega)
theorem s_hasTie {b n : Nat} {kf : Nat → Nat} {f : Nat → Nat → Int32} {nt : Nat} (hb : isBk b) (hR : f b 8 = nI nt) (hn : nt ≤ 10) (i : Int32) :
    Run n_X0_hasTie 110 0 (ini n_X0_hasTie [.ref b, .int i]) [] (HH n kf f) (Ret (some (.int (bI (pB (∃ k, k < nt ∧ i = nI k))))) (HH n kf f)) := by
  have hT : mT n_X0_hasTie = tb_X0_hasTie := rfl
  obtain ⟨k0, k1, k2, k3, k4, k5, k6, k7, k8⟩ := bk_kd hb
  have hlt := bk_lt hb
  refine v_p hT rfl rfl ?_
  refine g_if hT rfl (fun q => ?_) (fun q => ?_)
  · have q : i < 0 := q
    refine v_p hT rfl rfl ?_
    refine v_ret hT rfl (fun _ => Or.inl rfl) rfl ⟨?_, rfl⟩
    rw [pB_f]
    · rfl
    · intro ⟨k, h1, h2⟩
      rw [h2] at q
      exact nI_pos (by omega) q
  · have q : ¬ i < 0 := q
    obtain ⟨k, hk, rfl⟩ := nI_of q
    repeat (first | refine v_p hT rfl rfl ?_ | refine v_getr hT rfl rfl (by omega) rfl ?_ | refine v_getr hT rfl k0 (by omega) (bk_rr hb _ _ _ (by decide)) ?_ | refine v_geti hT rfl (by first | rfl | assumption) (by omega) ?_ | refine v_ald hT rfl (by first | assumption | rfl) (by omega) (by decide) (by omega) ?_ | simp only [nI_add, pk_mul, hR])
    refine g_cmp hT rfl (fun q3 => ?_) (fun q3 => ?_)
    · have q3 := (cj_ge hk (by omega)).mp q3
      refine v_p hT rfl rfl ?_
      refine v_ret hT rfl (fun _ => Or.inl rfl) rfl ⟨?_, rfl⟩
      rw [pB_f]
      · rfl
      · intro ⟨k2, h1, h2⟩
        have e2 := (nI_eq hk (by omega)).mp h2
        omega
    · have q3 := (not_congr (cj_ge hk (by omega))).mp q3
      refine v_p hT rfl rfl ?_
      refine v_ret hT rfl (fun _ => Or.inr rfl) rfl ⟨?_, rfl⟩
      rw [pB_t ⟨k, by omega, rfl⟩]
      rfl
/-- lines of the paragraph in a slot, whose words are there -/
theorem s_linesIn {b n sl w nw : Nat} {kf : Nat → Nat} {f : Nat → Nat → Int32} {ln : Nat → Nat} (hb : isBk b) (hs : sl < 16) (hnw : f (b + 2) sl = nI nw) (h1 : 1 ≤ nw) (h12 : nw ≤ 12) (hw : f (b + 4) (sl / 8) = nI w) (hw2 : w ≤ 1000) (hln : ∀ i, i < nw → f (b + 3) (sl * 12 + i) = nI (ln i)) (hl2 : ∀ i, i < nw → ln i ≤ 1000) :
    Run n_X0_linesIn 110 0 (ini n_X0_linesIn [.ref b, .int (nI sl)]) [] (HH n kf f) (Ret (some (.int (nI ((lineF w ln (nw - 1)).1 + 1)))) (HH n kf f)) := by
  have hT : mT n_X0_linesIn = tb_X0_linesIn := rfl
  obtain ⟨k0, k1, k2, k3, k4, k5, k6, k7, k8⟩ := bk_kd hb
  have hlt := bk_lt hb
  repeat (first | refine v_p hT rfl rfl ?_ | refine v_getr hT rfl rfl (by omega) rfl ?_ | refine v_getr hT rfl k0 (by omega) (bk_rr hb _ _ _ (by decide)) ?_ | refine v_geti hT rfl (by first | rfl | assumption) (by omega) ?_ | refine v_ald hT rfl (by first | assumption | rfl) (by omega) (by decide) (by omega) ?_ | simp only [nI_add, pk_mul, hnw])
  rw [pk_sub h1]
  refine v_call hT [.int (nI sl), .int (nI (nw - 1))] rfl rfl (by first | rfl | assumption) (by omega) rfl rfl (Nat.le_of_ble_eq_true rfl) (Nat.le_of_ble_eq_true rfl) (s_lineOf hb hs (show nw - 1 < 12 by omega) hw hw2 (fun i hi => hln i (by omega)) (fun i hi => hl2 i (by omega))) ?_
  repeat (first | refine v_p hT rfl rfl ?_ | refine v_getr hT rfl rfl (by omega) rfl ?_ | refine v_getr hT rfl k0 (by omega) (bk_rr hb _ _ _ (by decide)) ?_ | refine v_geti hT rfl (by first | rfl | assumption) (by omega) ?_ | refine v_ald hT rfl (by first | assumption | rfl) (by omega) (by decide) (by omega) ?_ | simp only [nI_add, pk_mul])
  refine v_ret hT rfl (fun z => by cases z) rfl ⟨rfl, rfl⟩
theorem sl_div {s p : Nat} (hp : p < 8) : (s * 8 + p) / 8 = s := by omega
theorem s_linesInB {b n s p : Nat} {kf : Nat → Nat} {f : Nat → Nat → Int32} {B : BK} (hb : isBk b) (hR : bkR f b B) (hV : VB0 B) (hs : s < 2) (hp : p < bNp B s) :
    Run n_X0_linesIn 110 0 (ini n_X0_linesIn [.ref b, .int (nI (s * 8 + p))]) [] (HH n kf f) (Ret (some (.int (nI (linF B s p)))) (HH n kf f)) := by
  have h8 := hV.1 s hs
  have hw := hV.2.1 s p hs hp
  have hd := hV.2.2.1 s hs
  have hq := hR.2.1 s p hs hp
  exact s_linesIn hb (by omega) hq.1 hw.1 hw.2.1 (by rw [sl_div (by omega)]; exact hR.2.2.1 s hs) (by omega) hq.2 (fun i hi => by have := hw.2.2 i hi; omega)
theorem s_linesOfSide {b n s : Nat} {kf : Nat → Nat} {f : Nat → Nat → Int32} {B : BK} (hb : isBk b) (hR : bkR f b B) (hV : VB0 B) (hs : s < 2) :
    Run n_X0_linesOfSide 110 0 (ini n_X0_linesOfSide [.ref b, .int (nI s)]) [] (HH n kf f) (Ret (some (.int (nI (totF B s)))) (HH n kf f)) := by
  have hT : mT n_X0_linesOfSide = tb_X0_linesOfSide := rfl
  obtain ⟨k0, k1, k2, k3, k4, k5, k6, k7, k8⟩ := bk_kd hb
  have hlt := bk_lt hb
  have h8 := hV.1 s hs
  have loop : ∀ dd p : Nat, p + dd = bNp B s → Run n_X0_linesOfSide 110 11 [some (.ref b), some (.int (nI s)), some (.int (nI (fstF B s p))), some (.int (nI p))] [.int (nI (bNp B s)), .int (nI p)] (HH n kf f) (Ret (some (.int (nI (totF B s)))) (HH n kf f)) := by
    intro dd
    induction dd with
    | zero =>
      intro p hp
      refine g_cmp hT rfl (fun q => ?_) (fun q => ?_)
      · refine v_p hT rfl rfl ?_
        refine v_ret hT rfl (fun z => by cases z) rfl ⟨?_, rfl⟩
        rw [show p = bNp B s by omega]
        rfl
      · exact absurd ((cj_ge (by omega) (by omega)).mpr (by omega)) q
    | succ dd ih =>
      intro p hp
      refine g_cmp hT rfl (fun q => ?_) (fun q => ?_)
      · exact absurd ((cj_ge (by omega) (by omega)).mp q) (by omega)
      · refine v_p hT rfl rfl ?_
        refine v_scall hT [.int (nI s), .int (nI p)] rfl rfl rfl rfl (Nat.le_of_ble_eq_true rfl) (Nat.le_of_ble_eq_true rfl) (s_slot s p) ?_
        refine v_call hT [.int (nI (s * 8 + p))] rfl rfl (by first | rfl | assumption) (by omega) rfl rfl (Nat.le_of_ble_eq_true rfl) (Nat.le_of_ble_eq_true rfl) (s_linesInB hb hR hV hs (show p < bNp B s by omega)) ?_
        repeat (first | refine v_p hT rfl rfl ?_ | refine v_getr hT rfl rfl (by omega) rfl ?_ | refine v_getr hT rfl k0 (by omega) (bk_rr hb _ _ _ (by decide)) ?_ | refine v_geti hT rfl (by first | rfl | assumption) (by omega) ?_ | refine v_ald hT rfl (by first | assumption | rfl) (by omega) (by decide) (by omega) ?_ | simp only [nI_add, pk_mul, hR.1 s hs])
        exact ih (p + 1) (by omega)
  repeat (first | refine v_p hT rfl rfl ?_ | refine v_getr hT rfl rfl (by omega) rfl ?_ | refine v_getr hT rfl k0 (by omega) (bk_rr hb _ _ _ (by decide)) ?_ | refine v_geti hT rfl (by first | rfl | assumption) (by omega) ?_ | refine v_ald hT rfl (by first | assumption | rfl) (by omega) (by decide) (by omega) ?_ | simp only [nI_add, pk_mul, hR.1 s hs])
  exact loop (bNp B s) 0 (by omega)
end
section
/-! THE CLASS: a book's changes. -/
theorem s_copyRow {o o2 N n : Nat} {kf : Nat → Nat} {F : Nat → Nat → Int32} (hk : kd o = (1, N)) (hk2 : kd o2 = (1, N)) (ho : o < 110) (ho2 : o2 < 110) (hN : N < 2 ^ 31) :
    Run n_X0_copyRow 110 0 (ini n_X0_copyRow [.ref o, .ref o2]) [] (HH n kf F) (Ret none (HH n kf (hputs F o2 (va_cpy (F o) (F o2) 0 0 N)))) := by
  have hT : mT n_X0_copyRow = tb_X0_copyRow := rfl
  refine v_p hT rfl rfl ?_
  refine v_len hT rfl hk ho ?_
  refine v_p hT rfl rfl ?_
  refine v_len hT rfl hk2 ho2 ?_
  refine g_minN hT rfl (Nat.le_of_ble_eq_true rfl) hN hN ?_
  rw [Nat.min_self]
  refine v_cpy hT rfl hk hk2 ho ho2 (by omega) (by omega) (Nat.le_of_ble_eq_true rfl) ?_
  refine v_vret hT rfl rfl ⟨rfl, rfl⟩
def bsz (i : Nat) : Nat := match i with
  | 0 => 2 | 1 => 16 | 2 => 192 | 3 => 2 | 4 => 3 | _ => 10
def TFk (f : Nat → Nat → Int32) (b b2 : Nat) : Nat → Nat → Nat → Int32
  | 0 => f
  | i + 1 => hputs (TFk f b b2 i) (b + 1 + i) (va_cpy (TFk f b b2 i (b2 + 1 + i)) (TFk f b b2 i (b + 1 + i)) 0 0 (bsz i))
/-- the heap behind b.takeFrom(b2) -/
def TF (f : Nat → Nat → Int32) (b b2 : Nat) : Nat → Nat → Int32 := hset (TFk f b b2 8) b 8 (TFk f b b2 8 b2 8)
theorem TFk_out {f : Nat → Nat → Int32} {b b2 c : Nat} : ∀ i, (∀ j, j < i → c ≠ b + 1 + j) → TFk f b b2 i c = f c := by
  intro i
  induction i with
  | zero => intro _; rfl
  | succ i ih =>
    intro h
    show hputs _ _ _ c = _
    rw [hputs_ne (h i (by omega)), ih (fun j hj => h j (by omega))]
theorem TFk_in {f : Nat → Nat → Int32} {b b2 : Nat} (hd : b + 9 ≤ b2 ∨ b2 + 9 ≤ b) : ∀ i, i ≤ 8 → ∀ j, j < i → ∀ x, x < bsz j → TFk f b b2 i (b + 1 + j) x = f (b2 + 1 + j) x := by
  intro i
  induction i with
  | zero => intro _ j hj; omega
  | succ i ih =>
    intro hi j hj x hx
    show hputs _ _ _ _ x = _
    by_cases hji : j = i
    · subst hji
      simp only [hputs, if_pos]
      rw [pk_cpy_in (by omega) (by omega), TFk_out (c := b2 + 1 + j) _ (fun z hz => by omega)]
      congr 1
      omega
    · rw [hputs_ne (by omega)]
      exact ih (by omega) j (by omega) x hx
theorem TF_out {f : Nat → Nat → Int32} {b b2 c : Nat} (h : c < b ∨ b + 8 < c) : TF f b b2 c = f c := by
  unfold TF
  rw [hset_ne (by omega), TFk_out _ (fun j hj => by omega)]
theorem TF_in {f : Nat → Nat → Int32} {b b2 : Nat} (hd : b + 9 ≤ b2 ∨ b2 + 9 ≤ b) {i x : Nat} (hi : 1 ≤ i) (hi8 : i ≤ 8) (hx : x < bsz (i - 1)) : TF f b b2 (b + i) x = f (b2 + i) x := by
  unfold TF
  rw [hset_ne (by omega)]
  have h1 := TFk_in (f := f) hd 8 (by omega) (i - 1) (by omega) x hx
  rw [show b + 1 + (i - 1) = b + i by omega, show b2 + 1 + (i - 1) = b2 + i by omega] at h1
  exact h1
theorem TF_cnt {f : Nat → Nat → Int32} {b b2 : Nat} (hd : b + 9 ≤ b2 ∨ b2 + 9 ≤ b) : TF f b b2 b 8 = f b2 8 := by
  unfold TF
  simp only [hset, if_pos, upd]
  rw [TFk_out (c := b2) _ (fun j hj => by omega)]
theorem bk_dis {b b2 : Nat} (h : isBk b) (h2 : isBk b2) (hn : b ≠ b2) : b + 9 ≤ b2 ∨ b2 + 9 ≤ b := by
  rcases h with rfl | rfl | rfl | rfl | rfl | rfl | rfl | rfl <;> rcases h2 with rfl | rfl | rfl | rfl | rfl | rfl | rfl | rfl <;> omega
/-- what a book's cells hold, told of another heap that has the same there -/
theorem bkR_to {f f2 : Nat → Nat → Int32} {b b2 : Nat} {B : BK} (hV : VB0 B) (h : bkR f b B) (hc : f2 b2 8 = f b 8) (hi : ∀ i x, 1 ≤ i → i ≤ 8 → x < bsz (i - 1) → f2 (b2 + i) x = f (b + i) x) : bkR f2 b2 B := by
  obtain ⟨h1, h2, h3, h4, h5, h6⟩ := h
  refine ⟨fun s hs => ?_, fun s p hs hp => ?_, fun s hs => ?_, fun i hi3 => ?_, ?_, fun i hit => ?_⟩
  · rw [hi 1 s (by omega) (by omega) hs]; exact h1 s hs
  · have h8 := hV.1 s hs
    have hw := (hV.2.1 s p hs hp).2.1
    refine ⟨?_, fun k hk => ?_⟩
    · rw [hi 2 _ (by omega) (by omega) (by show s * 8 + p < 16; omega)]; exact (h2 s p hs hp).1
    · rw [hi 3 _ (by omega) (by omega) (by show _ < 192; omega)]; exact (h2 s p hs hp).2 k hk
  · rw [hi 4 s (by omega) (by omega) hs]; exact h3 s hs
  · rw [hi 5 i (by omega) (by omega) hi3]; exact h4 i hi3
  · rw [hc]; exact h5
  · have h10 := hV.2.2.2.2.1
    rw [hi 6 i (by omega) (by omega) (by show i < 10; omega), hi 7 i (by omega) (by omega) (by show i < 10; omega), hi 8 i (by omega) (by omega) (by show i < 10; omega)]
    exact h6 i hit
theorem bkR_TF {f : Nat → Nat → Int32} {b b2 : Nat} {B : BK} (hd : b + 9 ≤ b2 ∨ b2 + 9 ≤ b) (hV : VB0 B) (h : bkR f b2 B) : bkR (TF f b b2) b B := bkR_to hV h (TF_cnt hd) (fun i x h1 h2 h3 => TF_in hd h1 h2 h3)
theorem bkR_eq {f f2 : Nat → Nat → Int32} {b : Nat} {B : BK} (hV : VB0 B) (h : bkR f b B) (hc : ∀ c, b ≤ c → c ≤ b + 8 → f2 c = f c) : bkR f2 b B := bkR_to hV h (by rw [hc b (by omega) (by omega)]) (fun i x h1 h2 _ => by rw [hc (b + i) (by omega) (by omega)])
theorem s_takeFrom {b b2 n : Nat} {kf : Nat → Nat} {f : Nat → Nat → Int32} (hb : isBk b) (hb2 : isBk b2) :
    Run n_X0_takeFrom 110 0 (ini n_X0_takeFrom [.ref b, .ref b2]) [] (HH n kf f) (Ret none (HH n kf (TF f b b2))) := by
  have hT : mT n_X0_takeFrom = tb_X0_takeFrom := rfl
  obtain ⟨k0, k1, k2, k3, k4, k5, k6, k7, k8⟩ := bk_kd hb
  have hlt := bk_lt hb
  obtain ⟨l0, l1, l2, l3, l4, l5, l6, l7, l8⟩ := bk_kd hb2
  have hlt2 := bk_lt hb2
  refine v_p hT rfl rfl ?_
  refine v_getr hT rfl l0 (by omega) (bk_rr hb2 _ _ _ (by decide)) ?_
  refine v_p hT rfl rfl ?_
  refine v_getr hT rfl k0 (by omega) (bk_rr hb _ _ _ (by decide)) ?_
  refine v_scall hT [.ref (b2 + 1), .ref (b + 1)] rfl rfl rfl rfl (Nat.le_of_ble_eq_true rfl) (Nat.le_of_ble_eq_true rfl) (s_copyRow l1 k1 (by omega) (by omega) (by decide)) ?_
  refine v_p hT rfl rfl ?_
  refine v_getr hT rfl l0 (by omega) (bk_rr hb2 _ _ _ (by decide)) ?_
  refine v_p hT rfl rfl ?_
  refine v_getr hT rfl k0 (by omega) (bk_rr hb _ _ _ (by decide)) ?_
  refine v_scall hT [.ref (b2 + 2), .ref (b + 2)] rfl rfl rfl rfl (Nat.le_of_ble_eq_true rfl) (Nat.le_of_ble_eq_true rfl) (s_copyRow l2 k2 (by omega) (by omega) (by decide)) ?_
  refine v_p hT rfl rfl ?_
  refine v_getr hT rfl l0 (by omega) (bk_rr hb2 _ _ _ (by decide)) ?_
  refine v_p hT rfl rfl ?_
  refine v_getr hT rfl k0 (by omega) (bk_rr hb _ _ _ (by decide)) ?_
  refine v_scall hT [.ref (b2 + 3), .ref (b + 3)] rfl rfl rfl rfl (Nat.le_of_ble_eq_true rfl) (Nat.le_of_ble_eq_true rfl) (s_copyRow l3 k3 (by omega) (by omega) (by decide)) ?_
  refine v_p hT rfl rfl ?_
  refine v_getr hT rfl l0 (by omega) (bk_rr hb2 _ _ _ (by decide)) ?_
  refine v_p hT rfl rfl ?_
  refine v_getr hT rfl k0 (by omega) (bk_rr hb _ _ _ (by decide)) ?_
  refine v_scall hT [.ref (b2 + 4), .ref (b + 4)] rfl rfl rfl rfl (Nat.le_of_ble_eq_true rfl) (Nat.le_of_ble_eq_true rfl) (s_copyRow l4 k4 (by omega) (by omega) (by decide)) ?_
  refine v_p hT rfl rfl ?_
  refine v_getr hT rfl l0 (by omega) (bk_rr hb2 _ _ _ (by decide)) ?_
  refine v_p hT rfl rfl ?_
  refine v_getr hT rfl k0 (by omega) (bk_rr hb _ _ _ (by decide)) ?_
  refine v_scall hT [.ref (b2 + 5), .ref (b + 5)] rfl rfl rfl rfl (Nat.le_of_ble_eq_true rfl) (Nat.le_of_ble_eq_true rfl) (s_copyRow l5 k5 (by omega) (by omega) (by decide)) ?_
  refine v_p hT rfl rfl ?_
  refine v_getr hT rfl l0 (by omega) (bk_rr hb2 _ _ _ (by decide)) ?_
  refine v_p hT rfl rfl ?_
  refine v_getr hT rfl k0 (by omega) (bk_rr hb _ _ _ (by decide)) ?_
  refine v_scall hT [.ref (b2 + 6), .ref (b + 6)] rfl rfl rfl rfl (Nat.le_of_ble_eq_true rfl) (Nat.le_of_ble_eq_true rfl) (s_copyRow l6 k6 (by omega) (by omega) (by decide)) ?_
  refine v_p hT rfl rfl ?_
  refine v_getr hT rfl l0 (by omega) (bk_rr hb2 _ _ _ (by decide)) ?_
  refine v_p hT rfl rfl ?_
  refine v_getr hT rfl k0 (by omega) (bk_rr hb _ _ _ (by decide)) ?_
  refine v_scall hT [.ref (b2 + 7), .ref (b + 7)] rfl rfl rfl rfl (Nat.le_of_ble_eq_true rfl) (Nat.le_of_ble_eq_true rfl) (s_copyRow l7 k7 (by omega) (by omega) (by decide)) ?_
  refine v_p hT rfl rfl ?_
  refine v_getr hT rfl l0 (by omega) (bk_rr hb2 _ _ _ (by decide)) ?_
  refine v_p hT rfl rfl ?_
  refine v_getr hT rfl k0 (by omega) (bk_rr hb _ _ _ (by decide)) ?_
  refine v_scall hT [.ref (b2 + 8), .ref (b + 8)] rfl rfl rfl rfl (Nat.le_of_ble_eq_true rfl) (Nat.le_of_ble_eq_true rfl) (s_copyRow l8 k8 (by omega) (by omega) (by decide)) ?_
  refine v_p hT rfl rfl ?_
  refine v_geti hT rfl (by first | rfl | assumption) (by omega) ?_
  refine v_puti hT rfl k0 (by omega) (fun z => by cases z) ?_
  refine v_vret hT rfl rfl ⟨rfl, rfl⟩
end
section
/-! THE CLASS: ties, widths, settings of a book. -/
def bTieAdd (B : BK) (p q w : Nat) : BK := (bNp B, bNw B, bLn B, bWd B, bSe B, bNt B + 1, fun z i => if i = bNt B then (if z = 0 then p else if z = 1 then q else w) else bTi B z i)
noncomputable def aTie (B : BK) (p q w : Int32) : Int32 × BK :=
  bif isPa B (nI 0) p && isPa B (nI 1) q && decide (nI 1 ≤ w ∧ w ≤ nI 9) then
    (bif pB (∃ i, i < bNt B ∧ nI (bTi B 0 i) = p ∧ nI (bTi B 1 i) = q) then (mI 3, B) else bif decide (10 ≤ bNt B) then (mI 4, B) else (nI (bNt B), bTieAdd B p.toNatClampNeg q.toNatClampNeg w.toNatClampNeg)) else (mI 2, B)
theorem hs_b (f : Nat → Nat → Int32) (b i j k : Nat) (x : Int32) (h : j ≠ i) : hset f (b + i) k x (b + j) = f (b + j) := hset_ne (by omega)
theorem hs_b0 (f : Nat → Nat → Int32) (b i k : Nat) (x : Int32) (h : 0 < i) : hset f (b + i) k x b = f b := hset_ne (by omega)
theorem hs_0b (f : Nat → Nat → Int32) (b j k : Nat) (x : Int32) (h : 0 < j) : hset f b k x (b + j) = f (b + j) := hset_ne (by omega)
theorem hs_s (f : Nat → Nat → Int32) (o k : Nat) (x : Int32) : hset f o k x o = upd (f o) k x := by simp [hset]
theorem bkR_tieAdd {f : Nat → Nat → Int32} {b p q w : Nat} {B : BK} (hR : bkR f b B) : bkR (hset (hset (hset (hset f (b + 6) (bNt B) (nI p)) (b + 7) (bNt B) (nI q)) (b + 8) (bNt B) (nI w)) b 8 (nI (bNt B + 1))) b (bTieAdd B p q w) := by
  obtain ⟨h1, h2, h3, h4, h5, h6⟩ := hR
  refine ⟨fun s hs => ?_, fun s p hs hp => ?_, fun s hs => ?_, fun i hi3 => ?_, ?_, fun i hit => ?_⟩
  · simpa [hset, bTieAdd] using h1 s hs
  · simpa [hset, bTieAdd] using h2 s p hs hp
  · simpa [hset, bTieAdd] using h3 s hs
  · simpa [hset, bTieAdd] using h4 i hi3
  · simp [hset, upd, bTieAdd]
  · have hit : i < bNt B + 1 := hit
    by_cases hi : i = bNt B
    · subst hi
      simp [hset, upd, bTieAdd, bTi]
    · have := h6 i (by omega)
      simpa [hset, upd, bTieAdd, hi, bTi] using this
theorem s_addTie {b n : Nat} {kf : Nat → Nat} {f : Nat → Nat → Int32} {B : BK} (hb : isBk b) (hR : bkR f b B) (hV : VB0 B) (p q w : Int32) :
    ∃ f2, Run n_X0_addTie 110 0 (ini n_X0_addTie [.ref b, .int p, .int q, .int w]) [] (HH n kf f) (Ret (some (.int (aTie B p q w).1)) (HH n kf f2)) ∧ bkR f2 b (aTie B p q w).2 ∧ ∀ c, c < b ∨ b + 8 < c → f2 c = f c := by
  have hT : mT n_X0_addTie = tb_X0_addTie := rfl
  obtain ⟨k0, k1, k2, k3, k4, k5, k6, k7, k8⟩ := bk_kd hb
  have hlt := bk_lt hb
  have h10 := hV.2.2.2.2.1
  have h81 := hV.1 0 (by omega)
  have h82 := hV.1 1 (by omega)
  by_cases hA : isPa B (nI 0) p = true ∧ isPa B (nI 1) q = true ∧ nI 1 ≤ w ∧ w ≤ nI 9
  · obtain ⟨hp, hq, hw⟩ := hA
    have hdw : decide (nI 1 ≤ w ∧ w ≤ nI 9) = true := decide_eq_true hw
    have hto : aTie B p q w = bif pB (∃ i, i < bNt B ∧ nI (bTi B 0 i) = p ∧ nI (bTi B 1 i) = q) then (mI 3, B) else bif decide (10 ≤ bNt B) then (mI 4, B) else (nI (bNt B), bTieAdd B p.toNatClampNeg q.toNatClampNeg w.toNatClampNeg) := by unfold aTie; rw [hp, hq, hdw]; rfl
    obtain ⟨z0, p2, hz0, hp2, ez0, ep⟩ := isPa_of hp
    obtain ⟨z1, q2, hz1, hq2, ez1, eq⟩ := isPa_of hq
    have ez0' : 0 = z0 := (nI_eq (by omega) (by omega)).mp ez0
    have ez1' : 1 = z1 := (nI_eq (by omega) (by omega)).mp ez1
    subst ez0'
    subst ez1'
    obtain ⟨w2, hw1, hw9, ew⟩ := in_range w (by omega) hw (by omega)
    have ti : ∀ i, i < bNt B → bTi B 0 i < 8 ∧ bTi B 1 i < 8 := fun i hi => by have := hV.2.2.2.2.2 i hi; omega
    have hstart : ∀ Φ, Run n_X0_addTie 110 40 [some (.ref b), some (.int p), some (.int q), some (.int w), some (.int (nI 0))] [.int (nI (bNt B)), .int (nI 0)] (HH n kf f) Φ → Run n_X0_addTie 110 0 (ini n_X0_addTie [.ref b, .int p, .int q, .int w]) [] (HH n kf f) Φ := by
      intro Φ hΦ
      refine v_p hT rfl rfl ?_
      refine v_call hT [.int (nI 0), .int p] rfl rfl (by first | rfl | assumption) (by omega) rfl rfl (Nat.le_of_ble_eq_true rfl) (Nat.le_of_ble_eq_true rfl) (s_hasParagraph hb hR hV (nI 0) p) ?_
      rw [hp]
      refine g_if hT rfl (fun cq => ?_) (fun cq => ?_)
      · exact absurd (show (1 : Int32) = 0 from cq) (by decide)
      · refine v_p hT rfl rfl ?_
        refine v_call hT [.int (nI 1), .int q] rfl rfl (by first | rfl | assumption) (by omega) rfl rfl (Nat.le_of_ble_eq_true rfl) (Nat.le_of_ble_eq_true rfl) (s_hasParagraph hb hR hV (nI 1) q) ?_
        rw [hq]
        refine g_if hT rfl (fun cq => ?_) (fun cq => ?_)
        · exact absurd (show (1 : Int32) = 0 from cq) (by decide)
        · refine v_p hT rfl rfl ?_
          refine v_scall hT [.int w, .int (nI 1), .int (nI 9)] rfl rfl rfl rfl (Nat.le_of_ble_eq_true rfl) (Nat.le_of_ble_eq_true rfl) (s_within w (nI 1) (nI 9)) ?_
          rw [hdw]
          refine g_if hT rfl (fun cq => ?_) (fun cq => ?_)
          · refine v_p hT rfl rfl ?_
            refine v_geti hT rfl (by first | rfl | assumption) (by omega) ?_
            rw [hR.2.2.2.2.1]
            exact hΦ
          · exact absurd (show ¬ (1 : Int32) = 0 by decide) cq
    by_cases hex : ∃ i, i < bNt B ∧ nI (bTi B 0 i) = p ∧ nI (bTi B 1 i) = q
    · rw [hto, pB_t hex]
      refine ⟨f, hstart _ ?_, hR, fun _ _ => rfl⟩
      have loop : ∀ dd i : Nat, i + dd = bNt B → (∀ j, j < i → ¬ (nI (bTi B 0 j) = p ∧ nI (bTi B 1 j) = q)) → Run n_X0_addTie 110 40 [some (.ref b), some (.int p), some (.int q), some (.int w), some (.int (nI i))] [.int (nI (bNt B)), .int (nI i)] (HH n kf f) (Ret (some (.int (mI 3))) (HH n kf f)) := by
        intro dd
        induction dd with
        | zero =>
          intro i hi hno
          obtain ⟨j, hj, hj2⟩ := hex
          exact absurd hj2 (hno j (by omega))
        | succ dd ih =>
          intro i hi hno
          refine g_cmp hT rfl (fun cq => ?_) (fun cq => ?_)
          · exact absurd ((cj_ge (by omega) (by omega)).mp cq) (by omega)
          · have hit := hR.2.2.2.2.2 i (by omega)
            repeat (first | refine v_p hT rfl rfl ?_ | refine v_getr hT rfl rfl (by omega) rfl ?_ | refine v_getr hT rfl k0 (by omega) (bk_rr hb _ _ _ (by decide)) ?_ | refine v_geti hT rfl (by first | rfl | assumption) (by omega) ?_ | refine v_ald hT rfl (by first | assumption | rfl) (by omega) (by decide) (by omega) ?_ | simp only [nI_add, pk_mul, hit.1])
            have back : ¬ (nI (bTi B 0 i) = p ∧ nI (bTi B 1 i) = q) → Run n_X0_addTie 110 68 [some (.ref b), some (.int p), some (.int q), some (.int w), some (.int (nI i))] [] (HH n kf f) (Ret (some (.int (mI 3))) (HH n kf f)) := by
              intro hne
              repeat (first | refine v_p hT rfl rfl ?_ | refine v_getr hT rfl rfl (by omega) rfl ?_ | refine v_getr hT rfl k0 (by omega) (bk_rr hb _ _ _ (by decide)) ?_ | refine v_geti hT rfl (by first | rfl | assumption) (by omega) ?_ | refine v_ald hT rfl (by first | assumption | rfl) (by omega) (by decide) (by omega) ?_ | simp only [nI_add, pk_mul, hR.2.2.2.2.1])
              exact ih (i + 1) (by omega) (fun j hj => by
                by_cases hji : j = i
                · subst hji; exact hne
                · exact hno j (by omega))
            refine g_cmp hT rfl (fun q1 => ?_) (fun q1 => ?_)
            · exact back (fun z => q1 z.1)
            · have q1 : nI (bTi B 0 i) = p := Classical.byContradiction q1
              repeat (first | refine v_p hT rfl rfl ?_ | refine v_getr hT rfl rfl (by omega) rfl ?_ | refine v_getr hT rfl k0 (by omega) (bk_rr hb _ _ _ (by decide)) ?_ | refine v_geti hT rfl (by first | rfl | assumption) (by omega) ?_ | refine v_ald hT rfl (by first | assumption | rfl) (by omega) (by decide) (by omega) ?_ | simp only [nI_add, pk_mul, hit.2.1])
              refine g_cmp hT rfl (fun q2 => ?_) (fun q2 => ?_)
              · exact back (fun z => q2 z.2)
              · refine v_p hT rfl rfl ?_
                refine v_ret hT rfl (fun z => by cases z) rfl ⟨rfl, rfl⟩
      exact loop (bNt B) 0 (by omega) (fun j hj => by omega)
    · rw [hto, pB_f hex]
      have loop : ∀ Φ, Run n_X0_addTie 110 74 [some (.ref b), some (.int p), some (.int q), some (.int w), none] [] (HH n kf f) Φ → ∀ dd i : Nat, i + dd = bNt B → Run n_X0_addTie 110 40 [some (.ref b), some (.int p), some (.int q), some (.int w), some (.int (nI i))] [.int (nI (bNt B)), .int (nI i)] (HH n kf f) Φ := by
        intro Φ hΦ dd
        induction dd with
        | zero =>
          intro i hi
          refine g_cmp hT rfl (fun cq => ?_) (fun cq => ?_)
          · exact v_cv hΦ ⟨rfl, rfl, rfl, rfl, trivial⟩ rfl rfl
          · exact absurd ((cj_ge (by omega) (by omega)).mpr (by omega)) cq
        | succ dd ih =>
          intro i hi
          refine g_cmp hT rfl (fun cq => ?_) (fun cq => ?_)
          · exact absurd ((cj_ge (by omega) (by omega)).mp cq) (by omega)
          · have hit := hR.2.2.2.2.2 i (by omega)
            repeat (first | refine v_p hT rfl rfl ?_ | refine v_getr hT rfl rfl (by omega) rfl ?_ | refine v_getr hT rfl k0 (by omega) (bk_rr hb _ _ _ (by decide)) ?_ | refine v_geti hT rfl (by first | rfl | assumption) (by omega) ?_ | refine v_ald hT rfl (by first | assumption | rfl) (by omega) (by decide) (by omega) ?_ | simp only [nI_add, pk_mul, hit.1])
            have back : Run n_X0_addTie 110 68 [some (.ref b), some (.int p), some (.int q), some (.int w), some (.int (nI i))] [] (HH n kf f) Φ := by
              repeat (first | refine v_p hT rfl rfl ?_ | refine v_getr hT rfl rfl (by omega) rfl ?_ | refine v_getr hT rfl k0 (by omega) (bk_rr hb _ _ _ (by decide)) ?_ | refine v_geti hT rfl (by first | rfl | assumption) (by omega) ?_ | refine v_ald hT rfl (by first | assumption | rfl) (by omega) (by decide) (by omega) ?_ | simp only [nI_add, pk_mul, hR.2.2.2.2.1])
              exact ih (i + 1) (by omega)
            refine g_cmp hT rfl (fun q1 => ?_) (fun q1 => ?_)
            · exact back
            · have q1 : nI (bTi B 0 i) = p := Classical.byContradiction q1
              repeat (first | refine v_p hT rfl rfl ?_ | refine v_getr hT rfl rfl (by omega) rfl ?_ | refine v_getr hT rfl k0 (by omega) (bk_rr hb _ _ _ (by decide)) ?_ | refine v_geti hT rfl (by first | rfl | assumption) (by omega) ?_ | refine v_ald hT rfl (by first | assumption | rfl) (by omega) (by decide) (by omega) ?_ | simp only [nI_add, pk_mul, hit.2.1])
              refine g_cmp hT rfl (fun q2 => ?_) (fun q2 => ?_)
              · exact back
              · exact absurd ⟨i, by omega, q1, Classical.byContradiction q2⟩ hex
      by_cases h10b : 10 ≤ bNt B
      · rw [decide_eq_true h10b]
        refine ⟨f, hstart _ (loop _ ?_ (bNt B) 0 (by omega)), hR, fun _ _ => rfl⟩
        repeat (first | refine v_p hT rfl rfl ?_ | refine v_getr hT rfl rfl (by omega) rfl ?_ | refine v_getr hT rfl k0 (by omega) (bk_rr hb _ _ _ (by decide)) ?_ | refine v_geti hT rfl (by first | rfl | assumption) (by omega) ?_ | refine v_ald hT rfl (by first | assumption | rfl) (by omega) (by decide) (by omega) ?_ | simp only [nI_add, pk_mul, hR.2.2.2.2.1])
        refine g_cmp hT rfl (fun q1 => ?_) (fun q1 => ?_)
        · exact absurd ((cj_lt (by omega) (by omega)).mp q1) (by omega)
        · refine v_p hT rfl rfl ?_
          refine v_ret hT rfl (fun z => by cases z) rfl ⟨rfl, rfl⟩
      · rw [decide_eq_false h10b]
        subst ep
        subst eq
        subst ew
        refine ⟨hset (hset (hset (hset f (b + 6) (bNt B) (nI p2)) (b + 7) (bNt B) (nI q2)) (b + 8) (bNt B) (nI w2)) b 8 (nI (bNt B + 1)), hstart _ (loop _ ?_ (bNt B) 0 (by omega)), ?_, fun c hc => ?_⟩
        · have hn := hR.2.2.2.2.1
          repeat (first | refine v_p hT rfl rfl ?_ | refine v_getr hT rfl rfl (by omega) rfl ?_ | refine v_getr hT rfl k0 (by omega) (bk_rr hb _ _ _ (by decide)) ?_ | refine v_geti hT rfl (by first | rfl | assumption) (by omega) ?_ | refine v_ald hT rfl (by first | assumption | rfl) (by omega) (by decide) (by omega) ?_ | simp only [nI_add, pk_mul, hn])
          refine g_cmp hT rfl (fun q1 => ?_) (fun q1 => ?_)
          · repeat (first | refine v_p hT rfl rfl ?_ | refine v_getr hT rfl rfl (by omega) rfl ?_ | refine v_getr hT rfl k0 (by omega) (bk_rr hb _ _ _ (by decide)) ?_ | refine v_geti hT rfl (by first | rfl | assumption) (by omega) ?_ | refine v_ald hT rfl (by first | assumption | rfl) (by omega) (by decide) (by omega) ?_ | simp only [nI_add, pk_mul, hn])
            refine v_ast hT rfl k6 (by omega) (by decide) (by omega) ?_
            repeat (first | refine v_p hT rfl rfl ?_ | refine v_getr hT rfl rfl (by omega) rfl ?_ | refine v_getr hT rfl k0 (by omega) (bk_rr hb _ _ _ (by decide)) ?_ | refine v_geti hT rfl (by first | rfl | assumption) (by omega) ?_ | refine v_ald hT rfl (by first | assumption | rfl) (by omega) (by decide) (by omega) ?_ | simp only [nI_add, pk_mul, hn, hs_b0 _ b 6 _ _ (by decide)])
            refine v_ast hT rfl k7 (by omega) (by decide) (by omega) ?_
            repeat (first | refine v_p hT rfl rfl ?_ | refine v_getr hT rfl rfl (by omega) rfl ?_ | refine v_getr hT rfl k0 (by omega) (bk_rr hb _ _ _ (by decide)) ?_ | refine v_geti hT rfl (by first | rfl | assumption) (by omega) ?_ | refine v_ald hT rfl (by first | assumption | rfl) (by omega) (by decide) (by omega) ?_ | simp only [nI_add, pk_mul, hn, hs_b0 _ b 6 _ _ (by decide), hs_b0 _ b 7 _ _ (by decide)])
            refine v_ast hT rfl k8 (by omega) (by decide) (by omega) ?_
            repeat (first | refine v_p hT rfl rfl ?_ | refine v_getr hT rfl rfl (by omega) rfl ?_ | refine v_getr hT rfl k0 (by omega) (bk_rr hb _ _ _ (by decide)) ?_ | refine v_geti hT rfl (by first | rfl | assumption) (by omega) ?_ | refine v_ald hT rfl (by first | assumption | rfl) (by omega) (by decide) (by omega) ?_ | simp only [nI_add, pk_mul, hn, hs_b0 _ b 6 _ _ (by decide), hs_b0 _ b 7 _ _ (by decide), hs_b0 _ b 8 _ _ (by decide)])
            refine v_puti hT rfl k0 (by omega) (fun z => by cases z) ?_
            repeat (first | refine v_p hT rfl rfl ?_ | refine v_getr hT rfl rfl (by omega) rfl ?_ | refine v_getr hT rfl k0 (by omega) (bk_rr hb _ _ _ (by decide)) ?_ | refine v_geti hT rfl (by first | rfl | assumption) (by omega) ?_ | refine v_ald hT rfl (by first | assumption | rfl) (by omega) (by decide) (by omega) ?_ | simp only [nI_add, pk_mul, hs_s, upd])
            refine v_ret hT rfl (fun z => by cases z) rfl ⟨?_, rfl⟩
            rw [if_pos trivial, pk_sub (by omega)]
            rfl
          · exact absurd ((cj_lt (by omega) (by omega)).mpr (by omega)) q1
        · show bkR _ b (bTieAdd B (nI p2).toNatClampNeg (nI q2).toNatClampNeg (nI w2).toNatClampNeg)
          rw [nI_clamp (by omega), nI_clamp (by omega), nI_clamp (by omega)]
          exact bkR_tieAdd hR
        · rw [hset_ne (by omega), hset_ne (by omega), hset_ne (by omega), hset_ne (by omega)]
  · have hto : aTie B p q w = (mI 2, B) := by
      unfold aTie
      have hz : (isPa B (nI 0) p && isPa B (nI 1) q && decide (nI 1 ≤ w ∧ w ≤ nI 9)) = false := by
        rw [← Bool.not_eq_true]
        intro hz
        simp only [Bool.and_eq_true, decide_eq_true_eq] at hz
        exact hA ⟨hz.1.1, hz.1.2, hz.2⟩
      rw [hz]
      rfl
    rw [hto]
    refine ⟨f, ?_, hR, fun _ _ => rfl⟩
    have bad : Run n_X0_addTie 110 28 [some (.ref b), some (.int p), some (.int q), some (.int w), none] [] (HH n kf f) (Ret (some (.int (mI 2))) (HH n kf f)) := by
      refine v_p hT rfl rfl ?_
      refine v_ret hT rfl (fun z => by cases z) rfl ⟨rfl, rfl⟩
    refine v_p hT rfl rfl ?_
    refine v_call hT [.int (nI 0), .int p] rfl rfl (by first | rfl | assumption) (by omega) rfl rfl (Nat.le_of_ble_eq_true rfl) (Nat.le_of_ble_eq_true rfl) (s_hasParagraph hb hR hV (nI 0) p) ?_
    refine g_if hT rfl (fun q1 => ?_) (fun q1 => ?_)
    · exact bad
    · have q1 : isPa B (nI 0) p = true := by rw [← Bool.not_eq_false]; exact fun z => q1 ((bI_z _).mpr z)
      refine v_p hT rfl rfl ?_
      refine v_call hT [.int (nI 1), .int q] rfl rfl (by first | rfl | assumption) (by omega) rfl rfl (Nat.le_of_ble_eq_true rfl) (Nat.le_of_ble_eq_true rfl) (s_hasParagraph hb hR hV (nI 1) q) ?_
      refine g_if hT rfl (fun q2 => ?_) (fun q2 => ?_)
      · exact bad
      · have q2 : isPa B (nI 1) q = true := by rw [← Bool.not_eq_false]; exact fun z => q2 ((bI_z _).mpr z)
        refine v_p hT rfl rfl ?_
        refine v_scall hT [.int w, .int (nI 1), .int (nI 9)] rfl rfl rfl rfl (Nat.le_of_ble_eq_true rfl) (Nat.le_of_ble_eq_true rfl) (s_within w (nI 1) (nI 9)) ?_
        refine g_if hT rfl (fun q3 => ?_) (fun q3 => ?_)
        · have q3 : ¬ bI (decide (nI 1 ≤ w ∧ w ≤ nI 9)) = 0 := q3
          rw [bI_z, decide_eq_false_iff_not] at q3
          exact absurd ⟨q1, q2, Classical.not_not.mp q3⟩ hA
        · exact bad

def bTieGo (B : BK) (i : Nat) : BK := (bNp B, bNw B, bLn B, bWd B, bSe B, bNt B - 1, fun z j => if j < i then bTi B z j else bTi B z (j + 1))
theorem s_dropTie {b n i : Nat} {kf : Nat → Nat} {f : Nat → Nat → Int32} {B : BK} (hb : isBk b) (hn : f b 8 = nI (bNt B)) (h10 : bNt B ≤ 10) (hi : i < bNt B) :
    Run n_X0_dropTie 110 0 (ini n_X0_dropTie [.ref b, .int (nI i)]) [] (HH n kf f) (Ret (some (.int (nI (bNt B - 1)))) (HH n kf (hset (hputs (hputs (hputs f (b + 6) (va_cpy (f (b + 6)) (f (b + 6)) (i + 1) i (bNt B - i - 1))) (b + 7) (va_cpy (f (b + 7)) (f (b + 7)) (i + 1) i (bNt B - i - 1))) (b + 8) (va_cpy (f (b + 8)) (f (b + 8)) (i + 1) i (bNt B - i - 1))) b 8 (nI (bNt B - 1))))) := by
  have hT : mT n_X0_dropTie = tb_X0_dropTie := rfl
  obtain ⟨k0, k1, k2, k3, k4, k5, k6, k7, k8⟩ := bk_kd hb
  have hlt := bk_lt hb
  refine v_p hT rfl rfl ?_
  refine v_call hT [.int (nI i)] rfl rfl (by first | rfl | assumption) (by omega) rfl rfl (Nat.le_of_ble_eq_true rfl) (Nat.le_of_ble_eq_true rfl) (s_hasTie hb hn h10 (nI i)) ?_
  rw [pB_t ⟨i, hi, rfl⟩]
  refine g_if hT rfl (fun cq => ?_) (fun cq => ?_)
  · refine v_p hT rfl rfl ?_
    refine v_geti hT rfl (by first | rfl | assumption) (by omega) ?_
    rw [hn]
    refine v_p hT rfl rfl ?_
    rw [pk_sub (by omega), pk_sub (by omega)]
    repeat (first | refine v_p hT rfl rfl ?_ | refine v_getr hT rfl rfl (by omega) rfl ?_ | refine v_getr hT rfl k0 (by omega) (bk_rr hb _ _ _ (by decide)) ?_ | refine v_geti hT rfl (by first | rfl | assumption) (by omega) ?_ | refine v_ald hT rfl (by first | assumption | rfl) (by omega) (by decide) (by omega) ?_ | simp only [nI_add, pk_mul])
    refine v_cpy hT rfl k6 k6 (by omega) (by omega) (by omega) (by omega) (Nat.le_of_ble_eq_true rfl) ?_
    repeat (first | refine v_p hT rfl rfl ?_ | refine v_getr hT rfl rfl (by omega) rfl ?_ | refine v_getr hT rfl k0 (by omega) (bk_rr hb _ _ _ (by decide)) ?_ | refine v_geti hT rfl (by first | rfl | assumption) (by omega) ?_ | refine v_ald hT rfl (by first | assumption | rfl) (by omega) (by decide) (by omega) ?_ | simp only [nI_add, pk_mul])
    refine v_cpy hT rfl k7 k7 (by omega) (by omega) (by omega) (by omega) (Nat.le_of_ble_eq_true rfl) ?_
    repeat (first | refine v_p hT rfl rfl ?_ | refine v_getr hT rfl rfl (by omega) rfl ?_ | refine v_getr hT rfl k0 (by omega) (bk_rr hb _ _ _ (by decide)) ?_ | refine v_geti hT rfl (by first | rfl | assumption) (by omega) ?_ | refine v_ald hT rfl (by first | assumption | rfl) (by omega) (by decide) (by omega) ?_ | simp only [nI_add, pk_mul])
    refine v_cpy hT rfl k8 k8 (by omega) (by omega) (by omega) (by omega) (Nat.le_of_ble_eq_true rfl) ?_
    rw [hputs_ne (show b + 7 ≠ b + 6 by omega), hputs_ne (show b + 8 ≠ b + 7 by omega), hputs_ne (show b + 8 ≠ b + 6 by omega)]
    repeat (first | refine v_p hT rfl rfl ?_ | refine v_getr hT rfl rfl (by omega) rfl ?_ | refine v_getr hT rfl k0 (by omega) (bk_rr hb _ _ _ (by decide)) ?_ | refine v_geti hT rfl (by first | rfl | assumption) (by omega) ?_ | refine v_ald hT rfl (by first | assumption | rfl) (by omega) (by decide) (by omega) ?_ | simp only [nI_add, pk_mul])
    rw [hputs_ne (show b ≠ b + 8 by omega), hputs_ne (show b ≠ b + 7 by omega), hputs_ne (show b ≠ b + 6 by omega), hn, pk_sub (by omega)]
    refine v_puti hT rfl k0 (by omega) (fun z => by cases z) ?_
    repeat (first | refine v_p hT rfl rfl ?_ | refine v_getr hT rfl rfl (by omega) rfl ?_ | refine v_getr hT rfl k0 (by omega) (bk_rr hb _ _ _ (by decide)) ?_ | refine v_geti hT rfl (by first | rfl | assumption) (by omega) ?_ | refine v_ald hT rfl (by first | assumption | rfl) (by omega) (by decide) (by omega) ?_ | simp only [nI_add, pk_mul, hs_s, upd])
    refine v_ret hT rfl (fun z => by cases z) rfl ⟨rfl, rfl⟩
  · exact absurd (show ¬ (1 : Int32) = 0 by decide) cq
theorem s_dropTieBad {b n : Nat} {kf : Nat → Nat} {f : Nat → Nat → Int32} {B : BK} (hb : isBk b) (hn : f b 8 = nI (bNt B)) (h10 : bNt B ≤ 10) {i : Int32} (hi : ¬ ∃ k, k < bNt B ∧ i = nI k) :
    Run n_X0_dropTie 110 0 (ini n_X0_dropTie [.ref b, .int i]) [] (HH n kf f) (Ret (some (.int (mI 2))) (HH n kf f)) := by
  have hT : mT n_X0_dropTie = tb_X0_dropTie := rfl
  obtain ⟨k0, k1, k2, k3, k4, k5, k6, k7, k8⟩ := bk_kd hb
  have hlt := bk_lt hb
  refine v_p hT rfl rfl ?_
  refine v_call hT [.int i] rfl rfl (by first | rfl | assumption) (by omega) rfl rfl (Nat.le_of_ble_eq_true rfl) (Nat.le_of_ble_eq_true rfl) (s_hasTie hb hn h10 i) ?_
  rw [pB_f hi]
  refine g_if hT rfl (fun cq => ?_) (fun cq => ?_)
  · exact absurd rfl (show ¬ (0 : Int32) = 0 from cq)
  · refine v_p hT rfl rfl ?_
    refine v_ret hT rfl (fun z => by cases z) rfl ⟨rfl, rfl⟩
/-- the tie rows behind a removal -/
theorem tieGo_at {g : Nat → Int32} {i nt j z : Nat} {ti : Nat → Nat → Nat} (hi : i < nt) (hg : ∀ j, j < nt → g j = nI (ti z j)) (hj : j < nt - 1) : va_cpy g g (i + 1) i (nt - i - 1) j = nI (if j < i then ti z j else ti z (j + 1)) := by
  by_cases h : j < i
  · rw [pk_cpy_out (by omega), if_pos h]
    exact hg j (by omega)
  · rw [pk_cpy_in (by omega) (by omega), if_neg h, show i + 1 + (j - i) = j + 1 by omega]
    exact hg (j + 1) (by omega)
theorem bkR_tieGo {f : Nat → Nat → Int32} {b i : Nat} {B : BK} (hR : bkR f b B) (hi : i < bNt B) : bkR (hset (hputs (hputs (hputs f (b + 6) (va_cpy (f (b + 6)) (f (b + 6)) (i + 1) i (bNt B - i - 1))) (b + 7) (va_cpy (f (b + 7)) (f (b + 7)) (i + 1) i (bNt B - i - 1))) (b + 8) (va_cpy (f (b + 8)) (f (b + 8)) (i + 1) i (bNt B - i - 1))) b 8 (nI (bNt B - 1))) b (bTieGo B i) := by
  obtain ⟨h1, h2, h3, h4, h5, h6⟩ := hR
  refine ⟨fun s hs => ?_, fun s p hs hp => ?_, fun s hs => ?_, fun i hi3 => ?_, ?_, fun j hj => ?_⟩
  · simpa [hset, hputs, bTieGo] using h1 s hs
  · simpa [hset, hputs, bTieGo] using h2 s p hs hp
  · simpa [hset, hputs, bTieGo] using h3 s hs
  · simpa [hset, hputs, bTieGo] using h4 i hi3
  · simp [hset, hputs, upd, bTieGo]
  · have hj : j < bNt B - 1 := hj
    refine ⟨?_, ?_, ?_⟩
    · simp only [hset, hputs, bTieGo, bTi]
      simp only [show ¬ b + 6 = b by omega, show ¬ b + 6 = b + 8 by omega, show ¬ b + 6 = b + 7 by omega, if_false, if_true]
      exact tieGo_at (z := 0) hi (fun j hj => (h6 j hj).1) hj
    · simp only [hset, hputs, bTieGo, bTi]
      simp only [show ¬ b + 7 = b by omega, show ¬ b + 7 = b + 8 by omega, show ¬ b + 7 = b + 6 by omega, if_false, if_true]
      exact tieGo_at (z := 1) hi (fun j hj => (h6 j hj).2.1) hj
    · simp only [hset, hputs, bTieGo, bTi]
      simp only [show ¬ b + 8 = b by omega, show ¬ b + 8 = b + 7 by omega, show ¬ b + 8 = b + 6 by omega, if_false, if_true]
      exact tieGo_at (z := 2) hi (fun j hj => (h6 j hj).2.2) hj
end
section
/-! THE CLASS: widths and settings of a book. -/
def bWidTo (B : BK) (s v : Nat) : BK := (bNp B, bNw B, bLn B, (fun z => if z = s then v else bWd B z), bSe B, bNt B, bTi B)
def bSetTo (B : BK) (i v : Nat) : BK := (bNp B, bNw B, bLn B, bWd B, (fun z => if z = i then v else bSe B z), bNt B, bTi B)
noncomputable def aWid (B : BK) (s v : Int32) : Int32 × BK :=
  bif decide (0 ≤ s ∧ s ≤ 1) && decide (nI 9 ≤ v ∧ v ≤ nI 40) then
    (bif decide (60 < totF (bWidTo B s.toNatClampNeg v.toNatClampNeg) s.toNatClampNeg) then (mI 4, B) else (nI (bWd B s.toNatClampNeg), bWidTo B s.toNatClampNeg v.toNatClampNeg)) else (mI 2, B)
def seLo (i : Nat) : Nat := if i = 0 then 2 else if i = 1 then 1 else 0
def seHi (i : Nat) : Nat := if i = 0 then 12 else if i = 1 then 3 else 9
noncomputable def aSet (B : BK) (w v : Int32) : Int32 × BK :=
  bif decide (nI 0 ≤ w ∧ w ≤ nI 2) && decide (nI (seLo w.toNatClampNeg) ≤ v ∧ v ≤ nI (seHi w.toNatClampNeg)) then (nI (bSe B w.toNatClampNeg), bSetTo B w.toNatClampNeg v.toNatClampNeg) else (mI 2, B)
theorem VB0_wid {B : BK} (hV : VB0 B) {s v : Nat} (h1 : 9 ≤ v) (h2 : v ≤ 40) : VB0 (bWidTo B s v) := by
  obtain ⟨a1, a2, a3, a4, a5, a6⟩ := hV
  refine ⟨a1, a2, fun z hz => ?_, a4, a5, a6⟩
  show 9 ≤ (if z = s then v else bWd B z) ∧ (if z = s then v else bWd B z) ≤ 40
  split
  · exact ⟨h1, h2⟩
  · exact a3 z hz
theorem VB0_set {B : BK} (hV : VB0 B) {i v : Nat} (h1 : seLo i ≤ v) (h2 : v ≤ seHi i) : VB0 (bSetTo B i v) := by
  obtain ⟨a1, a2, a3, a4, a5, a6⟩ := hV
  refine ⟨a1, a2, a3, ?_, a5, a6⟩
  simp only [bSetTo, bSe]
  unfold seLo at h1
  unfold seHi at h2
  by_cases e0 : i = 0
  · subst e0; simp at h1 h2 ⊢; exact ⟨⟨h1, h2⟩, a4.2⟩
  · by_cases e1 : i = 1
    · subst e1; simp at h1 h2 ⊢; exact ⟨a4.1, ⟨h1, h2⟩, a4.2.2⟩
    · rw [if_neg e0, if_neg e1] at h2
      rw [if_neg (fun z => e0 z.symm), if_neg (fun z => e1 z.symm)]
      refine ⟨a4.1, a4.2.1, ?_⟩
      split
      · exact h2
      · exact a4.2.2
theorem bkR_wid {f : Nat → Nat → Int32} {b s v : Nat} {B : BK} (hR : bkR f b B) : bkR (hset f (b + 4) s (nI v)) b (bWidTo B s v) := by
  obtain ⟨h1, h2, h3, h4, h5, h6⟩ := hR
  refine ⟨fun s hs => ?_, fun s p hs hp => ?_, fun z hs => ?_, fun i hi3 => ?_, ?_, fun j hj => ?_⟩
  · simpa [hset, bWidTo] using h1 s hs
  · simpa [hset, bWidTo] using h2 s p hs hp
  · by_cases hz : z = s
    · subst hz; simp [hset, upd, bWidTo, bWd]
    · simpa [hset, upd, bWidTo, bWd, hz] using h3 z hs
  · simpa [hset, bWidTo] using h4 i hi3
  · simpa [hset, bWidTo] using h5
  · simpa [hset, bWidTo] using h6 j hj
theorem bkR_set {f : Nat → Nat → Int32} {b s v : Nat} {B : BK} (hR : bkR f b B) : bkR (hset f (b + 5) s (nI v)) b (bSetTo B s v) := by
  obtain ⟨h1, h2, h3, h4, h5, h6⟩ := hR
  refine ⟨fun s hs => ?_, fun s p hs hp => ?_, fun z hs => ?_, fun z hi3 => ?_, ?_, fun j hj => ?_⟩
  · simpa [hset, bSetTo] using h1 s hs
  · simpa [hset, bSetTo] using h2 s p hs hp
  · simpa [hset, bSetTo] using h3 z hs
  · by_cases hz : z = s
    · subst hz; simp [hset, upd, bSetTo, bSe]
    · simpa [hset, upd, bSetTo, bSe, hz] using h4 z hi3
  · simpa [hset, bSetTo] using h5
  · simpa [hset, bSetTo] using h6 j hj
theorem hset_hset (f : Nat → Nat → Int32) (o k : Nat) (x y : Int32) : hset (hset f o k x) o k y = hset f o k y := by
  funext c i
  by_cases hc : c = o
  · subst hc
    by_cases hi : i = k <;> simp [hset, upd, hi]
  · simp [hset, hc]
theorem hset_same (f : Nat → Nat → Int32) (o k : Nat) : hset f o k (f o k) = f := by
  funext c i
  by_cases hc : c = o
  · subst hc
    by_cases hi : i = k
    · subst hi; simp [hset, upd]
    · simp [hset, upd, hi]
  · simp [hset, hc]
theorem bt_of {b : Bool} (h : ¬ bI b = 0) : b = true := by rw [← Bool.not_eq_false]; exact fun z => h ((bI_z _).mpr z)
theorem bf_of {b : Bool} (h : bI b = 0) : b = false := (bI_z _).mp h
theorem totF_le {B : BK} (h : VB0 B) {s : Nat} (hs : s < 2) : totF B s ≤ 96 := by
  have h1 := fstF_le h hs (bNp B s) (Nat.le_refl _)
  have h2 := h.1 s hs
  unfold totF
  omega
theorem s_changeWidth {b n : Nat} {kf : Nat → Nat} {f : Nat → Nat → Int32} {B : BK} (hb : isBk b) (hR : bkR f b B) (hV : VB0 B) (s v : Int32) :
    ∃ f2, Run n_X0_changeWidth 110 0 (ini n_X0_changeWidth [.ref b, .int s, .int v]) [] (HH n kf f) (Ret (some (.int (aWid B s v).1)) (HH n kf f2)) ∧ bkR f2 b (aWid B s v).2 ∧ ∀ c, c < b ∨ b + 8 < c → f2 c = f c := by
  have hT : mT n_X0_changeWidth = tb_X0_changeWidth := rfl
  obtain ⟨k0, k1, k2, k3, k4, k5, k6, k7, k8⟩ := bk_kd hb
  have hlt := bk_lt hb
  have bad : Run n_X0_changeWidth 110 18 [some (.ref b), some (.int s), some (.int v), none] [] (HH n kf f) (Ret (some (.int (mI 2))) (HH n kf f)) := by
    refine v_p hT rfl rfl ?_
    refine v_ret hT rfl (fun z => by cases z) rfl ⟨rfl, rfl⟩
  by_cases hA : (0 ≤ s ∧ s ≤ 1) ∧ nI 9 ≤ v ∧ v ≤ nI 40
  · obtain ⟨hs, hv⟩ := hA
    obtain ⟨s2, hs2, rfl⟩ : ∃ s2 : Nat, s2 < 2 ∧ s = nI s2 := by rcases int_lo hs with e | e <;> exact ⟨_, by omega, e⟩
    obtain ⟨v2, hv9, hv40, rfl⟩ := in_range v (by omega) hv (by omega)
    have e1 : (nI s2).toNatClampNeg = s2 := nI_clamp (by omega)
    have e2 : (nI v2).toNatClampNeg = v2 := nI_clamp (by omega)
    have hto : aWid B (nI s2) (nI v2) = bif decide (60 < totF (bWidTo B s2 v2) s2) then (mI 4, B) else (nI (bWd B s2), bWidTo B s2 v2) := by
      unfold aWid
      rw [decide_eq_true hs, decide_eq_true hv, e1, e2]
      rfl
    rw [hto]
    have hw := hR.2.2.1 s2 hs2
    have hR2 := bkR_wid (s := s2) (v := v2) hR
    have hV2 := VB0_wid (s := s2) hV hv9 hv40
    have ht := totF_le hV2 hs2
    have hstart : ∀ Φ, Run n_X0_changeWidth 110 42 [some (.ref b), some (.int (nI s2)), some (.int (nI v2)), some (.int (nI (bWd B s2)))] [.int (nI 60), .int (nI (totF (bWidTo B s2 v2) s2))] (HH n kf (hset f (b + 4) s2 (nI v2))) Φ → Run n_X0_changeWidth 110 0 (ini n_X0_changeWidth [.ref b, .int (nI s2), .int (nI v2)]) [] (HH n kf f) Φ := by
      intro Φ hΦ
      refine v_p hT rfl rfl ?_
      refine v_scall hT [.int (nI s2)] rfl rfl rfl rfl (Nat.le_of_ble_eq_true rfl) (Nat.le_of_ble_eq_true rfl) (s_isSide (nI s2)) ?_
      rw [decide_eq_true hs]
      refine g_if hT rfl (fun cq => ?_) (fun cq => ?_)
      · exact absurd (show (1 : Int32) = 0 from cq) (by decide)
      · refine v_p hT rfl rfl ?_
        refine v_scall hT [.int (nI v2), .int (nI 9), .int (nI 40)] rfl rfl rfl rfl (Nat.le_of_ble_eq_true rfl) (Nat.le_of_ble_eq_true rfl) (s_within (nI v2) (nI 9) (nI 40)) ?_
        rw [decide_eq_true hv]
        refine g_if hT rfl (fun cq2 => ?_) (fun cq2 => ?_)
        · repeat (first | refine v_p hT rfl rfl ?_ | refine v_getr hT rfl rfl (by omega) rfl ?_ | refine v_getr hT rfl k0 (by omega) (bk_rr hb _ _ _ (by decide)) ?_ | refine v_geti hT rfl (by first | rfl | assumption) (by omega) ?_ | refine v_ald hT rfl (by first | assumption | rfl) (by omega) (by decide) (by omega) ?_ | simp only [nI_add, pk_mul, hw])
          refine v_ast hT rfl k4 (by omega) (by decide) (by omega) ?_
          refine v_p hT rfl rfl ?_
          refine v_call hT [.int (nI s2)] rfl rfl (by first | rfl | assumption) (by omega) rfl rfl (Nat.le_of_ble_eq_true rfl) (Nat.le_of_ble_eq_true rfl) (s_linesOfSide hb hR2 hV2 hs2) ?_
          refine v_p hT rfl rfl ?_
          exact hΦ
        · exact absurd (show ¬ (1 : Int32) = 0 by decide) cq2
    by_cases h60 : 60 < totF (bWidTo B s2 v2) s2
    · rw [decide_eq_true h60]
      refine ⟨f, hstart _ ?_, hR, fun _ _ => rfl⟩
      refine g_cmp hT rfl (fun cq => ?_) (fun cq => ?_)
      · exact absurd ((cj_le (by omega) (by omega)).mp cq) (by omega)
      · repeat (first | refine v_p hT rfl rfl ?_ | refine v_getr hT rfl rfl (by omega) rfl ?_ | refine v_getr hT rfl k0 (by omega) (bk_rr hb _ _ _ (by decide)) ?_ | refine v_geti hT rfl (by first | rfl | assumption) (by omega) ?_ | refine v_ald hT rfl (by first | assumption | rfl) (by omega) (by decide) (by omega) ?_ | simp only [nI_add, pk_mul])
        refine v_ast hT rfl k4 (by omega) (by decide) (by omega) ?_
        rw [hset_hset, ← hw, hset_same]
        refine v_p hT rfl rfl ?_
        refine v_ret hT rfl (fun z => by cases z) rfl ⟨rfl, rfl⟩
    · rw [decide_eq_false h60]
      refine ⟨_, hstart _ ?_, hR2, fun c hc => hset_ne (by omega)⟩
      refine g_cmp hT rfl (fun cq => ?_) (fun cq => ?_)
      · refine v_p hT rfl rfl ?_
        refine v_ret hT rfl (fun z => by cases z) rfl ⟨rfl, rfl⟩
      · exact absurd ((cj_le (by omega) (by omega)).mpr (by omega)) cq
  · have hto : aWid B s v = (mI 2, B) := by
      unfold aWid
      have hz : (decide (0 ≤ s ∧ s ≤ 1) && decide (nI 9 ≤ v ∧ v ≤ nI 40)) = false := by
        rw [← Bool.not_eq_true]
        intro hz
        simp only [Bool.and_eq_true, decide_eq_true_eq] at hz
        exact hA hz
      rw [hz]
      rfl
    rw [hto]
    refine ⟨f, ?_, hR, fun _ _ => rfl⟩
    refine v_p hT rfl rfl ?_
    refine v_scall hT [.int s] rfl rfl rfl rfl (Nat.le_of_ble_eq_true rfl) (Nat.le_of_ble_eq_true rfl) (s_isSide s) ?_
    refine g_if hT rfl (fun cq => ?_) (fun cq => ?_)
    · exact bad
    · have cq := of_decide_eq_true (bt_of cq)
      refine v_p hT rfl rfl ?_
      refine v_scall hT [.int v, .int (nI 9), .int (nI 40)] rfl rfl rfl rfl (Nat.le_of_ble_eq_true rfl) (Nat.le_of_ble_eq_true rfl) (s_within v (nI 9) (nI 40)) ?_
      refine g_if hT rfl (fun cq2 => ?_) (fun cq2 => ?_)
      · exact absurd ⟨cq, of_decide_eq_true (bt_of cq2)⟩ hA
      · exact bad
theorem sf1_lo : ∀ i, i < 3 → sf1 i = nI (seLo i) := by decide
theorem sf2_hi : ∀ i, i < 3 → sf2 i = nI (seHi i) := by decide
theorem seHi_le : ∀ i, seHi i ≤ 12 := by intro i; unfold seHi; split <;> (try split) <;> omega
theorem seLo_hi : ∀ i, seLo i ≤ seHi i := by intro i; unfold seLo seHi; split <;> (try split) <;> omega
theorem s_changeSetting {b n : Nat} {kf : Nat → Nat} {f : Nat → Nat → Int32} {B : BK} (hb : isBk b) (hR : bkR f b B) (hf1 : f 1001 = sf1) (hf2 : f 1002 = sf2) (w v : Int32) :
    ∃ f2, Run n_X0_changeSetting 110 0 (ini n_X0_changeSetting [.ref b, .int w, .int v]) [] (HH n kf f) (Ret (some (.int (aSet B w v).1)) (HH n kf f2)) ∧ bkR f2 b (aSet B w v).2 ∧ ∀ c, c < b ∨ b + 8 < c → f2 c = f c := by
  have hT : mT n_X0_changeSetting = tb_X0_changeSetting := rfl
  obtain ⟨k0, k1, k2, k3, k4, k5, k6, k7, k8⟩ := bk_kd hb
  have hlt := bk_lt hb
  have bad : ∀ L, lle [some (.ref b), some (.int w), some (.int v), none] L → Run n_X0_changeSetting 110 26 L [] (HH n kf f) (Ret (some (.int (mI 2))) (HH n kf f)) := by
    intro L hL
    refine v_fgt hL ?_
    refine v_p hT rfl rfl ?_
    refine v_ret hT rfl (fun z => by cases z) rfl ⟨rfl, rfl⟩
  by_cases hA : nI 0 ≤ w ∧ w ≤ nI 2
  · obtain ⟨w2, -, hw2, rfl⟩ := in_range w (by omega) hA (by omega)
    have e1 : (nI w2).toNatClampNeg = w2 := nI_clamp (by omega)
    have hstart : ∀ Φ, Run n_X0_changeSetting 110 23 [some (.ref b), some (.int (nI w2)), some (.int v), none] [.int (bI (decide (nI (seLo w2) ≤ v ∧ v ≤ nI (seHi w2))))] (HH n kf f) Φ → Run n_X0_changeSetting 110 0 (ini n_X0_changeSetting [.ref b, .int (nI w2), .int v]) [] (HH n kf f) Φ := by
      intro Φ hΦ
      refine v_p hT rfl rfl ?_
      refine v_scall hT [.int (nI w2), .int (nI 0), .int (nI 2)] rfl rfl rfl rfl (Nat.le_of_ble_eq_true rfl) (Nat.le_of_ble_eq_true rfl) (s_within (nI w2) (nI 0) (nI 2)) ?_
      rw [decide_eq_true hA]
      refine g_if hT rfl (fun cq => ?_) (fun cq => ?_)
      · exact absurd (show (1 : Int32) = 0 from cq) (by decide)
      · refine v_p hT rfl rfl ?_
        refine v_aldx hT rfl rfl (by show 3 < 2 ^ 31; omega) (by show w2 < 3; omega) ?_
        refine v_p hT rfl rfl ?_
        refine v_aldx hT rfl rfl (by show 3 < 2 ^ 31; omega) (by show w2 < 3; omega) ?_
        rw [hf1, hf2, sf1_lo w2 (by omega), sf2_hi w2 (by omega)]
        refine v_scall hT [.int v, .int (nI (seLo w2)), .int (nI (seHi w2))] rfl rfl rfl rfl (Nat.le_of_ble_eq_true rfl) (Nat.le_of_ble_eq_true rfl) (s_within v (nI (seLo w2)) (nI (seHi w2))) ?_
        exact hΦ
    by_cases hB : nI (seLo w2) ≤ v ∧ v ≤ nI (seHi w2)
    · have h12 := seHi_le w2
      obtain ⟨v2, hv1, hv2, rfl⟩ := in_range v (by omega) hB (seLo_hi w2)
      have e2 : (nI v2).toNatClampNeg = v2 := nI_clamp (by omega)
      have hto : aSet B (nI w2) (nI v2) = (nI (bSe B w2), bSetTo B w2 v2) := by
        unfold aSet
        rw [e1, e2, decide_eq_true hA, decide_eq_true hB]
        rfl
      rw [hto]
      have hse := hR.2.2.2.1 w2 (by omega)
      refine ⟨_, hstart _ ?_, bkR_set hR, fun c hc => hset_ne (by omega)⟩
      rw [decide_eq_true hB]
      refine g_if hT rfl (fun cq => ?_) (fun cq => ?_)
      · repeat (first | refine v_p hT rfl rfl ?_ | refine v_getr hT rfl rfl (by omega) rfl ?_ | refine v_getr hT rfl k0 (by omega) (bk_rr hb _ _ _ (by decide)) ?_ | refine v_geti hT rfl (by first | rfl | assumption) (by omega) ?_ | refine v_ald hT rfl (by first | assumption | rfl) (by omega) (by decide) (by omega) ?_ | simp only [nI_add, pk_mul, hse])
        refine v_ast hT rfl k5 (by omega) (by decide) (by omega) ?_
        refine v_p hT rfl rfl ?_
        refine v_ret hT rfl (fun z => by cases z) rfl ⟨rfl, rfl⟩
      · exact absurd (show ¬ (1 : Int32) = 0 by decide) cq
    · have hto : aSet B (nI w2) v = (mI 2, B) := by
        unfold aSet
        rw [e1, decide_eq_true hA, decide_eq_false hB]
        rfl
      rw [hto]
      refine ⟨f, hstart _ ?_, hR, fun _ _ => rfl⟩
      rw [decide_eq_false hB]
      refine g_if hT rfl (fun cq => ?_) (fun cq => ?_)
      · exact absurd rfl (show ¬ (0 : Int32) = 0 from cq)
      · exact bad _ ⟨rfl, rfl, rfl, trivial⟩
  · have hto : aSet B w v = (mI 2, B) := by
      unfold aSet
      rw [decide_eq_false hA]
      rfl
    rw [hto]
    refine ⟨f, ?_, hR, fun _ _ => rfl⟩
    refine v_p hT rfl rfl ?_
    refine v_scall hT [.int w, .int (nI 0), .int (nI 2)] rfl rfl rfl rfl (Nat.le_of_ble_eq_true rfl) (Nat.le_of_ble_eq_true rfl) (s_within w (nI 0) (nI 2)) ?_
    rw [decide_eq_false hA]
    refine g_if hT rfl (fun cq => ?_) (fun cq => ?_)
    · exact bad _ ⟨rfl, rfl, rfl, trivial⟩
    · exact absurd rfl (show ¬ (0 : Int32) = 0 from cq)
end
section
/-! THE CLASS: paragraphs of a book. -/
abbrev TS : Type := Nat × (Nat → Nat → Nat)
def tsGo (t : TS) (i : Nat) : TS := (t.1 - 1, fun z j => if j < i then t.2 z j else t.2 z (j + 1))
def tsStep (t : TS) (z p i : Nat) : TS := if t.2 z i = p then tsGo t i else if p < t.2 z i then (t.1, fun y j => if y = z ∧ j = i then t.2 z i - 1 else t.2 y j) else t
def tsOf (z p : Nat) : Nat → TS → TS
  | 0, t => t
  | i + 1, t => tsOf z p i (tsStep t z p i)
def bT (B : BK) : TS := (bNt B, bTi B)
def bWT (B : BK) (t : TS) : BK := (bNp B, bNw B, bLn B, bWd B, bSe B, t.1, t.2)
def prI : Nat → Int32
  | 0 => mI 1
  | k + 1 => nI k
theorem prI_sub (k : Nat) : nI k - nI 1 = prI k := by
  cases k with
  | zero => decide
  | succ k => rw [pk_sub (by omega)]; rfl
theorem prI_add (k : Nat) : nI k + mI 1 = prI k := by
  cases k with
  | zero => decide
  | succ k => exact pk_m1 k
theorem bkR_tieMod {f : Nat → Nat → Int32} {b z i v : Nat} {B : BK} (hz : z < 2) (hR : bkR f b B) : bkR (hset f (b + 6 + z) i (nI v)) b (bWT B (bNt B, fun y j => if y = z ∧ j = i then v else bTi B y j)) := by
  obtain ⟨h1, h2, h3, h4, h5, h6⟩ := hR
  have e : ∀ c, c ≠ b + 6 + z → hset f (b + 6 + z) i (nI v) c = f c := fun c hc => hset_ne hc
  refine ⟨fun s hs => ?_, fun s p hs hp => ?_, fun s hs => ?_, fun k hi3 => ?_, ?_, fun j hj => ?_⟩
  · rw [e _ (by omega)]; exact h1 s hs
  · rw [e _ (by omega), e _ (by omega)]; exact h2 s p hs hp
  · rw [e _ (by omega)]; exact h3 s hs
  · rw [e _ (by omega)]; exact h4 k hi3
  · rw [e _ (by omega)]; exact h5
  · have h7 := h6 j hj
    have hz' : z = 0 ∨ z = 1 := by omega
    rw [e (b + 8) (by omega)]
    rcases hz' with rfl | rfl
    · rw [e (b + 7) (by omega)]
      refine ⟨?_, by simpa [bWT, bTi] using h7.2.1, by simpa [bWT, bTi] using h7.2.2⟩
      by_cases hji : j = i
      · subst hji; simp [hset, upd, bWT, bTi]
      · simpa [hset, upd, bWT, bTi, hji] using h7.1
    · rw [e (b + 6) (by omega)]
      refine ⟨by simpa [bWT, bTi] using h7.1, ?_, by simpa [bWT, bTi] using h7.2.2⟩
      by_cases hji : j = i
      · subst hji; simp [hset, upd, bWT, bTi]
      · simpa [hset, upd, bWT, bTi, hji] using h7.2.1
/-- the tie rows stay small -/
def tsOk (t : TS) : Prop := t.1 ≤ 10 ∧ ∀ z i, z < 2 → i < t.1 → t.2 z i < 100
theorem tsOk_step {t : TS} {z p i : Nat} (h : tsOk t) (hi : i < t.1) : tsOk (tsStep t z p i) ∧ i ≤ (tsStep t z p i).1 := by
  unfold tsStep
  split
  · refine ⟨⟨by show t.1 - 1 ≤ 10; have := h.1; omega, fun y j hy hj => ?_⟩, by show i ≤ t.1 - 1; omega⟩
    have hj : j < t.1 - 1 := hj
    show (if j < i then t.2 y j else t.2 y (j + 1)) < 100
    split
    · exact h.2 y j hy (by omega)
    · exact h.2 y (j + 1) hy (by omega)
  · split
    · refine ⟨⟨h.1, fun y j hy hj => ?_⟩, by show i ≤ t.1; omega⟩
      have hj : j < t.1 := hj
      show (if y = z ∧ j = i then t.2 z i - 1 else t.2 y j) < 100
      split
      · rename_i hq
        have := h.2 y j hy hj
        rw [hq.1, hq.2] at this
        omega
      · exact h.2 y j hy hj
    · exact ⟨h, by omega⟩
theorem s_dropTiesOf {b n z p nb : Nat} {kf : Nat → Nat} (hb : isBk b) (hz : z < 2) (hp : p < 100) (hnb : nb ≤ 10) :
    ∀ (j : Nat) (f : Nat → Nat → Int32) (B : BK), bkR f b B → tsOk (bT B) → j ≤ bNt B →
    ∃ f2, Run n_X0_dropTiesOf 110 12 [some (.ref b), some (.ref (b + 6 + z)), some (.int (nI p)), some (.int (nI nb)), some (.int (prI j))] [.int (prI j)] (HH n kf f) (Ret (some (.int (nI nb - nI (tsOf z p j (bT B)).1))) (HH n kf f2)) ∧ bkR f2 b (bWT B (tsOf z p j (bT B))) ∧ ∀ c, c < b ∨ b + 8 < c → f2 c = f c := by
  have hT : mT n_X0_dropTiesOf = tb_X0_dropTiesOf := rfl
  obtain ⟨k0, k1, k2, k3, k4, k5, k6, k7, k8⟩ := bk_kd hb
  have hlt := bk_lt hb
  have ke : kd (b + 6 + z) = (1, 10) := by
    rcases (show z = 0 ∨ z = 1 by omega) with rfl | rfl
    · exact k6
    · exact k7
  intro j
  induction j with
  | zero =>
    intro f B hR hok hj
    refine ⟨f, ?_, hR, fun _ _ => rfl⟩
    refine g_if hT rfl (fun cq => ?_) (fun cq => ?_)
    · refine v_p hT rfl rfl ?_
      refine v_geti hT rfl (by first | rfl | assumption) (by omega) ?_
      rw [hR.2.2.2.2.1]
      refine v_p hT rfl rfl ?_
      refine v_ret hT rfl (fun z => by cases z) rfl ⟨rfl, rfl⟩
    · exact absurd (show prI 0 < 0 by decide) cq
  | succ i ih =>
    intro f B hR hok hj
    have h10 : bNt B ≤ 10 := hok.1
    have hi : i < bNt B := by omega
    have ht : f (b + 6 + z) i = nI (bTi B z i) := by
      rcases (show z = 0 ∨ z = 1 by omega) with rfl | rfl
      · exact (hR.2.2.2.2.2 i hi).1
      · exact (hR.2.2.2.2.2 i hi).2.1
    have h100 : bTi B z i < 100 := hok.2 z i hz hi
    have hst := tsOk_step (z := z) (p := p) hok hi
    have back : ∀ (F : Nat → Nat → Int32), bkR F b (bWT B (tsStep (bT B) z p i)) → (∀ c, c < b ∨ b + 8 < c → F c = f c) → ∃ f2, Run n_X0_dropTiesOf 110 49 [some (.ref b), some (.ref (b + 6 + z)), some (.int (nI p)), some (.int (nI nb)), some (.int (nI i))] [] (HH n kf F) (Ret (some (.int (nI nb - nI (tsOf z p (i + 1) (bT B)).1))) (HH n kf f2)) ∧ bkR f2 b (bWT B (tsOf z p (i + 1) (bT B))) ∧ ∀ c, c < b ∨ b + 8 < c → f2 c = f c := by
      intro F hF hfr
      obtain ⟨f2, r1, r2, r3⟩ := ih F (bWT B (tsStep (bT B) z p i)) hF hst.1 hst.2
      refine ⟨f2, ?_, r2, fun c hc => by rw [r3 c hc, hfr c hc]⟩
      refine v_p hT rfl rfl ?_
      rw [prI_add]
      exact r1
    have hstart : ∀ Φ, Run n_X0_dropTiesOf 110 20 [some (.ref b), some (.ref (b + 6 + z)), some (.int (nI p)), some (.int (nI nb)), some (.int (nI i))] [.int (nI p), .int (nI (bTi B z i))] (HH n kf f) Φ → Run n_X0_dropTiesOf 110 12 [some (.ref b), some (.ref (b + 6 + z)), some (.int (nI p)), some (.int (nI nb)), some (.int (prI (i + 1)))] [.int (prI (i + 1))] (HH n kf f) Φ := by
      intro Φ hΦ
      refine g_if hT rfl (fun cq => ?_) (fun cq => ?_)
      · exact absurd (show nI i < 0 from cq) (nI_pos (by omega))
      · refine v_p hT rfl rfl ?_
        refine v_ald (i := i) hT rfl ke (by omega) (by decide) (by omega) ?_
        rw [ht]
        refine v_p hT rfl rfl ?_
        exact hΦ
    by_cases he : bTi B z i = p
    · have hs : tsStep (bT B) z p i = tsGo (bT B) i := if_pos he
      obtain ⟨f2, r1, r2, r3⟩ := back _ (by rw [hs]; exact bkR_tieGo hR hi) (fun c hc => by rw [hset_ne (by omega), hputs_ne (by omega), hputs_ne (by omega), hputs_ne (by omega)])
      refine ⟨f2, hstart _ ?_, r2, r3⟩
      refine g_cmp hT rfl (fun cq => ?_) (fun cq => ?_)
      · exact absurd ((cj_ne (by omega) (by omega)).mp cq) (by omega)
      · refine v_p hT rfl rfl ?_
        refine v_call hT [.int (nI i)] rfl rfl (by first | rfl | assumption) (by omega) rfl rfl (Nat.le_of_ble_eq_true rfl) (Nat.le_of_ble_eq_true rfl) (s_dropTie hb hR.2.2.2.2.1 h10 hi) ?_
        refine g_ps 2 hT rfl ?_
        exact r1
    · by_cases hgt : p < bTi B z i
      · have hs : tsStep (bT B) z p i = (bNt B, fun y j => if y = z ∧ j = i then bTi B z i - 1 else bTi B y j) := (if_neg he).trans (if_pos hgt)
        obtain ⟨f2, r1, r2, r3⟩ := back (hset f (b + 6 + z) i (nI (bTi B z i - 1))) (by rw [hs]; exact bkR_tieMod hz hR) (fun c hc => hset_ne (by omega))
        refine ⟨f2, hstart _ ?_, r2, r3⟩
        refine g_cmp hT rfl (fun cq => ?_) (fun cq => ?_)
        · refine v_p hT rfl rfl ?_
          refine v_ald hT rfl ke (by omega) (by decide) (by omega) ?_
          rw [ht]
          refine v_p hT rfl rfl ?_
          refine g_cmp hT rfl (fun cq2 => ?_) (fun cq2 => ?_)
          · exact absurd ((cj_le (by omega) (by omega)).mp cq2) (by omega)
          · refine v_p hT rfl rfl ?_
            refine v_ald hT rfl ke (by omega) (by decide) (by omega) ?_
            rw [ht]
            refine v_p hT rfl rfl ?_
            rw [pk_sub (by omega)]
            refine v_ast hT rfl ke (by omega) (by decide) (by omega) ?_
            exact r1
        · exact absurd ((cj_ne (by omega) (by omega)).mpr he) cq
      · have hs : tsStep (bT B) z p i = bT B := (if_neg he).trans (if_neg hgt)
        obtain ⟨f2, r1, r2, r3⟩ := back f (by rw [hs]; exact hR) (fun c hc => rfl)
        refine ⟨f2, hstart _ ?_, r2, r3⟩
        refine g_cmp hT rfl (fun cq => ?_) (fun cq => ?_)
        · refine v_p hT rfl rfl ?_
          refine v_ald hT rfl ke (by omega) (by decide) (by omega) ?_
          rw [ht]
          refine v_p hT rfl rfl ?_
          refine g_cmp hT rfl (fun cq2 => ?_) (fun cq2 => ?_)
          · exact r1
          · exact absurd ((cj_le (by omega) (by omega)).mpr (by omega)) cq2
        · exact absurd ((cj_ne (by omega) (by omega)).mpr he) cq

def bParGo (B : BK) (s p : Nat) : BK := ((fun z => if z = s then bNp B s - 1 else bNp B z), (fun z j => if z = s ∧ p ≤ j then bNw B z (j + 1) else bNw B z j), (fun z j k => if z = s ∧ p ≤ j then bLn B z (j + 1) k else bLn B z j k), bWd B, bSe B, bNt B, bTi B)
theorem bkR_parGo {f : Nat → Nat → Int32} {b s p : Nat} {B : BK} (hV : VB0 B) (hs : s < 2) (hp : p < bNp B s) (hR : bkR f b B) : bkR (hset (hputs (hputs f (b + 2) (va_cpy (f (b + 2)) (f (b + 2)) (s * 8 + p + 1) (s * 8 + p) (bNp B s - p - 1))) (b + 3) (va_cpy (f (b + 3)) (f (b + 3)) ((s * 8 + p + 1) * 12) ((s * 8 + p) * 12) ((bNp B s - p - 1) * 12))) (b + 1) s (nI (bNp B s - 1))) b (bParGo B s p) := by
  obtain ⟨h1, h2, h3, h4, h5, h6⟩ := hR
  have h8 := hV.1
  have hv2 := hV.2.1
  have hs8 := h8 s hs
  refine ⟨fun z hz => ?_, fun z q hz hq => ?_, fun z hz => ?_, fun i hi3 => ?_, ?_, fun j hj => ?_⟩
  · by_cases hzs : z = s
    · subst hzs; simp [hset, upd, bParGo, bNp]
    · simpa [hset, hputs, upd, bParGo, bNp, hzs] using h1 z hz
  · have hz8 := h8 z hz
    rw [hset_ne (show b + 2 ≠ b + 1 by omega), hset_ne (show b + 3 ≠ b + 1 by omega), hputs_ne (show b + 2 ≠ b + 3 by omega)]
    simp only [hputs, if_pos]
    by_cases hzs : z = s
    · subst hzs
      have hq : q < bNp B z - 1 := by simpa [bParGo, bNp] using hq
      by_cases hqp : p ≤ q
      · have h7 := h2 z (q + 1) hz (by omega)
        have h9 := (hv2 z (q + 1) hz (by omega)).2.1
        refine ⟨?_, fun k hk => ?_⟩
        · rw [pk_cpy_in (by omega) (by omega), show z * 8 + p + 1 + (z * 8 + q - (z * 8 + p)) = z * 8 + (q + 1) by omega, h7.1]
          simp [bParGo, bNw, hqp]
        · have hk : k < bNw B z (q + 1) := by simpa [bParGo, bNw, hqp] using hk
          rw [pk_cpy_in (by omega) (by omega), show (z * 8 + p + 1) * 12 + ((z * 8 + q) * 12 + k - (z * 8 + p) * 12) = (z * 8 + (q + 1)) * 12 + k by omega, h7.2 k hk]
          simp [bParGo, bLn, hqp]
      · have h7 := h2 z q hz (by omega)
        have h9 := (hv2 z q hz (by omega)).2.1
        refine ⟨?_, fun k hk => ?_⟩
        · rw [pk_cpy_out (by omega), h7.1]
          simp [bParGo, bNw, hqp]
        · have hk : k < bNw B z q := by simpa [bParGo, bNw, hqp] using hk
          rw [pk_cpy_out (by omega), h7.2 k hk]
          simp [bParGo, bLn, hqp]
    · have hq : q < bNp B z := by simpa [bParGo, bNp, hzs] using hq
      have h7 := h2 z q hz hq
      have h9 := (hv2 z q hz hq).2.1
      refine ⟨?_, fun k hk => ?_⟩
      · rw [pk_cpy_out (by omega), h7.1]
        simp [bParGo, bNw, hzs]
      · have hk : k < bNw B z q := by simpa [bParGo, bNw, hzs] using hk
        rw [pk_cpy_out (by omega), h7.2 k hk]
        simp [bParGo, bLn, hzs]
  · rw [hset_ne (by omega), hputs_ne (by omega), hputs_ne (by omega)]; exact h3 z hz
  · rw [hset_ne (by omega), hputs_ne (by omega), hputs_ne (by omega)]; exact h4 i hi3
  · rw [hset_ne (by omega), hputs_ne (by omega), hputs_ne (by omega)]; exact h5
  · rw [hset_ne (show b + 6 ≠ b + 1 by omega), hputs_ne (show b + 6 ≠ b + 3 by omega), hputs_ne (show b + 6 ≠ b + 2 by omega), hset_ne (show b + 7 ≠ b + 1 by omega), hputs_ne (show b + 7 ≠ b + 3 by omega), hputs_ne (show b + 7 ≠ b + 2 by omega), hset_ne (show b + 8 ≠ b + 1 by omega), hputs_ne (show b + 8 ≠ b + 3 by omega), hputs_ne (show b + 8 ≠ b + 2 by omega)]
    exact h6 j hj
/-- a paragraph goes: how many ties go with it, and the book -/
noncomputable def aDrop (B : BK) (s p : Int32) : Int32 × BK :=
  bif isPa B s p then (nI (bNt B) - nI (tsOf s.toNatClampNeg p.toNatClampNeg (bNt B) (bT B)).1, bWT (bParGo B s.toNatClampNeg p.toNatClampNeg) (tsOf s.toNatClampNeg p.toNatClampNeg (bNt B) (bT B))) else (mI 2, B)
theorem s_dropParagraph {b n : Nat} {kf : Nat → Nat} {f : Nat → Nat → Int32} {B : BK} (hb : isBk b) (hR : bkR f b B) (hV : VB0 B) (s p : Int32) :
    ∃ f2, Run n_X0_dropParagraph 110 0 (ini n_X0_dropParagraph [.ref b, .int s, .int p]) [] (HH n kf f) (Ret (some (.int (aDrop B s p).1)) (HH n kf f2)) ∧ bkR f2 b (aDrop B s p).2 ∧ ∀ c, c < b ∨ b + 8 < c → f2 c = f c := by
  have hT : mT n_X0_dropParagraph = tb_X0_dropParagraph := rfl
  obtain ⟨k0, k1, k2, k3, k4, k5, k6, k7, k8⟩ := bk_kd hb
  have hlt := bk_lt hb
  cases hA : isPa B s p with
  | false =>
    have hto : aDrop B s p = (mI 2, B) := by unfold aDrop; rw [hA]; rfl
    rw [hto]
    refine ⟨f, ?_, hR, fun _ _ => rfl⟩
    refine v_p hT rfl rfl ?_
    refine v_call hT [.int s, .int p] rfl rfl (by first | rfl | assumption) (by omega) rfl rfl (Nat.le_of_ble_eq_true rfl) (Nat.le_of_ble_eq_true rfl) (s_hasParagraph hb hR hV s p) ?_
    rw [hA]
    refine g_if hT rfl (fun cq => ?_) (fun cq => ?_)
    · exact absurd rfl (show ¬ (0 : Int32) = 0 from cq)
    · refine v_p hT rfl rfl ?_
      refine v_ret hT rfl (fun z => by cases z) rfl ⟨rfl, rfl⟩
  | true =>
    obtain ⟨s2, p2, hs2, hp2, rfl, rfl⟩ := isPa_of hA
    have h8 := hV.1 s2 hs2
    have h10 := hV.2.2.2.2.1
    have e1 : (nI s2).toNatClampNeg = s2 := nI_clamp (by omega)
    have e2 : (nI p2).toNatClampNeg = p2 := nI_clamp (by omega)
    have hto : aDrop B (nI s2) (nI p2) = (nI (bNt B) - nI (tsOf s2 p2 (bNt B) (bT B)).1, bWT (bParGo B s2 p2) (tsOf s2 p2 (bNt B) (bT B))) := by unfold aDrop; rw [hA, e1, e2]; rfl
    rw [hto]
    have hRG := bkR_parGo hV hs2 hp2 hR
    have hok : tsOk (bT (bParGo B s2 p2)) := ⟨h10, fun z i hz hi => by
      have h11 := hV.2.2.2.2.2 i hi
      have h12 := hV.1 0 (by omega)
      have h13 := hV.1 1 (by omega)
      show bTi B z i < 100
      rcases (show z = 0 ∨ z = 1 by omega) with rfl | rfl <;> omega⟩
    obtain ⟨f2, r1, r2, r3⟩ := s_dropTiesOf (n := n) (kf := kf) (z := s2) (p := p2) (nb := bNt B) hb hs2 (by omega) h10 (bNt B) _ _ hRG hok (Nat.le_refl _)
    refine ⟨f2, ?_, r2, fun c hc => by rw [r3 c hc, hset_ne (by omega), hputs_ne (by omega), hputs_ne (by omega)]⟩
    have hnt := hRG.2.2.2.2.1
    have call : Run n_X0_dropTiesOf 110 0 (ini n_X0_dropTiesOf [.ref b, .ref (b + 6 + s2), .int (nI p2)]) [] (HH n kf (hset (hputs (hputs f (b + 2) (va_cpy (f (b + 2)) (f (b + 2)) (s2 * 8 + p2 + 1) (s2 * 8 + p2) (bNp B s2 - p2 - 1))) (b + 3) (va_cpy (f (b + 3)) (f (b + 3)) ((s2 * 8 + p2 + 1) * 12) ((s2 * 8 + p2) * 12) ((bNp B s2 - p2 - 1) * 12))) (b + 1) s2 (nI (bNp B s2 - 1)))) (Ret (some (.int (nI (bNt B) - nI (tsOf s2 p2 (bNt B) (bT B)).1))) (HH n kf f2)) := by
      have hT : mT n_X0_dropTiesOf = tb_X0_dropTiesOf := rfl
      refine v_p hT rfl rfl ?_
      refine v_geti hT rfl (by first | rfl | assumption) (by omega) ?_
      rw [hnt]
      refine v_p hT rfl rfl ?_
      refine v_cv r1 ⟨rfl, rfl, rfl, rfl, (prI_sub _).symm ▸ rfl, trivial⟩ (by rw [← prI_sub]; rfl) rfl
    refine v_p hT rfl rfl ?_
    refine v_call hT [.int (nI s2), .int (nI p2)] rfl rfl (by first | rfl | assumption) (by omega) rfl rfl (Nat.le_of_ble_eq_true rfl) (Nat.le_of_ble_eq_true rfl) (s_hasParagraph hb hR hV (nI s2) (nI p2)) ?_
    rw [hA]
    refine g_if hT rfl (fun cq => ?_) (fun cq => ?_)
    · repeat (first | refine v_p hT rfl rfl ?_ | refine v_getr hT rfl rfl (by omega) rfl ?_ | refine v_getr hT rfl k0 (by omega) (bk_rr hb _ _ _ (by decide)) ?_ | refine v_geti hT rfl (by first | rfl | assumption) (by omega) ?_ | refine v_ald hT rfl (by first | assumption | rfl) (by omega) (by decide) (by omega) ?_ | simp only [nI_add, pk_mul, hR.1 s2 hs2])
      rw [pk_sub (by omega), pk_sub (by omega)]
      refine v_scall hT [.int (nI s2), .int (nI p2)] rfl rfl rfl rfl (Nat.le_of_ble_eq_true rfl) (Nat.le_of_ble_eq_true rfl) (s_slot s2 p2) ?_
      repeat (first | refine v_p hT rfl rfl ?_ | refine v_getr hT rfl rfl (by omega) rfl ?_ | refine v_getr hT rfl k0 (by omega) (bk_rr hb _ _ _ (by decide)) ?_ | refine v_geti hT rfl (by first | rfl | assumption) (by omega) ?_ | refine v_ald hT rfl (by first | assumption | rfl) (by omega) (by decide) (by omega) ?_ | simp only [nI_add, pk_mul])
      refine v_cpy hT rfl k2 k2 (by omega) (by omega) (by omega) (by omega) (Nat.le_of_ble_eq_true rfl) ?_
      repeat (first | refine v_p hT rfl rfl ?_ | refine v_getr hT rfl rfl (by omega) rfl ?_ | refine v_getr hT rfl k0 (by omega) (bk_rr hb _ _ _ (by decide)) ?_ | refine v_geti hT rfl (by first | rfl | assumption) (by omega) ?_ | refine v_ald hT rfl (by first | assumption | rfl) (by omega) (by decide) (by omega) ?_ | simp only [nI_add, pk_mul])
      refine v_cpy hT rfl k3 k3 (by omega) (by omega) (by omega) (by omega) (Nat.le_of_ble_eq_true rfl) ?_
      repeat (first | refine v_p hT rfl rfl ?_ | refine v_getr hT rfl rfl (by omega) rfl ?_ | refine v_getr hT rfl k0 (by omega) (bk_rr hb _ _ _ (by decide)) ?_ | refine v_geti hT rfl (by first | rfl | assumption) (by omega) ?_ | refine v_ald hT rfl (by first | assumption | rfl) (by omega) (by decide) (by omega) ?_ | simp only [nI_add, pk_mul])
      rw [hputs_ne (show b + 1 ≠ b + 3 by omega), hputs_ne (show b + 1 ≠ b + 2 by omega), hputs_ne (show b + 3 ≠ b + 2 by omega), hR.1 s2 hs2, pk_sub (by omega)]
      refine v_ast hT rfl k1 (by omega) (by decide) (by omega) ?_
      refine v_p hT rfl rfl ?_
      refine g_if hT rfl (fun cq2 => ?_) (fun cq2 => ?_)
      · have cq2 := (cj_ne (a := s2) (b := 0) (by omega) (by omega)).mp cq2
        obtain rfl : s2 = 1 := by omega
        refine v_p hT rfl rfl ?_
        refine v_getr hT rfl k0 (by omega) (bk_rr hb _ _ _ (by decide)) ?_
        refine v_p hT rfl rfl ?_
        refine v_call hT [.ref (b + 7), .int (nI p2)] rfl rfl (by first | rfl | assumption) (by omega) rfl rfl (Nat.le_of_ble_eq_true rfl) (Nat.le_of_ble_eq_true rfl) (call) ?_
        refine v_ret hT rfl (fun z => by cases z) rfl ⟨rfl, rfl⟩
      · have cq2 := (not_congr (cj_ne (a := s2) (b := 0) (by omega) (by omega))).mp cq2
        obtain rfl : s2 = 0 := by omega
        refine v_p hT rfl rfl ?_
        refine v_getr hT rfl k0 (by omega) (bk_rr hb _ _ _ (by decide)) ?_
        refine v_p hT rfl rfl ?_
        refine v_call hT [.ref (b + 6), .int (nI p2)] rfl rfl (by first | rfl | assumption) (by omega) rfl rfl (Nat.le_of_ble_eq_true rfl) (Nat.le_of_ble_eq_true rfl) (call) ?_
        refine v_ret hT rfl (fun z => by cases z) rfl ⟨rfl, rfl⟩
    · exact absurd (show ¬ (1 : Int32) = 0 by decide) cq
end
section
/-! THE CLASS: a new paragraph of a book; crossing ties. -/
def bParAdd (B : BK) (s n : Nat) (l : Nat → Nat) : BK := ((fun z => if z = s then bNp B s + 1 else bNp B z), (fun z j => if z = s ∧ j = bNp B s then n else bNw B z j), (fun z j k => if z = s ∧ j = bNp B s then l k else bLn B z j k), bWd B, bSe B, bNt B, bTi B)
theorem linF_add_old {B : BK} {s n z p : Nat} {l : Nat → Nat} (h : ¬ (z = s ∧ p = bNp B s)) : linF (bParAdd B s n l) z p = linF B z p := by
  unfold linF
  simp only [bParAdd, bWd, bLn, bNw, if_neg h]
theorem fstF_add_old {B : BK} {s n z : Nat} {l : Nat → Nat} : ∀ p, (z = s → p ≤ bNp B s) → fstF (bParAdd B s n l) z p = fstF B z p := by
  intro p
  induction p with
  | zero => intro _; rfl
  | succ p ih =>
    intro h
    show fstF (bParAdd B s n l) z p + linF (bParAdd B s n l) z p = fstF B z p + linF B z p
    rw [ih (fun hz => by have := h hz; omega), linF_add_old (fun hq => by have := h hq.1; omega)]
theorem totF_add {B : BK} {s n : Nat} {l : Nat → Nat} : totF (bParAdd B s n l) s = totF B s + linF (bParAdd B s n l) s (bNp B s) := by
  have h1 : totF (bParAdd B s n l) s = fstF (bParAdd B s n l) s (bNp B s + 1) := by
    unfold totF
    rw [show bNp (bParAdd B s n l) s = bNp B s + 1 by simp [bParAdd, bNp]]
  rw [h1]
  show fstF (bParAdd B s n l) s (bNp B s) + _ = _
  rw [fstF_add_old _ (fun _ => Nat.le_refl _)]
  rfl
theorem VB0_add {B : BK} (hV : VB0 B) {s n : Nat} {l : Nat → Nat} (hs : bNp B s < 8) (h1 : 1 ≤ n) (h12 : n ≤ 12) (hl : ∀ k, k < n → 1 ≤ l k ∧ l k ≤ 9) : VB0 (bParAdd B s n l) := by
  obtain ⟨a1, a2, a3, a4, a5, a6⟩ := hV
  have np : ∀ z, bNp B z ≤ (if z = s then bNp B s + 1 else bNp B z) := by
    intro z
    split
    · rename_i hz; subst hz; omega
    · exact Nat.le_refl _
  refine ⟨fun z hz => ?_, fun z p hz hp => ?_, a3, a4, a5, fun i hi => ?_⟩
  · show (if z = s then bNp B s + 1 else bNp B z) ≤ 8
    split
    · omega
    · exact a1 z hz
  · have hp : p < (if z = s then bNp B s + 1 else bNp B z) := hp
    show 1 ≤ (if z = s ∧ p = bNp B s then n else bNw B z p) ∧ (if z = s ∧ p = bNp B s then n else bNw B z p) ≤ 12 ∧ ∀ k, k < (if z = s ∧ p = bNp B s then n else bNw B z p) → 1 ≤ (if z = s ∧ p = bNp B s then l k else bLn B z p k) ∧ (if z = s ∧ p = bNp B s then l k else bLn B z p k) ≤ 9
    by_cases hq : z = s ∧ p = bNp B s
    · simp only [if_pos hq]
      exact ⟨h1, h12, hl⟩
    · simp only [if_neg hq]
      refine a2 z p hz ?_
      by_cases hzs : z = s
      · subst hzs
        rw [if_pos rfl] at hp
        have : p ≠ bNp B z := fun e => hq ⟨rfl, e⟩
        omega
      · rw [if_neg hzs] at hp
        exact hp
  · obtain ⟨b1, b2, b3⟩ := a6 i hi
    exact ⟨Nat.lt_of_lt_of_le b1 (np 0), Nat.lt_of_lt_of_le b2 (np 1), b3⟩
/-- the words laid, not yet counted -/
theorem bkR_lay {f g : Nat → Nat → Int32} {b s n at_ : Nat} {B : BK} {r : Nat → Int32} (hV : VB0 B) (hs : s < 2) (h8 : bNp B s < 8) (h12 : n ≤ 12) (hR : bkR f b B) (hg : g = hputs (hset f (b + 2) (s * 8 + bNp B s) (nI n)) (b + 3) (va_cpy r (f (b + 3)) at_ ((s * 8 + bNp B s) * 12) n)) : bkR g b B := by
  subst hg
  obtain ⟨h1, h2, h3, h4, h5, h6⟩ := hR
  have v8 := hV.1
  have v2 := hV.2.1
  refine ⟨fun z hz => ?_, fun z q hz hq => ?_, fun z hz => ?_, fun i hi3 => ?_, ?_, fun j hj => ?_⟩
  · rw [hputs_ne (by omega), hset_ne (by omega)]; exact h1 z hz
  · have h7 := h2 z q hz hq
    have hz8 := v8 z hz
    have hne : z * 8 + q ≠ s * 8 + bNp B s := by
      intro e
      have : z = s := by omega
      subst this
      omega
    refine ⟨?_, fun k hk => ?_⟩
    · rw [hputs_ne (by omega), hs_s]
      simp only [upd, if_neg hne]
      exact h7.1
    · have h9 := (v2 z q hz hq).2.1
      simp only [hputs, if_pos]
      rw [pk_cpy_out (by omega)]
      exact h7.2 k hk
  · rw [hputs_ne (by omega), hset_ne (by omega)]; exact h3 z hz
  · rw [hputs_ne (by omega), hset_ne (by omega)]; exact h4 i hi3
  · rw [hputs_ne (by omega), hset_ne (by omega)]; exact h5
  · rw [hputs_ne (show b + 6 ≠ b + 3 by omega), hset_ne (show b + 6 ≠ b + 2 by omega), hputs_ne (show b + 7 ≠ b + 3 by omega), hset_ne (show b + 7 ≠ b + 2 by omega), hputs_ne (show b + 8 ≠ b + 3 by omega), hset_ne (show b + 8 ≠ b + 2 by omega)]
    exact h6 j hj
theorem bkR_add {f g : Nat → Nat → Int32} {b s n at_ : Nat} {B : BK} {r : Nat → Int32} {l : Nat → Nat} (hV : VB0 B) (hs : s < 2) (h8 : bNp B s < 8) (h12 : n ≤ 12) (hR : bkR f b B) (hr : ∀ k, k < n → r (at_ + k) = nI (l k)) (hg : g = hset (hputs (hset f (b + 2) (s * 8 + bNp B s) (nI n)) (b + 3) (va_cpy r (f (b + 3)) at_ ((s * 8 + bNp B s) * 12) n)) (b + 1) s (nI (bNp B s + 1))) : bkR g b (bParAdd B s n l) := by
  have hL := bkR_lay (at_ := at_) (r := r) hV hs h8 h12 hR rfl
  subst hg
  obtain ⟨h1, h2, h3, h4, h5, h6⟩ := hL
  refine ⟨fun z hz => ?_, fun z q hz hq => ?_, fun z hz => ?_, fun i hi3 => ?_, ?_, fun j hj => ?_⟩
  · by_cases hzs : z = s
    · subst hzs; simp [hset, upd, bParAdd, bNp]
    · rw [hs_s]
      simp only [upd, if_neg hzs]
      rw [h1 z hz]
      simp [bParAdd, bNp, hzs]
  · rw [hset_ne (show b + 2 ≠ b + 1 by omega), hset_ne (show b + 3 ≠ b + 1 by omega)]
    by_cases hq2 : z = s ∧ q = bNp B s
    · obtain ⟨rfl, rfl⟩ := hq2
      refine ⟨?_, fun k hk => ?_⟩
      · rw [hputs_ne (by omega), hs_s]
        simp [upd, bParAdd, bNw]
      · have hk : k < n := by simpa [bParAdd, bNw] using hk
        simp only [hputs, if_pos]
        rw [pk_cpy_in (by omega) (by omega), show at_ + ((z * 8 + bNp B z) * 12 + k - (z * 8 + bNp B z) * 12) = at_ + k by omega, hr k hk]
        simp [bParAdd, bLn]
    · have hq : q < bNp B z := by
        have hq : q < (if z = s then bNp B s + 1 else bNp B z) := hq
        by_cases hzs : z = s
        · subst hzs
          rw [if_pos rfl] at hq
          have : q ≠ bNp B z := fun e => hq2 ⟨rfl, e⟩
          omega
        · rw [if_neg hzs] at hq; exact hq
      have h7 := h2 z q hz hq
      refine ⟨?_, fun k hk => ?_⟩
      · rw [h7.1]; simp only [bParAdd, bNw, if_neg hq2]
      · rw [h7.2 k (by simpa only [bParAdd, bNw, if_neg hq2] using hk)]; simp only [bParAdd, bLn, if_neg hq2]
  · rw [hset_ne (by omega)]; exact h3 z hz
  · rw [hset_ne (by omega)]; exact h4 i hi3
  · rw [hset_ne (by omega)]; exact h5
  · rw [hset_ne (show b + 6 ≠ b + 1 by omega), hset_ne (show b + 7 ≠ b + 1 by omega), hset_ne (show b + 8 ≠ b + 1 by omega)]
    exact h6 j hj
/-- a new paragraph of side s, n words ws (1 to 12 of them): the answer and the book -/
noncomputable def aPar (B : BK) (s n : Nat) (ws : Nat → Int32) : Int32 × BK :=
  bif pB (∀ k, k < n → nI 1 ≤ ws k ∧ ws k ≤ nI 9) then
    (bif decide (8 ≤ bNp B s) || decide (60 < totF (bParAdd B s n (fun k => (ws k).toNatClampNeg)) s) then (mI 4, B) else (nI (bNp B s), bParAdd B s n (fun k => (ws k).toNatClampNeg))) else (mI 2, B)
theorem s_addParagraph {b m r at_ s n N : Nat} {kf : Nat → Nat} {f : Nat → Nat → Int32} {B : BK} (hb : isBk b) (hR : bkR f b B) (hV : VB0 B) (hs : s < 2) (h1 : 1 ≤ n) (h12 : n ≤ 12) (hk : kd r = (1, N)) (hr : r < 110) (hN : N < 100000) (hat : at_ + n ≤ N) (hrb : r < b ∨ b + 8 < r) :
    ∃ f2, Run n_X0_addParagraph 110 0 (ini n_X0_addParagraph [.ref b, .int (nI s), .ref r, .int (nI at_), .int (nI n)]) [] (HH m kf f) (Ret (some (.int (aPar B s n (fun k => f r (at_ + k))).1)) (HH m kf f2)) ∧ bkR f2 b (aPar B s n (fun k => f r (at_ + k))).2 ∧ ∀ c, c < b ∨ b + 8 < c → f2 c = f c := by
  have hT : mT n_X0_addParagraph = tb_X0_addParagraph := rfl
  obtain ⟨k0, k1, k2, k3, k4, k5, k6, k7, k8⟩ := bk_kd hb
  have hlt := bk_lt hb
  by_cases hA : ∀ k, k < n → nI 1 ≤ f r (at_ + k) ∧ f r (at_ + k) ≤ nI 9
  · have hto : aPar B s n (fun k => f r (at_ + k)) = bif decide (8 ≤ bNp B s) || decide (60 < totF (bParAdd B s n (fun k => (f r (at_ + k)).toNatClampNeg)) s) then (mI 4, B) else (nI (bNp B s), bParAdd B s n (fun k => (f r (at_ + k)).toNatClampNeg)) := by
      unfold aPar
      rw [pB_t hA]
      rfl
    have hln : ∀ k, k < n → f r (at_ + k) = nI ((f r (at_ + k)).toNatClampNeg) ∧ 1 ≤ (f r (at_ + k)).toNatClampNeg ∧ (f r (at_ + k)).toNatClampNeg ≤ 9 := by
      intro k hk
      obtain ⟨v, hv1, hv9, e⟩ := in_range _ (by omega) (hA k hk) (by omega)
      rw [e, nI_clamp (by omega)]
      exact ⟨rfl, hv1, hv9⟩
    generalize hl : (fun k => (f r (at_ + k)).toNatClampNeg) = l at hto
    have hln : ∀ k, k < n → f r (at_ + k) = nI (l k) ∧ 1 ≤ l k ∧ l k ≤ 9 := by
      intro k hk
      rw [← hl]
      exact hln k hk
    rw [hto]
    have h8 := hV.1 s hs
    have loop : ∀ Φ, Run n_X0_addParagraph 110 34 [some (.ref b), some (.int (nI s)), some (.ref r), some (.int (nI at_)), some (.int (nI n)), none, none] [] (HH m kf f) Φ → ∀ dd i : Nat, i + dd = n → Run n_X0_addParagraph 110 7 [some (.ref b), some (.int (nI s)), some (.ref r), some (.int (nI at_)), some (.int (nI n)), some (.int (nI i)), none] [.int (nI n), .int (nI i)] (HH m kf f) Φ := by
      intro Φ hΦ dd
      induction dd with
      | zero =>
        intro i hi
        refine g_cmp hT rfl (fun cq => ?_) (fun cq => ?_)
        · exact v_cv hΦ ⟨rfl, rfl, rfl, rfl, rfl, trivial⟩ rfl rfl
        · exact absurd ((cj_ge (by omega) (by omega)).mpr (by omega)) cq
      | succ dd ih =>
        intro i hi
        refine g_cmp hT rfl (fun cq => ?_) (fun cq => ?_)
        · exact absurd ((cj_ge (by omega) (by omega)).mp cq) (by omega)
        · refine v_p hT rfl rfl ?_
          simp only [nI_add]
          refine v_ald hT rfl hk hr (by omega) (by omega) ?_
          refine v_p hT rfl rfl ?_
          refine v_scall hT [.int (f r (at_ + i)), .int (nI 1), .int (nI 9)] rfl rfl rfl rfl (Nat.le_of_ble_eq_true rfl) (Nat.le_of_ble_eq_true rfl) (s_within (f r (at_ + i)) (nI 1) (nI 9)) ?_
          rw [decide_eq_true (hA i (by omega))]
          refine g_if hT rfl (fun cq2 => ?_) (fun cq2 => ?_)
          · refine v_p hT rfl rfl ?_
            simp only [nI_add]
            exact ih (i + 1) (by omega)
          · exact absurd (show ¬ (1 : Int32) = 0 by decide) cq2
    have hstart : ∀ Φ, Run n_X0_addParagraph 110 46 [some (.ref b), some (.int (nI s)), some (.ref r), some (.int (nI at_)), some (.int (nI n)), some (.int (nI (bNp B s))), none] [.int (nI 8), .int (nI (bNp B s))] (HH m kf f) Φ → Run n_X0_addParagraph 110 0 (ini n_X0_addParagraph [.ref b, .int (nI s), .ref r, .int (nI at_), .int (nI n)]) [] (HH m kf f) Φ := by
      intro Φ hΦ
      refine v_p hT rfl rfl ?_
      refine loop Φ ?_ n 0 (by omega)
      repeat (first | refine v_p hT rfl rfl ?_ | refine v_getr hT rfl rfl (by omega) rfl ?_ | refine v_getr hT rfl k0 (by omega) (bk_rr hb _ _ _ (by decide)) ?_ | refine v_geti hT rfl (by first | rfl | assumption) (by omega) ?_ | refine v_ald hT rfl (by first | assumption | rfl) (by omega) (by decide) (by omega) ?_ | simp only [nI_add, pk_mul, hR.1 s hs])
      exact hΦ
    by_cases h8b : 8 ≤ bNp B s
    · rw [decide_eq_true h8b]
      refine ⟨f, hstart _ ?_, hR, fun _ _ => rfl⟩
      refine g_cmp hT rfl (fun cq => ?_) (fun cq => ?_)
      · exact absurd ((cj_lt (by omega) (by omega)).mp cq) (by omega)
      · refine v_p hT rfl rfl ?_
        refine v_ret hT rfl (fun z => by cases z) rfl ⟨rfl, rfl⟩
    · rw [decide_eq_false h8b]
      have hV2 := VB0_add (l := l) hV (show bNp B s < 8 by omega) h1 h12 (fun k hk => (hln k hk).2)
      have hlin : linF (bParAdd B s n l) s (bNp B s) = (lineF (bWd B s) l (n - 1)).1 + 1 := by
        unfold linF
        simp [bParAdd, bWd, bLn, bNw]
      have htot := totF_add (B := B) (s := s) (n := n) (l := l)
      have ht96 := totF_le hV hs
      have hl12 := lineF_le (bWd B s) l (n - 1)
      have hwd := hV.2.2.1 s hs
      have hR2 := bkR_lay (at_ := at_) (r := f r) hV hs (show bNp B s < 8 by omega) h12 hR rfl
      have hmid : ∀ Φ, Run n_X0_addParagraph 110 99 [some (.ref b), some (.int (nI s)), some (.ref r), some (.int (nI at_)), some (.int (nI n)), some (.int (nI (bNp B s))), some (.int (nI (s * 8 + bNp B s)))] [.int (nI 60), .int (nI (totF (bParAdd B s n l) s))] (HH m kf (hputs (hset f (b + 2) (s * 8 + bNp B s) (nI n)) (b + 3) (va_cpy (f r) (f (b + 3)) at_ ((s * 8 + bNp B s) * 12) n))) Φ → Run n_X0_addParagraph 110 0 (ini n_X0_addParagraph [.ref b, .int (nI s), .ref r, .int (nI at_), .int (nI n)]) [] (HH m kf f) Φ := by
        intro Φ hΦ
        refine hstart _ ?_
        refine g_cmp hT rfl (fun cq => ?_) (fun cq => ?_)
        · refine v_p hT rfl rfl ?_
          refine v_scall hT [.int (nI s), .int (nI (bNp B s))] rfl rfl rfl rfl (Nat.le_of_ble_eq_true rfl) (Nat.le_of_ble_eq_true rfl) (s_slot s (bNp B s)) ?_
          repeat (first | refine v_p hT rfl rfl ?_ | refine v_getr hT rfl rfl (by omega) rfl ?_ | refine v_getr hT rfl k0 (by omega) (bk_rr hb _ _ _ (by decide)) ?_ | refine v_geti hT rfl (by first | rfl | assumption) (by omega) ?_ | refine v_ald hT rfl (by first | assumption | rfl) (by omega) (by decide) (by omega) ?_ | simp only [nI_add, pk_mul])
          refine v_ast hT rfl k2 (by omega) (by decide) (by omega) ?_
          repeat (first | refine v_p hT rfl rfl ?_ | refine v_getr hT rfl rfl (by omega) rfl ?_ | refine v_getr hT rfl k0 (by omega) (bk_rr hb _ _ _ (by decide)) ?_ | refine v_geti hT rfl (by first | rfl | assumption) (by omega) ?_ | refine v_ald hT rfl (by first | assumption | rfl) (by omega) (by decide) (by omega) ?_ | simp only [nI_add, pk_mul])
          refine v_cpy hT rfl hk k3 hr (by omega) hat (by omega) (Nat.le_of_ble_eq_true rfl) ?_
          rw [hset_ne (show r ≠ b + 2 by omega), hset_ne (show b + 3 ≠ b + 2 by omega)]
          refine v_p hT rfl rfl ?_
          refine v_call hT [.int (nI s)] rfl rfl (by first | rfl | assumption) (by omega) rfl rfl (Nat.le_of_ble_eq_true rfl) (Nat.le_of_ble_eq_true rfl) (s_linesOfSide hb hR2 hV hs) ?_
          refine v_p hT rfl rfl ?_
          refine v_call hT [.int (nI (s * 8 + bNp B s))] rfl rfl (by first | rfl | assumption) (by omega) rfl rfl (Nat.le_of_ble_eq_true rfl) (Nat.le_of_ble_eq_true rfl) (s_linesIn (nw := n) (w := bWd B s) (ln := l) hb (by omega) (by rw [hputs_ne (by omega), hs_s]; simp [upd]) h1 h12 (by rw [sl_div (by omega), hputs_ne (by omega), hset_ne (by omega)]; exact hR.2.2.1 s hs) (by omega) (fun i hi => by simp only [hputs, if_pos]; rw [pk_cpy_in (by omega) (by omega), show at_ + ((s * 8 + bNp B s) * 12 + i - (s * 8 + bNp B s) * 12) = at_ + i by omega]; exact (hln i hi).1) (fun i hi => by have := (hln i hi).2; omega)) ?_
          refine v_p hT rfl rfl ?_
          rw [nI_add, ← hlin, ← htot]
          exact hΦ
        · exact absurd ((cj_lt (by omega) (by omega)).mpr (by omega)) cq
      by_cases h60 : 60 < totF (bParAdd B s n l) s
      · rw [decide_eq_true h60]
        refine ⟨_, hmid _ ?_, hR2, fun c hc => by rw [hputs_ne (by omega), hset_ne (by omega)]⟩
        refine g_cmp hT rfl (fun cq => ?_) (fun cq => ?_)
        · exact absurd ((cj_le (by omega) (by omega)).mp cq) (by omega)
        · refine v_p hT rfl rfl ?_
          refine v_ret hT rfl (fun z => by cases z) rfl ⟨rfl, rfl⟩
      · rw [decide_eq_false h60]
        refine ⟨_, hmid _ ?_, bkR_add hV hs (show bNp B s < 8 by omega) h12 hR (fun k hk => (hln k hk).1) rfl, fun c hc => by rw [hset_ne (by omega), hputs_ne (by omega), hset_ne (by omega)]⟩
        refine g_cmp hT rfl (fun cq => ?_) (fun cq => ?_)
        · repeat (first | refine v_p hT rfl rfl ?_ | refine v_getr hT rfl rfl (by omega) rfl ?_ | refine v_getr hT rfl k0 (by omega) (bk_rr hb _ _ _ (by decide)) ?_ | refine v_geti hT rfl (by first | rfl | assumption) (by omega) ?_ | refine v_ald hT rfl (by first | assumption | rfl) (by omega) (by decide) (by omega) ?_ | simp only [nI_add, pk_mul])
          rw [hR2.1 s hs]
          repeat (first | refine v_p hT rfl rfl ?_ | refine v_getr hT rfl rfl (by omega) rfl ?_ | refine v_getr hT rfl k0 (by omega) (bk_rr hb _ _ _ (by decide)) ?_ | refine v_geti hT rfl (by first | rfl | assumption) (by omega) ?_ | refine v_ald hT rfl (by first | assumption | rfl) (by omega) (by decide) (by omega) ?_ | simp only [nI_add, pk_mul])
          refine v_ast hT rfl k1 (by omega) (by decide) (by omega) ?_
          refine v_p hT rfl rfl ?_
          refine v_ret hT rfl (fun z => by cases z) rfl ⟨rfl, rfl⟩
        · exact absurd ((cj_le (by omega) (by omega)).mpr (by omega)) cq
  · have hto : aPar B s n (fun k => f r (at_ + k)) = (mI 2, B) := by unfold aPar; rw [pB_f hA]; rfl
    rw [hto]
    refine ⟨f, ?_, hR, fun _ _ => rfl⟩
    have loop : ∀ dd i : Nat, i + dd = n → (∀ k, k < i → nI 1 ≤ f r (at_ + k) ∧ f r (at_ + k) ≤ nI 9) → Run n_X0_addParagraph 110 7 [some (.ref b), some (.int (nI s)), some (.ref r), some (.int (nI at_)), some (.int (nI n)), some (.int (nI i)), none] [.int (nI n), .int (nI i)] (HH m kf f) (Ret (some (.int (mI 2))) (HH m kf f)) := by
      intro dd
      induction dd with
      | zero => intro i hi hno; exact absurd (fun k hk => hno k (by omega)) hA
      | succ dd ih =>
        intro i hi hno
        refine g_cmp hT rfl (fun cq => ?_) (fun cq => ?_)
        · exact absurd ((cj_ge (by omega) (by omega)).mp cq) (by omega)
        · refine v_p hT rfl rfl ?_
          simp only [nI_add]
          refine v_ald hT rfl hk hr (by omega) (by omega) ?_
          refine v_p hT rfl rfl ?_
          refine v_scall hT [.int (f r (at_ + i)), .int (nI 1), .int (nI 9)] rfl rfl rfl rfl (Nat.le_of_ble_eq_true rfl) (Nat.le_of_ble_eq_true rfl) (s_within (f r (at_ + i)) (nI 1) (nI 9)) ?_
          refine g_if hT rfl (fun cq2 => ?_) (fun cq2 => ?_)
          · have cq2 := of_decide_eq_true (bt_of cq2)
            refine v_p hT rfl rfl ?_
            simp only [nI_add]
            exact ih (i + 1) (by omega) (fun k hk => by
              by_cases hki : k = i
              · subst hki; exact cq2
              · exact hno k (by omega))
          · refine v_p hT rfl rfl ?_
            refine v_ret hT rfl (fun z => by cases z) rfl ⟨rfl, rfl⟩
    refine v_p hT rfl rfl ?_
    exact loop n 0 (by omega) (fun k hk => by omega)
end
section
/-! THE CLASS: crossing ties, the kept ones. -/
theorem s_cross {b n i j : Nat} {kf : Nat → Nat} {f : Nat → Nat → Int32} {B : BK} (hb : isBk b) (hR : bkR f b B) (hok : tsOk (bT B)) (hi : i < bNt B) (hj : j < bNt B) :
    Run n_X0_cross 110 0 (ini n_X0_cross [.ref b, .int (nI i), .int (nI j)]) [] (HH n kf f) (Ret (some (.int (bI (crossB B i j)))) (HH n kf f)) := by
  have hT : mT n_X0_cross = tb_X0_cross := rfl
  obtain ⟨k0, k1, k2, k3, k4, k5, k6, k7, k8⟩ := bk_kd hb
  have hlt := bk_lt hb
  have h10 : bNt B ≤ 10 := hok.1
  have a1 := hR.2.2.2.2.2 i hi
  have a2 := hR.2.2.2.2.2 j hj
  have b1 : bTi B 0 i < 100 := hok.2 0 i (by omega) hi
  have b2 : bTi B 1 i < 100 := hok.2 1 i (by omega) hi
  have b3 : bTi B 0 j < 100 := hok.2 0 j (by omega) hj
  have b4 : bTi B 1 j < 100 := hok.2 1 j (by omega) hj
  have second : ¬ (bTi B 0 i < bTi B 0 j ∧ bTi B 1 j < bTi B 1 i) → Run n_X0_cross 110 30 (ini n_X0_cross [.ref b, .int (nI i), .int (nI j)]) [] (HH n kf f) (Ret (some (.int (bI (crossB B i j)))) (HH n kf f)) := by
    intro hno
    repeat (first | refine v_p hT rfl rfl ?_ | refine v_getr hT rfl rfl (by omega) rfl ?_ | refine v_getr hT rfl k0 (by omega) (bk_rr hb _ _ _ (by decide)) ?_ | refine v_geti hT rfl (by first | rfl | assumption) (by omega) ?_ | refine v_ald hT rfl (by first | assumption | rfl) (by omega) (by decide) (by omega) ?_ | simp only [nI_add, pk_mul, a1.1, a2.1])
    refine g_cmp hT rfl (fun q1 => ?_) (fun q1 => ?_)
    · have q1 := (cj_le (by omega) (by omega)).mp q1
      refine v_p hT rfl rfl ?_
      refine v_ret hT rfl (fun _ => Or.inl rfl) rfl ⟨?_, rfl⟩
      unfold crossB
      rw [decide_eq_false (by omega)]
      rfl
    · have q1 := (not_congr (cj_le (by omega) (by omega))).mp q1
      repeat (first | refine v_p hT rfl rfl ?_ | refine v_getr hT rfl rfl (by omega) rfl ?_ | refine v_getr hT rfl k0 (by omega) (bk_rr hb _ _ _ (by decide)) ?_ | refine v_geti hT rfl (by first | rfl | assumption) (by omega) ?_ | refine v_ald hT rfl (by first | assumption | rfl) (by omega) (by decide) (by omega) ?_ | simp only [nI_add, pk_mul, a1.2.1, a2.2.1])
      refine g_cmp hT rfl (fun q2 => ?_) (fun q2 => ?_)
      · have q2 := (cj_ge (by omega) (by omega)).mp q2
        refine v_p hT rfl rfl ?_
        refine v_ret hT rfl (fun _ => Or.inl rfl) rfl ⟨?_, rfl⟩
        unfold crossB
        rw [decide_eq_false (by omega)]
        rfl
      · have q2 := (not_congr (cj_ge (by omega) (by omega))).mp q2
        refine v_p hT rfl rfl ?_
        refine v_ret hT rfl (fun _ => Or.inr rfl) rfl ⟨?_, rfl⟩
        unfold crossB
        rw [decide_eq_true (by omega)]
        rfl
  repeat (first | refine v_p hT rfl rfl ?_ | refine v_getr hT rfl rfl (by omega) rfl ?_ | refine v_getr hT rfl k0 (by omega) (bk_rr hb _ _ _ (by decide)) ?_ | refine v_geti hT rfl (by first | rfl | assumption) (by omega) ?_ | refine v_ald hT rfl (by first | assumption | rfl) (by omega) (by decide) (by omega) ?_ | simp only [nI_add, pk_mul, a1.1, a2.1])
  refine g_cmp hT rfl (fun q1 => ?_) (fun q1 => ?_)
  · have q1 := (cj_ge (by omega) (by omega)).mp q1
    exact second (by omega)
  · have q1 := (not_congr (cj_ge (by omega) (by omega))).mp q1
    repeat (first | refine v_p hT rfl rfl ?_ | refine v_getr hT rfl rfl (by omega) rfl ?_ | refine v_getr hT rfl k0 (by omega) (bk_rr hb _ _ _ (by decide)) ?_ | refine v_geti hT rfl (by first | rfl | assumption) (by omega) ?_ | refine v_ald hT rfl (by first | assumption | rfl) (by omega) (by decide) (by omega) ?_ | simp only [nI_add, pk_mul, a1.2.1, a2.2.1])
    refine g_cmp hT rfl (fun q2 => ?_) (fun q2 => ?_)
    · have q2 := (cj_gt (by omega) (by omega)).mp q2
      refine v_p hT rfl rfl ?_
      refine v_ret hT rfl (fun _ => Or.inr rfl) rfl ⟨?_, rfl⟩
      unfold crossB
      rw [decide_eq_true (by omega)]
      rfl
    · have q2 := (not_congr (cj_gt (by omega) (by omega))).mp q2
      exact second (by omega)
theorem bkR_fr {f F : Nat → Nat → Int32} {b : Nat} {B : BK} (hR : bkR f b B) (hF : ∀ c, b ≤ c → c ≤ b + 8 → F c = f c) : bkR F b B := by
  obtain ⟨h1, h2, h3, h4, h5, h6⟩ := hR
  have e : ∀ i, i ≤ 8 → F (b + i) = f (b + i) := fun i hi => hF _ (by omega) (by omega)
  refine ⟨fun z hz => by rw [e 1 (by omega)]; exact h1 z hz, fun z q hz hq => by rw [e 2 (by omega), e 3 (by omega)]; exact h2 z q hz hq, fun z hz => by rw [e 4 (by omega)]; exact h3 z hz, fun i hi3 => by rw [e 5 (by omega)]; exact h4 i hi3, by have := e 0 (by omega); rw [show F b = f b from this]; exact h5, fun j hj => by rw [e 6 (by omega), e 7 (by omega), e 8 (by omega)]; exact h6 j hj⟩
theorem bk_lo {b : Nat} (hb : isBk b) : b + 8 < 75 := by
  rcases hb with rfl | rfl | rfl | rfl | rfl | rfl | rfl | rfl <;> omega
/-! bits -/
theorem sh_c : ∀ n, n < 32 → ((nI n &&& 31).toBitVec.smod 32).toNat = n := by decide +kernel
theorem bit_at {x i : Nat} (hx : x < 2 ^ 31) (hi : i < 32) : (nI x >>> (nI i &&& 31)) &&& nI 1 = nI (x / 2 ^ i % 2) := by
  rw [pk_shrN hx _ i (sh_c i hi)]
  have h1 : x / 2 ^ i < 2 ^ 32 := Nat.lt_of_le_of_lt (Nat.div_le_self _ _) (by omega)
  exact pk_andN h1 (m := nI 1) 1 (by decide)
theorem pow_at {i : Nat} (hi : i < 31) : nI 1 <<< (nI i &&& 31) = nI (2 ^ i) := by
  have h2 : 2 ^ i < 2 ^ 31 := Nat.pow_lt_pow_right (by omega) hi
  have := pk_shlN (n := 1) (nI i &&& 31) i (sh_c i (by omega)) (by omega)
  rw [this, Nat.one_mul]
theorem nI_or (a b : Nat) : nI a ||| nI b = nI (a ||| b) := by
  unfold nI
  apply Int32.toBitVec_inj.mp
  rw [Int32.toBitVec_or]
  show BitVec.ofNat 32 a ||| BitVec.ofNat 32 b = BitVec.ofNat 32 (a ||| b)
  exact (BitVec.ofNat_or).symm
theorem nI_and (a b : Nat) : nI a &&& nI b = nI (a &&& b) := by
  unfold nI
  apply Int32.toBitVec_inj.mp
  rw [Int32.toBitVec_and]
  show BitVec.ofNat 32 a &&& BitVec.ofNat 32 b = BitVec.ofNat 32 (a &&& b)
  exact (BitVec.ofNat_and).symm
theorem tb_dm (x i : Nat) : x.testBit i = decide (x / 2 ^ i % 2 = 1) := Nat.testBit_eq_decide_div_mod_eq
def cnN (x : Nat) : Nat → Nat
  | 0 => 0
  | i + 1 => cnN x i + (if x.testBit i = true then 1 else 0)
theorem cnN_le (x : Nat) : ∀ n, cnN x n ≤ n := by
  intro n
  induction n with
  | zero => exact Nat.le_refl _
  | succ n ih => unfold cnN; split <;> omega
theorem cnN_ext {x n : Nat} (hx : x < 2 ^ n) : ∀ d, cnN x (n + d) = cnN x n := by
  intro d
  induction d with
  | zero => rfl
  | succ d ih =>
    show cnN x (n + d) + (if x.testBit (n + d) = true then 1 else 0) = _
    have h2 : x < 2 ^ (n + d) := Nat.lt_of_lt_of_le hx (Nat.pow_le_pow_right (by omega) (by omega))
    rw [ih, Nat.testBit_lt_two_pow h2]
    rfl
/-- Integer.bitCount -/
def bcI (x : Int32) : Int32 :=
  let a := x - ((x.toUInt32 >>> ((nI 1).toUInt32 &&& Int32.toUInt32 31)).toInt32 &&& nI 1431655765)
  let b := (a &&& nI 858993459) + ((a.toUInt32 >>> ((nI 2).toUInt32 &&& Int32.toUInt32 31)).toInt32 &&& nI 858993459)
  let c := (b + (b.toUInt32 >>> ((nI 4).toUInt32 &&& Int32.toUInt32 31)).toInt32) &&& nI 252645135
  let d := c + (c.toUInt32 >>> ((nI 8).toUInt32 &&& Int32.toUInt32 31)).toInt32
  let e := d + (d.toUInt32 >>> ((nI 16).toUInt32 &&& Int32.toUInt32 31)).toInt32
  e &&& nI 63
theorem s_bitCount (x : Int32) {n : Nat} {kf : Nat → Nat} {f : Nat → Nat → Int32} : Run n_J6_bitCount_0f7a4 110 0 (ini n_J6_bitCount_0f7a4 [.int x]) [] (HH n kf f) (Ret (some (.int (bcI x))) (HH n kf f)) := by
  have hT : mT n_J6_bitCount_0f7a4 = tb_J6_bitCount_0f7a4 := rfl
  refine v_p hT rfl rfl ?_
  refine v_ret hT rfl (fun z => by cases z) rfl ⟨rfl, rfl⟩
set_option maxRecDepth 20000 in
theorem bcI_cn : ∀ x, x < 1024 → bcI (nI x) = nI (cnN x 10) := by decide +kernel
/-- whom a tie crosses, as bits; how many; ends of all -/
def crM (B : BK) (i : Nat) : Nat → Nat
  | 0 => 0
  | j + 1 => crM B i j + (if crossB B i j = true then 2 ^ j else 0)
def rowN (B : BK) (i : Nat) : Nat → Nat
  | 0 => 0
  | j + 1 => rowN B i j + (if crossB B i j = true then 1 else 0)
def endN (B : BK) (n : Nat) : Nat → Nat
  | 0 => 0
  | i + 1 => endN B n i + rowN B i n
theorem crM_lt (B : BK) (i : Nat) : ∀ j, crM B i j < 2 ^ j := by
  intro j
  induction j with
  | zero => exact Nat.one_pos
  | succ j ih =>
    have h1 : 2 ^ (j + 1) = 2 ^ j + 2 ^ j := by rw [Nat.pow_succ]; omega
    show crM B i j + _ < _
    split <;> omega
theorem crM_bit (B : BK) (i : Nat) : ∀ n j, (crM B i n).testBit j = (decide (j < n) && crossB B i j) := by
  intro n
  induction n with
  | zero => intro j; simp [crM]
  | succ n ih =>
    intro j
    have hl := crM_lt B i n
    by_cases hc : crossB B i n = true
    · have e : crM B i (n + 1) = 2 ^ n + crM B i n := by
        show crM B i n + _ = _
        rw [if_pos hc]
        omega
      rw [e]
      by_cases hj : j = n
      · subst hj
        rw [Nat.testBit_two_pow_add_eq, Nat.testBit_lt_two_pow hl, hc]
        simp
      · by_cases hjn : j < n
        · rw [Nat.testBit_two_pow_add_gt hjn, ih]
          simp [hjn, show j < n + 1 by omega]
        · have h3 : 2 ^ n + crM B i n < 2 ^ j := by
            have h4 : 2 ^ (n + 1) ≤ 2 ^ j := Nat.pow_le_pow_right (by omega) (by omega)
            have h5 : 2 ^ (n + 1) = 2 ^ n + 2 ^ n := by rw [Nat.pow_succ]; omega
            omega
          rw [Nat.testBit_lt_two_pow h3]
          simp [show ¬ j < n + 1 by omega]
    · have e : crM B i (n + 1) = crM B i n := by
        show crM B i n + _ = _
        rw [if_neg hc]
        rfl
      rw [e, ih]
      by_cases hj : j = n
      · subst hj
        simp [Bool.not_eq_true _ ▸ hc]
      · by_cases hjn : j < n
        · simp [hjn, show j < n + 1 by omega]
        · simp [hjn, show ¬ j < n + 1 by omega]
theorem crM_cn (B : BK) (i n : Nat) : ∀ m, m ≤ n → cnN (crM B i n) m = rowN B i m := by
  intro m
  induction m with
  | zero => intro _; rfl
  | succ m ih =>
    intro hm
    show cnN _ m + _ = rowN B i m + _
    rw [ih (by omega), crM_bit]
    simp [show m < n by omega]
theorem rowN_le (B : BK) (i : Nat) : ∀ n, rowN B i n ≤ n := by
  intro n
  induction n with
  | zero => exact Nat.le_refl _
  | succ n ih => unfold rowN; split <;> omega
theorem endN_le (B : BK) (n : Nat) : ∀ i, endN B n i ≤ i * n := by
  intro i
  induction i with
  | zero => exact Nat.zero_le _
  | succ i ih =>
    have := rowN_le B i n
    show endN B n i + rowN B i n ≤ (i + 1) * n
    rw [Nat.add_mul]
    omega
theorem s_findCrossed {b n : Nat} {kf : Nat → Nat} {f : Nat → Nat → Int32} {B : BK} (hb : isBk b) (hR : bkR f b B) (hok : tsOk (bT B)) :
    ∃ f2, Run n_X1_findCrossed 110 0 (ini n_X1_findCrossed [.ref 87, .ref b]) [] (HH n kf f) (Ret none (HH n kf f2)) ∧ (∀ i, i < bNt B → f2 88 i = nI (crM B i (bNt B))) ∧ f2 87 = upd (f 87) 1 (nI (endN B (bNt B) (bNt B) / 2)) ∧ ∀ c, c ≠ 87 → c ≠ 88 → f2 c = f c := by
  have hT : mT n_X1_findCrossed = tb_X1_findCrossed := rfl
  obtain ⟨k0, k1, k2, k3, k4, k5, k6, k7, k8⟩ := bk_kd hb
  have hlt := bk_lt hb
  have h10 : bNt B ≤ 10 := hok.1
  have hb88 : ∀ c, b ≤ c → c ≤ b + 8 → c ≠ 88 := by
    intro c h1 h2
    rcases hb with rfl | rfl | rfl | rfl | rfl | rfl | rfl | rfl <;> omega
  have bkr : ∀ F : Nat → Nat → Int32, (∀ c, c ≠ 88 → F c = f c) → bkR F b B := by
    intro F hF
    obtain ⟨h1, h2, h3, h4, h5, h6⟩ := hR
    have e : ∀ i, i ≤ 8 → F (b + i) = f (b + i) := fun i hi => hF _ (hb88 _ (by omega) (by omega))
    refine ⟨fun z hz => by rw [e 1 (by omega)]; exact h1 z hz, fun z q hz hq => by rw [e 2 (by omega), e 3 (by omega)]; exact h2 z q hz hq, fun z hz => by rw [e 4 (by omega)]; exact h3 z hz, fun i hi3 => by rw [e 5 (by omega)]; exact h4 i hi3, by have := e 0 (by omega); rw [show F b = f b from this]; exact h5, fun j hj => by rw [e 6 (by omega), e 7 (by omega), e 8 (by omega)]; exact h6 j hj⟩
  have inner : ∀ (i : Nat), i < bNt B → ∀ (Φ : PT) (F : Nat → Nat → Int32), (∀ c, c ≠ 88 → F c = f c) → Run n_X1_findCrossed 110 63 [some (.ref 87), some (.ref b), some (.int (nI (endN B (bNt B) (i + 1)))), some (.int (nI i)), none] [] (HH n kf (hset F 88 i (nI (crM B i (bNt B))))) Φ →
      ∀ dd j : Nat, j + dd = bNt B → Run n_X1_findCrossed 110 28 [some (.ref 87), some (.ref b), some (.int (nI (endN B (bNt B) i + rowN B i j))), some (.int (nI i)), some (.int (nI j))] [.int (nI (bNt B)), .int (nI j)] (HH n kf (hset F 88 i (nI (crM B i j)))) Φ := by
    intro i hi Φ F hF hΦ dd
    induction dd with
    | zero =>
      intro j hj
      obtain rfl : j = bNt B := by omega
      refine g_cmp hT rfl (fun cq => ?_) (fun cq => ?_)
      · exact v_cv hΦ ⟨rfl, rfl, rfl, rfl, trivial⟩ rfl rfl
      · exact absurd ((cj_ge (by omega) (by omega)).mpr (by omega)) cq
    | succ dd ih =>
      intro j hj
      have hF2 : ∀ c, c ≠ 88 → hset F 88 i (nI (crM B i j)) c = f c := fun c hc => by rw [hset_ne hc]; exact hF c hc
      have hRF := bkr _ hF2
      refine g_cmp hT rfl (fun cq => ?_) (fun cq => ?_)
      · exact absurd ((cj_ge (by omega) (by omega)).mp cq) (by omega)
      · refine v_p hT rfl rfl ?_
        refine v_call hT [.int (nI i), .int (nI j)] rfl rfl (by first | rfl | assumption) (by omega) rfl rfl (Nat.le_of_ble_eq_true rfl) (Nat.le_of_ble_eq_true rfl) (s_cross hb hRF hok hi (show j < bNt B by omega)) ?_
        have hlt2 := crM_lt B i j
        have hpw : 2 ^ j ≤ 2 ^ 9 := Nat.pow_le_pow_right (by omega) (by omega)
        cases hc : crossB B i j with
        | true =>
          refine g_if hT rfl (fun cq2 => ?_) (fun cq2 => ?_)
          · exact absurd (show (1 : Int32) = 0 from cq2) (by decide)
          · refine v_p hT rfl rfl ?_
            refine v_getr hT rfl rfl (by omega) rfl ?_
            refine v_p hT rfl rfl ?_
            refine v_ald hT rfl (by first | assumption | rfl) (by omega) (by decide) (by omega) ?_
            rw [hs_s]
            simp only [upd, if_pos]
            refine v_p hT rfl rfl ?_
            rw [pow_at (by omega), nI_or, show crM B i j ||| 2 ^ j = crM B i (j + 1) by
              rw [Nat.or_comm]
              have := Nat.two_pow_add_eq_or_of_lt hlt2 1
              rw [Nat.mul_one] at this
              rw [← this]
              show _ = crM B i j + _
              rw [if_pos hc]
              omega]
            refine v_ast hT rfl rfl (by omega) (by decide) (by omega) ?_
            rw [hset_hset]
            refine v_p hT rfl rfl ?_
            refine v_geti hT rfl k0 (by omega) ?_
            rw [hset_ne (hb88 b (by omega) (by omega)), hF b (hb88 b (by omega) (by omega)), hR.2.2.2.2.1]
            refine v_cv (ih (j + 1) (by omega)) ⟨rfl, rfl, ?_, rfl, ?_, trivial⟩ ?_ rfl
            · rw [nI_add]; congr 2; show _ + (rowN B i j + _) = _; rw [if_pos hc]; omega
            · rw [nI_add]
            · rw [nI_add]; rfl
        | false =>
          refine g_if hT rfl (fun cq2 => ?_) (fun cq2 => ?_)
          · refine v_p hT rfl rfl ?_
            refine v_geti hT rfl k0 (by omega) ?_
            rw [hset_ne (hb88 b (by omega) (by omega)), hF b (hb88 b (by omega) (by omega)), hR.2.2.2.2.1]
            have e1 : crM B i (j + 1) = crM B i j := by show crM B i j + _ = _; rw [hc]; rfl
            have e2 : rowN B i (j + 1) = rowN B i j := by show rowN B i j + _ = _; rw [hc]; rfl
            have := ih (j + 1) (by omega)
            rw [e1, e2] at this
            refine v_cv this ⟨rfl, rfl, rfl, rfl, ?_, trivial⟩ ?_ rfl
            · rw [nI_add]
            · rw [nI_add]; rfl
          · exact absurd rfl (show ¬ (0 : Int32) = 0 from cq2)
  have outer : ∀ dd i : Nat, i + dd = bNt B → ∀ F : Nat → Nat → Int32, (∀ c, c ≠ 88 → F c = f c) → (∀ k, k < i → F 88 k = nI (crM B k (bNt B))) →
      ∃ f2, Run n_X1_findCrossed 110 9 [some (.ref 87), some (.ref b), some (.int (nI (endN B (bNt B) i))), some (.int (nI i)), none] [.int (nI (bNt B)), .int (nI i)] (HH n kf F) (Ret none (HH n kf f2)) ∧ (∀ i, i < bNt B → f2 88 i = nI (crM B i (bNt B))) ∧ f2 87 = upd (f 87) 1 (nI (endN B (bNt B) (bNt B) / 2)) ∧ ∀ c, c ≠ 87 → c ≠ 88 → f2 c = f c := by
    intro dd
    induction dd with
    | zero =>
      intro i hi F hF hk
      obtain rfl : i = bNt B := by omega
      have he := endN_le B (bNt B) (bNt B)
      have he2 : bNt B * bNt B ≤ 100 := Nat.mul_le_mul h10 h10
      refine ⟨hset F 87 1 (nI (endN B (bNt B) (bNt B) / 2)), ?_, fun k hk2 => ?_, ?_, fun c h1 h2 => ?_⟩
      · refine g_cmp hT rfl (fun cq => ?_) (fun cq => ?_)
        · refine v_p hT rfl rfl ?_
          refine g_divN hT rfl (by omega) (by omega) (by omega) ?_
          refine v_puti hT rfl rfl (by omega) (fun z => by cases z) ?_
          refine v_vret hT rfl rfl ⟨rfl, rfl⟩
        · exact absurd ((cj_ge (by omega) (by omega)).mpr (by omega)) cq
      · rw [hset_ne (by omega)]; exact hk k hk2
      · rw [hs_s, hF 87 (by omega)]
      · rw [hset_ne h1]; exact hF c h2
    | succ dd ih =>
      intro i hi F hF hk
      obtain ⟨f2, r1, r2⟩ := ih (i + 1) (by omega) (hset F 88 i (nI (crM B i (bNt B)))) (fun c hc => by rw [hset_ne hc]; exact hF c hc) (fun k hk2 => by
        rw [hs_s]
        by_cases hki : k = i
        · subst hki; simp [upd]
        · simp only [upd, if_neg hki]; exact hk k (by omega))
      refine ⟨f2, ?_, r2⟩
      refine g_cmp hT rfl (fun cq => ?_) (fun cq => ?_)
      · exact absurd ((cj_ge (by omega) (by omega)).mp cq) (by omega)
      · refine v_p hT rfl rfl ?_
        refine v_getr hT rfl rfl (by omega) rfl ?_
        refine v_p hT rfl rfl ?_
        refine v_ast hT rfl rfl (by omega) (by decide) (by omega) ?_
        refine v_p hT rfl rfl ?_
        refine v_geti hT rfl k0 (by omega) ?_
        rw [hset_ne (hb88 b (by omega) (by omega)), hF b (hb88 b (by omega) (by omega)), hR.2.2.2.2.1]
        refine v_cv (inner i (by omega) _ F hF ?_ (bNt B) 0 (by omega)) ⟨rfl, rfl, rfl, rfl, rfl, trivial⟩ rfl rfl
        refine v_p hT rfl rfl ?_
        refine v_geti hT rfl k0 (by omega) ?_
        rw [hset_ne (hb88 b (by omega) (by omega)), hF b (hb88 b (by omega) (by omega)), hR.2.2.2.2.1]
        refine v_cv r1 ⟨rfl, rfl, rfl, ?_, trivial⟩ ?_ rfl
        · rw [nI_add]
        · rw [nI_add]
  obtain ⟨f2, r1, r2⟩ := outer (bNt B) 0 (by omega) f (fun _ _ => rfl) (fun k hk => by omega)
  refine ⟨f2, ?_, r2⟩
  refine v_p hT rfl rfl ?_
  refine v_geti hT rfl k0 (by omega) ?_
  rw [hR.2.2.2.2.1]
  exact r1

/-- the weight of a set of ties; none of it crosses another; the kept set, of the sets up to m -/
def wtF (B : BK) (x : Nat) : Nat → Nat
  | 0 => 0
  | i + 1 => wtF B x i + (if x.testBit i = true then bTi B 2 i else 0)
def okS (B : BK) (x : Nat) : Prop := ∀ i j, i < bNt B → j < bNt B → x.testBit i = true → x.testBit j = true → crossB B i j = false
noncomputable def kpS (B : BK) : Nat → Nat
  | 0 => 0
  | m + 1 => bif pB (okS B (m + 1) ∧ (wtF B (kpS B m) (bNt B) < wtF B (m + 1) (bNt B) ∨ (wtF B (kpS B m) (bNt B) = wtF B (m + 1) (bNt B) ∧ cnN (kpS B m) 10 < cnN (m + 1) 10))) then m + 1 else kpS B m
noncomputable def keptF (B : BK) : Nat := kpS B (2 ^ bNt B - 1)
theorem kpS_le (B : BK) : ∀ m, kpS B m ≤ m := by
  intro m
  induction m with
  | zero => exact Nat.le_refl _
  | succ m ih =>
    unfold kpS
    cases pB _ with
    | true => exact Nat.le_refl _
    | false => show kpS B m ≤ m + 1; omega
theorem okS_0 (B : BK) : okS B 0 := by
  intro i j _ _ h1
  rw [Nat.zero_testBit] at h1
  cases h1
theorem kpS_ok (B : BK) : ∀ m, okS B (kpS B m) := by
  intro m
  induction m with
  | zero => exact okS_0 B
  | succ m ih =>
    unfold kpS
    cases hc : pB _ with
    | true => exact (pB_of hc).1
    | false => exact ih
theorem wtF_le {B : BK} (hw : ∀ i, i < bNt B → bTi B 2 i ≤ 9) (x : Nat) : ∀ i, i ≤ bNt B → wtF B x i ≤ 9 * i := by
  intro i
  induction i with
  | zero => intro _; exact Nat.le_refl _
  | succ i ih =>
    intro hi
    have h1 := ih (by omega)
    have h2 := hw i (by omega)
    unfold wtF
    split <;> omega
theorem tb_nI {x i : Nat} (hx : x < 2 ^ 31) (hi : i < 32) : cnd 1 ((nI x >>> (nI i &&& 31)) &&& nI 1) (nI 1) ↔ ¬ x.testBit i = true := by
  rw [bit_at hx hi, tb_dm, decide_eq_true_eq]
  exact cj_ne (by have := Nat.mod_lt (x / 2 ^ i) (show 0 < 2 by omega); omega) (by omega)
theorem s_weightOf {b n x : Nat} {kf : Nat → Nat} {f : Nat → Nat → Int32} {B : BK} (hb : isBk b) (hR : bkR f b B) (h10 : bNt B ≤ 10) (hw : ∀ i, i < bNt B → bTi B 2 i ≤ 9) (hcr : ∀ i, i < bNt B → f 88 i = nI (crM B i (bNt B))) (hx : x < 1024) :
    Run n_X1_weightOf 110 0 (ini n_X1_weightOf [.ref 87, .int (nI x), .ref b]) [] (HH n kf f) (Ret (some (.int (bif pB (okS B x) then nI (wtF B x (bNt B)) else mI 1))) (HH n kf f)) := by
  have hT : mT n_X1_weightOf = tb_X1_weightOf := rfl
  obtain ⟨k0, k1, k2, k3, k4, k5, k6, k7, k8⟩ := bk_kd hb
  have hlt := bk_lt hb
  have loop : ∀ dd i : Nat, i + dd = bNt B → (∀ k j, k < i → j < bNt B → x.testBit k = true → x.testBit j = true → crossB B k j = false) → Run n_X1_weightOf 110 11 [some (.ref 87), some (.int (nI x)), some (.ref b), some (.int (nI (wtF B x i))), some (.int (nI i))] [.int (nI (bNt B)), .int (nI i)] (HH n kf f) (Ret (some (.int (bif pB (okS B x) then nI (wtF B x (bNt B)) else mI 1))) (HH n kf f)) := by
    intro dd
    induction dd with
    | zero =>
      intro i hi hno
      obtain rfl : i = bNt B := by omega
      refine g_cmp hT rfl (fun cq => ?_) (fun cq => ?_)
      · refine v_p hT rfl rfl ?_
        refine v_ret hT rfl (fun z => by cases z) rfl ⟨?_, rfl⟩
        rw [pB_t (show okS B x from fun k j hk hj => hno k j hk hj)]
        rfl
      · exact absurd ((cj_ge (by omega) (by omega)).mpr (by omega)) cq
    | succ dd ih =>
      intro i hi hno
      have hwl := wtF_le hw x i (by omega)
      refine g_cmp hT rfl (fun cq => ?_) (fun cq => ?_)
      · exact absurd ((cj_ge (by omega) (by omega)).mp cq) (by omega)
      · refine v_p hT rfl rfl ?_
        refine g_cmp hT rfl (fun cq2 => ?_) (fun cq2 => ?_)
        · have cq2 := (tb_nI (by omega) (by omega)).mp cq2
          refine v_p hT rfl rfl ?_
          refine v_geti hT rfl (by first | rfl | assumption) (by omega) ?_
          rw [hR.2.2.2.2.1]
          have e : wtF B x (i + 1) = wtF B x i := by show wtF B x i + _ = _; rw [if_neg cq2]; rfl
          have h9 := ih (i + 1) (by omega) (fun k j hk hj hb1 hb2 => by
            by_cases hki : k = i
            · subst hki; exact absurd hb1 cq2
            · exact hno k j (by omega) hj hb1 hb2)
          rw [e] at h9
          refine v_cv h9 ⟨rfl, rfl, rfl, rfl, ?_, trivial⟩ ?_ rfl
          · rw [nI_add]
          · rw [nI_add]
        · have cq2 : x.testBit i = true := Classical.byContradiction (fun z => cq2 ((tb_nI (by omega) (by omega)).mpr z))
          repeat (first | refine v_p hT rfl rfl ?_ | refine v_getr hT rfl rfl (by omega) rfl ?_ | refine v_geti hT rfl (by first | rfl | assumption) (by omega) ?_ | refine v_ald hT rfl (by first | assumption | rfl) (by omega) (by decide) (by omega) ?_ | simp only [nI_add, pk_mul, hcr i (by omega), nI_and])
          have hz : (crM B i (bNt B) &&& x) < 2 ^ 31 := Nat.lt_of_le_of_lt Nat.and_le_right (by omega)
          refine g_if hT rfl (fun cq3 => ?_) (fun cq3 => ?_)
          · have cq3 := (cj_eq (a := crM B i (bNt B) &&& x) (b := 0) hz (by omega)).mp cq3
            have hno2 : ∀ j, j < bNt B → x.testBit j = true → crossB B i j = false := by
              intro j hj hb2
              have h3 : (crM B i (bNt B) &&& x).testBit j = false := by rw [cq3]; exact Nat.zero_testBit j
              rw [Nat.testBit_and, crM_bit, hb2] at h3
              simpa [hj] using h3
            repeat (first | refine v_p hT rfl rfl ?_ | refine v_getr hT rfl rfl (by omega) rfl ?_ | refine v_getr hT rfl k0 (by omega) (bk_rr hb _ _ _ (by decide)) ?_ | refine v_geti hT rfl (by first | rfl | assumption) (by omega) ?_ | refine v_ald hT rfl (by first | assumption | rfl) (by omega) (by decide) (by omega) ?_ | simp only [nI_add, pk_mul, (hR.2.2.2.2.2 i (show i < bNt B by omega)).2.2, hR.2.2.2.2.1])
            have e : wtF B x (i + 1) = wtF B x i + bTi B 2 i := by show wtF B x i + _ = _; rw [if_pos cq2]
            have h9 := ih (i + 1) (by omega) (fun k j hk hj hb1 hb2 => by
              by_cases hki : k = i
              · subst hki; exact hno2 j hj hb2
              · exact hno k j (by omega) hj hb1 hb2)
            rw [e] at h9
            exact h9
          · have cq3 := (not_congr (cj_eq (a := crM B i (bNt B) &&& x) (b := 0) hz (by omega))).mp cq3
            refine v_p hT rfl rfl ?_
            refine v_ret hT rfl (fun z => by cases z) rfl ⟨?_, rfl⟩
            rw [pB_f]
            · rfl
            · intro hok
              apply cq3
              apply Nat.eq_of_testBit_eq
              intro j
              rw [Nat.zero_testBit, Nat.testBit_and, crM_bit]
              by_cases hj : j < bNt B
              · cases hb2 : x.testBit j with
                | false => simp
                | true => rw [hok i j (by omega) hj cq2 hb2]; simp
              · simp [hj]
  refine v_p hT rfl rfl ?_
  refine v_geti hT rfl (by first | rfl | assumption) (by omega) ?_
  rw [hR.2.2.2.2.1]
  exact loop (bNt B) 0 (by omega) (fun k j hk => by omega)
theorem s_choice {b n : Nat} {kf : Nat → Nat} {f : Nat → Nat → Int32} {B : BK} (hb : isBk b) (hR : bkR f b B) (hok : tsOk (bT B)) (hw : ∀ i, i < bNt B → bTi B 2 i ≤ 9) :
    ∃ f2, Run n_X1_follow 110 0 (ini n_X1_follow [.ref 87, .ref b]) [] (HH n kf f) (Ret none (HH n kf f2)) ∧ (∀ i, i < bNt B → f2 88 i = nI (crM B i (bNt B))) ∧ f2 87 1 = nI (endN B (bNt B) (bNt B) / 2) ∧ f2 87 2 = nI (keptF B) ∧ f2 87 3 = nI (wtF B (keptF B) (bNt B)) ∧ ∀ c, c ≠ 87 → c ≠ 88 → f2 c = f c := by
  have hT : mT n_X1_follow = tb_X1_follow := rfl
  obtain ⟨k0, k1, k2, k3, k4, k5, k6, k7, k8⟩ := bk_kd hb
  have hlt := bk_lt hb
  have hlo := bk_lo hb
  have h10 : bNt B ≤ 10 := hok.1
  obtain ⟨f1, r1, r2, r3, r4⟩ := s_findCrossed (n := n) (kf := kf) hb hR hok
  have hpw : 2 ^ bNt B ≤ 1024 := Nat.pow_le_pow_right (n := 2) (by omega) h10
  have hp1 : 1 ≤ 2 ^ bNt B := Nat.one_le_two_pow
  have loop : ∀ dd x : Nat, x + 1 + dd = 2 ^ bNt B → ∀ F : Nat → Nat → Int32, (∀ c, c ≠ 87 → F c = f1 c) → F 87 1 = f1 87 1 → F 87 2 = nI (kpS B x) → F 87 3 = nI (wtF B (kpS B x) (bNt B)) → ∃ f2, Run n_X1_follow 110 24 [some (.ref 87), some (.ref b), some (.int (nI (x + 1))), none, none] [.int (nI (2 ^ bNt B)), .int (nI (x + 1))] (HH n kf F) (Ret none (HH n kf f2)) ∧ (∀ c, c ≠ 87 → f2 c = f1 c) ∧ f2 87 1 = f1 87 1 ∧ f2 87 2 = nI (keptF B) ∧ f2 87 3 = nI (wtF B (keptF B) (bNt B)) := by
    intro dd
    induction dd with
    | zero =>
      intro x hx F hF h1 h2 h3
      refine ⟨F, ?_, hF, h1, ?_, ?_⟩
      · refine g_cmp hT rfl (fun cq => ?_) (fun cq => ?_)
        · refine v_vret hT rfl rfl ⟨rfl, rfl⟩
        · exact absurd ((cj_ge (by omega) (by omega)).mpr (by omega)) cq
      · rw [h2]; unfold keptF; rw [show 2 ^ bNt B - 1 = x by omega]
      · rw [h3]; unfold keptF; rw [show 2 ^ bNt B - 1 = x by omega]
    | succ dd ih =>
      intro x hx F hF h1 h2 h3
      have hRF : bkR F b B := bkR_fr hR (fun c hc1 hc2 => by rw [hF c (by omega), r4 c (by omega) (by omega)])
      have hnt : F b 8 = nI (bNt B) := hRF.2.2.2.2.1
      have hcr : ∀ i, i < bNt B → F 88 i = nI (crM B i (bNt B)) := fun i hi => by rw [hF 88 (by omega)]; exact r2 i hi
      have hkx := kpS_le B x
      have hwk := wtF_le hw (kpS B x) (bNt B) (Nat.le_refl _)
      have hwx := wtF_le hw (x + 1) (bNt B) (Nat.le_refl _)
      have hc1 := cnN_le (x + 1) 10
      have hc2 := cnN_le (kpS B x) 10
      generalize hV : (bif pB (okS B (x + 1)) then nI (wtF B (x + 1) (bNt B)) else mI 1) = tv
      generalize hM : (if cnN (kpS B x) 10 < cnN (x + 1) 10 then nI 1 else nI 0) = mv
      have hstart : ∀ Φ, Run n_X1_follow 110 60 [some (.ref 87), some (.ref b), some (.int (nI (x + 1))), some (.int tv), some (.int mv)] [.int (nI (wtF B (kpS B x) (bNt B))), .int tv] (HH n kf F) Φ → Run n_X1_follow 110 24 [some (.ref 87), some (.ref b), some (.int (nI (x + 1))), none, none] [.int (nI (2 ^ bNt B)), .int (nI (x + 1))] (HH n kf F) Φ := by
        intro Φ hΦ
        refine g_cmp hT rfl (fun cq => ?_) (fun cq => ?_)
        · exact absurd ((cj_ge (by omega) (by omega)).mp cq) (by omega)
        · refine v_p hT rfl rfl ?_
          refine v_call hT [.int (nI (x + 1)), .ref b] rfl rfl (by first | rfl | assumption) (by omega) rfl rfl (Nat.le_of_ble_eq_true rfl) (Nat.le_of_ble_eq_true rfl) (s_weightOf (x := x + 1) hb hRF h10 hw hcr (by omega)) ?_
          rw [hV]
          refine v_p hT rfl rfl ?_
          refine v_scall hT [.int (nI (x + 1))] rfl rfl rfl rfl (Nat.le_of_ble_eq_true rfl) (Nat.le_of_ble_eq_true rfl) (s_bitCount (nI (x + 1))) ?_
          rw [bcI_cn _ (by omega)]
          refine v_p hT rfl rfl ?_
          refine v_geti hT rfl (by first | rfl | assumption) (by omega) ?_
          rw [h2]
          refine v_scall hT [.int (nI (kpS B x))] rfl rfl rfl rfl (Nat.le_of_ble_eq_true rfl) (Nat.le_of_ble_eq_true rfl) (s_bitCount (nI (kpS B x))) ?_
          rw [bcI_cn _ (by omega)]
          refine g_cmp hT rfl (fun cq2 => ?_) (fun cq2 => ?_)
          · have cq2 := (cj_le (by omega) (by omega)).mp cq2
            rw [if_neg (by omega)] at hM
            subst hM
            refine v_p hT rfl rfl ?_
            refine v_geti hT rfl (by first | rfl | assumption) (by omega) ?_
            rw [h3]
            exact hΦ
          · have cq2 := (not_congr (cj_le (by omega) (by omega))).mp cq2
            rw [if_pos (by omega)] at hM
            subst hM
            refine v_p hT rfl rfl ?_
            refine v_geti hT rfl (by first | rfl | assumption) (by omega) ?_
            rw [h3]
            exact hΦ
      have stay : kpS B (x + 1) = kpS B x → ∃ f2, Run n_X1_follow 110 86 [some (.ref 87), some (.ref b), some (.int (nI (x + 1))), some (.int tv), some (.int mv)] [] (HH n kf F) (Ret none (HH n kf f2)) ∧ (∀ c, c ≠ 87 → f2 c = f1 c) ∧ f2 87 1 = f1 87 1 ∧ f2 87 2 = nI (keptF B) ∧ f2 87 3 = nI (wtF B (keptF B) (bNt B)) := by
        intro e
        obtain ⟨f2, q1, q2⟩ := ih (x + 1) (by omega) F hF h1 (by rw [e]; exact h2) (by rw [e]; exact h3)
        refine ⟨f2, ?_, q2⟩
        refine v_p hT rfl rfl ?_
        refine v_geti hT rfl (by first | rfl | assumption) (by omega) ?_
        rw [hnt]
        refine v_p hT rfl rfl ?_
        rw [pow_at (by omega)]
        refine v_cv q1 ⟨rfl, rfl, ?_, trivial⟩ ?_ rfl
        · rw [nI_add]
        · rw [nI_add]
      have take : okS B (x + 1) → kpS B (x + 1) = x + 1 → ∃ f2, Run n_X1_follow 110 76 [some (.ref 87), some (.ref b), some (.int (nI (x + 1))), some (.int tv), some (.int mv)] [] (HH n kf F) (Ret none (HH n kf f2)) ∧ (∀ c, c ≠ 87 → f2 c = f1 c) ∧ f2 87 1 = f1 87 1 ∧ f2 87 2 = nI (keptF B) ∧ f2 87 3 = nI (wtF B (keptF B) (bNt B)) := by
        intro hk e
        rw [pB_t hk] at hV
        have hV : nI (wtF B (x + 1) (bNt B)) = tv := hV
        obtain ⟨f2, q1, q2⟩ := ih (x + 1) (by omega) (hset (hset F 87 2 (nI (x + 1))) 87 3 tv) (fun c hc => by rw [hset_ne hc, hset_ne hc]; exact hF c hc) (by simp [hset, upd]; exact h1) (by rw [e]; simp [hset, upd]) (by rw [e, ← hV]; simp [hset, upd])
        refine ⟨f2, ?_, q2⟩
        refine v_p hT rfl rfl ?_
        refine v_puti hT rfl rfl (by omega) (fun z => by cases z) ?_
        refine v_p hT rfl rfl ?_
        refine v_puti hT rfl rfl (by omega) (fun z => by cases z) ?_
        refine v_p hT rfl rfl ?_
        refine v_geti hT rfl (by first | rfl | assumption) (by omega) ?_
        rw [hset_ne (by omega), hset_ne (by omega), hnt]
        refine v_p hT rfl rfl ?_
        rw [pow_at (by omega)]
        refine v_cv q1 ⟨rfl, rfl, ?_, trivial⟩ ?_ rfl
        · rw [nI_add]
        · rw [nI_add]
      cases hS : pB (okS B (x + 1)) with
      | false =>
        have e : kpS B (x + 1) = kpS B x := by
          show (bif _ then _ else _) = _
          rw [pB_f (fun z => pB_nof hS z.1)]
          rfl
        obtain ⟨f2, q1, q2⟩ := stay e
        refine ⟨f2, hstart _ ?_, q2⟩
        rw [hS] at hV
        have hV : mI 1 = tv := hV
        subst hV
        refine g_cmp hT rfl (fun cq => ?_) (fun cq => ?_)
        · exact absurd (show nI (wtF B (kpS B x) (bNt B)) < mI 1 from cq) (by
            intro hq
            exact nI_pos (show wtF B (kpS B x) (bNt B) < 2 ^ 31 by omega) (Int32.lt_trans hq (by decide)))
        · refine v_p hT rfl rfl ?_
          refine v_geti hT rfl (by first | rfl | assumption) (by omega) ?_
          rw [h3]
          refine g_cmp hT rfl (fun cq2 => ?_) (fun cq2 => ?_)
          · exact q1
          · exact absurd (Classical.byContradiction cq2 : mI 1 = nI (wtF B (kpS B x) (bNt B))) (by
              intro hq
              have : mI 1 < 0 := by decide
              rw [hq] at this
              exact nI_pos (by omega) this)
      | true =>
        have hk := pB_of hS
        rw [hS] at hV
        have hV : nI (wtF B (x + 1) (bNt B)) = tv := hV
        by_cases hgt : wtF B (kpS B x) (bNt B) < wtF B (x + 1) (bNt B)
        · have e : kpS B (x + 1) = x + 1 := by
            show (bif _ then _ else _) = _
            rw [pB_t ⟨hk, Or.inl hgt⟩]
            rfl
          obtain ⟨f2, q1, q2⟩ := take hk e
          refine ⟨f2, hstart _ ?_, q2⟩
          subst hV
          refine g_cmp hT rfl (fun cq => ?_) (fun cq => ?_)
          · exact q1
          · exact absurd ((cj_gt (by omega) (by omega)).mpr hgt) cq
        · by_cases heq : wtF B (kpS B x) (bNt B) = wtF B (x + 1) (bNt B)
          · by_cases hcn : cnN (kpS B x) 10 < cnN (x + 1) 10
            · have e : kpS B (x + 1) = x + 1 := by
                show (bif _ then _ else _) = _
                rw [pB_t ⟨hk, Or.inr ⟨heq, hcn⟩⟩]
                rfl
              obtain ⟨f2, q1, q2⟩ := take hk e
              refine ⟨f2, hstart _ ?_, q2⟩
              rw [if_pos hcn] at hM
              subst hV
              subst hM
              refine g_cmp hT rfl (fun cq => ?_) (fun cq => ?_)
              · exact absurd ((cj_gt (by omega) (by omega)).mp cq) hgt
              · refine v_p hT rfl rfl ?_
                refine v_geti hT rfl (by first | rfl | assumption) (by omega) ?_
                rw [h3]
                refine g_cmp hT rfl (fun cq2 => ?_) (fun cq2 => ?_)
                · exact absurd heq.symm ((cj_ne (by omega) (by omega)).mp cq2)
                · refine v_p hT rfl rfl ?_
                  refine g_if hT rfl (fun cq3 => ?_) (fun cq3 => ?_)
                  · exact absurd (show (1 : Int32) = 0 from cq3) (by decide)
                  · exact q1
            · have e : kpS B (x + 1) = kpS B x := by
                show (bif _ then _ else _) = _
                rw [pB_f (fun z => z.2.elim hgt (fun z2 => hcn z2.2))]
                rfl
              obtain ⟨f2, q1, q2⟩ := stay e
              refine ⟨f2, hstart _ ?_, q2⟩
              rw [if_neg hcn] at hM
              subst hV
              subst hM
              refine g_cmp hT rfl (fun cq => ?_) (fun cq => ?_)
              · exact absurd ((cj_gt (by omega) (by omega)).mp cq) hgt
              · refine v_p hT rfl rfl ?_
                refine v_geti hT rfl (by first | rfl | assumption) (by omega) ?_
                rw [h3]
                refine g_cmp hT rfl (fun cq2 => ?_) (fun cq2 => ?_)
                · exact absurd heq.symm ((cj_ne (by omega) (by omega)).mp cq2)
                · refine v_p hT rfl rfl ?_
                  refine g_if hT rfl (fun cq3 => ?_) (fun cq3 => ?_)
                  · exact q1
                  · exact absurd rfl (show ¬ (0 : Int32) = 0 from cq3)
          · have e : kpS B (x + 1) = kpS B x := by
              show (bif _ then _ else _) = _
              rw [pB_f (fun z => z.2.elim hgt (fun z2 => heq z2.1))]
              rfl
            obtain ⟨f2, q1, q2⟩ := stay e
            refine ⟨f2, hstart _ ?_, q2⟩
            subst hV
            refine g_cmp hT rfl (fun cq => ?_) (fun cq => ?_)
            · exact absurd ((cj_gt (by omega) (by omega)).mp cq) hgt
            · refine v_p hT rfl rfl ?_
              refine v_geti hT rfl (by first | rfl | assumption) (by omega) ?_
              rw [h3]
              refine g_cmp hT rfl (fun cq2 => ?_) (fun cq2 => ?_)
              · exact q1
              · exact absurd (fun z => heq z.symm) (fun z => cq2 ((cj_ne (by omega) (by omega)).mpr z))
  obtain ⟨f2, q1, q2, q3, q4, q5⟩ := loop (2 ^ bNt B - 1) 0 (by omega) (hset (hset f1 87 2 (nI 0)) 87 3 (nI 0)) (fun c hc => by rw [hset_ne hc, hset_ne hc]) (by simp [hset, upd]) (by simp [hset, upd, kpS]) (by
    have h0 : ∀ k, wtF B 0 k = 0 := by
      intro k
      induction k with
      | zero => rfl
      | succ k ih => unfold wtF; rw [ih, Nat.zero_testBit]; rfl
    simp [hset, upd, kpS, h0])
  have hRF : bkR f1 b B := bkR_fr hR (fun c hc1 hc2 => r4 c (by omega) (by omega))
  refine ⟨f2, ?_, fun i hi => by rw [q2 88 (by omega)]; exact r2 i hi, by rw [q3, r3]; simp [upd], q4, q5, fun c h1 h2 => by rw [q2 c h1]; exact r4 c h1 h2⟩
  refine v_p hT rfl rfl ?_
  refine v_call hT [.ref b] rfl rfl (by first | rfl | assumption) (by omega) rfl rfl (Nat.le_of_ble_eq_true rfl) (Nat.le_of_ble_eq_true rfl) (r1) ?_
  refine v_p hT rfl rfl ?_
  refine v_puti hT rfl rfl (by omega) (fun z => by cases z) ?_
  refine v_p hT rfl rfl ?_
  refine v_puti hT rfl rfl (by omega) (fun z => by cases z) ?_
  refine v_p hT rfl rfl ?_
  refine v_geti hT rfl (by first | rfl | assumption) (by omega) ?_
  rw [hset_ne (by omega), hset_ne (by omega), hRF.2.2.2.2.1]
  refine v_p hT rfl rfl ?_
  rw [pow_at (by omega)]
  exact q1
end
section
/-! THE CLASS: lines of a side, lawful breaks. -/
def alF (B : BK) (s : Nat) : Nat → Nat → Bool
  | 0, _ => false
  | p + 1, b => if fstF B s p ≤ b ∧ b < fstF B s p + linF B s p then decide (b = fstF B s p ∨ (bSe B 1 ≤ b - fstF B s p ∧ bSe B 1 ≤ linF B s p - (b - fstF B s p))) else alF B s p b
def lawF (B : BK) (s b : Nat) : Bool := if b = totF B s then true else alF B s (bNp B s) b
def isLn (o : Nat) : Prop := o = 81 ∨ o = 84
theorem ln_kd {o : Nat} (h : isLn o) : kd o = (0, 3) ∧ kd (o + 1) = (1, 9) ∧ kd (o + 2) = (2, 61) := by
  rcases h with rfl | rfl <;> decide
theorem ln_rr {o : Nat} (h : isLn o) (n : Nat) (kf : Nat → Nat) : RR n kf o 0 = o + 1 + 1 ∧ RR n kf o 1 = o + 2 + 1 := by
  rcases h with rfl | rfl <;> exact ⟨rfl, rfl⟩
theorem ln_lt {o : Nat} (h : isLn o) : 81 ≤ o ∧ o + 2 < 87 := by
  rcases h with rfl | rfl <;> omega
theorem bI_01 (b : Bool) : bI b = 0 ∨ bI b = 1 := bI_or b
theorem s_allowBreaks {o n t own le : Nat} {kf : Nat → Nat} {f : Nat → Nat → Int32} (ho : isLn o) (ht : f o 2 = nI t) (hto : t + own ≤ 61) (hle : le ≤ 100) :
    ∃ f2, Run n_X3_allowBreaks 110 0 (ini n_X3_allowBreaks [.ref o, .int (nI own), .int (nI le)]) [] (HH n kf f) (Ret none (HH n kf f2)) ∧ (∀ a, a < own → f2 (o + 2) (t + a) = bI (decide (a = 0 ∨ (le ≤ a ∧ le ≤ own - a)))) ∧ (∀ x, x < t → f2 (o + 2) x = f (o + 2) x) ∧ ∀ c, c ≠ o + 2 → f2 c = f c := by
  have hT : mT n_X3_allowBreaks = tb_X3_allowBreaks := rfl
  obtain ⟨l0, l1, l2⟩ := ln_kd ho
  have hlo := ln_lt ho
  have loop : ∀ dd a : Nat, a + dd = own → ∀ F : Nat → Nat → Int32, (∀ c, c ≠ o + 2 → F c = f c) → (∀ x, x < t → F (o + 2) x = f (o + 2) x) → (∀ k, k < a → F (o + 2) (t + k) = bI (decide (k = 0 ∨ (le ≤ k ∧ le ≤ own - k)))) →
      ∃ f2, Run n_X3_allowBreaks 110 4 [some (.ref o), some (.int (nI own)), some (.int (nI le)), some (.int (nI a))] [.int (nI own), .int (nI a)] (HH n kf F) (Ret none (HH n kf f2)) ∧ (∀ a, a < own → f2 (o + 2) (t + a) = bI (decide (a = 0 ∨ (le ≤ a ∧ le ≤ own - a)))) ∧ (∀ x, x < t → f2 (o + 2) x = f (o + 2) x) ∧ ∀ c, c ≠ o + 2 → f2 c = f c := by
    intro dd
    induction dd with
    | zero =>
      intro a ha F hF hx hk
      obtain rfl : a = own := by omega
      refine ⟨F, ?_, hk, hx, hF⟩
      refine g_cmp hT rfl (fun cq => ?_) (fun cq => ?_)
      · refine v_vret hT rfl rfl ⟨rfl, rfl⟩
      · exact absurd ((cj_ge (by omega) (by omega)).mpr (by omega)) cq
    | succ dd ih =>
      intro a ha F hF hx hk
      generalize hv : decide (a = 0 ∨ (le ≤ a ∧ le ≤ own - a)) = v
      obtain ⟨f2, q1, q2⟩ := ih (a + 1) (by omega) (hset F (o + 2) (t + a) (bI v)) (fun c hc => by rw [hset_ne hc]; exact hF c hc) (fun x hxt => by rw [hs_s]; simp only [upd, if_neg (show x ≠ t + a by omega)]; exact hx x hxt) (fun k hka => by
        rw [hs_s]
        by_cases hke : k = a
        · subst hke; simp [upd, hv]
        · simp only [upd, if_neg (show t + k ≠ t + a by omega)]; exact hk k (by omega))
      refine ⟨f2, ?_, q2⟩
      have fin : Run n_X3_allowBreaks 110 38 [some (.ref o), some (.int (nI own)), some (.int (nI le)), some (.int (nI a))] [.int (bI v), .int (nI (t + a)), .ref (o + 2)] (HH n kf F) (Ret none (HH n kf f2)) := by
        refine v_zst hT rfl l2 (by omega) (by decide) (by omega) (bI_01 v) ?_
        refine v_p hT rfl rfl ?_
        simp only [nI_add]
        exact q1
      refine g_cmp hT rfl (fun cq => ?_) (fun cq => ?_)
      · exact absurd ((cj_ge (by omega) (by omega)).mp cq) (by omega)
      · refine v_p hT rfl rfl ?_
        refine v_getr hT rfl l0 (by omega) (ln_rr ho n kf).2 ?_
        refine v_p hT rfl rfl ?_
        refine v_geti hT rfl l0 (by omega) ?_
        rw [hF o (by omega), ht]
        refine v_p hT rfl rfl ?_
        simp only [nI_add]
        refine g_if hT rfl (fun cq2 => ?_) (fun cq2 => ?_)
        · have cq2 := (cj_eq (a := a) (b := 0) (by omega) (by omega)).mp cq2
          rw [decide_eq_true (Or.inl cq2)] at hv
          subst hv
          refine v_p hT rfl rfl ?_
          exact fin
        · have cq2 := (not_congr (cj_eq (a := a) (b := 0) (by omega) (by omega))).mp cq2
          refine v_p hT rfl rfl ?_
          refine g_cmp hT rfl (fun cq3 => ?_) (fun cq3 => ?_)
          · have cq3 := (cj_lt (by omega) (by omega)).mp cq3
            rw [decide_eq_false (by omega)] at hv
            subst hv
            refine v_p hT rfl rfl ?_
            exact fin
          · have cq3 := (not_congr (cj_lt (by omega) (by omega))).mp cq3
            refine v_p hT rfl rfl ?_
            rw [pk_sub (by omega)]
            refine g_cmp hT rfl (fun cq4 => ?_) (fun cq4 => ?_)
            · have cq4 := (cj_lt (by omega) (by omega)).mp cq4
              rw [decide_eq_false (by omega)] at hv
              subst hv
              refine v_p hT rfl rfl ?_
              exact fin
            · have cq4 := (not_congr (cj_lt (by omega) (by omega))).mp cq4
              rw [decide_eq_true (by omega)] at hv
              subst hv
              refine v_p hT rfl rfl ?_
              exact fin
  obtain ⟨f2, q1, q2⟩ := loop own 0 (by omega) f (fun _ _ => rfl) (fun _ _ => rfl) (fun k hk => by omega)
  refine ⟨f2, ?_, q2⟩
  refine v_p hT rfl rfl ?_
  exact q1
theorem alF_old {B : BK} {s p b : Nat} (h : b < fstF B s p) : alF B s (p + 1) b = alF B s p b := by
  show (if _ then _ else _) = _
  rw [if_neg (by omega)]
theorem alF_new {B : BK} {s p a : Nat} (h : a < linF B s p) : alF B s (p + 1) (fstF B s p + a) = decide (a = 0 ∨ (bSe B 1 ≤ a ∧ bSe B 1 ≤ linF B s p - a)) := by
  show (if _ then _ else _) = _
  rw [if_pos (by omega), show fstF B s p + a - fstF B s p = a by omega]
  congr 1
  simp only [eq_iff_iff]
  omega
/-- the cells of a side's lines hold them -/
def lnR (f : Nat → Nat → Int32) (o : Nat) (B : BK) (s : Nat) : Prop := f o 2 = nI (totF B s) ∧ (∀ p, p ≤ bNp B s → f (o + 1) p = nI (fstF B s p)) ∧ ∀ b, b ≤ totF B s → f (o + 2) b = bI (lawF B s b)
theorem s_lines {b o n s : Nat} {kf : Nat → Nat} {f : Nat → Nat → Int32} {B : BK} (hb : isBk b) (ho : isLn o) (hR : bkR f b B) (hV : VB B) (hs : s < 2) :
    ∃ f2, Run n_X3_follow 110 0 (ini n_X3_follow [.ref o, .ref b, .int (nI s)]) [] (HH n kf f) (Ret none (HH n kf f2)) ∧ lnR f2 o B s ∧ ∀ c, c < o ∨ o + 2 < c → f2 c = f c := by
  have hT : mT n_X3_follow = tb_X3_follow := rfl
  obtain ⟨k0, k1, k2, k3, k4, k5, k6, k7, k8⟩ := bk_kd hb
  have hlt := bk_lt hb
  have hblo := bk_lo hb
  obtain ⟨l0, l1, l2⟩ := ln_kd ho
  have hlo := ln_lt ho
  have h8 := hV.1.1 s hs
  have h60 := hV.2 s hs
  have hse := hV.1.2.2.2.1
  have loop : ∀ dd p : Nat, p + dd = bNp B s → ∀ F : Nat → Nat → Int32, (∀ c, c < o ∨ o + 2 < c → F c = f c) → F o 2 = nI (fstF B s p) → (∀ q, q ≤ p → F (o + 1) q = nI (fstF B s q)) → (∀ x, x < fstF B s p → F (o + 2) x = bI (alF B s p x)) →
      ∃ f2, Run n_X3_follow 110 21 [some (.ref o), some (.ref b), some (.int (nI s)), some (.int (nI p)), none] [.int (nI (bNp B s)), .int (nI p)] (HH n kf F) (Ret none (HH n kf f2)) ∧ lnR f2 o B s ∧ ∀ c, c < o ∨ o + 2 < c → f2 c = f c := by
    intro dd
    induction dd with
    | zero =>
      intro p hp F hF h2 h3 h4
      obtain rfl : p = bNp B s := by omega
      have h2 : F o 2 = nI (totF B s) := h2
      refine ⟨hset F (o + 2) (totF B s) (nI 1), ?_, ⟨?_, ?_, ?_⟩, fun c hc => by rw [hset_ne (by omega)]; exact hF c hc⟩
      · refine g_cmp hT rfl (fun cq => ?_) (fun cq => ?_)
        · refine v_p hT rfl rfl ?_
          refine v_getr hT rfl l0 (by omega) (ln_rr ho n kf).2 ?_
          refine v_p hT rfl rfl ?_
          refine v_geti hT rfl l0 (by omega) ?_
          rw [h2]
          refine v_p hT rfl rfl ?_
          refine v_zst hT rfl l2 (by omega) (by decide) (by omega) (Or.inr rfl) ?_
          refine v_vret hT rfl rfl ⟨rfl, rfl⟩
        · exact absurd ((cj_ge (by omega) (by omega)).mpr (by omega)) cq
      · rw [hset_ne (by omega)]; exact h2
      · intro q hq; rw [hset_ne (by omega)]; exact h3 q hq
      · intro x hx
        rw [hs_s]
        unfold lawF
        by_cases hxt : x = totF B s
        · subst hxt; simp [upd]; rfl
        · simp only [upd, if_neg hxt]
          exact h4 x (by unfold totF at hx hxt; omega)
    | succ dd ih =>
      intro p hp F hF h2 h3 h4
      have hRF : bkR F b B := bkR_fr hR (fun c hc1 hc2 => hF c (by omega))
      have hf1 : fstF B s p + linF B s p = fstF B s (p + 1) := rfl
      have hmon : fstF B s (p + 1) ≤ totF B s := fstF_mono B s (show p + 1 ≤ bNp B s by omega)
      obtain ⟨f1, r1, r2, r3, r4⟩ := s_allowBreaks (n := n) (kf := kf) (own := linF B s p) (le := bSe B 1) ho h2 (by omega) (by omega)
      obtain ⟨f2, q1, q2⟩ := ih (p + 1) (by omega) (hset (hset f1 o 2 (nI (fstF B s (p + 1)))) (o + 1) (p + 1) (nI (fstF B s (p + 1)))) (fun c hc => by rw [hset_ne (by omega), hset_ne (by omega), r4 c (by omega)]; exact hF c hc) (by rw [hset_ne (by omega), hs_s]; simp [upd]) (fun q hq => by
        rw [hs_s]
        by_cases hqe : q = p + 1
        · subst hqe; simp [upd]
        · simp only [upd, if_neg hqe]
          rw [hset_ne (by omega), r4 _ (by omega)]
          exact h3 q (by omega)) (fun x hx => by
        rw [hset_ne (by omega), hset_ne (by omega)]
        by_cases hxl : x < fstF B s p
        · rw [r3 x hxl, alF_old hxl]
          exact h4 x hxl
        · have h9 := r2 (x - fstF B s p) (by omega)
          have h10 := alF_new (B := B) (s := s) (p := p) (a := x - fstF B s p) (by omega)
          rw [show fstF B s p + (x - fstF B s p) = x by omega] at h9 h10
          rw [h9, h10])
      refine ⟨f2, ?_, q2⟩
      refine g_cmp hT rfl (fun cq => ?_) (fun cq => ?_)
      · exact absurd ((cj_ge (by omega) (by omega)).mp cq) (by omega)
      · refine v_p hT rfl rfl ?_
        refine v_scall hT [.int (nI s), .int (nI p)] rfl rfl rfl rfl (Nat.le_of_ble_eq_true rfl) (Nat.le_of_ble_eq_true rfl) (s_slot s p) ?_
        refine v_call hT [.int (nI (s * 8 + p))] rfl rfl (by first | rfl | assumption) (by omega) rfl rfl (Nat.le_of_ble_eq_true rfl) (Nat.le_of_ble_eq_true rfl) (s_linesInB hb hRF hV.1 hs (show p < bNp B s by omega)) ?_
        repeat (first | refine v_p hT rfl rfl ?_ | refine v_getr hT rfl rfl (by omega) rfl ?_ | refine v_getr hT rfl k0 (by omega) (bk_rr hb _ _ _ (by decide)) ?_ | refine v_geti hT rfl (by first | rfl | assumption) (by omega) ?_ | refine v_ald hT rfl (by first | assumption | rfl) (by omega) (by decide) (by omega) ?_ | simp only [nI_add, pk_mul, hRF.2.2.2.1 1 (by omega)])
        refine v_call hT [.int (nI (linF B s p)), .int (nI (bSe B 1))] rfl rfl l0 (by omega) rfl rfl (Nat.le_of_ble_eq_true rfl) (Nat.le_of_ble_eq_true rfl) r1 ?_
        refine v_p hT rfl rfl ?_
        refine v_geti hT rfl l0 (by omega) ?_
        rw [r4 o (by omega), h2]
        refine v_p hT rfl rfl ?_
        rw [nI_add, hf1]
        refine v_puti hT rfl l0 (by omega) (fun z => by cases z) ?_
        refine v_p hT rfl rfl ?_
        refine v_getr hT rfl l0 (by omega) (ln_rr ho n kf).1 ?_
        refine v_p hT rfl rfl ?_
        refine v_geti hT rfl l0 (by omega) ?_
        rw [hs_s]
        simp only [upd, if_pos, nI_add]
        refine v_ast hT rfl l1 (by omega) (by decide) (by omega) ?_
        refine v_p hT rfl rfl ?_
        refine v_getr hT rfl k0 (by omega) (bk_rr hb _ _ _ (by decide)) ?_
        refine v_p hT rfl rfl ?_
        refine v_ald hT rfl k1 (by omega) (by decide) (by omega) ?_
        rw [hset_ne (by omega), hset_ne (by omega), r4 _ (by omega), hRF.1 s hs]
        refine v_cv q1 ⟨rfl, rfl, rfl, ?_, trivial⟩ ?_ rfl
        · rw [nI_add]
        · rw [nI_add]; rfl
  obtain ⟨f2, q1, q2⟩ := loop (bNp B s) 0 (by omega) (hset (hset f o 2 (nI 0)) (o + 1) 0 (nI 0)) (fun c hc => by rw [hset_ne (by omega), hset_ne (by omega)]) (by rw [hset_ne (by omega), hs_s]; simp [upd, fstF]) (fun q hq => by rw [Nat.le_zero.mp hq, hs_s]; simp [upd, fstF]) (fun x hx => by simp [fstF] at hx)
  refine ⟨f2, ?_, q2⟩
  refine v_p hT rfl rfl ?_
  refine v_puti hT rfl l0 (by omega) (fun z => by cases z) ?_
  refine v_p hT rfl rfl ?_
  refine v_getr hT rfl l0 (by omega) (ln_rr ho n kf).1 ?_
  refine v_p hT rfl rfl ?_
  refine v_ast hT rfl l1 (by omega) (by decide) (by omega) ?_
  refine v_p hT rfl rfl ?_
  refine v_getr hT rfl k0 (by omega) (bk_rr hb _ _ _ (by decide)) ?_
  refine v_p hT rfl rfl ?_
  refine v_ald hT rfl k1 (by omega) (by decide) (by omega) ?_
  rw [hset_ne (by omega), hset_ne (by omega), hR.1 s hs]
  exact q1
end
section
/-! THE MATHEMATICS of the layout: the rank of a rest. -/
def nvr : Nat := 1073741824
def mnY (g : Nat → Nat → Nat) (x acc : Nat) : Nat → Nat
  | 0 => acc
  | y + 1 => if 0 < x + y then min (mnY g x acc y) (g x y) else mnY g x acc y
def mnX (g : Nat → Nat → Nat) (Y : Nat) : Nat → Nat
  | 0 => nvr
  | x + 1 => mnY g x (mnX g Y x) (Y + 1)
def mnF (X Y : Nat) (g : Nat → Nat → Nat) : Nat := mnX g Y (X + 1)
/-- v is the least of g over the takes, or nvr -/
def isMn (X Y : Nat) (g : Nat → Nat → Nat) (v : Nat) : Prop := (∀ x y, x ≤ X → y ≤ Y → 0 < x + y → v ≤ g x y) ∧ v ≤ nvr ∧ (v = nvr ∨ ∃ x y, x ≤ X ∧ y ≤ Y ∧ 0 < x + y ∧ v = g x y)
theorem mnY_ok (g : Nat → Nat → Nat) (x acc : Nat) : ∀ n, mnY g x acc n ≤ acc ∧ (∀ y, y < n → 0 < x + y → mnY g x acc n ≤ g x y) ∧ (mnY g x acc n = acc ∨ ∃ y, y < n ∧ 0 < x + y ∧ mnY g x acc n = g x y) := by
  intro n
  induction n with
  | zero => exact ⟨Nat.le_refl _, fun y hy => by omega, Or.inl rfl⟩
  | succ n ih =>
    obtain ⟨h1, h2, h3⟩ := ih
    unfold mnY
    split
    · rename_i hp
      refine ⟨Nat.le_trans (Nat.min_le_left _ _) h1, fun y hy hq => ?_, ?_⟩
      · by_cases hyn : y = n
        · subst hyn; exact Nat.min_le_right _ _
        · exact Nat.le_trans (Nat.min_le_left _ _) (h2 y (by omega) hq)
      · by_cases hle : mnY g x acc n ≤ g x n
        · rw [Nat.min_eq_left hle]
          rcases h3 with h3 | ⟨y, q1, q2, q3⟩
          · exact Or.inl h3
          · exact Or.inr ⟨y, by omega, q2, q3⟩
        · rw [Nat.min_eq_right (by omega)]
          exact Or.inr ⟨n, by omega, hp, rfl⟩
    · rename_i hp
      refine ⟨h1, fun y hy hq => ?_, ?_⟩
      · by_cases hyn : y = n
        · subst hyn; exact absurd hq hp
        · exact h2 y (by omega) hq
      · rcases h3 with h3 | ⟨y, q1, q2, q3⟩
        · exact Or.inl h3
        · exact Or.inr ⟨y, by omega, q2, q3⟩
theorem mnX_ok (g : Nat → Nat → Nat) (Y : Nat) : ∀ n, mnX g Y n ≤ nvr ∧ (∀ x y, x < n → y ≤ Y → 0 < x + y → mnX g Y n ≤ g x y) ∧ (mnX g Y n = nvr ∨ ∃ x y, x < n ∧ y ≤ Y ∧ 0 < x + y ∧ mnX g Y n = g x y) := by
  intro n
  induction n with
  | zero => exact ⟨Nat.le_refl _, fun x y hx => by omega, Or.inl rfl⟩
  | succ n ih =>
    obtain ⟨h1, h2, h3⟩ := ih
    obtain ⟨q1, q2, q3⟩ := mnY_ok g n (mnX g Y n) (Y + 1)
    show mnY g n (mnX g Y n) (Y + 1) ≤ nvr ∧ (∀ x y, x < n + 1 → y ≤ Y → 0 < x + y → mnY g n (mnX g Y n) (Y + 1) ≤ g x y) ∧ (mnY g n (mnX g Y n) (Y + 1) = nvr ∨ ∃ x y, x < n + 1 ∧ y ≤ Y ∧ 0 < x + y ∧ mnY g n (mnX g Y n) (Y + 1) = g x y)
    refine ⟨Nat.le_trans q1 h1, fun x y hx hy hp => ?_, ?_⟩
    · by_cases hxn : x = n
      · subst hxn; exact q2 y (by omega) hp
      · exact Nat.le_trans q1 (h2 x y (by omega) hy hp)
    · rcases q3 with q3 | ⟨y, a1, a2, a3⟩
      · rw [q3]
        rcases h3 with h3 | ⟨x, y, a1, a2, a3, a4⟩
        · exact Or.inl h3
        · exact Or.inr ⟨x, y, by omega, a2, a3, a4⟩
      · exact Or.inr ⟨n, y, by omega, by omega, a2, a3⟩
theorem mnF_ok (X Y : Nat) (g : Nat → Nat → Nat) : isMn X Y g (mnF X Y g) := by
  obtain ⟨h1, h2, h3⟩ := mnX_ok g Y (X + 1)
  refine ⟨fun x y hx hy hp => h2 x y (by omega) hy hp, h1, ?_⟩
  rcases h3 with h3 | ⟨x, y, a1, a2, a3, a4⟩
  · exact Or.inl h3
  · exact Or.inr ⟨x, y, by omega, a2, a3, a4⟩
theorem isMn_eq {X Y : Nat} {g : Nat → Nat → Nat} {v w : Nat} (h1 : isMn X Y g v) (h2 : isMn X Y g w) : v = w := by
  have key : ∀ {a b : Nat}, isMn X Y g a → isMn X Y g b → a ≤ b := by
    intro a b ha hb
    rcases hb.2.2 with e | ⟨x, y, q1, q2, q3, q4⟩
    · rw [e]; exact ha.2.1
    · rw [q4]; exact ha.1 x y q1 q2 q3
  exact Nat.le_antisymm (key h1 h2) (key h2 h1)
theorem isMn_congr {X Y : Nat} {g g' : Nat → Nat → Nat} {v : Nat} (h : isMn X Y g v) (e : ∀ x y, x ≤ X → y ≤ Y → 0 < x + y → g x y = g' x y) : isMn X Y g' v := by
  refine ⟨fun x y hx hy hp => by rw [← e x y hx hy hp]; exact h.1 x y hx hy hp, h.2.1, ?_⟩
  rcases h.2.2 with h3 | ⟨x, y, a1, a2, a3, a4⟩
  · exact Or.inl h3
  · exact Or.inr ⟨x, y, a1, a2, a3, by rw [a4, e x y a1 a2 a3]⟩
/-- the cost of an opening that takes x and y lines -/
def tollF (hi sh x y : Nat) : Nat := (hi - x) * (hi - x) + (hi - y) * (hi - y) + sh * ((hi - x) - (hi - y) + ((hi - y) - (hi - x))) * ((hi - x) - (hi - y) + ((hi - y) - (hi - x)))
theorem tollF_le {hi sh x y : Nat} (h : hi ≤ 12) (hs : sh ≤ 9) : tollF hi sh x y ≤ 1584 := by
  have a1 : (hi - x) * (hi - x) ≤ 12 * 12 := Nat.mul_le_mul (by omega) (by omega)
  have a2 : (hi - y) * (hi - y) ≤ 12 * 12 := Nat.mul_le_mul (by omega) (by omega)
  have a3 : sh * ((hi - x) - (hi - y) + ((hi - y) - (hi - x))) * ((hi - x) - (hi - y) + ((hi - y) - (hi - x))) ≤ 9 * 12 * 12 := Nat.mul_le_mul (Nat.mul_le_mul hs (by omega)) (by omega)
  unfold tollF
  omega
/-- all that the layout hangs on: lines of both sides, high, share, where openings may end -/
abbrev LYP : Type := Nat × Nat × Nat × Nat × (Nat → Nat → Bool)
def byF (P : LYP) (R : Nat → Nat → Nat) (i j x y : Nat) : Nat := if R (i + x) (j + y) = nvr then nvr else R (i + x) (j + y) + 1 + (if i + x = P.1 ∧ j + y = P.2.1 then 0 else tollF P.2.2.1 P.2.2.2.1 x y * 128)
def RF (P : LYP) : Nat → Nat → Nat → Nat
  | 0, i, j => if i = P.1 ∧ j = P.2.1 then 0 else nvr
  | n + 1, i, j => if i = P.1 ∧ j = P.2.1 then 0 else if P.2.2.2.2 i j = true then mnF (min P.2.2.1 (P.1 - i)) (min P.2.2.1 (P.2.1 - j)) (byF P (RF P n) i j) else nvr
theorem RF_fuel (P : LYP) : ∀ n m i j, i ≤ P.1 → j ≤ P.2.1 → (P.1 - i) + (P.2.1 - j) ≤ n → (P.1 - i) + (P.2.1 - j) ≤ m → RF P n i j = RF P m i j := by
  intro n
  induction n with
  | zero =>
    intro m i j hi hj h1 h2
    have e : i = P.1 ∧ j = P.2.1 := by omega
    cases m with
    | zero => rfl
    | succ m => unfold RF; rw [if_pos e, if_pos e]
  | succ n ih =>
    intro m i j hi hj h1 h2
    cases m with
    | zero =>
      have e : i = P.1 ∧ j = P.2.1 := by omega
      unfold RF; rw [if_pos e, if_pos e]
    | succ m =>
      unfold RF
      by_cases e : i = P.1 ∧ j = P.2.1
      · rw [if_pos e, if_pos e]
      · rw [if_neg e, if_neg e]
        by_cases ho : P.2.2.2.2 i j = true
        · rw [if_pos ho, if_pos ho]
          refine isMn_eq (mnF_ok _ _ _) (isMn_congr (mnF_ok _ _ _) (fun x y hx hy hp => ?_))
          unfold byF
          rw [ih m (i + x) (j + y) (by omega) (by omega) (by omega) (by omega)]
        · rw [if_neg ho, if_neg ho]
/-- the rank of the rest behind i, j -/
def rkF (P : LYP) (i j : Nat) : Nat := RF P ((P.1 - i) + (P.2.1 - j)) i j
theorem rkF_end (P : LYP) : rkF P P.1 P.2.1 = 0 := by
  unfold rkF
  rw [show P.1 - P.1 + (P.2.1 - P.2.1) = 0 by omega]
  unfold RF
  rw [if_pos ⟨rfl, rfl⟩]
theorem rkF_no {P : LYP} {i j : Nat} (hi : i ≤ P.1) (hj : j ≤ P.2.1) (h : ¬ (i = P.1 ∧ j = P.2.1)) (ho : ¬ P.2.2.2.2 i j = true) : rkF P i j = nvr := by
  unfold rkF
  obtain ⟨n, hn⟩ : ∃ n, P.1 - i + (P.2.1 - j) = n + 1 := ⟨P.1 - i + (P.2.1 - j) - 1, by omega⟩
  rw [hn]
  unfold RF
  rw [if_neg h, if_neg ho]
theorem rkF_mn {P : LYP} {i j : Nat} (hi : i ≤ P.1) (hj : j ≤ P.2.1) (h : ¬ (i = P.1 ∧ j = P.2.1)) (ho : P.2.2.2.2 i j = true) : isMn (min P.2.2.1 (P.1 - i)) (min P.2.2.1 (P.2.1 - j)) (byF P (rkF P) i j) (rkF P i j) := by
  obtain ⟨n, hn⟩ : ∃ n, P.1 - i + (P.2.1 - j) = n + 1 := ⟨P.1 - i + (P.2.1 - j) - 1, by omega⟩
  have e : rkF P i j = mnF (min P.2.2.1 (P.1 - i)) (min P.2.2.1 (P.2.1 - j)) (byF P (RF P n) i j) := by
    unfold rkF
    rw [hn]
    unfold RF
    rw [if_neg h, if_pos ho]
  rw [e]
  refine isMn_congr (mnF_ok _ _ _) (fun x y hx hy hp => ?_)
  unfold byF
  rw [RF_fuel P n ((P.1 - (i + x)) + (P.2.1 - (j + y))) (i + x) (j + y) (by omega) (by omega) (by omega) (Nat.le_refl _)]
  rfl
/-- of a rank: openings to come, cost -/
theorem rkF_bd {P : LYP} (h12 : P.2.2.1 ≤ 12) (h9 : P.2.2.2.1 ≤ 9) : ∀ d i j, i ≤ P.1 → j ≤ P.2.1 → (P.1 - i) + (P.2.1 - j) = d → rkF P i j = nvr ∨ (rkF P i j % 128 ≤ d ∧ rkF P i j / 128 ≤ 1584 * d) ∨ 120 < d := by
  intro d
  induction d using Nat.strongRecOn with
  | ind d ih =>
    intro i j hi hj hd
    by_cases hd120 : 120 < d
    · exact Or.inr (Or.inr hd120)
    · by_cases h : i = P.1 ∧ j = P.2.1
      · obtain ⟨rfl, rfl⟩ := h
        rw [rkF_end]
        exact Or.inr (Or.inl ⟨Nat.zero_le _, Nat.zero_le _⟩)
      · by_cases ho : P.2.2.2.2 i j = true
        · have hm := rkF_mn hi hj h ho
          rcases hm.2.2 with e | ⟨x, y, q1, q2, q3, q4⟩
          · exact Or.inl e
          · rw [q4]
            unfold byF
            by_cases hn : rkF P (i + x) (j + y) = nvr
            · rw [if_pos hn]; exact Or.inl rfl
            · rw [if_neg hn]
              have hq := ih ((P.1 - (i + x)) + (P.2.1 - (j + y))) (by omega) (i + x) (j + y) (by omega) (by omega) rfl
              rcases hq with hq | hq | hq
              · exact absurd hq hn
              · have ht := tollF_le (hi := P.2.2.1) (sh := P.2.2.2.1) (x := x) (y := y) h12 h9
                refine Or.inr (Or.inl ?_)
                generalize rkF P (i + x) (j + y) = r at hq
                generalize tollF P.2.2.1 P.2.2.2.1 x y = t at ht
                split <;> omega
              · omega
        · exact Or.inl (rkF_no hi hj h ho)
theorem rkF_lt {P : LYP} (h12 : P.2.2.1 ≤ 12) (h9 : P.2.2.2.1 ≤ 9) (h0 : P.1 ≤ 60) (h1 : P.2.1 ≤ 60) {i j : Nat} (hi : i ≤ P.1) (hj : j ≤ P.2.1) : rkF P i j = nvr ∨ (rkF P i j % 128 ≤ (P.1 - i) + (P.2.1 - j) ∧ rkF P i j < 30000000) := by
  rcases rkF_bd h12 h9 _ i j hi hj rfl with h | h | h
  · exact Or.inl h
  · refine Or.inr ⟨h.1, ?_⟩
    have h3 := h.2
    have h4 : 1584 * ((P.1 - i) + (P.2.1 - j)) ≤ 1584 * 120 := Nat.mul_le_mul_left _ (by omega)
    have h5 := Nat.mod_lt (rkF P i j) (show 0 < 128 by omega)
    have h6 := Nat.div_add_mod (rkF P i j) 128
    omega
  · omega
theorem rkF_le {P : LYP} (h12 : P.2.2.1 ≤ 12) (h9 : P.2.2.2.1 ≤ 9) (h0 : P.1 ≤ 60) (h1 : P.2.1 ≤ 60) {i j : Nat} (hi : i ≤ P.1) (hj : j ≤ P.2.1) : rkF P i j ≤ nvr := by
  rcases rkF_lt h12 h9 h0 h1 hi hj with h | h
  · rw [h]; exact Nat.le_refl _
  · unfold nvr; omega
theorem byF_bd {P : LYP} (h12 : P.2.2.1 ≤ 12) (h9 : P.2.2.2.1 ≤ 9) (h0 : P.1 ≤ 60) (h1 : P.2.1 ≤ 60) {i j x y : Nat} (hi : i + x ≤ P.1) (hj : j + y ≤ P.2.1) : byF P (rkF P) i j x y ≤ nvr ∧ rkF P (i + x) (j + y) ≤ byF P (rkF P) i j x y := by
  unfold byF
  rcases rkF_lt h12 h9 h0 h1 hi hj with h | h
  · rw [if_pos h, h]; exact ⟨Nat.le_refl _, Nat.le_refl _⟩
  · have ht := tollF_le (hi := P.2.2.1) (sh := P.2.2.2.1) (x := x) (y := y) h12 h9
    by_cases hn : rkF P (i + x) (j + y) = nvr
    · rw [if_pos hn, hn]; exact ⟨Nat.le_refl _, Nat.le_refl _⟩
    · rw [if_neg hn]
      refine ⟨?_, by omega⟩
      unfold nvr
      split <;> omega
end
section
/-! THE CLASS: the layout's tolls and ranks. -/
theorem toll_i {hi sh x y : Nat} (hx : x ≤ hi) (hy : y ≤ hi) : (nI hi - nI x) * (nI hi - nI x) + (nI hi - nI y) * (nI hi - nI y) + nI sh * ((nI hi - nI x) - (nI hi - nI y)) * ((nI hi - nI x) - (nI hi - nI y)) = nI (tollF hi sh x y) := by
  unfold tollF
  rw [pk_sub hx, pk_sub hy]
  generalize hi - x = a
  generalize hi - y = b
  have key : nI sh * (nI a - nI b) * (nI a - nI b) = nI (sh * (a - b + (b - a)) * (a - b + (b - a))) := by
    by_cases h : b ≤ a
    · rw [pk_sub h, show b - a = 0 by omega, Nat.add_zero, pk_mul, pk_mul]
    · have e : nI a - nI b = -(nI (b - a)) := by rw [← pk_sub (show a ≤ b by omega), Int32.neg_sub]
      rw [e, show a - b = 0 by omega, Nat.zero_add, Int32.mul_neg, Int32.mul_neg, Int32.neg_mul, Int32.neg_neg, pk_mul, pk_mul]
  rw [key, pk_mul, pk_mul, nI_add, nI_add]
theorem s_setTolls {n hi sh : Nat} {kf : Nat → Nat} {f : Nat → Nat → Int32} (hhi : f 89 6 = nI hi) (h12 : hi ≤ 12) (h9 : sh ≤ 9) :
    ∃ f2, Run n_X2_setTolls 110 0 (ini n_X2_setTolls [.ref 89, .int (nI sh)]) [] (HH n kf f) (Ret none (HH n kf f2)) ∧ (∀ x y, x ≤ hi → y ≤ hi → f2 90 (x * 13 + y) = nI (tollF hi sh x y)) ∧ ∀ c, c ≠ 90 → f2 c = f c := by
  have hT : mT n_X2_setTolls = tb_X2_setTolls := rfl
  have inner : ∀ x, x ≤ hi → ∀ dd y : Nat, y + dd = hi + 1 → ∀ F : Nat → Nat → Int32, (∀ c, c ≠ 90 → F c = f c) → (∀ a b, a < x → b ≤ hi → F 90 (a * 13 + b) = nI (tollF hi sh a b)) → (∀ b, b < y → F 90 (x * 13 + b) = nI (tollF hi sh x b)) →
      ∃ F2 : Nat → Nat → Int32, (∀ c, c ≠ 90 → F2 c = f c) ∧ (∀ a b, a < x + 1 → b ≤ hi → F2 90 (a * 13 + b) = nI (tollF hi sh a b)) ∧ ∀ Φ, Run n_X2_setTolls 110 79 [some (.ref 89), some (.int (nI sh)), some (.int (nI x)), none, none, none, none] [] (HH n kf F2) Φ →
      Run n_X2_setTolls 110 17 [some (.ref 89), some (.int (nI sh)), some (.int (nI x)), some (.int (nI y)), none, none, none] [.int (nI hi), .int (nI y)] (HH n kf F) Φ := by
    intro x hx dd
    induction dd with
    | zero =>
      intro y hy F hF ha hb
      refine ⟨F, hF, fun a b h1 h2 => ?_, fun Φ hΦ => ?_⟩
      · by_cases hax : a = x
        · subst hax; exact hb b (by omega)
        · exact ha a b (by omega) h2
      · refine g_cmp hT rfl (fun cq => ?_) (fun cq => ?_)
        · exact v_cv hΦ ⟨rfl, rfl, rfl, trivial⟩ rfl rfl
        · exact absurd ((cj_gt (by omega) (by omega)).mpr (by omega)) cq
    | succ dd ih =>
      intro y hy F hF ha hb
      have hh : F 89 6 = nI hi := by rw [hF 89 (by omega)]; exact hhi
      obtain ⟨F2, q1, q2, q3⟩ := ih (y + 1) (by omega) (hset F 90 (x * 13 + y) (nI (tollF hi sh x y))) (fun c hc => by rw [hset_ne hc]; exact hF c hc) (fun a b h1 h2 => by
          rw [hs_s]; simp only [upd, if_neg (show a * 13 + b ≠ x * 13 + y by omega)]; exact ha a b h1 h2) (fun b h1 => by
          rw [hs_s]
          by_cases hby : b = y
          · subst hby; simp [upd]
          · simp only [upd, if_neg (show x * 13 + b ≠ x * 13 + y by omega)]; exact hb b (by omega))
      refine ⟨F2, q1, q2, fun Φ hΦ => ?_⟩
      refine g_cmp hT rfl (fun cq => ?_) (fun cq => ?_)
      · exact absurd ((cj_gt (by omega) (by omega)).mp cq) (by omega)
      · repeat (first | refine v_p hT rfl rfl ?_ | refine v_getr hT rfl rfl (by omega) rfl ?_ | refine v_geti hT rfl (by first | rfl | assumption) (by omega) ?_ | refine v_ald hT rfl (by first | assumption | rfl) (by omega) (by decide) (by omega) ?_ | simp only [nI_add, pk_mul, hh])
        rw [toll_i hx (show y ≤ hi by omega)]
        refine v_ast hT rfl rfl (by omega) (by decide) (by omega) ?_
        refine v_p hT rfl rfl ?_
        refine v_geti hT rfl rfl (by omega) ?_
        rw [hset_ne (by omega), hh]
        refine v_cv (q3 Φ hΦ) ⟨rfl, rfl, rfl, ?_, trivial⟩ ?_ rfl
        · rw [nI_add]
        · rw [nI_add]
  have outer : ∀ dd x : Nat, x + dd = hi + 1 → ∀ F : Nat → Nat → Int32, (∀ c, c ≠ 90 → F c = f c) → (∀ a b, a < x → b ≤ hi → F 90 (a * 13 + b) = nI (tollF hi sh a b)) →
      ∃ f2, Run n_X2_setTolls 110 7 [some (.ref 89), some (.int (nI sh)), some (.int (nI x)), none, none, none, none] [.int (nI hi), .int (nI x)] (HH n kf F) (Ret none (HH n kf f2)) ∧ (∀ x y, x ≤ hi → y ≤ hi → f2 90 (x * 13 + y) = nI (tollF hi sh x y)) ∧ ∀ c, c ≠ 90 → f2 c = f c := by
    intro dd
    induction dd with
    | zero =>
      intro x hx F hF ha
      refine ⟨F, ?_, fun a b h1 h2 => ha a b (by omega) h2, hF⟩
      refine g_cmp hT rfl (fun cq => ?_) (fun cq => ?_)
      · refine v_vret hT rfl rfl ⟨rfl, rfl⟩
      · exact absurd ((cj_gt (by omega) (by omega)).mpr (by omega)) cq
    | succ dd ih =>
      intro x hx F hF ha
      have hh : F 89 6 = nI hi := by rw [hF 89 (by omega)]; exact hhi
      obtain ⟨F2, q1, q2, q3⟩ := inner x (by omega) (hi + 1) 0 (by omega) F hF ha (fun b hb => by omega)
      obtain ⟨f2, r1, r2⟩ := ih (x + 1) (by omega) F2 q1 q2
      refine ⟨f2, ?_, r2⟩
      refine g_cmp hT rfl (fun cq => ?_) (fun cq => ?_)
      · exact absurd ((cj_gt (by omega) (by omega)).mp cq) (by omega)
      · repeat (first | refine v_p hT rfl rfl ?_ | refine v_getr hT rfl rfl (by omega) rfl ?_ | refine v_geti hT rfl (by first | rfl | assumption) (by omega) ?_ | refine v_ald hT rfl (by first | assumption | rfl) (by omega) (by decide) (by omega) ?_ | simp only [nI_add, pk_mul, hh])
        refine v_cv (q3 _ ?_) ⟨rfl, rfl, rfl, rfl, trivial⟩ rfl rfl
        refine v_p hT rfl rfl ?_
        refine v_geti hT rfl rfl (by omega) ?_
        rw [q1 89 (by omega), hhi]
        refine v_cv r1 ⟨rfl, rfl, ?_, trivial⟩ ?_ rfl
        · rw [nI_add]
        · rw [nI_add]
  obtain ⟨f2, r1, r2⟩ := outer (hi + 1) 0 (by omega) f (fun _ _ => rfl) (fun a b h => by omega)
  refine ⟨f2, ?_, r2⟩
  repeat (first | refine v_p hT rfl rfl ?_ | refine v_getr hT rfl rfl (by omega) rfl ?_ | refine v_geti hT rfl (by first | rfl | assumption) (by omega) ?_ | refine v_ald hT rfl (by first | assumption | rfl) (by omega) (by decide) (by omega) ?_ | simp only [nI_add, pk_mul, hhi])
  exact r1
/-! masks -/
def mkB (p : Nat → Bool) : Nat → Nat
  | 0 => 0
  | j + 1 => mkB p j + (if p j = true then 2 ^ j else 0)
theorem mkB_lt (p : Nat → Bool) : ∀ j, mkB p j < 2 ^ j := by
  intro j
  induction j with
  | zero => exact Nat.one_pos
  | succ j ih =>
    have h1 : 2 ^ (j + 1) = 2 ^ j + 2 ^ j := by rw [Nat.pow_succ]; omega
    show mkB p j + _ < _
    split <;> omega
theorem mkB_bit (p : Nat → Bool) : ∀ n j, j < n → (mkB p n).testBit j = p j := by
  intro n
  induction n with
  | zero => intro j hj; omega
  | succ n ih =>
    intro j hj
    have hl := mkB_lt p n
    cases hc : p n with
    | true =>
      have e : mkB p (n + 1) = 2 ^ n + mkB p n := by
        show mkB p n + _ = _
        rw [hc]
        simp only [if_pos]
        omega
      rw [e]
      by_cases hjn : j = n
      · subst hjn
        rw [Nat.testBit_two_pow_add_eq, Nat.testBit_lt_two_pow hl, hc]
        rfl
      · rw [Nat.testBit_two_pow_add_gt (by omega), ih j (by omega)]
    | false =>
      have e : mkB p (n + 1) = mkB p n := by
        show mkB p n + _ = _
        rw [hc]
        rfl
      rw [e]
      by_cases hjn : j = n
      · subst hjn; rw [Nat.testBit_lt_two_pow hl, hc]
      · exact ih j (by omega)
theorem mkB_eq {p q : Nat → Bool} {n : Nat} : mkB p n = mkB q n ↔ ∀ t, t < n → p t = q t := by
  constructor
  · intro h t ht
    rw [← mkB_bit p n t ht, ← mkB_bit q n t ht, h]
  · intro h
    induction n with
    | zero => rfl
    | succ n ih =>
      show mkB p n + _ = mkB q n + _
      rw [ih (fun t ht => h t (by omega)), h n (by omega)]
theorem mkB_or {p : Nat → Bool} {n : Nat} (h : p n = true) : mkB p n ||| 2 ^ n = mkB p (n + 1) := by
  rw [Nat.or_comm]
  have h1 := Nat.two_pow_add_eq_or_of_lt (mkB_lt p n) 1
  rw [Nat.mul_one] at h1
  rw [← h1]
  show _ = mkB p n + _
  rw [if_pos h]
  omega
theorem mkB_no {p : Nat → Bool} {n : Nat} (h : p n = false) : mkB p (n + 1) = mkB p n := by
  show mkB p n + _ = _
  rw [h]
  rfl
/-- which kept ties have begun ahead of break b: fa i the first line of tie i's paragraph -/
def bgB (kept : Nat) (fa : Nat → Nat) (b i : Nat) : Bool := kept.testBit i && decide (fa i < b)
theorem s_markBegun {n q e o tot kept : Nat} {kf : Nat → Nat} {f : Nat → Nat → Int32} {fa pa : Nat → Nat} (hq : q = 92 ∨ q = 93) (hke : kd e = (1, 10)) (hel : e < 75) (ho : isLn o) (htot : f o 2 = nI tot) (h60 : tot ≤ 60) (hk : kept < 1024) (hpa : ∀ i, i < 10 → kept.testBit i = true → f e i = nI (pa i) ∧ pa i < 9 ∧ f (o + 1) (pa i) = nI (fa i) ∧ fa i < 1000) :
    ∃ f2, Run n_X2_markBegun 110 0 (ini n_X2_markBegun [.ref q, .ref e, .ref o, .int (nI kept)]) [] (HH n kf f) (Ret none (HH n kf f2)) ∧ (∀ b, b ≤ tot → f2 q b = nI (mkB (bgB kept fa b) 10)) ∧ ∀ c, c ≠ q → f2 c = f c := by
  have hT : mT n_X2_markBegun = tb_X2_markBegun := rfl
  obtain ⟨l0, l1, l2⟩ := ln_kd ho
  have hlo := ln_lt ho
  have kq : kd q = (1, 61) := by rcases hq with rfl | rfl <;> decide
  have hq2 : q < 110 := by rcases hq with rfl | rfl <;> omega
  have hqo : 91 < q := by rcases hq with rfl | rfl <;> omega
  have inner : ∀ b, b ≤ tot → ∀ dd i : Nat, i + dd = 10 → ∀ F : Nat → Nat → Int32, (∀ c, c ≠ q → F c = f c) → F q b = nI (mkB (bgB kept fa b) i) →
      ∃ F2 : Nat → Nat → Int32, (∀ c, c ≠ q → F2 c = f c) ∧ F2 q b = nI (mkB (bgB kept fa b) 10) ∧ (∀ x, x ≠ b → F2 q x = F q x) ∧ ∀ Φ, Run n_X2_markBegun 110 68 [some (.ref q), some (.ref e), some (.ref o), some (.int (nI kept)), some (.int (nI b)), none] [] (HH n kf F2) Φ →
      Run n_X2_markBegun 110 24 [some (.ref q), some (.ref e), some (.ref o), some (.int (nI kept)), some (.int (nI b)), some (.int (nI i))] [.int (nI 10), .int (nI i)] (HH n kf F) Φ := by
    intro b hb dd
    induction dd with
    | zero =>
      intro i hi F hF hv
      obtain rfl : i = 10 := by omega
      refine ⟨F, hF, hv, fun _ _ => rfl, fun Φ hΦ => ?_⟩
      refine g_cmp hT rfl (fun cq => ?_) (fun cq => ?_)
      · exact v_cv hΦ ⟨rfl, rfl, rfl, rfl, rfl, trivial⟩ rfl rfl
      · exact absurd ((cj_ge (by omega) (by omega)).mpr (by omega)) cq
    | succ dd ih =>
      intro i hi F hF hv
      cases hp : bgB kept fa b i with
      | false =>
        obtain ⟨F2, q1, q2, q3, q4⟩ := ih (i + 1) (by omega) F hF (by rw [mkB_no hp]; exact hv)
        refine ⟨F2, q1, q2, q3, fun Φ hΦ => ?_⟩
        have back : Run n_X2_markBegun 110 62 [some (.ref q), some (.ref e), some (.ref o), some (.int (nI kept)), some (.int (nI b)), some (.int (nI i))] [] (HH n kf F) Φ := by
          refine v_p hT rfl rfl ?_
          refine v_cv (q4 Φ hΦ) ⟨rfl, rfl, rfl, rfl, rfl, ?_, trivial⟩ ?_ rfl
          · rw [nI_add]
          · rw [nI_add]
        refine g_cmp hT rfl (fun cq => ?_) (fun cq => ?_)
        · exact absurd ((cj_ge (by omega) (by omega)).mp cq) (by omega)
        · refine v_p hT rfl rfl ?_
          refine g_cmp hT rfl (fun cq2 => ?_) (fun cq2 => ?_)
          · exact back
          · have cq2 : kept.testBit i = true := Classical.byContradiction (fun z => cq2 ((tb_nI (by omega) (by omega)).mpr z))
            obtain ⟨a1, a2, a3, a4⟩ := hpa i (by omega) cq2
            have hge : b ≤ fa i := by
              unfold bgB at hp
              rw [cq2] at hp
              simpa using hp
            refine v_p hT rfl rfl ?_
            refine v_getr hT rfl l0 (by omega) (ln_rr ho n kf).1 ?_
            refine v_p hT rfl rfl ?_
            refine v_ald hT rfl hke (by omega) (by decide) (by omega) ?_
            rw [hF e (by omega), a1]
            refine v_ald hT rfl l1 (by omega) (by decide) (by omega) ?_
            rw [hF (o + 1) (by omega), a3]
            refine v_p hT rfl rfl ?_
            refine g_cmp hT rfl (fun cq3 => ?_) (fun cq3 => ?_)
            · exact back
            · exact absurd ((cj_ge (by omega) (by omega)).mpr hge) cq3
      | true =>
        obtain ⟨F2, q1, q2, q3, q4⟩ := ih (i + 1) (by omega) (hset F q b (nI (mkB (bgB kept fa b) (i + 1)))) (fun c hc => by rw [hset_ne hc]; exact hF c hc) (by rw [hs_s]; simp [upd])
        refine ⟨F2, q1, q2, fun x hx => by rw [q3 x hx, hs_s]; simp [upd, hx], fun Φ hΦ => ?_⟩
        have hp2 : kept.testBit i = true ∧ fa i < b := by
          unfold bgB at hp
          simpa using hp
        obtain ⟨a1, a2, a3, a4⟩ := hpa i (by omega) hp2.1
        refine g_cmp hT rfl (fun cq => ?_) (fun cq => ?_)
        · exact absurd ((cj_ge (by omega) (by omega)).mp cq) (by omega)
        · refine v_p hT rfl rfl ?_
          refine g_cmp hT rfl (fun cq2 => ?_) (fun cq2 => ?_)
          · exact absurd hp2.1 ((tb_nI (by omega) (by omega)).mp cq2)
          · refine v_p hT rfl rfl ?_
            refine v_getr hT rfl l0 (by omega) (ln_rr ho n kf).1 ?_
            refine v_p hT rfl rfl ?_
            refine v_ald hT rfl hke (by omega) (by decide) (by omega) ?_
            rw [hF e (by omega), a1]
            refine v_ald hT rfl l1 (by omega) (by decide) (by omega) ?_
            rw [hF (o + 1) (by omega), a3]
            refine v_p hT rfl rfl ?_
            refine g_cmp hT rfl (fun cq3 => ?_) (fun cq3 => ?_)
            · exact absurd ((cj_ge (by omega) (by omega)).mp cq3) (by omega)
            · refine v_p hT rfl rfl ?_
              refine v_ald hT rfl kq hq2 (by decide) (by omega) ?_
              rw [hv]
              refine v_p hT rfl rfl ?_
              rw [pow_at (by omega), nI_or, mkB_or hp]
              refine v_ast hT rfl kq hq2 (by decide) (by omega) ?_
              refine v_p hT rfl rfl ?_
              refine v_cv (q4 Φ hΦ) ⟨rfl, rfl, rfl, rfl, rfl, ?_, trivial⟩ ?_ rfl
              · rw [nI_add]
              · rw [nI_add]
  have outer : ∀ dd b : Nat, b + dd = tot + 1 → ∀ F : Nat → Nat → Int32, (∀ c, c ≠ q → F c = f c) → (∀ x, x < b → F q x = nI (mkB (bgB kept fa x) 10)) →
      ∃ f2, Run n_X2_markBegun 110 9 [some (.ref q), some (.ref e), some (.ref o), some (.int (nI kept)), some (.int (nI b)), none] [.int (nI tot), .int (nI b)] (HH n kf F) (Ret none (HH n kf f2)) ∧ (∀ b, b ≤ tot → f2 q b = nI (mkB (bgB kept fa b) 10)) ∧ ∀ c, c ≠ q → f2 c = f c := by
    intro dd
    induction dd with
    | zero =>
      intro b hb F hF hx
      refine ⟨F, ?_, fun x h1 => hx x (by omega), hF⟩
      refine g_cmp hT rfl (fun cq => ?_) (fun cq => ?_)
      · refine v_vret hT rfl rfl ⟨rfl, rfl⟩
      · exact absurd ((cj_gt (by omega) (by omega)).mpr (by omega)) cq
    | succ dd ih =>
      intro b hb F hF hx
      obtain ⟨F2, q1, q2, q3, q4⟩ := inner b (by omega) 10 0 (by omega) (hset F q b (nI 0)) (fun c hc => by rw [hset_ne hc]; exact hF c hc) (by rw [hs_s]; simp [upd, mkB])
      obtain ⟨f2, r1, r2⟩ := ih (b + 1) (by omega) F2 q1 (fun x hxb => by
        by_cases hxe : x = b
        · subst hxe; exact q2
        · rw [q3 x hxe, hs_s]; simp only [upd, if_neg hxe]; exact hx x (by omega))
      refine ⟨f2, ?_, r2⟩
      refine g_cmp hT rfl (fun cq => ?_) (fun cq => ?_)
      · exact absurd ((cj_gt (by omega) (by omega)).mp cq) (by omega)
      · refine v_p hT rfl rfl ?_
        refine v_ast hT rfl kq hq2 (by decide) (by omega) ?_
        refine v_p hT rfl rfl ?_
        refine v_cv (q4 _ ?_) ⟨rfl, rfl, rfl, rfl, rfl, rfl, trivial⟩ rfl rfl
        refine v_p hT rfl rfl ?_
        refine v_geti hT rfl l0 (by omega) ?_
        rw [q1 o (by omega), htot]
        refine v_cv r1 ⟨rfl, rfl, rfl, rfl, ?_, trivial⟩ ?_ rfl
        · rw [nI_add]
        · rw [nI_add]
  obtain ⟨f2, r1, r2⟩ := outer (tot + 1) 0 (by omega) f (fun _ _ => rfl) (fun x hx => by omega)
  refine ⟨f2, ?_, r2⟩
  refine v_p hT rfl rfl ?_
  refine v_geti hT rfl l0 (by omega) ?_
  rw [htot]
  exact r1
end
section
/-! THE CLASS: ranks. -/
def PBd (P : LYP) : Prop := P.2.2.1 ≤ 12 ∧ P.2.2.2.1 ≤ 9 ∧ P.1 ≤ 60 ∧ P.2.1 ≤ 60
def LCx (f : Nat → Nat → Int32) (P : LYP) : Prop := f 89 6 = nI P.2.2.1 ∧ f 89 7 = nI P.1 ∧ f 89 8 = nI P.2.1 ∧ ∀ x y, x ≤ P.2.2.1 → y ≤ P.2.2.1 → f 90 (x * 13 + y) = nI (tollF P.2.2.1 P.2.2.2.1 x y)
theorem prI_lt : ∀ k, ¬ prI (k + 1) < 0 ∨ 2 ^ 31 ≤ k := by
  intro k
  by_cases h : k < 2 ^ 31
  · exact Or.inl (nI_pos h)
  · exact Or.inr (by omega)
theorem prI_ok {k : Nat} (h : k < 2 ^ 31) : ¬ prI (k + 1) < 0 := nI_pos h
theorem prI_0 : prI 0 < 0 := by decide
theorem s_rankBy {n i j x y : Nat} {kf : Nat → Nat} {f : Nat → Nat → Int32} {P : LYP} (hP : PBd P) (hL : LCx f P) (hx : x ≤ P.2.2.1) (hy : y ≤ P.2.2.1) (hi : i + x ≤ P.1) (hj : j + y ≤ P.2.1) (hr : f 91 ((i + x) * 61 + j + y) = nI (rkF P (i + x) (j + y))) :
    Run n_X2_rankBy 110 0 (ini n_X2_rankBy [.ref 89, .int (nI i), .int (nI j), .int (nI x), .int (nI y)]) [] (HH n kf f) (Ret (some (.int (nI (byF P (rkF P) i j x y)))) (HH n kf f)) := by
  have hT : mT n_X2_rankBy = tb_X2_rankBy := rfl
  obtain ⟨p1, p2, p3, p4⟩ := hP
  obtain ⟨c1, c2, c3, c4⟩ := hL
  have hle := rkF_le p1 p2 p3 p4 hi hj
  have hlt := rkF_lt p1 p2 p3 p4 hi hj
  have hnv : nvr < 2 ^ 31 := by unfold nvr; omega
  have ht := tollF_le (hi := P.2.2.1) (sh := P.2.2.2.1) (x := x) (y := y) p1 p2
  repeat (first | refine v_p hT rfl rfl ?_ | refine v_getr hT rfl rfl (by omega) rfl ?_ | refine v_geti hT rfl (by first | rfl | assumption) (by omega) ?_ | refine v_ald hT rfl (by first | assumption | rfl) (by omega) (by decide) (by omega) ?_ | simp only [nI_add, pk_mul, hr])
  refine g_cmp hT rfl (fun cq => ?_) (fun cq => ?_)
  · have cq : ¬ rkF P (i + x) (j + y) = nvr := (cj_ne (b := nvr) (by omega) (by omega)).mp cq
    have hlt : rkF P (i + x) (j + y) < 30000000 := by
      rcases hlt with h | h
      · exact absurd h cq
      · exact h.2
    have hby : byF P (rkF P) i j x y = rkF P (i + x) (j + y) + 1 + (if i + x = P.1 ∧ j + y = P.2.1 then 0 else tollF P.2.2.1 P.2.2.2.1 x y * 128) := if_neg cq
    rw [hby]
    have notlast : ¬ (i + x = P.1 ∧ j + y = P.2.1) → Run n_X2_rankBy 110 53 [some (.ref 89), some (.int (nI i)), some (.int (nI j)), some (.int (nI x)), some (.int (nI y)), some (.int (nI (rkF P (i + x) (j + y)))), none] [] (HH n kf f) (Ret (some (.int (nI (rkF P (i + x) (j + y) + 1 + (if i + x = P.1 ∧ j + y = P.2.1 then 0 else tollF P.2.2.1 P.2.2.2.1 x y * 128))))) (HH n kf f)) := by
      intro hnl
      rw [if_neg hnl]
      refine v_p hT rfl rfl ?_
      simp only [nI_add]
      refine g_if hT rfl (fun cq2 => ?_) (fun cq2 => ?_)
      · repeat (first | refine v_p hT rfl rfl ?_ | refine v_getr hT rfl rfl (by omega) rfl ?_ | refine v_geti hT rfl (by first | rfl | assumption) (by omega) ?_ | refine v_ald hT rfl (by first | assumption | rfl) (by omega) (by decide) (by omega) ?_ | simp only [nI_add, pk_mul, c4 x y hx hy])
        refine v_ret hT rfl (fun z => by cases z) rfl ⟨rfl, rfl⟩
      · exact absurd rfl cq2
    repeat (first | refine v_p hT rfl rfl ?_ | refine v_getr hT rfl rfl (by omega) rfl ?_ | refine v_geti hT rfl (by first | rfl | assumption) (by omega) ?_ | refine v_ald hT rfl (by first | assumption | rfl) (by omega) (by decide) (by omega) ?_ | simp only [nI_add, pk_mul, c2])
    refine g_cmp hT rfl (fun cq2 => ?_) (fun cq2 => ?_)
    · have cq2 := (cj_ne (by omega) (by omega)).mp cq2
      exact v_cv (notlast (by omega)) ⟨rfl, rfl, rfl, rfl, rfl, rfl, trivial⟩ rfl rfl
    · have cq2 := (not_congr (cj_ne (by omega) (by omega))).mp cq2
      repeat (first | refine v_p hT rfl rfl ?_ | refine v_getr hT rfl rfl (by omega) rfl ?_ | refine v_geti hT rfl (by first | rfl | assumption) (by omega) ?_ | refine v_ald hT rfl (by first | assumption | rfl) (by omega) (by decide) (by omega) ?_ | simp only [nI_add, pk_mul, c3])
      refine g_cmp hT rfl (fun cq3 => ?_) (fun cq3 => ?_)
      · have cq3 := (cj_ne (by omega) (by omega)).mp cq3
        exact v_cv (notlast (by omega)) ⟨rfl, rfl, rfl, rfl, rfl, rfl, trivial⟩ rfl rfl
      · have cq3 := (not_congr (cj_ne (by omega) (by omega))).mp cq3
        rw [if_pos (by omega)]
        refine v_p hT rfl rfl ?_
        simp only [nI_add]
        refine g_if hT rfl (fun cq4 => ?_) (fun cq4 => ?_)
        · exact absurd cq4 (by show ¬ (nI 1 = 0); decide)
        · refine v_p hT rfl rfl ?_
          simp only [nI_add]
          refine v_ret hT rfl (fun z => by cases z) rfl ⟨rfl, rfl⟩
  · have cq : rkF P (i + x) (j + y) = nvr := Classical.not_not.mp ((not_congr (cj_ne (b := nvr) (by omega) (by omega))).mp cq)
    have hby : byF P (rkF P) i j x y = nvr := if_pos cq
    rw [hby]
    refine v_p hT rfl rfl ?_
    refine v_ret hT rfl (fun z => by cases z) rfl ⟨rfl, rfl⟩
/-- the ranks from i, j on (but there) stand in the row -/
def rkR (f : Nat → Nat → Int32) (P : LYP) (i j : Nat) : Prop := ∀ a b, i ≤ a → a ≤ P.1 → j ≤ b → b ≤ P.2.1 → i + j < a + b → f 91 (a * 61 + b) = nI (rkF P a b)
theorem s_leastRank {n i j al : Nat} {kf : Nat → Nat} {f : Nat → Nat → Int32} {P : LYP} {law : Nat → Bool} (hP : PBd P) (hL : LCx f P) (hi : i ≤ P.1) (hj : j ≤ P.2.1) (hR : rkR f P i j) (hok : P.2.2.2.2 i j = true) (hal : kd al = (2, 61)) (hal2 : al < 110) (hlw : ∀ a, a ≤ P.1 → f al a = bI (law a)) (hl1 : ∀ a b, P.2.2.2.2 a b = true → law a = true) (hl2 : law P.1 = true) :
    Run n_X2_leastRank 110 0 (ini n_X2_leastRank [.ref 89, .int (nI i), .int (nI j), .ref al]) [] (HH n kf f) (Ret (some (.int (nI (rkF P i j)))) (HH n kf f)) := by
  have hT : mT n_X2_leastRank = tb_X2_leastRank := rfl
  obtain ⟨p1, p2, p3, p4⟩ := id hP
  obtain ⟨c1, c2, c3, c4⟩ := id hL
  have hnv : nvr < 2 ^ 31 := by unfold nvr; omega
  have search : ¬ (i = P.1 ∧ j = P.2.1) → Run n_X2_leastRank 110 18 [some (.ref 89), some (.int (nI i)), some (.int (nI j)), some (.ref al), none, none, none, none] [] (HH n kf f) (Ret (some (.int (nI (rkF P i j)))) (HH n kf f)) := by
    intro hend
    have hmn := rkF_mn hi hj hend hok
    generalize hX : min P.2.2.1 (P.1 - i) = X at hmn
    generalize hY : min P.2.2.1 (P.2.1 - j) = Y at hmn
    have hXb : X ≤ P.2.2.1 ∧ i + X ≤ P.1 := by omega
    have hYb : Y ≤ P.2.2.1 ∧ j + Y ≤ P.2.1 := by omega
    have inner : ∀ Φ x, x ≤ X → ∀ Yp v : Nat, Yp ≤ Y + 1 → v ≤ nvr → (∀ w, w ≤ nvr → w ≤ v → (∀ y, y ≤ Y → 0 < x + y → y < Yp → w ≤ byF P (rkF P) i j x y) → (w = v ∨ ∃ y, y < Yp ∧ 0 < x + y ∧ w = byF P (rkF P) i j x y) → Run n_X2_leastRank 110 131 [some (.ref 89), some (.int (nI i)), some (.int (nI j)), some (.ref al), some (.int (nI w)), some (.int (nI x)), none, none] [] (HH n kf f) Φ) →
        Run n_X2_leastRank 110 85 [some (.ref 89), some (.int (nI i)), some (.int (nI j)), some (.ref al), some (.int (nI v)), some (.int (nI x)), some (.int (nI ((i + x) * 61 + j))), some (.int (prI Yp))] [.int (nI x + prI Yp)] (HH n kf f) Φ := by
      intro Φ x hx Yp
      induction Yp with
      | zero =>
        intro v _ hv hΦ
        have out := hΦ v hv (Nat.le_refl _) (fun y _ _ h => by omega) (Or.inl rfl)
        refine g_if hT rfl (fun cq => ?_) (fun cq => ?_)
        · exact v_cv out ⟨rfl, rfl, rfl, rfl, rfl, rfl, trivial⟩ rfl rfl
        · refine v_p hT rfl rfl ?_
          refine g_if hT rfl (fun cq2 => ?_) (fun cq2 => ?_)
          · exact v_cv out ⟨rfl, rfl, rfl, rfl, rfl, rfl, trivial⟩ rfl rfl
          · exact absurd prI_0 cq2
      | succ y ih =>
        intro v hyY hv hΦ
        have e1 : nI x + prI (y + 1) = nI (x + y) := nI_add x y
        rw [e1]
        refine g_if hT rfl (fun cq => ?_) (fun cq => ?_)
        · have cq : x + y ≤ 0 := (cj_le (a := x + y) (b := 0) (by omega) (by omega)).mp cq
          exact v_cv (hΦ v hv (Nat.le_refl _) (fun y2 _ _ h => by omega) (Or.inl rfl)) ⟨rfl, rfl, rfl, rfl, rfl, rfl, trivial⟩ rfl rfl
        · have cq : ¬ x + y ≤ 0 := (not_congr (cj_le (a := x + y) (b := 0) (by omega) (by omega))).mp cq
          have hr := hR (i + x) (j + y) (by omega) (by omega) (by omega) (by omega) (by omega)
          rw [show (i + x) * 61 + (j + y) = (i + x) * 61 + j + y by omega] at hr
          have hle := rkF_le p1 p2 p3 p4 (show i + x ≤ P.1 by omega) (show j + y ≤ P.2.1 by omega)
          have hby := byF_bd p1 p2 p3 p4 (i := i) (j := j) (x := x) (y := y) (by omega) (by omega)
          have next : ∀ v2, v2 ≤ nvr → v2 ≤ v → v2 ≤ byF P (rkF P) i j x y → (v2 = v ∨ v2 = byF P (rkF P) i j x y) → Run n_X2_leastRank 110 125 [some (.ref 89), some (.int (nI i)), some (.int (nI j)), some (.ref al), some (.int (nI v2)), some (.int (nI x)), some (.int (nI ((i + x) * 61 + j))), some (.int (nI y))] [] (HH n kf f) Φ := by
            intro v2 hv2 hv2v hv2b hv2e
            refine v_p hT rfl rfl ?_
            rw [prI_add]
            refine ih v2 (by omega) hv2 (fun w hw hwv hwb hwe => hΦ w hw (by omega) (fun y2 h1 h2 h3 => ?_) ?_)
            · by_cases hy2 : y2 = y
              · subst hy2; omega
              · exact hwb y2 h1 h2 (by omega)
            · rcases hwe with hwe | ⟨y2, a1, a2, a3⟩
              · rcases hv2e with hv2e | hv2e
                · exact Or.inl (by omega)
                · exact Or.inr ⟨y, by omega, by omega, by omega⟩
              · exact Or.inr ⟨y2, by omega, a2, a3⟩
          refine v_p hT rfl rfl ?_
          refine g_if hT rfl (fun cq2 => ?_) (fun cq2 => ?_)
          · exact absurd cq2 (prI_ok (show y < 2 ^ 31 by omega))
          · refine v_p hT rfl rfl ?_
            refine v_getr hT rfl rfl (by omega) rfl ?_
            refine v_p hT rfl rfl ?_
            rw [show nI ((i + x) * 61 + j) + prI (y + 1) = nI ((i + x) * 61 + j + y) from nI_add _ _]
            refine v_ald hT rfl (by first | assumption | rfl) (by omega) (by decide) (by omega) ?_
            rw [hr]
            refine v_p hT rfl rfl ?_
            refine g_cmp hT rfl (fun cq3 => ?_) (fun cq3 => ?_)
            · have cq3 := (cj_ge (by omega) (by omega)).mp cq3
              exact next v hv (Nat.le_refl _) (by omega) (Or.inl rfl)
            · refine v_p hT rfl rfl ?_
              refine v_call hT [.int (nI i), .int (nI j), .int (nI x), .int (nI y)] rfl rfl (by first | rfl | assumption) (by omega) rfl rfl (Nat.le_of_ble_eq_true rfl) (Nat.le_of_ble_eq_true rfl) (s_rankBy hP hL (by omega) (by omega) (by omega) (by omega) hr) ?_
              refine g_minN hT rfl (Nat.le_of_ble_eq_true rfl) (by omega) (by omega) ?_
              refine g_ps 1 hT rfl ?_
              exact next (min v (byF P (rkF P) i j x y)) (by omega) (by omega) (by omega) (by omega)
    have outer : ∀ Xp v : Nat, Xp ≤ X + 1 → v ≤ nvr → (∀ x y, Xp ≤ x → x ≤ X → y ≤ Y → 0 < x + y → v ≤ byF P (rkF P) i j x y) → (v = nvr ∨ ∃ x y, x ≤ X ∧ y ≤ Y ∧ 0 < x + y ∧ v = byF P (rkF P) i j x y) →
        Run n_X2_leastRank 110 39 [some (.ref 89), some (.int (nI i)), some (.int (nI j)), some (.ref al), some (.int (nI v)), some (.int (prI Xp)), none, none] [.int (prI Xp)] (HH n kf f) (Ret (some (.int (nI (rkF P i j)))) (HH n kf f)) := by
      intro Xp
      induction Xp with
      | zero =>
        intro v _ hv h1 h2
        have e : v = rkF P i j := isMn_eq ⟨fun x y hx hy hp => h1 x y (by omega) hx hy hp, hv, h2⟩ hmn
        refine g_if hT rfl (fun cq => ?_) (fun cq => ?_)
        · refine v_p hT rfl rfl ?_
          refine v_ret hT rfl (fun z => by cases z) rfl ⟨?_, rfl⟩
          rw [e]
        · exact absurd prI_0 cq
      | succ x ih =>
        intro v hxX hv h1 h2
        have next : ∀ w, w ≤ nvr → w ≤ v → (∀ y, y ≤ Y → 0 < x + y → w ≤ byF P (rkF P) i j x y) → (w = v ∨ ∃ y, y ≤ Y ∧ 0 < x + y ∧ w = byF P (rkF P) i j x y) → Run n_X2_leastRank 110 131 [some (.ref 89), some (.int (nI i)), some (.int (nI j)), some (.ref al), some (.int (nI w)), some (.int (nI x)), none, none] [] (HH n kf f) (Ret (some (.int (nI (rkF P i j)))) (HH n kf f)) := by
          intro w hw hwv hwb hwe
          refine v_p hT rfl rfl ?_
          rw [prI_add]
          refine ih w (by omega) hw (fun x2 y2 a1 a2 a3 a4 => ?_) ?_
          · by_cases hx2 : x2 = x
            · subst hx2; exact hwb y2 a3 a4
            · exact Nat.le_trans hwv (h1 x2 y2 (by omega) a2 a3 a4)
          · rcases hwe with hwe | ⟨y2, a1, a2, a3⟩
            · rw [hwe]; exact h2
            · exact Or.inr ⟨x, y2, by omega, a1, a2, a3⟩
        refine g_if hT rfl (fun cq => ?_) (fun cq => ?_)
        · exact absurd cq (prI_ok (show x < 2 ^ 31 by omega))
        · refine v_p hT rfl rfl ?_
          rw [show nI i + prI (x + 1) = nI (i + x) from nI_add _ _]
          refine v_bld hT rfl hal (Or.inl rfl) hal2 (by decide) (by omega) ?_
          rw [hlw (i + x) (by omega)]
          refine g_if hT rfl (fun cq2 => ?_) (fun cq2 => ?_)
          · have cq2 := bt_of cq2
            repeat (first | refine v_p hT rfl rfl ?_ | refine v_getr hT rfl rfl (by omega) rfl ?_ | refine v_geti hT rfl (by first | rfl | assumption) (by omega) ?_ | refine v_ald hT rfl (by first | assumption | rfl) (by omega) (by decide) (by omega) ?_ | simp only [nI_add, pk_mul, c1, c3])
            rw [show nI i + prI (x + 1) = nI (i + x) from nI_add _ _]
            simp only [nI_add, pk_mul]
            rw [pk_sub (by omega)]
            refine g_minN hT rfl (Nat.le_of_ble_eq_true rfl) (by omega) (by omega) ?_
            rw [hY]
            refine v_p hT rfl rfl ?_
            exact inner _ x (by omega) (Y + 1) v (by omega) hv (fun w hw hwv hwb hwe => next w hw hwv (fun y a1 a2 => hwb y a1 a2 (by omega)) (hwe.elim Or.inl (fun ⟨y, a1, a2, a3⟩ => Or.inr ⟨y, by omega, a2, a3⟩)))
          · have cq2 : law (i + x) = false := bf_of (Classical.not_not.mp cq2)
            refine v_p hT rfl rfl ?_
            rw [show prI (x + 1) + mI 1 = prI x from prI_add x]
            have hnv2 : ∀ y, y ≤ Y → 0 < x + y → v ≤ byF P (rkF P) i j x y := by
              intro y hy hp
              have h5 : ¬ (i + x = P.1 ∧ j + y = P.2.1) := fun z => by rw [z.1, hl2] at cq2; cases cq2
              have h6 : rkF P (i + x) (j + y) = nvr := rkF_no (by omega) (by omega) h5 (fun z => by rw [hl1 _ _ z] at cq2; cases cq2)
              have h7 : byF P (rkF P) i j x y = nvr := if_pos h6
              omega
            refine ih v (by omega) hv (fun x2 y2 a1 a2 a3 a4 => ?_) h2
            by_cases hx2 : x2 = x
            · subst hx2; exact hnv2 y2 a3 a4
            · exact h1 x2 y2 (by omega) a2 a3 a4
    repeat (first | refine v_p hT rfl rfl ?_ | refine v_getr hT rfl rfl (by omega) rfl ?_ | refine v_geti hT rfl (by first | rfl | assumption) (by omega) ?_ | refine v_ald hT rfl (by first | assumption | rfl) (by omega) (by decide) (by omega) ?_ | simp only [nI_add, pk_mul, c1, c2])
    rw [pk_sub (by omega)]
    refine g_minN hT rfl (Nat.le_of_ble_eq_true rfl) (by omega) (by omega) ?_
    rw [hX]
    refine v_p hT rfl rfl ?_
    exact outer (X + 1) nvr (Nat.le_refl _) (Nat.le_refl _) (fun x y a1 a2 => by omega) (Or.inl rfl)
  repeat (first | refine v_p hT rfl rfl ?_ | refine v_getr hT rfl rfl (by omega) rfl ?_ | refine v_geti hT rfl (by first | rfl | assumption) (by omega) ?_ | refine v_ald hT rfl (by first | assumption | rfl) (by omega) (by decide) (by omega) ?_ | simp only [nI_add, pk_mul, c2])
  refine g_cmp hT rfl (fun cq => ?_) (fun cq => ?_)
  · have cq := (cj_ne (by omega) (by omega)).mp cq
    exact search (by omega)
  · have cq := (not_congr (cj_ne (by omega) (by omega))).mp cq
    repeat (first | refine v_p hT rfl rfl ?_ | refine v_getr hT rfl rfl (by omega) rfl ?_ | refine v_geti hT rfl (by first | rfl | assumption) (by omega) ?_ | refine v_ald hT rfl (by first | assumption | rfl) (by omega) (by decide) (by omega) ?_ | simp only [nI_add, pk_mul, c3])
    refine g_cmp hT rfl (fun cq2 => ?_) (fun cq2 => ?_)
    · have cq2 := (cj_ne (by omega) (by omega)).mp cq2
      exact search (by omega)
    · have cq2 := (not_congr (cj_ne (by omega) (by omega))).mp cq2
      refine v_p hT rfl rfl ?_
      refine v_ret hT rfl (fun z => by cases z) rfl ⟨?_, rfl⟩
      rw [show i = P.1 by omega, show j = P.2.1 by omega, rkF_end]
end
section
/-! THE CLASS: all ranks, the walk. -/
theorem s_rankAll {n a0 a1 : Nat} {kf : Nat → Nat} {f : Nat → Nat → Int32} {P : LYP} {law0 law1 : Nat → Bool} {m0 m1 : Nat → Nat} (hP : PBd P) (hL : LCx f P) (hk0 : kd a0 = (2, 61)) (hk1 : kd a1 = (2, 61)) (ha0 : a0 < 87) (ha1 : a1 < 87) (hl0 : ∀ a, a ≤ P.1 → f a0 a = bI (law0 a)) (hl1 : ∀ a, a ≤ P.2.1 → f a1 a = bI (law1 a)) (hm0 : ∀ a, a ≤ P.1 → f 92 a = nI (m0 a) ∧ m0 a < 2 ^ 31) (hm1 : ∀ a, a ≤ P.2.1 → f 93 a = nI (m1 a) ∧ m1 a < 2 ^ 31) (hok : ∀ i j, P.2.2.2.2 i j = (law0 i && law1 j && decide (m0 i = m1 j))) (hen : P.2.2.2.2 P.1 P.2.1 = true) :
    ∃ f2, Run n_X2_rankAll 110 0 (ini n_X2_rankAll [.ref 89, .ref a0, .ref a1]) [] (HH n kf f) (Ret none (HH n kf f2)) ∧ (∀ a b, a ≤ P.1 → b ≤ P.2.1 → f2 91 (a * 61 + b) = nI (rkF P a b)) ∧ ∀ c, c ≠ 91 → f2 c = f c := by
  have hT : mT n_X2_rankAll = tb_X2_rankAll := rfl
  obtain ⟨p1, p2, p3, p4⟩ := id hP
  have hLF : ∀ F : Nat → Nat → Int32, (∀ c, c ≠ 91 → F c = f c) → LCx F P := by
    intro F hF
    obtain ⟨c1, c2, c3, c4⟩ := hL
    exact ⟨by rw [hF 89 (by omega)]; exact c1, by rw [hF 89 (by omega)]; exact c2, by rw [hF 89 (by omega)]; exact c3, fun x y hx hy => by rw [hF 90 (by omega)]; exact c4 x y hx hy⟩
  have hlend : law0 P.1 = true := by
    have h1 := hok P.1 P.2.1
    rw [hen] at h1
    simp only [Bool.true_eq, Bool.and_eq_true] at h1
    exact h1.1.1
  have inner : ∀ i, i ≤ P.1 → ∀ Jp : Nat, Jp ≤ P.2.1 + 1 → ∀ F : Nat → Nat → Int32, (∀ c, c ≠ 91 → F c = f c) → (∀ a b, i < a → a ≤ P.1 → b ≤ P.2.1 → F 91 (a * 61 + b) = nI (rkF P a b)) → (∀ b, Jp ≤ b → b ≤ P.2.1 → F 91 (i * 61 + b) = nI (rkF P i b)) →
      ∃ F2 : Nat → Nat → Int32, (∀ c, c ≠ 91 → F2 c = f c) ∧ (∀ a b, i ≤ a → a ≤ P.1 → b ≤ P.2.1 → F2 91 (a * 61 + b) = nI (rkF P a b)) ∧ ∀ Φ, Run n_X2_rankAll 110 92 [some (.ref 89), some (.ref a0), some (.ref a1), some (.int (nI i)), none, none] [] (HH n kf F2) Φ →
      Run n_X2_rankAll 110 17 [some (.ref 89), some (.ref a0), some (.ref a1), some (.int (nI i)), some (.int (prI Jp)), none] [.int (prI Jp)] (HH n kf F) Φ := by
    intro i hi Jp
    induction Jp with
    | zero =>
      intro _ F hF h1 h2
      refine ⟨F, hF, fun a b x1 x2 x3 => ?_, fun Φ hΦ => ?_⟩
      · by_cases hai : a = i
        · subst hai; exact h2 b (by omega) x3
        · exact h1 a b (by omega) x2 x3
      · refine g_if hT rfl (fun cq => ?_) (fun cq => ?_)
        · exact v_cv hΦ ⟨rfl, rfl, rfl, rfl, trivial⟩ rfl rfl
        · exact absurd prI_0 cq
    | succ j ih =>
      intro hj F hF h1 h2
      have hj : j ≤ P.2.1 := by omega
      obtain ⟨F2, q1, q2, q3⟩ := ih (by omega) (hset F 91 (i * 61 + j) (nI (rkF P i j))) (fun c hc => by rw [hset_ne hc]; exact hF c hc) (fun a b x1 x2 x3 => by
          rw [hs_s]; simp only [upd, if_neg (show a * 61 + b ≠ i * 61 + j by omega)]; exact h1 a b x1 x2 x3) (fun b x1 x2 => by
          rw [hs_s]
          by_cases hbj : b = j
          · subst hbj; simp [upd]
          · simp only [upd, if_neg (show i * 61 + b ≠ i * 61 + j by omega)]; exact h2 b (by omega) x2)
      refine ⟨F2, q1, q2, fun Φ hΦ => ?_⟩
      have hrk : rkR F P i j := by
        intro a b x1 x2 x3 x4 x5
        by_cases hai : a = i
        · subst hai; exact h2 b (by omega) x4
        · exact h1 a b (by omega) x2 x4
      have store : ∀ L, lle [some (.ref 89), some (.ref a0), some (.ref a1), some (.int (nI i)), some (.int (nI j)), none] L → Run n_X2_rankAll 110 85 L [.int (nI (rkF P i j)), .int (nI (i * 61 + j)), .ref 91] (HH n kf F) Φ := by
        intro L hle
        refine v_fgt hle ?_
        refine v_ast hT rfl rfl (by omega) (by decide) (by omega) ?_
        refine v_p hT rfl rfl ?_
        rw [prI_add]
        exact q3 Φ hΦ
      have hokij := hok i j
      have hno : P.2.2.2.2 i j = false → ∀ L, lle [some (.ref 89), some (.ref a0), some (.ref a1), some (.int (nI i)), some (.int (nI j)), none] L → Run n_X2_rankAll 110 53 L [] (HH n kf F) Φ := by
        intro hf L hle
        refine v_fgt hle ?_
        have h5 : rkF P i j = nvr := rkF_no hi hj (fun z => by rw [z.1, z.2, hen] at hf; cases hf) (fun z => by rw [hf] at z; cases z)
        refine v_p hT rfl rfl ?_
        refine v_getr hT rfl rfl (by omega) rfl ?_
        refine v_p hT rfl rfl ?_
        simp only [nI_add, pk_mul]
        refine g_if hT rfl (fun cq9 => ?_) (fun cq9 => ?_)
        · refine v_p hT rfl rfl ?_
          have h6 := store [some (.ref 89), some (.ref a0), some (.ref a1), some (.int (nI i)), some (.int (nI j)), none] ⟨rfl, rfl, rfl, rfl, rfl, trivial⟩
          rw [h5] at h6
          exact v_cv h6 ⟨rfl, rfl, rfl, rfl, rfl, trivial⟩ rfl rfl
        · exact absurd rfl cq9
      refine g_if hT rfl (fun cq => ?_) (fun cq => ?_)
      · exact absurd cq (prI_ok (show j < 2 ^ 31 by omega))
      · refine v_p hT rfl rfl ?_
        refine v_bld hT rfl hk0 (Or.inl rfl) (by omega) (by decide) (by omega) ?_
        rw [hF a0 (by omega), hl0 i hi]
        refine g_if hT rfl (fun cq1 => ?_) (fun cq1 => ?_)
        · rw [bf_of cq1] at hokij
          exact hno hokij _ ⟨rfl, rfl, rfl, rfl, rfl, trivial⟩
        · have b1 := bt_of cq1
          refine v_p hT rfl rfl ?_
          refine v_bld (i := j) hT rfl hk1 (Or.inl rfl) (by omega) (by decide) (by omega) ?_
          rw [hF a1 (by omega), hl1 j hj]
          refine g_if hT rfl (fun cq2 => ?_) (fun cq2 => ?_)
          · rw [b1, bf_of cq2] at hokij
            exact hno hokij _ ⟨rfl, rfl, rfl, rfl, rfl, trivial⟩
          · have b2 := bt_of cq2
            refine v_p hT rfl rfl ?_
            refine v_getr hT rfl rfl (by omega) rfl ?_
            refine v_p hT rfl rfl ?_
            refine v_ald (i := i) hT rfl rfl (by omega) (by decide) (by omega) ?_
            rw [hF 92 (by omega), (hm0 i hi).1]
            refine v_p hT rfl rfl ?_
            refine v_getr hT rfl rfl (by omega) rfl ?_
            refine v_p hT rfl rfl ?_
            refine v_ald (i := j) hT rfl rfl (by omega) (by decide) (by omega) ?_
            rw [hF 93 (by omega), (hm1 j hj).1]
            refine g_cmp hT rfl (fun cq3 => ?_) (fun cq3 => ?_)
            · have cq3 := (cj_ne (hm0 i hi).2 (hm1 j hj).2).mp cq3
              rw [b1, b2, decide_eq_false cq3] at hokij
              exact hno hokij _ ⟨rfl, rfl, rfl, rfl, rfl, trivial⟩
            · have cq3 := Classical.not_not.mp ((not_congr (cj_ne (hm0 i hi).2 (hm1 j hj).2)).mp cq3)
              rw [b1, b2, decide_eq_true cq3] at hokij
              refine v_p hT rfl rfl ?_
              refine v_getr hT rfl rfl (by omega) rfl ?_
              refine v_p hT rfl rfl ?_
              rw [show prI (j + 1) = nI j from rfl]
              simp only [nI_add, pk_mul]
              refine g_if hT rfl (fun cq9 => ?_) (fun cq9 => ?_)
              · exact absurd cq9 (by show ¬ (nI 1 = 0); decide)
              · refine v_p hT rfl rfl ?_
                refine v_call hT [.int (nI i), .int (nI j), .ref a0] rfl rfl (by first | rfl | assumption) (by omega) rfl rfl (Nat.le_of_ble_eq_true rfl) (Nat.le_of_ble_eq_true rfl) (s_leastRank (law := law0) hP (hLF F hF) hi hj hrk hokij hk0 (by omega) (fun a ha => by rw [hF a0 (by omega)]; exact hl0 a ha) (fun a b hab => by rw [hok a b] at hab; simp only [Bool.and_eq_true] at hab; exact hab.1.1) hlend) ?_
                refine v_p hT rfl rfl ?_
                exact v_cv (store [some (.ref 89), some (.ref a0), some (.ref a1), some (.int (nI i)), some (.int (nI j)), none] ⟨rfl, rfl, rfl, rfl, rfl, trivial⟩) ⟨rfl, rfl, rfl, rfl, rfl, trivial⟩ rfl rfl
  have outer : ∀ Ip : Nat, Ip ≤ P.1 + 1 → ∀ F : Nat → Nat → Int32, (∀ c, c ≠ 91 → F c = f c) → (∀ a b, Ip ≤ a → a ≤ P.1 → b ≤ P.2.1 → F 91 (a * 61 + b) = nI (rkF P a b)) →
      ∃ f2, Run n_X2_rankAll 110 6 [some (.ref 89), some (.ref a0), some (.ref a1), some (.int (prI Ip)), none, none] [.int (prI Ip)] (HH n kf F) (Ret none (HH n kf f2)) ∧ (∀ a b, a ≤ P.1 → b ≤ P.2.1 → f2 91 (a * 61 + b) = nI (rkF P a b)) ∧ ∀ c, c ≠ 91 → f2 c = f c := by
    intro Ip
    induction Ip with
    | zero =>
      intro _ F hF h1
      refine ⟨F, ?_, fun a b x1 x2 => h1 a b (by omega) x1 x2, hF⟩
      refine g_if hT rfl (fun cq => ?_) (fun cq => ?_)
      · refine v_vret hT rfl rfl ⟨rfl, rfl⟩
      · exact absurd prI_0 cq
    | succ i ih =>
      intro hi F hF h1
      have c3 := (hLF F hF).2.2.1
      obtain ⟨F2, q1, q2, q3⟩ := inner i (by omega) (P.2.1 + 1) (Nat.le_refl _) F hF (fun a b x1 x2 x3 => h1 a b (by omega) x2 x3) (fun b x1 x2 => by omega)
      obtain ⟨f2, r1, r2⟩ := ih (by omega) F2 q1 q2
      refine ⟨f2, ?_, r2⟩
      refine g_if hT rfl (fun cq => ?_) (fun cq => ?_)
      · exact absurd cq (prI_ok (show i < 2 ^ 31 by omega))
      · repeat (first | refine v_p hT rfl rfl ?_ | refine v_getr hT rfl rfl (by omega) rfl ?_ | refine v_geti hT rfl (by first | rfl | assumption) (by omega) ?_ | refine v_ald hT rfl (by first | assumption | rfl) (by omega) (by decide) (by omega) ?_ | simp only [nI_add, pk_mul, c3])
        refine v_cv (q3 _ ?_) ⟨rfl, rfl, rfl, rfl, rfl, trivial⟩ rfl rfl
        refine v_p hT rfl rfl ?_
        rw [prI_add]
        exact v_cv r1 ⟨rfl, rfl, rfl, rfl, trivial⟩ rfl rfl
  obtain ⟨f2, r1, r2⟩ := outer (P.1 + 1) (Nat.le_refl _) f (fun _ _ => rfl) (fun a b x1 x2 => by omega)
  refine ⟨f2, ?_, r2⟩
  have c2 := hL.2.1
  repeat (first | refine v_p hT rfl rfl ?_ | refine v_getr hT rfl rfl (by omega) rfl ?_ | refine v_geti hT rfl (by first | rfl | assumption) (by omega) ?_ | refine v_ald hT rfl (by first | assumption | rfl) (by omega) (by decide) (by omega) ?_ | simp only [nI_add, pk_mul, c2])
  exact r1
/-! the most taken -/
def isPk (P : LYP) (i j x y : Nat) : Prop := x ≤ min P.2.2.1 (P.1 - i) ∧ y ≤ min P.2.2.1 (P.2.1 - j) ∧ 0 < x + y ∧ byF P (rkF P) i j x y = rkF P i j ∧ ∀ a b, a ≤ min P.2.2.1 (P.1 - i) → b ≤ min P.2.2.1 (P.2.1 - j) → 0 < a + b → byF P (rkF P) i j a b = rkF P i j → a < x ∨ (a = x ∧ b ≤ y)
theorem ex_max (Q : Nat → Prop) : ∀ X, (∃ x, x ≤ X ∧ Q x) → ∃ x, x ≤ X ∧ Q x ∧ ∀ a, a ≤ X → Q a → a ≤ x := by
  intro X
  induction X with
  | zero => intro ⟨x, h1, h2⟩; exact ⟨x, h1, h2, fun a ha _ => by omega⟩
  | succ X ih =>
    intro ⟨x, h1, h2⟩
    by_cases hq : Q (X + 1)
    · exact ⟨X + 1, Nat.le_refl _, hq, fun a ha _ => ha⟩
    · have hx : x ≠ X + 1 := fun e => hq (e ▸ h2)
      obtain ⟨z, a1, a2, a3⟩ := ih ⟨x, by omega, h2⟩
      refine ⟨z, by omega, a2, fun a ha hQ => ?_⟩
      have : a ≠ X + 1 := fun e => hq (e ▸ hQ)
      exact a3 a (by omega) hQ
theorem ex_pk {P : LYP} {i j : Nat} (hi : i ≤ P.1) (hj : j ≤ P.2.1) (hend : ¬ (i = P.1 ∧ j = P.2.1)) (hr : rkF P i j ≠ nvr) : ∃ q : Nat × Nat, isPk P i j q.1 q.2 := by
  have hok : P.2.2.2.2 i j = true := Classical.byContradiction (fun z => hr (rkF_no hi hj hend z))
  have hm := rkF_mn hi hj hend hok
  rcases hm.2.2 with e | ⟨x0, y0, q1, q2, q3, q4⟩
  · exact absurd e hr
  · obtain ⟨x, a1, ⟨y1, a2, a3, a4⟩, a5⟩ := ex_max (fun x => ∃ y, y ≤ min P.2.2.1 (P.2.1 - j) ∧ 0 < x + y ∧ byF P (rkF P) i j x y = rkF P i j) _ ⟨x0, q1, y0, q2, q3, q4.symm⟩
    obtain ⟨y, b1, ⟨b2, b3⟩, b4⟩ := ex_max (fun y => 0 < x + y ∧ byF P (rkF P) i j x y = rkF P i j) _ ⟨y1, a2, a3, a4⟩
    refine ⟨(x, y), a1, b1, b2, b3, fun a b h1 h2 h3 h4 => ?_⟩
    have h5 := a5 a h1 ⟨b, h2, h3, h4⟩
    by_cases hax : a = x
    · subst hax; exact Or.inr ⟨rfl, b4 b h2 ⟨h3, h4⟩⟩
    · exact Or.inl (by omega)
theorem pk_uq {P : LYP} {i j x y a b : Nat} (h1 : isPk P i j x y) (h2 : isPk P i j a b) : x = a ∧ y = b := by
  have h3 := h1.2.2.2.2 a b h2.1 h2.2.1 h2.2.2.1 h2.2.2.2.1
  have h4 := h2.2.2.2.2 x y h1.1 h1.2.1 h1.2.2.1 h1.2.2.2.1
  omega
noncomputable def pkF (P : LYP) (i j : Nat) : Nat × Nat := @dite _ (∃ q : Nat × Nat, isPk P i j q.1 q.2) (Classical.propDecidable _) (fun h => Classical.choose h) (fun _ => (0, 0))
theorem pkF_ok {P : LYP} {i j : Nat} (h : ∃ q : Nat × Nat, isPk P i j q.1 q.2) : isPk P i j (pkF P i j).1 (pkF P i j).2 := by
  unfold pkF
  rw [dif_pos h]
  exact Classical.choose_spec h
noncomputable def posF (P : LYP) : Nat → Nat × Nat
  | 0 => (0, 0)
  | k + 1 => ((posF P k).1 + (pkF P (posF P k).1 (posF P k).2).1, (posF P k).2 + (pkF P (posF P k).1 (posF P k).2).2)
/-- how the walk goes on -/
theorem rk_step {P : LYP} (hP : PBd P) {i j x y : Nat} (hi : i ≤ P.1) (hj : j ≤ P.2.1) (hr : rkF P i j ≠ nvr) (hk : isPk P i j x y) : i + x ≤ P.1 ∧ j + y ≤ P.2.1 ∧ rkF P (i + x) (j + y) ≠ nvr ∧ rkF P i j % 128 = rkF P (i + x) (j + y) % 128 + 1 := by
  obtain ⟨p1, p2, p3, p4⟩ := hP
  obtain ⟨a1, a2, a3, a4, -⟩ := hk
  have hx : i + x ≤ P.1 := by omega
  have hy : j + y ≤ P.2.1 := by omega
  have hn : rkF P (i + x) (j + y) ≠ nvr := by
    intro e
    rw [← a4] at hr
    exact hr (if_pos e)
  have hb : byF P (rkF P) i j x y = rkF P (i + x) (j + y) + 1 + (if i + x = P.1 ∧ j + y = P.2.1 then 0 else tollF P.2.2.1 P.2.2.2.1 x y * 128) := if_neg hn
  refine ⟨hx, hy, hn, ?_⟩
  rw [← a4, hb]
  rcases rkF_lt p1 p2 p3 p4 hx hy with h | h
  · exact absurd h hn
  · have h1 := h.1
    generalize rkF P (i + x) (j + y) = r at h1
    generalize tollF P.2.2.1 P.2.2.2.1 x y = t
    split <;> omega
theorem pos_ok {P : LYP} (hP : PBd P) (hr : rkF P 0 0 ≠ nvr) : ∀ k, k ≤ rkF P 0 0 % 128 → (posF P k).1 ≤ P.1 ∧ (posF P k).2 ≤ P.2.1 ∧ rkF P (posF P k).1 (posF P k).2 ≠ nvr ∧ rkF P (posF P k).1 (posF P k).2 % 128 + k = rkF P 0 0 % 128 := by
  intro k
  induction k with
  | zero => intro _; exact ⟨Nat.zero_le _, Nat.zero_le _, hr, rfl⟩
  | succ k ih =>
    intro hk
    obtain ⟨a1, a2, a3, a4⟩ := ih (by omega)
    have hend : ¬ ((posF P k).1 = P.1 ∧ (posF P k).2 = P.2.1) := by
      intro e
      rw [e.1, e.2, rkF_end] at a4
      omega
    have hpk := pkF_ok (ex_pk a1 a2 hend a3)
    obtain ⟨b1, b2, b3, b4⟩ := rk_step hP a1 a2 a3 hpk
    exact ⟨b1, b2, b3, by show rkF P ((posF P k).1 + _) ((posF P k).2 + _) % 128 + (k + 1) = _; omega⟩
theorem pos_end {P : LYP} (hP : PBd P) (hr : rkF P 0 0 ≠ nvr) : (posF P (rkF P 0 0 % 128)).1 = P.1 ∧ (posF P (rkF P 0 0 % 128)).2 = P.2.1 := by
  obtain ⟨a1, a2, a3, a4⟩ := pos_ok hP hr _ (Nat.le_refl _)
  refine Classical.byContradiction (fun hend => ?_)
  obtain ⟨b1, b2, b3, b4⟩ := rk_step hP a1 a2 a3 (pkF_ok (ex_pk a1 a2 hend a3))
  omega
theorem pos_pk {P : LYP} (hP : PBd P) (hr : rkF P 0 0 ≠ nvr) {k : Nat} (hk : k < rkF P 0 0 % 128) : isPk P (posF P k).1 (posF P k).2 (pkF P (posF P k).1 (posF P k).2).1 (pkF P (posF P k).1 (posF P k).2).2 := by
  obtain ⟨a1, a2, a3, a4⟩ := pos_ok hP hr k (by omega)
  refine pkF_ok (ex_pk a1 a2 (fun e => ?_) a3)
  rw [e.1, e.2, rkF_end] at a4
  omega
end
section
/-! THE CLASS: the walk. -/
theorem s_takeMost {n k i j : Nat} {kf : Nat → Nat} {f : Nat → Nat → Int32} {P : LYP} (hP : PBd P) (hL : LCx f P) (hR : ∀ a b, a ≤ P.1 → b ≤ P.2.1 → f 91 (a * 61 + b) = nI (rkF P a b)) (hk : k < 120) (h0 : f 94 k = nI i) (h1 : f 95 k = nI j) (hi : i ≤ P.1) (hj : j ≤ P.2.1) {px py : Nat} (hpk : isPk P i j px py) :
    Run n_X2_takeMost 110 0 (ini n_X2_takeMost [.ref 89, .int (nI k)]) [] (HH n kf f) (Ret none (HH n kf (hset (hset f 94 (k + 1) (nI (i + px))) 95 (k + 1) (nI (j + py))))) := by
  have hT : mT n_X2_takeMost = tb_X2_takeMost := rfl
  obtain ⟨p1, p2, p3, p4⟩ := id hP
  obtain ⟨c1, c2, c3, c4⟩ := id hL
  have hnv : nvr < 2 ^ 31 := by unfold nvr; omega
  have hdle := rkF_le p1 p2 p3 p4 hi hj
  obtain ⟨a1, a2, a3, a4, a5⟩ := hpk
  generalize hX : min P.2.2.1 (P.1 - i) = X at a1 a5
  generalize hY : min P.2.2.1 (P.2.1 - j) = Y at a2 a5
  have found : Run n_X2_takeMost 110 90 [some (.ref 89), some (.int (nI k)), some (.int (nI i)), some (.int (nI j)), some (.int (nI (rkF P i j))), some (.int (nI px)), some (.int (nI py))] [] (HH n kf f) (Ret none (HH n kf (hset (hset f 94 (k + 1) (nI (i + px))) 95 (k + 1) (nI (j + py))))) := by
    repeat (first | refine v_p hT rfl rfl ?_ | refine v_getr hT rfl rfl (by omega) rfl ?_ | refine v_geti hT rfl (by first | rfl | assumption) (by omega) ?_ | refine v_ald hT rfl (by first | assumption | rfl) (by omega) (by decide) (by omega) ?_ | simp only [nI_add, pk_mul])
    refine v_ast hT rfl rfl (by omega) (by decide) (by omega) ?_
    repeat (first | refine v_p hT rfl rfl ?_ | refine v_getr hT rfl rfl (by omega) rfl ?_ | refine v_geti hT rfl (by first | rfl | assumption) (by omega) ?_ | refine v_ald hT rfl (by first | assumption | rfl) (by omega) (by decide) (by omega) ?_ | simp only [nI_add, pk_mul])
    refine v_ast hT rfl rfl (by omega) (by decide) (by omega) ?_
    refine v_vret hT rfl rfl ⟨rfl, rfl⟩
  have inner : ∀ Φ x, px ≤ x → x ≤ X → (x = px → Run n_X2_takeMost 110 90 [some (.ref 89), some (.int (nI k)), some (.int (nI i)), some (.int (nI j)), some (.int (nI (rkF P i j))), some (.int (nI px)), some (.int (nI py))] [] (HH n kf f) Φ) → (px < x → Run n_X2_takeMost 110 121 [some (.ref 89), some (.int (nI k)), some (.int (nI i)), some (.int (nI j)), some (.int (nI (rkF P i j))), some (.int (nI x)), none] [] (HH n kf f) Φ) → ∀ Yp : Nat, Yp ≤ Y + 1 → (x = px → py < Yp) →
      Run n_X2_takeMost 110 67 [some (.ref 89), some (.int (nI k)), some (.int (nI i)), some (.int (nI j)), some (.int (nI (rkF P i j))), some (.int (nI x)), some (.int (prI Yp))] [.int (nI x + prI Yp)] (HH n kf f) Φ := by
    intro Φ x hpx hx hfd hnx Yp
    induction Yp with
    | zero =>
      intro _ hpy
      have hlt : px < x := by
        by_cases e : x = px
        · have := hpy e; omega
        · omega
      have out := hnx hlt
      refine g_if hT rfl (fun cq => ?_) (fun cq => ?_)
      · exact v_cv out ⟨rfl, rfl, rfl, rfl, rfl, rfl, trivial⟩ rfl rfl
      · refine v_p hT rfl rfl ?_
        refine g_if hT rfl (fun cq2 => ?_) (fun cq2 => ?_)
        · exact v_cv out ⟨rfl, rfl, rfl, rfl, rfl, rfl, trivial⟩ rfl rfl
        · exact absurd prI_0 cq2
    | succ y ih =>
      intro hyY hpy
      rw [show nI x + prI (y + 1) = nI (x + y) from nI_add x y]
      have hr := hR (i + x) (j + y) (by omega) (by omega)
      rw [show (i + x) * 61 + (j + y) = (i + x) * 61 + j + y by omega] at hr
      have hby := byF_bd p1 p2 p3 p4 (i := i) (j := j) (x := x) (y := y) (by omega) (by omega)
      refine g_if hT rfl (fun cq => ?_) (fun cq => ?_)
      · have cq : x + y ≤ 0 := (cj_le (a := x + y) (b := 0) (by omega) (by omega)).mp cq
        by_cases e : x = px
        · have := hpy e; omega
        · exact v_cv (hnx (by omega)) ⟨rfl, rfl, rfl, rfl, rfl, rfl, trivial⟩ rfl rfl
      · have cq : ¬ x + y ≤ 0 := (not_congr (cj_le (a := x + y) (b := 0) (by omega) (by omega))).mp cq
        refine v_p hT rfl rfl ?_
        refine g_if hT rfl (fun cq2 => ?_) (fun cq2 => ?_)
        · exact absurd cq2 (prI_ok (show y < 2 ^ 31 by omega))
        · refine v_p hT rfl rfl ?_
          refine v_call hT [.int (nI i), .int (nI j), .int (nI x), .int (nI y)] rfl rfl (by first | rfl | assumption) (by omega) rfl rfl (Nat.le_of_ble_eq_true rfl) (Nat.le_of_ble_eq_true rfl) (s_rankBy hP hL (by omega) (by omega) (by omega) (by omega) hr) ?_
          refine v_p hT rfl rfl ?_
          refine g_cmp hT rfl (fun cq3 => ?_) (fun cq3 => ?_)
          · have cq3 := (cj_ne (by omega) (by omega)).mp cq3
            refine v_p hT rfl rfl ?_
            rw [show prI (y + 1) + mI 1 = prI y from prI_add y]
            refine ih (by omega) (fun e => ?_)
            have h5 := hpy e
            by_cases e2 : py = y
            · subst e; subst e2; exact absurd a4 cq3
            · omega
          · have cq3 := Classical.not_not.mp ((not_congr (cj_ne (by omega) (by omega))).mp cq3)
            have h6 := a5 x y hx (by omega) (by omega) cq3
            have e : x = px := by omega
            have h7 := hpy e
            have e2 : y = py := by omega
            subst e
            subst e2
            exact hfd rfl
  have outer : ∀ Xp : Nat, px < Xp → Xp ≤ X + 1 → Run n_X2_takeMost 110 44 [some (.ref 89), some (.int (nI k)), some (.int (nI i)), some (.int (nI j)), some (.int (nI (rkF P i j))), some (.int (prI Xp)), none] [.int (prI Xp)] (HH n kf f) (Ret none (HH n kf (hset (hset f 94 (k + 1) (nI (i + px))) 95 (k + 1) (nI (j + py))))) := by
    intro Xp
    induction Xp with
    | zero => intro h; omega
    | succ x ih =>
      intro hpx hxX
      refine g_if hT rfl (fun cq => ?_) (fun cq => ?_)
      · exact absurd cq (prI_ok (show x < 2 ^ 31 by omega))
      · repeat (first | refine v_p hT rfl rfl ?_ | refine v_getr hT rfl rfl (by omega) rfl ?_ | refine v_geti hT rfl (by first | rfl | assumption) (by omega) ?_ | refine v_ald hT rfl (by first | assumption | rfl) (by omega) (by decide) (by omega) ?_ | simp only [nI_add, pk_mul, c1, c3])
        rw [pk_sub (by omega)]
        refine g_minN hT rfl (Nat.le_of_ble_eq_true rfl) (by omega) (by omega) ?_
        rw [hY]
        refine v_p hT rfl rfl ?_
        refine inner _ x (by omega) (by omega) (fun _ => found) (fun hlt => ?_) (Y + 1) (Nat.le_refl _) (fun _ => by omega)
        refine v_p hT rfl rfl ?_
        rw [prI_add]
        exact ih (by omega) (by omega)
  have hrij := hR i j hi hj
  repeat (first | refine v_p hT rfl rfl ?_ | refine v_getr hT rfl rfl (by omega) rfl ?_ | refine v_geti hT rfl (by first | rfl | assumption) (by omega) ?_ | refine v_ald hT rfl (by first | assumption | rfl) (by omega) (by decide) (by omega) ?_ | simp only [nI_add, pk_mul, h0, h1, hrij, c1, c2])
  rw [pk_sub (by omega)]
  refine g_minN hT rfl (Nat.le_of_ble_eq_true rfl) (by omega) (by omega) ?_
  rw [hX]
  refine v_p hT rfl rfl ?_
  exact outer (X + 1) (by omega) (Nat.le_refl _)
/-- openings and cost as the class holds them: none is -1 -/
noncomputable def opI (P : LYP) : Int32 := bif decide (rkF P 0 0 = nvr) then mI 1 else nI (rkF P 0 0 % 128)
noncomputable def coI (P : LYP) : Int32 := bif decide (rkF P 0 0 = nvr) then mI 1 else nI (rkF P 0 0 / 128)
noncomputable def opN (P : LYP) : Nat := bif decide (rkF P 0 0 = nvr) then 0 else rkF P 0 0 % 128
theorem s_walk {n : Nat} {kf : Nat → Nat} {f : Nat → Nat → Int32} {P : LYP} (hP : PBd P) (hL : LCx f P) (hR : ∀ a b, a ≤ P.1 → b ≤ P.2.1 → f 91 (a * 61 + b) = nI (rkF P a b)) :
    ∃ f2, Run n_X2_walk 110 0 (ini n_X2_walk [.ref 89]) [] (HH n kf f) (Ret none (HH n kf f2)) ∧ f2 89 9 = opI P ∧ f2 89 10 = coI P ∧ (∀ k, k ≤ opN P → f2 94 k = nI (posF P k).1 ∧ f2 95 k = nI (posF P k).2) ∧ (∀ i, i < 9 → f2 89 i = f 89 i) ∧ ∀ c, c ≠ 89 → c ≠ 94 → c ≠ 95 → f2 c = f c := by
  have hT : mT n_X2_walk = tb_X2_walk := rfl
  obtain ⟨p1, p2, p3, p4⟩ := id hP
  have hnv : nvr < 2 ^ 31 := by unfold nvr; omega
  have hle := rkF_le p1 p2 p3 p4 (Nat.zero_le P.1) (Nat.zero_le P.2.1)
  have h00 : f 91 0 = nI (rkF P 0 0) := hR 0 0 (Nat.zero_le _) (Nat.zero_le _)
  have hstart : ∀ Φ, Run n_X2_walk 110 32 [some (.ref 89), none] [.int (nI nvr), .int (nI (rkF P 0 0))] (HH n kf (hset (hset (hset (hset f 94 0 (nI 0)) 95 0 (nI 0)) 89 9 (mI 1)) 89 10 (mI 1))) Φ → Run n_X2_walk 110 0 (ini n_X2_walk [.ref 89]) [] (HH n kf f) Φ := by
    intro Φ hΦ
    refine v_p hT rfl rfl ?_
    refine v_getr hT rfl rfl (by omega) rfl ?_
    refine v_p hT rfl rfl ?_
    refine v_ast hT rfl rfl (by omega) (by decide) (by omega) ?_
    refine v_p hT rfl rfl ?_
    refine v_getr hT rfl rfl (by omega) rfl ?_
    refine v_p hT rfl rfl ?_
    refine v_ast hT rfl rfl (by omega) (by decide) (by omega) ?_
    refine v_p hT rfl rfl ?_
    refine v_puti hT rfl rfl (by omega) (fun z => by cases z) ?_
    refine v_p hT rfl rfl ?_
    refine v_puti hT rfl rfl (by omega) (fun z => by cases z) ?_
    refine v_p hT rfl rfl ?_
    refine v_getr hT rfl rfl (by omega) rfl ?_
    refine v_p hT rfl rfl ?_
    refine v_ald hT rfl (by first | assumption | rfl) (by omega) (by decide) (by omega) ?_
    rw [hset_ne (by omega), hset_ne (by omega), hset_ne (by omega), hset_ne (by omega), h00]
    refine v_p hT rfl rfl ?_
    exact v_cv hΦ ⟨rfl, trivial⟩ rfl rfl
  by_cases hn : rkF P 0 0 = nvr
  · refine ⟨hset (hset (hset (hset f 94 0 (nI 0)) 95 0 (nI 0)) 89 9 (mI 1)) 89 10 (mI 1), hstart _ ?_, ?_, ?_, fun k hk => ?_, fun i hi => ?_, fun c h1 h2 h3 => ?_⟩
    · refine g_cmp hT rfl (fun cq => ?_) (fun cq => ?_)
      · exact absurd hn ((cj_ne (by omega) (by omega)).mp cq)
      · refine v_vret hT rfl rfl ⟨rfl, rfl⟩
    · unfold opI; rw [decide_eq_true hn]; simp [hset, upd]
    · unfold coI; rw [decide_eq_true hn]; simp [hset, upd]
    · have h5 : k = 0 := by
        unfold opN at hk
        rw [decide_eq_true hn] at hk
        exact Nat.le_zero.mp hk
      subst h5
      exact ⟨by simp [hset, upd, posF], by simp [hset, upd, posF]⟩
    · rw [hs_s]
      simp only [upd, if_neg (show i ≠ 10 by omega)]
      rw [hs_s]
      simp only [upd, if_neg (show i ≠ 9 by omega)]
      rw [hset_ne (by omega), hset_ne (by omega)]
    · rw [hset_ne h1, hset_ne h1, hset_ne h3, hset_ne h2]
  · have hopn : opN P = rkF P 0 0 % 128 := by unfold opN; rw [decide_eq_false hn]; rfl
    have hlt : rkF P 0 0 % 128 ≤ 120 ∧ rkF P 0 0 < 30000000 := by
      rcases rkF_lt p1 p2 p3 p4 (Nat.zero_le P.1) (Nat.zero_le P.2.1) with h | h
      · exact absurd h hn
      · omega
    have loop : ∀ dd k : Nat, k + dd = rkF P 0 0 % 128 → ∀ F : Nat → Nat → Int32, (∀ c, c ≠ 94 → c ≠ 95 → c ≠ 89 → F c = f c) → (∀ i, i < 9 → F 89 i = f 89 i) → F 89 9 = nI (rkF P 0 0 % 128) → F 89 10 = nI (rkF P 0 0 / 128) → (∀ q, q ≤ k → F 94 q = nI (posF P q).1 ∧ F 95 q = nI (posF P q).2) →
        ∃ f2, Run n_X2_walk 110 71 [some (.ref 89), some (.int (nI k))] [.int (nI (rkF P 0 0 % 128)), .int (nI k)] (HH n kf F) (Ret none (HH n kf f2)) ∧ f2 89 9 = nI (rkF P 0 0 % 128) ∧ f2 89 10 = nI (rkF P 0 0 / 128) ∧ (∀ q, q ≤ rkF P 0 0 % 128 → f2 94 q = nI (posF P q).1 ∧ f2 95 q = nI (posF P q).2) ∧ (∀ i, i < 9 → f2 89 i = f 89 i) ∧ ∀ c, c ≠ 89 → c ≠ 94 → c ≠ 95 → f2 c = f c := by
      intro dd
      induction dd with
      | zero =>
        intro k hk F hF h8 h9 h10 hq
        refine ⟨F, ?_, h9, h10, fun q hq2 => hq q (by omega), h8, fun c x1 x2 x3 => hF c x2 x3 x1⟩
        refine g_cmp hT rfl (fun cq => ?_) (fun cq => ?_)
        · refine v_vret hT rfl rfl ⟨rfl, rfl⟩
        · exact absurd ((cj_ge (by omega) (by omega)).mpr (by omega)) cq
      | succ dd ih =>
        intro k hk F hF h8 h9 h10 hq
        obtain ⟨b1, b2, b3, b4⟩ := pos_ok hP hn k (by omega)
        have hpk := pos_pk hP hn (k := k) (by omega)
        have hLF : LCx F P := by
          obtain ⟨c1, c2, c3, c4⟩ := hL
          exact ⟨by rw [h8 6 (by omega)]; exact c1, by rw [h8 7 (by omega)]; exact c2, by rw [h8 8 (by omega)]; exact c3, fun x y hx hy => by rw [hF 90 (by omega) (by omega) (by omega)]; exact c4 x y hx hy⟩
        have hcall := s_takeMost (n := n) (kf := kf) (k := k) hP hLF (fun a b x1 x2 => by rw [hF 91 (by omega) (by omega) (by omega)]; exact hR a b x1 x2) (by omega) (hq k (Nat.le_refl _)).1 (hq k (Nat.le_refl _)).2 b1 b2 hpk
        obtain ⟨f2, r1, r2⟩ := ih (k + 1) (by omega) (hset (hset F 94 (k + 1) (nI (posF P (k + 1)).1)) 95 (k + 1) (nI (posF P (k + 1)).2)) (fun c x1 x2 x3 => by rw [hset_ne x2, hset_ne x1]; exact hF c x1 x2 x3) (fun i hi => by rw [hset_ne (by omega), hset_ne (by omega)]; exact h8 i hi) (by rw [hset_ne (by omega), hset_ne (by omega)]; exact h9) (by rw [hset_ne (by omega), hset_ne (by omega)]; exact h10) (fun q hqk => by
          by_cases hqe : q = k + 1
          · subst hqe
            exact ⟨by rw [hset_ne (by omega), hs_s]; simp [upd], by rw [hs_s]; simp [upd]⟩
          · refine ⟨?_, ?_⟩
            · rw [hset_ne (by omega), hs_s]; simp only [upd, if_neg hqe]; exact (hq q (by omega)).1
            · rw [hs_s]; simp only [upd, if_neg hqe]; rw [hset_ne (by omega)]; exact (hq q (by omega)).2)
        refine ⟨f2, ?_, r2⟩
        refine g_cmp hT rfl (fun cq => ?_) (fun cq => ?_)
        · exact absurd ((cj_ge (by omega) (by omega)).mp cq) (by omega)
        · refine v_p hT rfl rfl ?_
          refine g_cmp hT rfl (fun cq2 => ?_) (fun cq2 => ?_)
          · exact absurd ((cj_ge (by omega) (by omega)).mp cq2) (by omega)
          · refine v_p hT rfl rfl ?_
            refine v_call hT [.int (nI k)] rfl rfl (by first | rfl | assumption) (by omega) rfl rfl (Nat.le_of_ble_eq_true rfl) (Nat.le_of_ble_eq_true rfl) (hcall) ?_
            refine v_p hT rfl rfl ?_
            refine v_geti hT rfl rfl (by omega) ?_
            rw [hset_ne (by omega), hset_ne (by omega), h9]
            refine v_cv r1 ⟨rfl, ?_, trivial⟩ ?_ rfl
            · rw [nI_add]
            · rw [nI_add]; rfl
    obtain ⟨f2, r1, r2, r3, r4, r5, r6⟩ := loop (rkF P 0 0 % 128) 0 (by omega) (hset (hset (hset (hset (hset (hset f 94 0 (nI 0)) 95 0 (nI 0)) 89 9 (mI 1)) 89 10 (mI 1)) 89 9 (nI (rkF P 0 0 % 128))) 89 10 (nI (rkF P 0 0 / 128))) (fun c x1 x2 x3 => by rw [hset_ne x3, hset_ne x3, hset_ne x3, hset_ne x3, hset_ne x2, hset_ne x1]) (fun i hi => by simp [hset, upd, show i ≠ 10 by omega, show i ≠ 9 by omega]) (by simp [hset, upd]) (by simp [hset, upd]) (fun q hq => by rw [Nat.le_zero.mp hq]; exact ⟨by simp [hset, upd, posF], by simp [hset, upd, posF]⟩)
    refine ⟨f2, hstart _ ?_, ?_, ?_, fun k hk => r4 k (by omega), r5, r6⟩
    · refine g_cmp hT rfl (fun cq => ?_) (fun cq => ?_)
      · refine v_p hT rfl rfl ?_
        refine v_getr hT rfl rfl (by omega) rfl ?_
        refine v_p hT rfl rfl ?_
        refine v_ald hT rfl (by first | assumption | rfl) (by omega) (by decide) (by omega) ?_
        rw [hset_ne (by omega), hset_ne (by omega), hset_ne (by omega), hset_ne (by omega), h00]
        refine v_p hT rfl rfl ?_
        refine g_remN hT rfl (by omega) (by omega) (by omega) ?_
        refine v_puti hT rfl rfl (by omega) (fun z => by cases z) ?_
        refine v_p hT rfl rfl ?_
        refine v_getr hT rfl rfl (by omega) rfl ?_
        refine v_p hT rfl rfl ?_
        refine v_ald hT rfl (by first | assumption | rfl) (by omega) (by decide) (by omega) ?_
        rw [hset_ne (by omega), hset_ne (by omega), hset_ne (by omega), hset_ne (by omega), hset_ne (by omega), h00]
        refine v_p hT rfl rfl ?_
        refine g_divN hT rfl (by omega) (by omega) (by omega) ?_
        refine v_puti hT rfl rfl (by omega) (fun z => by cases z) ?_
        refine v_p hT rfl rfl ?_
        refine v_geti hT rfl (by first | rfl | assumption) (by omega) ?_
        rw [hs_s]
        simp only [upd, if_neg (show (9 : Nat) ≠ 10 by omega)]
        rw [hs_s]
        simp only [upd, if_pos]
        exact r1
      · exact absurd ((cj_ne (by omega) (by omega)).mpr hn) cq
    · rw [r2]; unfold opI; rw [decide_eq_false hn]; rfl
    · rw [r3]; unfold coI; rw [decide_eq_false hn]; rfl
end
section
/-! THE CLASS: the layout as a whole. -/
noncomputable def okF (B : BK) (i j : Nat) : Bool := lawF B 0 i && lawF B 1 j && decide (mkB (bgB (keptF B) (fun t => fstF B 0 (bTi B 0 t)) i) 10 = mkB (bgB (keptF B) (fun t => fstF B 1 (bTi B 1 t)) j) 10)
noncomputable def lyP (B : BK) : LYP := (totF B 0, totF B 1, bSe B 0, bSe B 2, okF B)
theorem lyP_bd {B : BK} (hV : VB B) : PBd (lyP B) := ⟨hV.1.2.2.2.1.1.2, hV.1.2.2.2.1.2.2, hV.2 0 (by omega), hV.2 1 (by omega)⟩
theorem kept_lt {B : BK} (h10 : bNt B ≤ 10) : keptF B < 1024 := by
  have h1 := kpS_le B (2 ^ bNt B - 1)
  have h2 : 2 ^ bNt B ≤ 2 ^ 10 := Nat.pow_le_pow_right (by omega) h10
  have h3 : 0 < 2 ^ bNt B := Nat.two_pow_pos _
  unfold keptF
  omega
theorem kept_bit {B : BK} {t : Nat} (h : (keptF B).testBit t = true) : t < bNt B := by
  have h1 := kpS_le B (2 ^ bNt B - 1)
  have h3 : 0 < 2 ^ bNt B := Nat.two_pow_pos _
  by_cases ht : t < bNt B
  · exact ht
  · have h4 : keptF B < 2 ^ t := Nat.lt_of_lt_of_le (show keptF B < 2 ^ bNt B by unfold keptF; omega) (Nat.pow_le_pow_right (by omega) (by omega))
    rw [Nat.testBit_lt_two_pow h4] at h
    cases h
theorem lawF_end (B : BK) (s : Nat) : lawF B s (totF B s) = true := by unfold lawF; rw [if_pos rfl]
theorem okF_end {B : BK} (hV : VB0 B) : okF B (totF B 0) (totF B 1) = true := by
  unfold okF
  rw [lawF_end, lawF_end, decide_eq_true]
  · rfl
  · refine mkB_eq.mpr (fun t _ => ?_)
    unfold bgB
    cases hk : (keptF B).testBit t with
    | false => rfl
    | true =>
      have h1 := kept_bit hk
      obtain ⟨q1, q2, _⟩ := hV.2.2.2.2.2 t h1
      rw [decide_eq_true (show fstF B 0 (bTi B 0 t) < totF B 0 from fstF_lt B 0 q1), decide_eq_true (show fstF B 1 (bTi B 1 t) < totF B 1 from fstF_lt B 1 q2)]
def layR (f : Nat → Nat → Int32) (B : BK) : Prop := LCx f (lyP B) ∧ f 89 9 = opI (lyP B) ∧ f 89 10 = coI (lyP B) ∧ ∀ k, k ≤ opN (lyP B) → f 94 k = nI (posF (lyP B) k).1 ∧ f 95 k = nI (posF (lyP B) k).2
theorem s_layout {n : Nat} {kf : Nat → Nat} {f : Nat → Nat → Int32} {B : BK} (hR : bkR f 1 B) (hV : VB B) (h0 : lnR f 81 B 0) (h1 : lnR f 84 B 1) :
    ∃ f2, Run n_X2_follow 110 0 (ini n_X2_follow [.ref 89, .ref 1, .ref 81, .ref 84, .int (nI (keptF B))]) [] (HH n kf f) (Ret none (HH n kf f2)) ∧ layR f2 B ∧ ∀ c, c < 89 ∨ 95 < c → f2 c = f c := by
  have hT : mT n_X2_follow = tb_X2_follow := rfl
  have hP := lyP_bd hV
  have hs0 : f 6 0 = nI (bSe B 0) := hR.2.2.2.1 0 (by omega)
  have hs2 : f 6 2 = nI (bSe B 2) := hR.2.2.2.1 2 (by omega)
  have hse := hV.1.2.2.2.1
  have hk := kept_lt hV.1.2.2.2.2.1
  obtain ⟨l1, l2, l3⟩ := h0
  obtain ⟨m1, m2, m3⟩ := h1
  obtain ⟨f1, r1, t1, k1⟩ := s_setTolls (n := n) (kf := kf) (f := hset (hset (hset f 89 6 (nI (bSe B 0))) 89 7 (nI (totF B 0))) 89 8 (nI (totF B 1))) (hi := bSe B 0) (sh := bSe B 2) (by simp [hset, upd]) hse.1.2 hse.2.2
  have k1' : ∀ c, c ≠ 90 → c ≠ 89 → f1 c = f c := fun c x1 x2 => by rw [k1 c x1, hset_ne x2, hset_ne x2, hset_ne x2]
  obtain ⟨f2, r2, t2, k2⟩ := s_markBegun (n := n) (kf := kf) (f := f1) (q := 92) (e := 7) (o := 81) (tot := totF B 0) (kept := keptF B) (fa := fun t => fstF B 0 (bTi B 0 t)) (pa := fun t => bTi B 0 t) (Or.inl rfl) rfl (by omega) (Or.inl rfl) (by rw [k1' 81 (by omega) (by omega)]; exact l1) (hV.2 0 (by omega)) hk (fun i hi hb => by
    have h5 := kept_bit hb
    obtain ⟨q1, q2, _⟩ := hV.1.2.2.2.2.2 i h5
    have q3 := hV.1.1 0 (by omega)
    have q4 := fstF_le hV.1 (s := 0) (by omega) (bTi B 0 i) (by omega)
    refine ⟨?_, by omega, ?_, by omega⟩
    · rw [k1' 7 (by omega) (by omega)]; exact (hR.2.2.2.2.2 i h5).1
    · rw [k1' 82 (by omega) (by omega)]; exact l2 _ (by omega))
  obtain ⟨f3, r3, t3, k3⟩ := s_markBegun (n := n) (kf := kf) (f := f2) (q := 93) (e := 8) (o := 84) (tot := totF B 1) (kept := keptF B) (fa := fun t => fstF B 1 (bTi B 1 t)) (pa := fun t => bTi B 1 t) (Or.inr rfl) rfl (by omega) (Or.inr rfl) (by rw [k2 84 (by omega), k1' 84 (by omega) (by omega)]; exact m1) (hV.2 1 (by omega)) hk (fun i hi hb => by
    have h5 := kept_bit hb
    obtain ⟨q1, q2, _⟩ := hV.1.2.2.2.2.2 i h5
    have q3 := hV.1.1 1 (by omega)
    have q4 := fstF_le hV.1 (s := 1) (by omega) (bTi B 1 i) (by omega)
    refine ⟨?_, by omega, ?_, by omega⟩
    · rw [k2 8 (by omega), k1' 8 (by omega) (by omega)]; exact (hR.2.2.2.2.2 i h5).2.1
    · rw [k2 85 (by omega), k1' 85 (by omega) (by omega)]; exact m2 _ (by omega))
  have hL3 : LCx f3 (lyP B) := by
    refine ⟨?_, ?_, ?_, fun x y hx hy => ?_⟩
    · rw [k3 89 (by omega), k2 89 (by omega), k1 89 (by omega)]; simp [hset, upd]; rfl
    · rw [k3 89 (by omega), k2 89 (by omega), k1 89 (by omega)]; simp [hset, upd]; rfl
    · rw [k3 89 (by omega), k2 89 (by omega), k1 89 (by omega)]; simp [hset, upd]; rfl
    · rw [k3 90 (by omega), k2 90 (by omega)]; exact t1 x y hx hy
  obtain ⟨f4, r4, t4, k4⟩ := s_rankAll (n := n) (kf := kf) (f := f3) (P := lyP B) (a0 := 83) (a1 := 86) (law0 := lawF B 0) (law1 := lawF B 1) (m0 := fun i => mkB (bgB (keptF B) (fun t => fstF B 0 (bTi B 0 t)) i) 10) (m1 := fun i => mkB (bgB (keptF B) (fun t => fstF B 1 (bTi B 1 t)) i) 10) hP hL3 rfl rfl (by omega) (by omega) (fun a ha => by rw [k3 83 (by omega), k2 83 (by omega), k1' 83 (by omega) (by omega)]; exact l3 a ha) (fun a ha => by rw [k3 86 (by omega), k2 86 (by omega), k1' 86 (by omega) (by omega)]; exact m3 a ha) (fun a ha => ⟨by rw [k3 92 (by omega)]; exact t2 a ha, Nat.lt_trans (mkB_lt _ 10) (by omega)⟩) (fun a ha => ⟨t3 a ha, Nat.lt_trans (mkB_lt _ 10) (by omega)⟩) (fun i j => rfl) (okF_end hV.1)
  have hL4 : LCx f4 (lyP B) := by
    obtain ⟨x1, x2, x3, x4⟩ := hL3
    exact ⟨by rw [k4 89 (by omega)]; exact x1, by rw [k4 89 (by omega)]; exact x2, by rw [k4 89 (by omega)]; exact x3, fun x y hx hy => by rw [k4 90 (by omega)]; exact x4 x y hx hy⟩
  obtain ⟨f5, r5, t5, t6, t7, t8, k5⟩ := s_walk (n := n) (kf := kf) (f := f4) (P := lyP B) hP hL4 t4
  have hL5 : LCx f5 (lyP B) := by
    obtain ⟨x1, x2, x3, x4⟩ := hL4
    exact ⟨by rw [t8 6 (by omega)]; exact x1, by rw [t8 7 (by omega)]; exact x2, by rw [t8 8 (by omega)]; exact x3, fun x y hx hy => by rw [k5 90 (by omega) (by omega) (by omega)]; exact x4 x y hx hy⟩
  refine ⟨f5, ?_, ⟨hL5, t5, t6, t7⟩, fun c hc => by rw [k5 c (by omega) (by omega) (by omega), k4 c (by omega), k3 c (by omega), k2 c (by omega), k1' c (by omega) (by omega)]⟩
  refine v_p hT rfl rfl ?_
  refine v_getr hT rfl rfl (by omega) rfl ?_
  refine v_p hT rfl rfl ?_
  refine v_ald hT rfl (by first | assumption | rfl) (by omega) (by decide) (by omega) ?_
  rw [hs0]
  refine v_p hT rfl rfl ?_
  refine g_minN hT rfl (Nat.le_of_ble_eq_true rfl) (by omega) (by omega) ?_
  rw [Nat.min_eq_left hse.1.2]
  refine v_puti hT rfl rfl (by omega) (fun z => by cases z) ?_
  refine v_p hT rfl rfl ?_
  refine v_geti hT rfl (by first | rfl | assumption) (by omega) ?_
  rw [hset_ne (by omega), l1]
  refine v_puti hT rfl rfl (by omega) (fun z => by cases z) ?_
  refine v_p hT rfl rfl ?_
  refine v_geti hT rfl (by first | rfl | assumption) (by omega) ?_
  rw [hset_ne (by omega), hset_ne (by omega), m1]
  refine v_puti hT rfl rfl (by omega) (fun z => by cases z) ?_
  refine v_p hT rfl rfl ?_
  refine v_getr hT rfl rfl (by omega) rfl ?_
  refine v_p hT rfl rfl ?_
  refine v_ald hT rfl (by first | assumption | rfl) (by omega) (by decide) (by omega) ?_
  rw [hset_ne (by omega), hset_ne (by omega), hset_ne (by omega), hs2]
  refine v_call hT [.int (nI (bSe B 2))] rfl rfl (by first | rfl | assumption) (by omega) rfl rfl (Nat.le_of_ble_eq_true rfl) (Nat.le_of_ble_eq_true rfl) (r1) ?_
  refine v_p hT rfl rfl ?_
  refine v_getr hT rfl rfl (by omega) rfl ?_
  refine v_p hT rfl rfl ?_
  refine v_getr hT rfl rfl (by omega) rfl ?_
  refine v_p hT rfl rfl ?_
  refine v_scall hT [.ref 92, .ref 7, .ref 81, .int (nI (keptF B))] rfl rfl rfl rfl (Nat.le_of_ble_eq_true rfl) (Nat.le_of_ble_eq_true rfl) (r2) ?_
  refine v_p hT rfl rfl ?_
  refine v_getr hT rfl rfl (by omega) rfl ?_
  refine v_p hT rfl rfl ?_
  refine v_getr hT rfl rfl (by omega) rfl ?_
  refine v_p hT rfl rfl ?_
  refine v_scall hT [.ref 93, .ref 8, .ref 84, .int (nI (keptF B))] rfl rfl rfl rfl (Nat.le_of_ble_eq_true rfl) (Nat.le_of_ble_eq_true rfl) (r3) ?_
  refine v_p hT rfl rfl ?_
  refine v_getr hT rfl rfl (by omega) rfl ?_
  refine v_p hT rfl rfl ?_
  refine v_getr hT rfl rfl (by omega) rfl ?_
  refine v_call hT [.ref 83, .ref 86] rfl rfl (by first | rfl | assumption) (by omega) rfl rfl (Nat.le_of_ble_eq_true rfl) (Nat.le_of_ble_eq_true rfl) (r4) ?_
  refine v_p hT rfl rfl ?_
  refine v_call hT [] rfl rfl (by first | rfl | assumption) (by omega) rfl rfl (Nat.le_of_ble_eq_true rfl) (Nat.le_of_ble_eq_true rfl) (r5) ?_
  refine v_vret hT rfl rfl ⟨rfl, rfl⟩
theorem s_taken0 {n k : Nat} {kf : Nat → Nat} {f : Nat → Nat → Int32} {a b : Nat} (hk : k < 120) (h0 : f 94 k = nI a) (h1 : f 94 (k + 1) = nI b) (hab : a ≤ b) :
    Run n_X2_taken0 110 0 (ini n_X2_taken0 [.ref 89, .int (nI k)]) [] (HH n kf f) (Ret (some (.int (nI (b - a)))) (HH n kf f)) := by
  have hT : mT n_X2_taken0 = tb_X2_taken0 := rfl
  repeat (first | refine v_p hT rfl rfl ?_ | refine v_getr hT rfl rfl (by omega) rfl ?_ | refine v_geti hT rfl (by first | rfl | assumption) (by omega) ?_ | refine v_ald hT rfl (by first | assumption | rfl) (by omega) (by decide) (by omega) ?_ | simp only [nI_add, pk_mul, h0, h1])
  rw [pk_sub hab]
  refine v_ret hT rfl (fun z => by cases z) rfl ⟨rfl, rfl⟩
theorem s_taken1 {n k : Nat} {kf : Nat → Nat} {f : Nat → Nat → Int32} {a b : Nat} (hk : k < 120) (h0 : f 95 k = nI a) (h1 : f 95 (k + 1) = nI b) (hab : a ≤ b) :
    Run n_X2_taken1 110 0 (ini n_X2_taken1 [.ref 89, .int (nI k)]) [] (HH n kf f) (Ret (some (.int (nI (b - a)))) (HH n kf f)) := by
  have hT : mT n_X2_taken1 = tb_X2_taken1 := rfl
  repeat (first | refine v_p hT rfl rfl ?_ | refine v_getr hT rfl rfl (by omega) rfl ?_ | refine v_geti hT rfl (by first | rfl | assumption) (by omega) ?_ | refine v_ald hT rfl (by first | assumption | rfl) (by omega) (by decide) (by omega) ?_ | simp only [nI_add, pk_mul, h0, h1])
  rw [pk_sub hab]
  refine v_ret hT rfl (fun z => by cases z) rfl ⟨rfl, rfl⟩
end
section
/-! THE CLASS: what is asked of the layout. -/
theorem opN_of {P : LYP} {k : Nat} (hk : k < opN P) : rkF P 0 0 ≠ nvr ∧ opN P = rkF P 0 0 % 128 ∧ opI P = nI (opN P) := by
  by_cases hn : rkF P 0 0 = nvr
  · have h0 : opN P = 0 := by unfold opN; rw [decide_eq_true hn]; rfl
    omega
  · have h0 : opN P = rkF P 0 0 % 128 := by unfold opN; rw [decide_eq_false hn]; rfl
    refine ⟨hn, h0, ?_⟩
    unfold opI
    rw [decide_eq_false hn, h0]
    rfl
theorem opN_le {P : LYP} (hP : PBd P) : opN P ≤ 120 := by
  by_cases hn : rkF P 0 0 = nvr
  · have h0 : opN P = 0 := by unfold opN; rw [decide_eq_true hn]; rfl
    omega
  · have h0 : opN P = rkF P 0 0 % 128 := by unfold opN; rw [decide_eq_false hn]; rfl
    obtain ⟨p1, p2, p3, p4⟩ := id hP
    rcases rkF_lt p1 p2 p3 p4 (Nat.zero_le P.1) (Nat.zero_le P.2.1) with h | h
    · exact absurd h hn
    · omega
/-- a place of a side -/
noncomputable def pcF (P : LYP) (s k : Nat) : Nat := if s = 0 then (posF P k).1 else (posF P k).2
theorem pos_1 {P : LYP} (hP : PBd P) {k : Nat} (hk : k < opN P) : (posF P k).1 ≤ (posF P (k + 1)).1 ∧ (posF P k).2 ≤ (posF P (k + 1)).2 ∧ (posF P (k + 1)).1 - (posF P k).1 ≤ P.2.2.1 ∧ (posF P (k + 1)).2 - (posF P k).2 ≤ P.2.2.1 ∧ (posF P (k + 1)).1 ≤ P.1 ∧ (posF P (k + 1)).2 ≤ P.2.1 := by
  obtain ⟨h1, h2, h3⟩ := opN_of hk
  have h4 := pos_pk hP h1 (k := k) (by omega)
  have h5 := pos_ok hP h1 (k + 1) (by omega)
  obtain ⟨a1, a2, _⟩ := h4
  refine ⟨?_, ?_, ?_, ?_, h5.1, h5.2.1⟩
  · show _ ≤ (posF P k).1 + _; omega
  · show _ ≤ (posF P k).2 + _; omega
  · show (posF P k).1 + _ - _ ≤ _; omega
  · show (posF P k).2 + _ - _ ≤ _; omega
theorem pc_1 {P : LYP} (hP : PBd P) {s k : Nat} (hk : k < opN P) : pcF P s k ≤ pcF P s (k + 1) ∧ pcF P s (k + 1) ≤ 60 := by
  have h := pos_1 hP hk
  obtain ⟨p1, p2, p3, p4⟩ := id hP
  unfold pcF
  by_cases hs : s = 0
  · rw [if_pos hs, if_pos hs]; omega
  · rw [if_neg hs, if_neg hs]; omega
noncomputable def opS (P : LYP) (s l : Nat) : Nat → Nat → Int32
  | 0, _ => mI 1
  | d + 1, k => if l < pcF P s (k + 1) then nI k else opS P s l d (k + 1)
noncomputable def opW (P : LYP) (s l : Nat) : Int32 := opS P s l (opN P) 0
theorem opS_no {P : LYP} {s l : Nat} : ∀ d k, (∀ j, k ≤ j → j < k + d → ¬ l < pcF P s (j + 1)) → opS P s l d k = mI 1 := by
  intro d
  induction d with
  | zero => intro k _; rfl
  | succ d ih =>
    intro k h
    show (if l < pcF P s (k + 1) then nI k else opS P s l d (k + 1)) = _
    rw [if_neg (h k (by omega) (by omega))]
    exact ih (k + 1) (fun j h1 h2 => h j (by omega) (by omega))
theorem opS_yes {P : LYP} {s l q : Nat} : ∀ d k, k ≤ q → q < k + d → l < pcF P s (q + 1) → (∀ j, k ≤ j → j < q → ¬ l < pcF P s (j + 1)) → opS P s l d k = nI q := by
  intro d
  induction d with
  | zero => intro k h1 h2; omega
  | succ d ih =>
    intro k h1 h2 h3 h4
    show (if l < pcF P s (k + 1) then nI k else opS P s l d (k + 1)) = _
    by_cases hq : k = q
    · subst hq; rw [if_pos h3]
    · rw [if_neg (h4 k (by omega) (by omega))]
      exact ih (k + 1) (by omega) (by omega) h3 (fun j h5 h6 => h4 j (by omega) h6)
theorem pc_mono {P : LYP} (hP : PBd P) {s j : Nat} : ∀ d, j + d ≤ opN P → pcF P s j ≤ pcF P s (j + d) := by
  intro d
  induction d with
  | zero => intro _; exact Nat.le_refl _
  | succ d ih =>
    intro h
    exact Nat.le_trans (ih (by omega)) (pc_1 hP (show j + d < opN P by omega)).1
theorem opW_yes {P : LYP} (hP : PBd P) {s l q : Nat} (hq : q < opN P) (h1 : pcF P s q ≤ l) (h2 : l < pcF P s (q + 1)) : opW P s l = nI q := by
  refine opS_yes _ _ (Nat.zero_le _) (by omega) h2 (fun j _ hj => ?_)
  have h3 := pc_mono hP (s := s) (j := j + 1) (q - (j + 1)) (by omega)
  rw [show j + 1 + (q - (j + 1)) = q by omega] at h3
  omega
theorem opW_no {P : LYP} {s l : Nat} (h : ∀ j, j < opN P → ¬ l < pcF P s (j + 1)) : opW P s l = mI 1 := opS_no _ _ (fun j _ hj => h j (by omega))
theorem s_openingWith {n s l : Nat} {kf : Nat → Nat} {f : Nat → Nat → Int32} {B : BK} (hV : VB B) (hL : layR f B) (hs : s < 2) (hl : l < 2 ^ 31) :
    Run n_X2_openingWith 110 0 (ini n_X2_openingWith [.ref 89, .int (nI s), .int (nI l)]) [] (HH n kf f) (Ret (some (.int (opW (lyP B) s l))) (HH n kf f)) := by
  have hT : mT n_X2_openingWith = tb_X2_openingWith := rfl
  have hP := lyP_bd hV
  obtain ⟨_, h9, _, hst⟩ := hL
  have h120 := opN_le hP
  have loop : ∀ d k, k + d = opN (lyP B) → Run n_X2_openingWith 110 25 [some (.ref 89), some (.int (nI s)), some (.int (nI l)), some (.ref (94 + s)), some (.int (nI k))] [.int (opI (lyP B)), .int (nI k)] (HH n kf f) (Ret (some (.int (opS (lyP B) s l d k))) (HH n kf f)) := by
    intro d
    induction d with
    | zero =>
      intro k hk
      refine g_cmp hT rfl (fun cq => ?_) (fun cq => ?_)
      · refine v_p hT rfl rfl ?_
        refine v_ret hT rfl (fun z => by cases z) rfl ⟨rfl, rfl⟩
      · exfalso
        apply cq
        by_cases hn : rkF (lyP B) 0 0 = nvr
        · have e0 : opN (lyP B) = 0 := by unfold opN; rw [decide_eq_true hn]; rfl
          have e1 : opI (lyP B) = mI 1 := by unfold opI; rw [decide_eq_true hn]; rfl
          have e2 : k = 0 := by omega
          subst e2
          rw [e1]
          show mI 1 ≤ nI 0
          decide
        · have e0 : opN (lyP B) = rkF (lyP B) 0 0 % 128 := by unfold opN; rw [decide_eq_false hn]; rfl
          have e1 : opI (lyP B) = nI (opN (lyP B)) := by rw [e0]; unfold opI; rw [decide_eq_false hn]; rfl
          rw [e1]
          exact (cj_ge (by omega) (by omega)).mpr (by omega)
    | succ d ih =>
      intro k hk
      have e1 := (opN_of (show k < opN (lyP B) by omega)).2.2
      have hv := hst (k + 1) (by omega)
      have hb := pc_1 hP (s := s) (show k < opN (lyP B) by omega)
      have hc : f (94 + s) (k + 1) = nI (pcF (lyP B) s (k + 1)) := by
        rcases (show s = 0 ∨ s = 1 by omega) with e | e
        · subst e; exact hv.1
        · subst e; exact hv.2
      have hkd : kd (94 + s) = (1, 121) := by
        rcases (show s = 0 ∨ s = 1 by omega) with e | e
        · subst e; rfl
        · subst e; rfl
      have ih' := ih (k + 1) (by omega)
      rw [e1] at ih' ⊢
      refine g_cmp hT rfl (fun cq => ?_) (fun cq => ?_)
      · exact absurd ((cj_ge (by omega) (by omega)).mp cq) (by omega)
      · refine v_p hT rfl rfl ?_
        rw [nI_add]
        refine v_ald hT rfl (by first | assumption | rfl) (by omega) (by decide) (by omega) ?_
        rw [hc]
        show Run _ _ _ _ _ _ (Ret (some (.int (if l < pcF (lyP B) s (k + 1) then nI k else opS (lyP B) s l d (k + 1)))) _)
        refine g_cmp hT rfl (fun cq2 => ?_) (fun cq2 => ?_)
        · have cq2 := (cj_ge (by omega) (by omega)).mp cq2
          rw [if_neg (by omega)]
          refine v_p hT rfl rfl ?_
          refine v_geti hT rfl (by first | rfl | assumption) (by omega) ?_
          rw [h9, e1]
          refine v_cv ih' ⟨rfl, rfl, rfl, rfl, ?_, trivial⟩ ?_ rfl
          · rw [nI_add]
          · rw [nI_add]
        · have cq2 := (not_congr (cj_ge (by omega) (by omega))).mp cq2
          rw [if_pos (by omega)]
          refine v_p hT rfl rfl ?_
          refine v_ret hT rfl (fun z => by cases z) rfl ⟨rfl, rfl⟩
  have hloop := loop (opN (lyP B)) 0 (by omega)
  refine v_p hT rfl rfl ?_
  refine g_if hT rfl (fun cq => ?_) (fun cq => ?_)
  · have cq := (cj_ne (a := s) (b := 0) (by omega) (by omega)).mp cq
    have e : s = 1 := by omega
    subst e
    refine v_p hT rfl rfl ?_
    refine v_getr hT rfl rfl (by omega) rfl ?_
    refine v_p hT rfl rfl ?_
    refine v_geti hT rfl (by first | rfl | assumption) (by omega) ?_
    rw [h9]
    exact hloop
  · have cq := (not_congr (cj_ne (a := s) (b := 0) (by omega) (by omega))).mp cq
    have e : s = 0 := by omega
    subst e
    refine v_p hT rfl rfl ?_
    refine v_getr hT rfl rfl (by omega) rfl ?_
    refine v_p hT rfl rfl ?_
    refine v_geti hT rfl (by first | rfl | assumption) (by omega) ?_
    rw [h9]
    exact hloop
noncomputable def ocF (P : LYP) (k : Nat) : Int32 := if k + 1 = opN P then nI 0 else nI (tollF P.2.2.1 P.2.2.2.1 ((posF P (k + 1)).1 - (posF P k).1) ((posF P (k + 1)).2 - (posF P k).2))
theorem s_costOf {n k : Nat} {kf : Nat → Nat} {f : Nat → Nat → Int32} {B : BK} (hV : VB B) (hL : layR f B) (hk : k < opN (lyP B)) :
    Run n_X2_costOf 110 0 (ini n_X2_costOf [.ref 89, .int (nI k)]) [] (HH n kf f) (Ret (some (.int (ocF (lyP B) k))) (HH n kf f)) := by
  have hT : mT n_X2_costOf = tb_X2_costOf := rfl
  have hP := lyP_bd hV
  obtain ⟨hc, h9, _, hst⟩ := hL
  have h120 := opN_le hP
  have e1 := (opN_of hk).2.2
  have hv := hst k (by omega)
  have hv1 := hst (k + 1) (by omega)
  obtain ⟨b1, b2, b3, b4, _⟩ := pos_1 hP hk
  have h12 := hP.1
  refine v_p hT rfl rfl ?_
  refine v_geti hT rfl (by first | rfl | assumption) (by omega) ?_
  rw [h9, e1]
  refine v_p hT rfl rfl ?_
  rw [pk_sub (by omega)]
  unfold ocF
  refine g_cmp hT rfl (fun cq => ?_) (fun cq => ?_)
  · have cq := (cj_ne (by omega) (by omega)).mp cq
    rw [if_neg (by omega)]
    refine v_p hT rfl rfl ?_
    refine v_getr hT rfl rfl (by omega) rfl ?_
    refine v_p hT rfl rfl ?_
    refine v_call hT [.int (nI k)] rfl rfl (by first | rfl | assumption) (by omega) rfl rfl (Nat.le_of_ble_eq_true rfl) (Nat.le_of_ble_eq_true rfl) (s_taken0 (by omega) hv.1 hv1.1 b1) ?_
    refine v_p hT rfl rfl ?_
    refine v_call hT [.int (nI k)] rfl rfl (by first | rfl | assumption) (by omega) rfl rfl (Nat.le_of_ble_eq_true rfl) (Nat.le_of_ble_eq_true rfl) (s_taken1 (by omega) hv.2 hv1.2 b2) ?_
    refine v_p hT rfl rfl ?_
    rw [pk_mul, nI_add]
    refine v_ald hT rfl (by first | assumption | rfl) (by omega) (by decide) (by omega) ?_
    rw [hc.2.2.2 _ _ b3 b4]
    refine v_ret hT rfl (fun z => by cases z) rfl ⟨rfl, rfl⟩
  · have cq := Classical.not_not.mp ((not_congr (cj_ne (by omega) (by omega))).mp cq)
    rw [if_pos (by omega)]
    refine v_p hT rfl rfl ?_
    refine v_ret hT rfl (fun z => by cases z) rfl ⟨rfl, rfl⟩
end
section
/-! THE CLASS: the states. -/
theorem rset_RR (n : Nat) (kf : Nat → Nat) (i v : Nat) : rset (RR n kf) 20 i v = RR n (fun q => if q = i then v else kf q) := by
  funext c q
  unfold rset RR
  by_cases hc : c = 20
  · subst hc
    by_cases hq : q = i
    · rw [if_pos ⟨rfl, hq⟩, if_pos rfl]
      show v = if q = i then v else kf q
      rw [if_pos hq]
    · rw [if_neg (fun z => hq z.2), if_pos rfl, if_pos rfl]
      show kf q = if q = i then v else kf q
      rw [if_neg hq]
  · rw [if_neg (fun z => hc z.1), if_neg hc, if_neg hc]
theorem v_rst {μ pc : Nat} {L : LT} {st : List Value} {Φ : PT} {T : Tab} {m : Nat} {kf : Nat → Nat} {f : Nat → Nat → Int32} (hT : mT μ = T) {n a b c d j i : Nat} (e : lk T pc = some (n, 55, a, b, c, d)) (hk : kd j = (0, 0)) (hj : j < 110) (hi : i < 6) (k : Run μ 110 (pc + n) L st (HH m (fun q => if q = i then j + 1 else kf q) f) Φ) : Run μ 110 pc L (.ref j :: .int (nI i) :: .ref 20 :: st) (HH m kf f) Φ := by
  refine g_rst (h := HH m kf f) (o := 20) (g := 4) (N := 6) hT e rfl (Or.inl ⟨rfl, hk⟩) (Nat.le_of_ble_eq_true rfl) hj (by omega) hi ?_
  show Run μ 110 (pc + n) L st (110, rset (RR m kf) 20 i (j + 1), f) Φ
  rw [rset_RR]
  exact k
def kfOk (kf : Nat → Nat) : Prop := (∀ i, i < 6 → ∃ b, kf i = b + 1 ∧ isBk b ∧ 21 ≤ b) ∧ ∀ i j, i < 6 → j < 6 → kf i = kf j → i = j
def rot (kf : Nat → Nat) (k i : Nat) : Nat := if i + 1 < k then kf (i + 1) else kf i
def rotF (kf : Nat → Nat) (i : Nat) : Nat := if i = 5 then kf 0 else rot kf 6 i
theorem kfOk_rot {kf : Nat → Nat} (h : kfOk kf) : kfOk (rotF kf) := by
  refine ⟨fun i hi => ?_, fun i j hi hj he => ?_⟩
  · unfold rotF rot
    by_cases h5 : i = 5
    · rw [if_pos h5]; exact h.1 0 (by omega)
    · rw [if_neg h5, if_pos (by omega)]; exact h.1 (i + 1) (by omega)
  · unfold rotF rot at he
    by_cases h5 : i = 5
    · by_cases h6 : j = 5
      · omega
      · rw [if_pos h5, if_neg h6, if_pos (by omega)] at he
        have := h.2 0 (j + 1) (by omega) (by omega) he
        omega
    · by_cases h6 : j = 5
      · rw [if_neg h5, if_pos (by omega), if_pos h6] at he
        have := h.2 (i + 1) 0 (by omega) (by omega) he
        omega
      · rw [if_neg h5, if_pos (by omega), if_neg h6, if_pos (by omega)] at he
        have := h.2 (i + 1) (j + 1) (by omega) (by omega) he
        omega
theorem s_loseOldest {n : Nat} {kf : Nat → Nat} {f : Nat → Nat → Int32} (hk : kfOk kf) :
    Run n_X5_loseOldest 110 0 (ini n_X5_loseOldest [.ref 19]) [] (HH n kf f) (Ret none (HH n (rotF kf) (hset f 19 1 (nI 5)))) := by
  have hT : mT n_X5_loseOldest = tb_X5_loseOldest := rfl
  obtain ⟨b0, e0, i0, l0⟩ := hk.1 0 (by omega)
  have hb0 := bk_lt i0
  have loop : ∀ d k, k + d = 6 → 1 ≤ k → Run n_X5_loseOldest 110 12 [some (.ref 19), some (.ref b0), some (.int (nI k))] [.int (nI 6), .int (nI k)] (HH n (rot kf k) f) (Ret none (HH n (rotF kf) (hset f 19 1 (nI 5)))) := by
    intro d
    induction d with
    | zero =>
      intro k hk6 h1
      have e : k = 6 := by omega
      subst e
      refine g_cmp hT rfl (fun cq => ?_) (fun cq => ?_)
      · refine v_p hT rfl rfl ?_
        refine v_getr hT rfl rfl (by omega) rfl ?_
        refine v_p hT rfl rfl ?_
        refine v_rst hT rfl (bk_kd i0).1 (by omega) (by omega) ?_
        refine v_p hT rfl rfl ?_
        refine v_puti hT rfl rfl (by omega) (fun z => by cases z) ?_
        have hq : (fun q => if q = 5 then b0 + 1 else rot kf 6 q) = rotF kf := by
          funext q
          unfold rotF
          rw [e0]
        rw [hq]
        refine v_vret hT rfl rfl ⟨rfl, rfl⟩
      · exact absurd ((cj_ge (by omega) (by omega)).mpr (by omega)) cq
    | succ d ih =>
      intro k hk6 h1
      obtain ⟨b1, e1, i1, l1⟩ := hk.1 k (by omega)
      have hb1 := bk_lt i1
      refine g_cmp hT rfl (fun cq => ?_) (fun cq => ?_)
      · exact absurd ((cj_ge (by omega) (by omega)).mp cq) (by omega)
      · refine v_p hT rfl rfl ?_
        refine v_getr hT rfl rfl (by omega) rfl ?_
        refine v_p hT rfl rfl ?_
        refine v_getr hT rfl rfl (by omega) rfl ?_
        refine v_p hT rfl rfl ?_
        refine v_rld hT rfl rfl (Or.inl rfl) (by omega) (by omega) (show k < 6 by omega) (j := b1) ?_ ?_
        · show rot kf k k = b1 + 1
          unfold rot
          rw [if_neg (by omega), e1]
        rw [pk_sub (by omega)]
        refine v_rst hT rfl (bk_kd i1).1 (by omega) (by omega) ?_
        have hq : (fun q => if q = k - 1 then b1 + 1 else rot kf k q) = rot kf (k + 1) := by
          funext q
          unfold rot
          by_cases hqk : q = k - 1
          · rw [if_pos hqk, if_pos (by omega), ← e1]
            congr 1
            omega
          · rw [if_neg hqk]
            by_cases h2 : q + 1 < k
            · rw [if_pos h2, if_pos (by omega)]
            · rw [if_neg h2, if_neg (by omega)]
        rw [hq]
        refine v_p hT rfl rfl ?_
        refine v_cv (ih (k + 1) (by omega) (by omega)) ⟨rfl, rfl, ?_, trivial⟩ ?_ rfl
        · rw [nI_add]
        · rw [nI_add]
  have hrot : rot kf 1 = kf := by
    funext q
    unfold rot
    rw [if_neg (by omega)]
  have hl := loop 5 1 (by omega) (by omega)
  rw [hrot] at hl
  refine v_p hT rfl rfl ?_
  refine v_getr hT rfl rfl (by omega) rfl ?_
  refine v_p hT rfl rfl ?_
  refine v_rld hT rfl rfl (Or.inl rfl) (by omega) (by omega) (show 0 < 6 by omega) (j := b0) ?_ ?_
  · show kf 0 = b0 + 1
    exact e0
  refine v_p hT rfl rfl ?_
  exact hl
abbrev HS : Type := Nat × (Nat → BK)
def hPush (H : HS) (B : BK) : HS := if H.1 = 6 then (6, fun i => if i = 5 then B else H.2 (i + 1)) else (H.1 + 1, fun i => if i = H.1 then B else H.2 i)
def stR (kf : Nat → Nat) (f : Nat → Nat → Int32) (H : HS) : Prop := f 19 1 = nI H.1 ∧ ∀ i, i < H.1 → bkR f (kf i - 1) (H.2 i)
def VH (H : HS) : Prop := H.1 ≤ 6 ∧ ∀ i, i < H.1 → VB (H.2 i)
theorem VH_push {H : HS} {B : BK} (h : VH H) (hB : VB B) : VH (hPush H B) := by
  unfold hPush
  by_cases h6 : H.1 = 6
  · rw [if_pos h6]
    refine ⟨Nat.le_refl _, fun i hi => ?_⟩
    show VB (if i = 5 then B else H.2 (i + 1))
    by_cases h5 : i = 5
    · rw [if_pos h5]; exact hB
    · rw [if_neg h5]; exact h.2 _ (by omega)
  · rw [if_neg h6]
    have := h.1
    refine ⟨by show H.1 + 1 ≤ 6; omega, fun i hi => ?_⟩
    show VB (if i = H.1 then B else H.2 i)
    by_cases h5 : i = H.1
    · rw [if_pos h5]; exact hB
    · rw [if_neg h5]; exact h.2 _ (by have : i < H.1 + 1 := hi; omega)
theorem s_keep {n : Nat} {kf : Nat → Nat} {f : Nat → Nat → Int32} {H : HS} {B : BK} (hk : kfOk kf) (hS : stR kf f H) (hH : VH H) (hR : bkR f 1 B) (hV : VB B) :
    ∃ kf2 f2, Run n_X5_keep 110 0 (ini n_X5_keep [.ref 19, .ref 1]) [] (HH n kf f) (Ret none (HH n kf2 f2)) ∧ kfOk kf2 ∧ stR kf2 f2 (hPush H B) ∧ ∀ c, c < 19 ∨ 74 < c → f2 c = f c := by
  have hT : mT n_X5_keep = tb_X5_keep := rfl
  have key : ∀ (kg : Nat → Nat) (g : Nat → Nat → Int32) (m : Nat), kfOk kg → m < 6 → g 19 1 = nI m → (∀ c, c ≠ 19 → g c = f c) → Run n_X5_keep 110 13 [some (.ref 19), some (.ref 1)] [] (HH n kg g) (Ret none (HH n kg (hset (TF g (kg m - 1) 1) 19 1 (nI (m + 1))))) := by
    intro kg g m hkg hm h19 hg
    obtain ⟨b, e, ib, lb⟩ := hkg.1 m hm
    have hbl := bk_lo ib
    rw [e]
    refine v_p hT rfl rfl ?_
    refine v_getr hT rfl rfl (by omega) rfl ?_
    refine v_p hT rfl rfl ?_
    refine v_geti hT rfl (by first | rfl | assumption) (by omega) ?_
    rw [h19]
    refine v_rld hT rfl rfl (Or.inl rfl) (by omega) (by omega) (show m < 6 by omega) (j := b) ?_ ?_
    · show kg m = b + 1
      exact e
    refine v_p hT rfl rfl ?_
    refine v_call hT [.ref 1] rfl rfl (bk_kd ib).1 (by omega) rfl rfl (Nat.le_of_ble_eq_true rfl) (Nat.le_of_ble_eq_true rfl) (s_takeFrom ib (Or.inl rfl)) ?_
    refine v_p hT rfl rfl ?_
    refine v_geti hT rfl (by first | rfl | assumption) (by omega) ?_
    rw [TF_out (by omega), h19]
    refine v_p hT rfl rfl ?_
    rw [nI_add]
    refine v_puti hT rfl rfl (by omega) (fun z => by cases z) ?_
    refine v_vret hT rfl rfl ⟨rfl, rfl⟩
  have hframe : ∀ (kg : Nat → Nat) (g : Nat → Nat → Int32) (m : Nat), kfOk kg → m < 6 → g 19 1 = nI m → (∀ c, c ≠ 19 → g c = f c) → ∀ c, c < 19 ∨ 74 < c → hset (TF g (kg m - 1) 1) 19 1 (nI (m + 1)) c = f c := by
    intro kg g m hkg hm h19 hg c hc
    obtain ⟨b, e, ib, lb⟩ := hkg.1 m hm
    have hbl := bk_lo ib
    rw [hset_ne (by omega), TF_out (by omega), hg c (by omega)]
  have hbooks : ∀ (kg : Nat → Nat) (g : Nat → Nat → Int32) (m : Nat) (h' : Nat → BK), kfOk kg → m < 6 → g 19 1 = nI m → (∀ c, c ≠ 19 → g c = f c) → (∀ i, i < m → bkR f (kg i - 1) (h' i)) → (∀ i, i < m → VB (h' i)) → stR kg (hset (TF g (kg m - 1) 1) 19 1 (nI (m + 1))) (m + 1, fun i => if i = m then B else h' i) := by
    intro kg g m h' hkg hm h19 hg hb hv
    obtain ⟨b, e, ib, lb⟩ := hkg.1 m hm
    have hbl := bk_lo ib
    refine ⟨by rw [hs_s]; simp [upd], fun i hi => ?_⟩
    have hi : i < m + 1 := hi
    obtain ⟨bi, ei, ibi, lbi⟩ := hkg.1 i (by omega)
    have hbil := bk_lo ibi
    show bkR _ _ (if i = m then B else h' i)
    by_cases him : i = m
    · subst him
      rw [if_pos rfl]
      refine bkR_eq hV.1 (f := TF g (kg i - 1) 1) ?_ (fun c h1 h2 => hset_ne (by omega))
      refine bkR_TF (by omega) hV.1 (bkR_eq hV.1 hR (fun c h1 h2 => hg c (by omega)))
    · rw [if_neg him]
      have hne : bi ≠ b := by
        intro hbe
        have := hkg.2 i m (by omega) hm (by omega)
        exact him this
      have hd := bk_dis ibi ib hne
      refine bkR_eq (hv i (by omega)).1 (f := f) (hb i (by omega)) (fun c h1 h2 => ?_)
      rw [hset_ne (by omega), TF_out (by omega), hg c (by omega)]
  unfold hPush
  obtain ⟨s1, s2⟩ := hS
  obtain ⟨v1, v2⟩ := hH
  by_cases h6 : H.1 = 6
  · rw [if_pos h6]
    have hro := kfOk_rot hk
    have hg : ∀ c, c ≠ 19 → hset f 19 1 (nI 5) c = f c := fun c hc => hset_ne hc
    have h19 : hset f 19 1 (nI 5) 19 1 = nI 5 := by rw [hs_s]; simp [upd]
    refine ⟨rotF kf, hset (TF (hset f 19 1 (nI 5)) (rotF kf 5 - 1) 1) 19 1 (nI (5 + 1)), ?_, hro, ?_, hframe _ _ 5 hro (by omega) h19 hg⟩
    · refine v_p hT rfl rfl ?_
      refine v_geti hT rfl (by first | rfl | assumption) (by omega) ?_
      rw [s1, h6]
      refine v_p hT rfl rfl ?_
      refine g_cmp hT rfl (fun cq => ?_) (fun cq => ?_)
      · exact absurd ((cj_lt (by omega) (by omega)).mp cq) (by omega)
      · refine v_p hT rfl rfl ?_
        refine v_call hT [] rfl rfl (by first | rfl | assumption) (by omega) rfl rfl (Nat.le_of_ble_eq_true rfl) (Nat.le_of_ble_eq_true rfl) (s_loseOldest hk) ?_
        exact key (rotF kf) _ 5 hro (by omega) h19 hg
    · refine hbooks (rotF kf) _ 5 (fun i => H.2 (i + 1)) hro (by omega) h19 hg (fun i hi => ?_) (fun i hi => v2 _ (by omega))
      have : rotF kf i = kf (i + 1) := by
        unfold rotF rot
        rw [if_neg (by omega), if_pos (by omega)]
      rw [this]
      exact s2 _ (by omega)
  · rw [if_neg h6]
    refine ⟨kf, hset (TF f (kf H.1 - 1) 1) 19 1 (nI (H.1 + 1)), ?_, hk, ?_, hframe kf f H.1 hk (by omega) s1 (fun _ _ => rfl)⟩
    · refine v_p hT rfl rfl ?_
      refine v_geti hT rfl (by first | rfl | assumption) (by omega) ?_
      rw [s1]
      refine v_p hT rfl rfl ?_
      refine g_cmp hT rfl (fun cq => ?_) (fun cq => ?_)
      · exact key kf f H.1 hk (by omega) s1 (fun _ _ => rfl)
      · exact absurd ((cj_lt (by omega) (by omega)).mpr (by omega)) cq
    · exact hbooks kf f H.1 H.2 hk (by omega) s1 (fun _ _ => rfl) s2 v2
theorem s_giveBack {n : Nat} {kf : Nat → Nat} {f : Nat → Nat → Int32} {H : HS} (hk : kfOk kf) (hS : stR kf f H) (hH : VH H) :
    ∃ f2, Run n_X5_giveBack 110 0 (ini n_X5_giveBack [.ref 19, .ref 1]) [] (HH n kf f) (Ret (some (.int (bI (decide (0 < H.1))))) (HH n kf f2)) ∧ (0 < H.1 → bkR f2 1 (H.2 (H.1 - 1))) ∧ (H.1 = 0 → f2 = f) ∧ stR kf f2 (H.1 - 1, H.2) ∧ ∀ c, c = 0 ∨ (9 < c ∧ c < 19) ∨ 19 < c → f2 c = f c := by
  have hT : mT n_X5_giveBack = tb_X5_giveBack := rfl
  obtain ⟨s1, s2⟩ := hS
  obtain ⟨v1, v2⟩ := hH
  by_cases h0 : 0 < H.1
  · obtain ⟨b, e, ib, lb⟩ := hk.1 (H.1 - 1) (by omega)
    have hbl := bk_lo ib
    have hbR : bkR f b (H.2 (H.1 - 1)) := by
      have := s2 (H.1 - 1) (by omega)
      rw [e] at this
      exact this
    refine ⟨TF (hset f 19 1 (nI (H.1 - 1))) 1 b, ?_, fun _ => ?_, fun z => by omega, ⟨?_, fun i hi => ?_⟩, fun c hc => ?_⟩
    · rw [decide_eq_true h0]
      refine v_p hT rfl rfl ?_
      refine v_geti hT rfl (by first | rfl | assumption) (by omega) ?_
      rw [s1]
      refine g_if hT rfl (fun cq => ?_) (fun cq => ?_)
      · refine v_p hT rfl rfl ?_
        refine v_geti hT rfl (by first | rfl | assumption) (by omega) ?_
        rw [s1]
        refine v_p hT rfl rfl ?_
        rw [pk_sub (by omega)]
        refine v_puti hT rfl rfl (by omega) (fun z => by cases z) ?_
        refine v_p hT rfl rfl ?_
        refine v_getr hT rfl rfl (by omega) rfl ?_
        refine v_p hT rfl rfl ?_
        refine v_geti hT rfl (by first | rfl | assumption) (by omega) ?_
        rw [hs_s]
        simp only [upd, if_pos]
        refine v_rld hT rfl rfl (Or.inl rfl) (by omega) (by omega) (show H.1 - 1 < 6 by omega) (j := b) ?_ ?_
        · show kf (H.1 - 1) = b + 1
          exact e
        refine v_call hT [.ref b] rfl rfl (by first | rfl | assumption) (by omega) rfl rfl (Nat.le_of_ble_eq_true rfl) (Nat.le_of_ble_eq_true rfl) (s_takeFrom (Or.inl rfl) ib) ?_
        refine v_p hT rfl rfl ?_
        refine v_ret hT rfl (fun _ => Or.inr rfl) rfl ⟨rfl, rfl⟩
      · exact absurd ((cj_gt (a := H.1) (b := 0) (by omega) (by omega)).mpr h0) cq
    · exact bkR_TF (by omega) (v2 (H.1 - 1) (by omega)).1 (bkR_eq (v2 (H.1 - 1) (by omega)).1 hbR (fun c x1 x2 => hset_ne (by omega)))
    · rw [TF_out (by omega), hs_s]; simp [upd]
    · have hi : i < H.1 - 1 := hi
      obtain ⟨bi, ei, ibi, lbi⟩ := hk.1 i (by omega)
      have hbil := bk_lo ibi
      refine bkR_eq (v2 i (by omega)).1 (s2 i (by omega)) (fun c x1 x2 => ?_)
      rw [TF_out (by omega), hset_ne (by omega)]
    · rw [TF_out (by omega), hset_ne (by omega)]
  · refine ⟨f, ?_, fun z => absurd z h0, fun _ => rfl, ⟨by rw [s1]; congr 1; show H.1 = H.1 - 1; omega, fun i hi => by have hi : i < H.1 - 1 := hi; omega⟩, fun c _ => rfl⟩
    rw [decide_eq_false h0]
    refine v_p hT rfl rfl ?_
    refine v_geti hT rfl (by first | rfl | assumption) (by omega) ?_
    rw [s1]
    refine g_if hT rfl (fun cq => ?_) (fun cq => ?_)
    · exact absurd ((cj_gt (a := H.1) (b := 0) (by omega) (by omega)).mp cq) h0
    · refine v_p hT rfl rfl ?_
      refine v_ret hT rfl (fun _ => Or.inl rfl) rfl ⟨rfl, rfl⟩
end
section
/-! THE CLASS: the script. -/
def mostN (c : Nat) : Nat := if c = 97 ∨ c = 98 then 12 else if c = 116 then 3 else if c = 119 then 2 else if c = 104 ∨ c = 108 ∨ c = 115 then 1 else 0
def leastN (c : Nat) : Nat := if c = 97 ∨ c = 98 then 1 else mostN c
def mostPc (c : Nat) : Nat := if mostN c = 12 then 108 else if mostN c = 3 then 111 else if mostN c = 2 then 113 else if mostN c = 1 then 115 else 117
theorem most_sw : ∀ c, c < 128 → swt 0 (nI c) = mostPc c := by decide
theorem mostN_or (c : Nat) : mostN c = 12 ∨ mostN c = 3 ∨ mostN c = 2 ∨ mostN c = 1 ∨ mostN c = 0 := by
  unfold mostN
  by_cases h1 : c = 97 ∨ c = 98
  · rw [if_pos h1]; omega
  · rw [if_neg h1]
    by_cases h2 : c = 116
    · rw [if_pos h2]; omega
    · rw [if_neg h2]
      by_cases h3 : c = 119
      · rw [if_pos h3]; omega
      · rw [if_neg h3]
        by_cases h4 : c = 104 ∨ c = 108 ∨ c = 115
        · rw [if_pos h4]; omega
        · rw [if_neg h4]; omega
theorem s_mostNumbers {n c : Nat} {kf : Nat → Nat} {f : Nat → Nat → Int32} (hc : c < 128) : Run n_X4_mostNumbers 110 0 (ini n_X4_mostNumbers [.int (nI c)]) [] (HH n kf f) (Ret (some (.int (nI (mostN c)))) (HH n kf f)) := by
  have hT : mT n_X4_mostNumbers = tb_X4_mostNumbers := rfl
  have hsw := most_sw c hc
  unfold mostPc at hsw
  refine v_p hT rfl rfl ?_
  refine g_sw hT rfl (Or.inl rfl) hsw ?_
  rcases mostN_or c with e | e | e | e | e <;> rw [e] <;> refine v_p hT rfl rfl ?_ <;> refine v_ret hT rfl (fun z => by cases z) rfl ⟨rfl, rfl⟩
theorem s_leastNumbers {n c : Nat} {kf : Nat → Nat} {f : Nat → Nat → Int32} (hc : c < 128) : Run n_X4_leastNumbers 110 0 (ini n_X4_leastNumbers [.int (nI c)]) [] (HH n kf f) (Ret (some (.int (nI (leastN c)))) (HH n kf f)) := by
  have hT : mT n_X4_leastNumbers = tb_X4_leastNumbers := rfl
  unfold leastN
  refine v_p hT rfl rfl ?_
  refine g_cmp hT rfl (fun cq => ?_) (fun cq => ?_)
  · have cq := (cj_eq (by omega) (by omega)).mp cq
    rw [if_pos (Or.inl cq)]
    refine v_p hT rfl rfl ?_
    refine v_ret hT rfl (fun z => by cases z) rfl ⟨rfl, rfl⟩
  · have cq := (not_congr (cj_eq (by omega) (by omega))).mp cq
    refine v_p hT rfl rfl ?_
    refine g_cmp hT rfl (fun cq2 => ?_) (fun cq2 => ?_)
    · have cq2 := (cj_ne (by omega) (by omega)).mp cq2
      rw [if_neg (by omega)]
      refine v_p hT rfl rfl ?_
      refine v_scall hT [.int (nI c)] rfl rfl rfl rfl (Nat.le_of_ble_eq_true rfl) (Nat.le_of_ble_eq_true rfl) (s_mostNumbers hc) ?_
      refine v_ret hT rfl (fun z => by cases z) rfl ⟨rfl, rfl⟩
    · have cq2 := Classical.not_not.mp ((not_congr (cj_ne (by omega) (by omega))).mp cq2)
      rw [if_pos (Or.inr cq2)]
      refine v_p hT rfl rfl ?_
      refine v_ret hT rfl (fun z => by cases z) rfl ⟨rfl, rfl⟩
abbrev QS : Type := Nat × Nat × Nat × Nat × (Nat → Nat) × (Nat → Nat) × (Nat → Nat)
abbrev qNo (Q : QS) : Nat := Q.1
abbrev qNn (Q : QS) : Nat := Q.2.1
abbrev qKd (Q : QS) : Nat := Q.2.2.1
abbrev qFg (Q : QS) : Nat := Q.2.2.2.1
abbrev qKs (Q : QS) : Nat → Nat := Q.2.2.2.2.1
abbrev qFr (Q : QS) : Nat → Nat := Q.2.2.2.2.2.1
abbrev qNm (Q : QS) : Nat → Nat := Q.2.2.2.2.2.2
def updN (g : Nat → Nat) (k v : Nat) : Nat → Nat := fun i => if i = k then v else g i
def qEnd (Q : QS) : Option QS := if qKd Q = 0 ∨ qNn Q - qFr Q (qNo Q) < leastN (qKd Q) then none else some (qNo Q + 1, qNn Q, 0, qFg Q, updN (qKs Q) (qNo Q) (qKd Q), updN (qFr Q) (qNo Q + 1) (qNn Q), qNm Q)
def qFig (Q : QS) (v : Nat) : Option QS := if qKd Q = 0 ∨ 2 ≤ qFg Q then none else if qFg Q = 1 then some (qNo Q, qNn Q, qKd Q, 2, qKs Q, qFr Q, updN (qNm Q) (qNn Q - 1) (qNm Q (qNn Q - 1) * 10 + v)) else if mostN (qKd Q) ≤ qNn Q - qFr Q (qNo Q) then none else some (qNo Q, qNn Q + 1, qKd Q, 1, qKs Q, qFr Q, updN (qNm Q) (qNn Q) v)
def qBeg (Q : QS) (c : Nat) : Option QS := if ¬ qKd Q = 0 ∨ mostN c = 0 then none else some (qNo Q, qNn Q, c, 0, qKs Q, qFr Q, qNm Q)
def qSp (Q : QS) : QS := (qNo Q, qNn Q, qKd Q, 0, qKs Q, qFr Q, qNm Q)
def qStep (Q : QS) (c : Nat) : Option QS := if c = 32 then some (qSp Q) else if c = 59 then qEnd Q else if 48 ≤ c ∧ c ≤ 57 then qFig Q (c - 48) else qBeg Q c
def qR (f : Nat → Nat → Int32) (Q : QS) : Prop := f 75 5 = nI (qNo Q) ∧ f 75 6 = nI (qNn Q) ∧ f 75 7 = nI (qKd Q) ∧ f 75 8 = nI (qFg Q) ∧ (∀ k, k < qNo Q → f 77 k = nI (qKs Q k)) ∧ (∀ k, k ≤ qNo Q → f 78 k = nI (qFr Q k)) ∧ ∀ k, k < qNn Q → f 79 k = nI (qNm Q k)
def qI (Q : QS) (i : Nat) : Prop := qNo Q ≤ i ∧ qNn Q ≤ i ∧ qFr Q (qNo Q) ≤ qNn Q ∧ (qFg Q = 1 → ¬ qKd Q = 0 → qFr Q (qNo Q) < qNn Q) ∧ qKd Q < 128 ∧ qFg Q ≤ 2
theorem qI_step {Q Q' : QS} {c i : Nat} (h : qI Q i) (hc : c < 128) (hs : qStep Q c = some Q') : qI Q' (i + 1) := by
  obtain ⟨h1, h2, h3, h4, h5, h6⟩ := h
  unfold qStep at hs
  by_cases c1 : c = 32
  · rw [if_pos c1] at hs
    cases hs
    exact ⟨by show qNo Q ≤ i + 1; omega, by show qNn Q ≤ i + 1; omega, h3, fun z => (by cases z), h5, Nat.zero_le _⟩
  · rw [if_neg c1] at hs
    by_cases c2 : c = 59
    · rw [if_pos c2] at hs
      unfold qEnd at hs
      by_cases c3 : qKd Q = 0 ∨ qNn Q - qFr Q (qNo Q) < leastN (qKd Q)
      · rw [if_pos c3] at hs; cases hs
      · rw [if_neg c3] at hs
        cases hs
        refine ⟨by show qNo Q + 1 ≤ i + 1; omega, by show qNn Q ≤ i + 1; omega, ?_, fun _ z => absurd rfl z, by show 0 < 128; omega, h6⟩
        show updN (qFr Q) (qNo Q + 1) (qNn Q) (qNo Q + 1) ≤ qNn Q
        unfold updN
        rw [if_pos rfl]
        exact Nat.le_refl _
    · rw [if_neg c2] at hs
      by_cases c4 : 48 ≤ c ∧ c ≤ 57
      · rw [if_pos c4] at hs
        unfold qFig at hs
        by_cases c5 : qKd Q = 0 ∨ 2 ≤ qFg Q
        · rw [if_pos c5] at hs; cases hs
        · rw [if_neg c5] at hs
          by_cases c6 : qFg Q = 1
          · rw [if_pos c6] at hs
            cases hs
            exact ⟨by show qNo Q ≤ i + 1; omega, by show qNn Q ≤ i + 1; omega, h3, fun z => (by cases z), h5, Nat.le_refl _⟩
          · rw [if_neg c6] at hs
            by_cases c7 : mostN (qKd Q) ≤ qNn Q - qFr Q (qNo Q)
            · rw [if_pos c7] at hs; cases hs
            · rw [if_neg c7] at hs
              cases hs
              exact ⟨by show qNo Q ≤ i + 1; omega, by show qNn Q + 1 ≤ i + 1; omega, by show qFr Q (qNo Q) ≤ qNn Q + 1; omega, fun _ _ => by show qFr Q (qNo Q) < qNn Q + 1; omega, h5, by show 1 ≤ 2; omega⟩
      · rw [if_neg c4] at hs
        unfold qBeg at hs
        by_cases c8 : ¬ qKd Q = 0 ∨ mostN c = 0
        · rw [if_pos c8] at hs; cases hs
        · rw [if_neg c8] at hs
          cases hs
          exact ⟨by show qNo Q ≤ i + 1; omega, by show qNn Q ≤ i + 1; omega, h3, fun z => (by cases z), hc, Nat.zero_le _⟩
/-- what a step of the script leaves alone -/
def scF (f f2 : Nat → Nat → Int32) : Prop := (∀ c, c ≠ 75 → c ≠ 77 → c ≠ 78 → c ≠ 79 → f2 c = f c) ∧ f2 75 1 = f 75 1
theorem s_numbersOfOrder {n : Nat} {kf : Nat → Nat} {f : Nat → Nat → Int32} {Q : QS} {i : Nat} (hR : qR f Q) (hI : qI Q i) (hi : i ≤ 120) :
    Run n_X4_numbersOfOrder 110 0 (ini n_X4_numbersOfOrder [.ref 75]) [] (HH n kf f) (Ret (some (.int (nI (qNn Q - qFr Q (qNo Q))))) (HH n kf f)) := by
  have hT : mT n_X4_numbersOfOrder = tb_X4_numbersOfOrder := rfl
  obtain ⟨r1, r2, r3, r4, r5, r6, r7⟩ := hR
  obtain ⟨h1, h2, h3, h4, h5, h6⟩ := hI
  have r6' := r6 (qNo Q) (Nat.le_refl _)
  refine v_p hT rfl rfl ?_
  refine v_geti hT rfl (by first | rfl | assumption) (by omega) ?_
  rw [r2]
  refine v_p hT rfl rfl ?_
  refine v_getr hT rfl rfl (by omega) rfl ?_
  refine v_p hT rfl rfl ?_
  refine v_geti hT rfl (by first | rfl | assumption) (by omega) ?_
  rw [r1]
  refine v_ald hT rfl (by first | assumption | rfl) (by omega) (by decide) (by omega) ?_
  rw [r6']
  refine v_p hT rfl rfl ?_
  rw [pk_sub h3]
  refine v_ret hT rfl (fun z => by cases z) rfl ⟨rfl, rfl⟩
theorem s_beginOrder {n c : Nat} {kf : Nat → Nat} {f : Nat → Nat → Int32} {Q : QS} {i : Nat} (hR : qR f Q) (hI : qI Q i) (hc : c < 128) :
    ∃ f2, Run n_X4_beginOrder 110 0 (ini n_X4_beginOrder [.ref 75, .int (nI c)]) [] (HH n kf f) (Ret (some (.int (bI (qBeg Q c).isSome))) (HH n kf f2)) ∧ (∀ Q', qBeg Q c = some Q' → qR f2 Q') ∧ scF f f2 := by
  have hT : mT n_X4_beginOrder = tb_X4_beginOrder := rfl
  obtain ⟨r1, r2, r3, r4, r5, r6, r7⟩ := hR
  obtain ⟨h1, h2, h3, h4, h5, h6⟩ := hI
  unfold qBeg
  by_cases c8 : ¬ qKd Q = 0 ∨ mostN c = 0
  · refine ⟨f, ?_, fun Q' z => ?_, fun _ _ _ _ _ => rfl, rfl⟩
    · rw [if_pos c8]
      refine v_p hT rfl rfl ?_
      refine v_geti hT rfl (by first | rfl | assumption) (by omega) ?_
      rw [r3]
      refine g_if hT rfl (fun cq => ?_) (fun cq => ?_)
      · refine v_p hT rfl rfl ?_
        refine v_ret hT rfl (fun _ => Or.inl rfl) rfl ⟨rfl, rfl⟩
      · have cq := Classical.not_not.mp ((not_congr (cj_ne (b := 0) (by omega) (by omega))).mp cq)
        refine v_p hT rfl rfl ?_
        refine v_scall hT [.int (nI c)] rfl rfl rfl rfl (Nat.le_of_ble_eq_true rfl) (Nat.le_of_ble_eq_true rfl) (s_mostNumbers hc) ?_
        refine g_if hT rfl (fun cq2 => ?_) (fun cq2 => ?_)
        · have cq2 := (cj_ne (b := 0) (by rcases mostN_or c with e | e | e | e | e <;> omega) (by omega)).mp cq2
          omega
        · refine v_p hT rfl rfl ?_
          refine v_ret hT rfl (fun _ => Or.inl rfl) rfl ⟨rfl, rfl⟩
    · rw [if_pos c8] at z; cases z
  · refine ⟨hset (hset f 75 7 (nI c)) 75 8 (nI 0), ?_, fun Q' z => ?_, fun c x1 _ _ _ => by rw [hset_ne x1, hset_ne x1], by simp [hset, upd]⟩
    · rw [if_neg c8]
      refine v_p hT rfl rfl ?_
      refine v_geti hT rfl (by first | rfl | assumption) (by omega) ?_
      rw [r3]
      refine g_if hT rfl (fun cq => ?_) (fun cq => ?_)
      · have cq := (cj_ne (b := 0) (by omega) (by omega)).mp cq
        omega
      · refine v_p hT rfl rfl ?_
        refine v_scall hT [.int (nI c)] rfl rfl rfl rfl (Nat.le_of_ble_eq_true rfl) (Nat.le_of_ble_eq_true rfl) (s_mostNumbers hc) ?_
        refine g_if hT rfl (fun cq2 => ?_) (fun cq2 => ?_)
        · refine v_p hT rfl rfl ?_
          refine v_puti hT rfl rfl (by omega) (fun z => by cases z) ?_
          refine v_p hT rfl rfl ?_
          refine v_puti hT rfl rfl (by omega) (fun z => by cases z) ?_
          refine v_p hT rfl rfl ?_
          refine v_ret hT rfl (fun _ => Or.inr rfl) rfl ⟨rfl, rfl⟩
        · have cq2 := Classical.not_not.mp ((not_congr (cj_ne (b := 0) (by rcases mostN_or c with e | e | e | e | e <;> omega) (by omega))).mp cq2)
          omega
    · rw [if_neg c8] at z
      cases z
      refine ⟨?_, ?_, ?_, ?_, fun k hk => ?_, fun k hk => ?_, fun k hk => ?_⟩
      · simp [hset, upd]; exact r1
      · simp [hset, upd]; exact r2
      · simp [hset, upd]
      · simp [hset, upd]
      · rw [hset_ne (by omega), hset_ne (by omega)]; exact r5 k hk
      · rw [hset_ne (by omega), hset_ne (by omega)]; exact r6 k hk
      · rw [hset_ne (by omega), hset_ne (by omega)]; exact r7 k hk
theorem s_endOrder {n : Nat} {kf : Nat → Nat} {f : Nat → Nat → Int32} {Q : QS} {i : Nat} (hR : qR f Q) (hI : qI Q i) (hi : i < 120) :
    ∃ f2, Run n_X4_endOrder 110 0 (ini n_X4_endOrder [.ref 75]) [] (HH n kf f) (Ret (some (.int (bI (qEnd Q).isSome))) (HH n kf f2)) ∧ (∀ Q', qEnd Q = some Q' → qR f2 Q') ∧ scF f f2 := by
  have hT : mT n_X4_endOrder = tb_X4_endOrder := rfl
  have hno := s_numbersOfOrder (n := n) (kf := kf) hR hI (by omega)
  obtain ⟨r1, r2, r3, r4, r5, r6, r7⟩ := hR
  obtain ⟨h1, h2, h3, h4, h5, h6⟩ := hI
  have hl : leastN (qKd Q) < 2 ^ 31 := by
    unfold leastN
    split
    · omega
    · rcases mostN_or (qKd Q) with e | e | e | e | e <;> omega
  unfold qEnd
  by_cases c8 : qKd Q = 0 ∨ qNn Q - qFr Q (qNo Q) < leastN (qKd Q)
  · refine ⟨f, ?_, fun Q' z => ?_, fun _ _ _ _ _ => rfl, rfl⟩
    · rw [if_pos c8]
      refine v_p hT rfl rfl ?_
      refine v_geti hT rfl (by first | rfl | assumption) (by omega) ?_
      rw [r3]
      refine g_if hT rfl (fun cq => ?_) (fun cq => ?_)
      · refine v_p hT rfl rfl ?_
        refine v_ret hT rfl (fun _ => Or.inl rfl) rfl ⟨rfl, rfl⟩
      · have cq := (not_congr (cj_eq (b := 0) (by omega) (by omega))).mp cq
        refine v_p hT rfl rfl ?_
        refine v_call hT [] rfl rfl (by first | rfl | assumption) (by omega) rfl rfl (Nat.le_of_ble_eq_true rfl) (Nat.le_of_ble_eq_true rfl) (hno) ?_
        refine v_p hT rfl rfl ?_
        refine v_geti hT rfl (by first | rfl | assumption) (by omega) ?_
        rw [r3]
        refine v_scall hT [.int (nI (qKd Q))] rfl rfl rfl rfl (Nat.le_of_ble_eq_true rfl) (Nat.le_of_ble_eq_true rfl) (s_leastNumbers h5) ?_
        refine g_cmp hT rfl (fun cq2 => ?_) (fun cq2 => ?_)
        · have cq2 := (cj_ge (by omega) (by omega)).mp cq2
          omega
        · refine v_p hT rfl rfl ?_
          refine v_ret hT rfl (fun _ => Or.inl rfl) rfl ⟨rfl, rfl⟩
    · rw [if_pos c8] at z; cases z
  · refine ⟨hset (hset (hset (hset f 77 (qNo Q) (nI (qKd Q))) 75 5 (nI (qNo Q + 1))) 78 (qNo Q + 1) (nI (qNn Q))) 75 7 (nI 0), ?_, fun Q' z => ?_, fun c x1 x2 x3 x4 => by rw [hset_ne x1, hset_ne x3, hset_ne x1, hset_ne x2], by simp [hset, upd]⟩
    · rw [if_neg c8]
      refine v_p hT rfl rfl ?_
      refine v_geti hT rfl (by first | rfl | assumption) (by omega) ?_
      rw [r3]
      refine g_if hT rfl (fun cq => ?_) (fun cq => ?_)
      · have cq := (cj_eq (b := 0) (by omega) (by omega)).mp cq
        omega
      · refine v_p hT rfl rfl ?_
        refine v_call hT [] rfl rfl (by first | rfl | assumption) (by omega) rfl rfl (Nat.le_of_ble_eq_true rfl) (Nat.le_of_ble_eq_true rfl) (hno) ?_
        refine v_p hT rfl rfl ?_
        refine v_geti hT rfl (by first | rfl | assumption) (by omega) ?_
        rw [r3]
        refine v_scall hT [.int (nI (qKd Q))] rfl rfl rfl rfl (Nat.le_of_ble_eq_true rfl) (Nat.le_of_ble_eq_true rfl) (s_leastNumbers h5) ?_
        refine g_cmp hT rfl (fun cq2 => ?_) (fun cq2 => ?_)
        · refine v_p hT rfl rfl ?_
          refine v_getr hT rfl rfl (by omega) rfl ?_
          refine v_p hT rfl rfl ?_
          refine v_geti hT rfl (by first | rfl | assumption) (by omega) ?_
          rw [r1]
          refine v_p hT rfl rfl ?_
          refine v_geti hT rfl (by first | rfl | assumption) (by omega) ?_
          rw [r3]
          refine v_ast hT rfl rfl (by omega) (by decide) (by omega) ?_
          refine v_p hT rfl rfl ?_
          refine v_geti hT rfl (by first | rfl | assumption) (by omega) ?_
          rw [hset_ne (by omega), r1]
          refine v_p hT rfl rfl ?_
          rw [nI_add]
          refine v_puti hT rfl rfl (by omega) (fun z => by cases z) ?_
          refine v_p hT rfl rfl ?_
          refine v_getr hT rfl rfl (by omega) rfl ?_
          refine v_p hT rfl rfl ?_
          refine v_geti hT rfl (by first | rfl | assumption) (by omega) ?_
          rw [hs_s]
          simp only [upd, if_pos]
          refine v_p hT rfl rfl ?_
          refine v_geti hT rfl (by first | rfl | assumption) (by omega) ?_
          rw [hs_s]
          simp only [upd, if_neg (show (6 : Nat) ≠ 5 by omega)]
          rw [hset_ne (by omega), r2]
          refine v_ast hT rfl rfl (by omega) (by decide) (by omega) ?_
          refine v_p hT rfl rfl ?_
          refine v_puti hT rfl rfl (by omega) (fun z => by cases z) ?_
          refine v_p hT rfl rfl ?_
          refine v_ret hT rfl (fun _ => Or.inr rfl) rfl ⟨rfl, rfl⟩
        · have cq2 := (not_congr (cj_ge (by omega) (by omega))).mp cq2
          omega
    · rw [if_neg c8] at z
      cases z
      refine ⟨?_, ?_, ?_, ?_, fun k hk => ?_, fun k hk => ?_, fun k hk => ?_⟩
      · simp [hset, upd]
      · simp [hset, upd]; exact r2
      · simp [hset, upd]
      · simp [hset, upd]; exact r4
      · rw [hset_ne (by omega), hset_ne (by omega), hset_ne (by omega), hs_s]
        have hk : k < qNo Q + 1 := hk
        show upd _ _ _ k = nI (updN (qKs Q) (qNo Q) (qKd Q) k)
        unfold upd updN
        by_cases hkk : k = qNo Q
        · rw [if_pos hkk, if_pos hkk]
        · rw [if_neg hkk, if_neg hkk]; exact r5 k (by omega)
      · rw [hset_ne (by omega), hs_s]
        have hk : k ≤ qNo Q + 1 := hk
        show upd _ _ _ k = nI (updN (qFr Q) (qNo Q + 1) (qNn Q) k)
        unfold upd updN
        by_cases hkk : k = qNo Q + 1
        · rw [if_pos hkk, if_pos hkk]
        · rw [if_neg hkk, if_neg hkk, hset_ne (by omega), hset_ne (by omega)]; exact r6 k (by omega)
      · rw [hset_ne (by omega), hset_ne (by omega), hset_ne (by omega), hset_ne (by omega)]; exact r7 k hk
end
section
/-! THE CLASS: the script's reading. -/
theorem s_takeFigure {n v : Nat} {kf : Nat → Nat} {f : Nat → Nat → Int32} {Q : QS} {i : Nat} (hR : qR f Q) (hI : qI Q i) (hi : i < 120) :
    ∃ f2, Run n_X4_takeFigure 110 0 (ini n_X4_takeFigure [.ref 75, .int (nI v)]) [] (HH n kf f) (Ret (some (.int (bI (qFig Q v).isSome))) (HH n kf f2)) ∧ (∀ Q', qFig Q v = some Q' → qR f2 Q') ∧ scF f f2 := by
  have hT : mT n_X4_takeFigure = tb_X4_takeFigure := rfl
  have hno := s_numbersOfOrder (n := n) (kf := kf) hR hI (by omega)
  obtain ⟨r1, r2, r3, r4, r5, r6, r7⟩ := hR
  obtain ⟨h1, h2, h3, h4, h5, h6⟩ := hI
  have hm : mostN (qKd Q) < 2 ^ 31 := by rcases mostN_or (qKd Q) with e | e | e | e | e <;> omega
  unfold qFig
  by_cases c5 : qKd Q = 0 ∨ 2 ≤ qFg Q
  · refine ⟨f, ?_, fun Q' z => ?_, fun _ _ _ _ _ => rfl, rfl⟩
    · rw [if_pos c5]
      refine v_p hT rfl rfl ?_
      refine v_geti hT rfl (by first | rfl | assumption) (by omega) ?_
      rw [r3]
      refine g_if hT rfl (fun cq => ?_) (fun cq => ?_)
      · refine v_p hT rfl rfl ?_
        refine v_ret hT rfl (fun _ => Or.inl rfl) rfl ⟨rfl, rfl⟩
      · have cq := (not_congr (cj_eq (b := 0) (by omega) (by omega))).mp cq
        refine v_p hT rfl rfl ?_
        refine v_geti hT rfl (by first | rfl | assumption) (by omega) ?_
        rw [r4]
        refine v_p hT rfl rfl ?_
        refine g_cmp hT rfl (fun cq2 => ?_) (fun cq2 => ?_)
        · have cq2 := (cj_lt (by omega) (by omega)).mp cq2
          omega
        · refine v_p hT rfl rfl ?_
          refine v_ret hT rfl (fun _ => Or.inl rfl) rfl ⟨rfl, rfl⟩
    · rw [if_pos c5] at z; cases z
  · rw [if_neg c5]
    have start : ∀ Φ, Run n_X4_takeFigure 110 22 [some (.ref 75), some (.int (nI v))] [.int (nI 1), .int (nI (qFg Q))] (HH n kf f) Φ → Run n_X4_takeFigure 110 0 (ini n_X4_takeFigure [.ref 75, .int (nI v)]) [] (HH n kf f) Φ := by
      intro Φ hΦ
      refine v_p hT rfl rfl ?_
      refine v_geti hT rfl (by first | rfl | assumption) (by omega) ?_
      rw [r3]
      refine g_if hT rfl (fun cq => ?_) (fun cq => ?_)
      · have cq := (cj_eq (b := 0) (by omega) (by omega)).mp cq
        omega
      · refine v_p hT rfl rfl ?_
        refine v_geti hT rfl (by first | rfl | assumption) (by omega) ?_
        rw [r4]
        refine v_p hT rfl rfl ?_
        refine g_cmp hT rfl (fun cq2 => ?_) (fun cq2 => ?_)
        · refine v_p hT rfl rfl ?_
          refine v_geti hT rfl (by first | rfl | assumption) (by omega) ?_
          rw [r4]
          refine v_p hT rfl rfl ?_
          exact hΦ
        · have cq2 := (not_congr (cj_lt (by omega) (by omega))).mp cq2
          omega
    by_cases c6 : qFg Q = 1
    · have h7 := h4 c6 (fun z => c5 (Or.inl z))
      refine ⟨hset (hset f 79 (qNn Q - 1) (nI (qNm Q (qNn Q - 1) * 10 + v))) 75 8 (nI 2), start _ ?_, fun Q' z => ?_, fun c x1 x2 x3 x4 => by rw [hset_ne x1, hset_ne x4], by simp [hset, upd]⟩
      · rw [if_pos c6]
        refine g_cmp hT rfl (fun cq => ?_) (fun cq => ?_)
        · have cq := (cj_ne (by omega) (by omega)).mp cq
          omega
        · refine v_p hT rfl rfl ?_
          refine v_getr hT rfl rfl (by omega) rfl ?_
          refine v_p hT rfl rfl ?_
          refine v_geti hT rfl (by first | rfl | assumption) (by omega) ?_
          rw [r2]
          refine v_p hT rfl rfl ?_
          refine v_getr hT rfl rfl (by omega) rfl ?_
          refine v_p hT rfl rfl ?_
          refine v_geti hT rfl (by first | rfl | assumption) (by omega) ?_
          rw [r2]
          refine v_p hT rfl rfl ?_
          rw [pk_sub (show 1 ≤ qNn Q by omega)]
          refine v_ald hT rfl (by first | assumption | rfl) (by omega) (by decide) (by omega) ?_
          rw [r7 _ (by omega)]
          refine v_p hT rfl rfl ?_
          rw [pk_mul, nI_add]
          refine v_ast hT rfl rfl (by omega) (by decide) (by omega) ?_
          refine v_p hT rfl rfl ?_
          refine v_puti hT rfl rfl (by omega) (fun z => by cases z) ?_
          refine v_p hT rfl rfl ?_
          refine v_ret hT rfl (fun _ => Or.inr rfl) rfl ⟨rfl, rfl⟩
      · rw [if_pos c6] at z
        cases z
        refine ⟨?_, ?_, ?_, ?_, fun k hk => ?_, fun k hk => ?_, fun k hk => ?_⟩
        · simp [hset, upd]; exact r1
        · simp [hset, upd]; exact r2
        · simp [hset, upd]; exact r3
        · simp [hset, upd]
        · rw [hset_ne (by omega), hset_ne (by omega)]; exact r5 k hk
        · rw [hset_ne (by omega), hset_ne (by omega)]; exact r6 k hk
        · rw [hset_ne (by omega), hs_s]
          show upd _ _ _ k = nI (updN (qNm Q) (qNn Q - 1) (qNm Q (qNn Q - 1) * 10 + v) k)
          unfold upd updN
          by_cases hkk : k = qNn Q - 1
          · rw [if_pos hkk, if_pos hkk]
          · rw [if_neg hkk, if_neg hkk]; exact r7 k hk
    · rw [if_neg c6]
      have start2 : ∀ Φ, Run n_X4_takeFigure 110 70 [some (.ref 75), some (.int (nI v))] [.int (nI (mostN (qKd Q))), .int (nI (qNn Q - qFr Q (qNo Q)))] (HH n kf f) Φ → Run n_X4_takeFigure 110 22 [some (.ref 75), some (.int (nI v))] [.int (nI 1), .int (nI (qFg Q))] (HH n kf f) Φ := by
        intro Φ hΦ
        refine g_cmp hT rfl (fun cq => ?_) (fun cq => ?_)
        · refine v_p hT rfl rfl ?_
          refine v_call hT [] rfl rfl (by first | rfl | assumption) (by omega) rfl rfl (Nat.le_of_ble_eq_true rfl) (Nat.le_of_ble_eq_true rfl) (hno) ?_
          refine v_p hT rfl rfl ?_
          refine v_geti hT rfl (by first | rfl | assumption) (by omega) ?_
          rw [r3]
          refine v_scall hT [.int (nI (qKd Q))] rfl rfl rfl rfl (Nat.le_of_ble_eq_true rfl) (Nat.le_of_ble_eq_true rfl) (s_mostNumbers h5) ?_
          exact hΦ
        · have cq := Classical.not_not.mp ((not_congr (cj_ne (by omega) (by omega))).mp cq)
          omega
      by_cases c7 : mostN (qKd Q) ≤ qNn Q - qFr Q (qNo Q)
      · refine ⟨f, start _ (start2 _ ?_), fun Q' z => ?_, fun _ _ _ _ _ => rfl, rfl⟩
        · rw [if_pos c7]
          refine g_cmp hT rfl (fun cq => ?_) (fun cq => ?_)
          · have cq := (cj_lt (by omega) (by omega)).mp cq
            omega
          · refine v_p hT rfl rfl ?_
            refine v_ret hT rfl (fun _ => Or.inl rfl) rfl ⟨rfl, rfl⟩
        · rw [if_pos c7] at z; cases z
      · refine ⟨hset (hset (hset f 79 (qNn Q) (nI v)) 75 6 (nI (qNn Q + 1))) 75 8 (nI 1), start _ (start2 _ ?_), fun Q' z => ?_, fun c x1 x2 x3 x4 => by rw [hset_ne x1, hset_ne x1, hset_ne x4], by simp [hset, upd]⟩
        · rw [if_neg c7]
          refine g_cmp hT rfl (fun cq => ?_) (fun cq => ?_)
          · refine v_p hT rfl rfl ?_
            refine v_getr hT rfl rfl (by omega) rfl ?_
            refine v_p hT rfl rfl ?_
            refine v_geti hT rfl (by first | rfl | assumption) (by omega) ?_
            rw [r2]
            refine v_p hT rfl rfl ?_
            refine v_ast hT rfl rfl (by omega) (by decide) (by omega) ?_
            refine v_p hT rfl rfl ?_
            refine v_geti hT rfl (by first | rfl | assumption) (by omega) ?_
            rw [hset_ne (by omega), r2]
            refine v_p hT rfl rfl ?_
            rw [nI_add]
            refine v_puti hT rfl rfl (by omega) (fun z => by cases z) ?_
            refine v_p hT rfl rfl ?_
            refine v_puti hT rfl rfl (by omega) (fun z => by cases z) ?_
            refine v_p hT rfl rfl ?_
            refine v_ret hT rfl (fun _ => Or.inr rfl) rfl ⟨rfl, rfl⟩
          · have cq := (not_congr (cj_lt (by omega) (by omega))).mp cq
            omega
        · rw [if_neg c7] at z
          cases z
          refine ⟨?_, ?_, ?_, ?_, fun k hk => ?_, fun k hk => ?_, fun k hk => ?_⟩
          · simp [hset, upd]; exact r1
          · simp [hset, upd]
          · simp [hset, upd]; exact r3
          · simp [hset, upd]
          · rw [hset_ne (by omega), hset_ne (by omega), hset_ne (by omega)]; exact r5 k hk
          · rw [hset_ne (by omega), hset_ne (by omega), hset_ne (by omega)]; exact r6 k hk
          · rw [hset_ne (by omega), hset_ne (by omega), hs_s]
            have hk : k < qNn Q + 1 := hk
            show upd _ _ _ k = nI (updN (qNm Q) (qNn Q) v k)
            unfold upd updN
            by_cases hkk : k = qNn Q
            · rw [if_pos hkk, if_pos hkk]
            · rw [if_neg hkk, if_neg hkk]; exact r7 k (by omega)
theorem dig_in {c : Nat} (hc : c < 128) : (decide (nI 48 ≤ nI c ∧ nI c ≤ nI 57)) = decide (48 ≤ c ∧ c ≤ 57) := by
  have h1 : nI 48 ≤ nI c ↔ 48 ≤ c := cj_le (a := 48) (b := c) (by omega) (by omega)
  have h2 : nI c ≤ nI 57 ↔ c ≤ 57 := cj_le (a := c) (b := 57) (by omega) (by omega)
  by_cases h : 48 ≤ c ∧ c ≤ 57
  · rw [decide_eq_true h, decide_eq_true ⟨h1.mpr h.1, h2.mpr h.2⟩]
  · rw [decide_eq_false h, decide_eq_false (fun z => h ⟨h1.mp z.1, h2.mp z.2⟩)]
theorem s_accepts {n c : Nat} {kf : Nat → Nat} {f : Nat → Nat → Int32} {Q : QS} {i : Nat} (hR : qR f Q) (hI : qI Q i) (hi : i < 120) (hc : c < 128) :
    ∃ f2, Run n_X4_accepts 110 0 (ini n_X4_accepts [.ref 75, .int (nI c)]) [] (HH n kf f) (Ret (some (.int (bI (qStep Q c).isSome))) (HH n kf f2)) ∧ (∀ Q', qStep Q c = some Q' → qR f2 Q') ∧ scF f f2 := by
  have hT : mT n_X4_accepts = tb_X4_accepts := rfl
  unfold qStep
  by_cases c1 : c = 32
  · rw [if_pos c1]
    refine ⟨hset f 75 8 (nI 0), ?_, fun Q' z => ?_, fun c x1 x2 x3 x4 => by rw [hset_ne x1], by simp [hset, upd]⟩
    · refine v_p hT rfl rfl ?_
      refine g_cmp hT rfl (fun cq => ?_) (fun cq => ?_)
      · exact absurd c1 ((cj_ne (by omega) (by omega)).mp cq)
      · refine v_p hT rfl rfl ?_
        refine v_puti hT rfl rfl (by omega) (fun z => by cases z) ?_
        refine v_p hT rfl rfl ?_
        refine v_ret hT rfl (fun _ => Or.inr rfl) rfl ⟨rfl, rfl⟩
    · cases z
      obtain ⟨r1, r2, r3, r4, r5, r6, r7⟩ := hR
      refine ⟨?_, ?_, ?_, ?_, fun k hk => ?_, fun k hk => ?_, fun k hk => ?_⟩
      · simp [hset, upd]; exact r1
      · simp [hset, upd]; exact r2
      · simp [hset, upd]; exact r3
      · simp [hset, upd, qSp]
      · rw [hset_ne (by omega)]; exact r5 k hk
      · rw [hset_ne (by omega)]; exact r6 k hk
      · rw [hset_ne (by omega)]; exact r7 k hk
  · rw [if_neg c1]
    by_cases c2 : c = 59
    · rw [if_pos c2]
      obtain ⟨f2, e1, e2, e3⟩ := s_endOrder (n := n) (kf := kf) hR hI hi
      refine ⟨f2, ?_, e2, e3⟩
      refine v_p hT rfl rfl ?_
      refine g_cmp hT rfl (fun cq => ?_) (fun cq => ?_)
      · refine v_p hT rfl rfl ?_
        refine g_cmp hT rfl (fun cq2 => ?_) (fun cq2 => ?_)
        · exact absurd c2 ((cj_ne (by omega) (by omega)).mp cq2)
        · refine v_p hT rfl rfl ?_
          refine v_call hT [] rfl rfl (by first | rfl | assumption) (by omega) rfl rfl (Nat.le_of_ble_eq_true rfl) (Nat.le_of_ble_eq_true rfl) (e1) ?_
          refine v_ret hT rfl (fun _ => bI_or _) rfl ⟨rfl, rfl⟩
      · exact absurd (Classical.not_not.mp ((not_congr (cj_ne (by omega) (by omega))).mp cq)) c1
    · rw [if_neg c2]
      have start : ∀ Φ, Run n_X4_accepts 110 32 [some (.ref 75), some (.int (nI c))] [.int (bI (decide (48 ≤ c ∧ c ≤ 57)))] (HH n kf f) Φ → Run n_X4_accepts 110 0 (ini n_X4_accepts [.ref 75, .int (nI c)]) [] (HH n kf f) Φ := by
        intro Φ hΦ
        refine v_p hT rfl rfl ?_
        refine g_cmp hT rfl (fun cq => ?_) (fun cq => ?_)
        · refine v_p hT rfl rfl ?_
          refine g_cmp hT rfl (fun cq2 => ?_) (fun cq2 => ?_)
          · refine v_p hT rfl rfl ?_
            refine v_scall hT [.int (nI c), .int (nI 48), .int (nI 57)] rfl rfl rfl rfl (Nat.le_of_ble_eq_true rfl) (Nat.le_of_ble_eq_true rfl) (s_within (nI c) (nI 48) (nI 57)) ?_
            rw [dig_in hc]
            exact hΦ
          · exact absurd (Classical.not_not.mp ((not_congr (cj_ne (by omega) (by omega))).mp cq2)) c2
        · exact absurd (Classical.not_not.mp ((not_congr (cj_ne (by omega) (by omega))).mp cq)) c1
      by_cases c4 : 48 ≤ c ∧ c ≤ 57
      · rw [if_pos c4]
        obtain ⟨f2, e1, e2, e3⟩ := s_takeFigure (n := n) (kf := kf) (v := c - 48) hR hI hi
        refine ⟨f2, start _ ?_, e2, e3⟩
        refine g_if hT rfl (fun cq => ?_) (fun cq => ?_)
        · have cq := bf_of cq
          rw [decide_eq_true c4] at cq
          cases cq
        · refine v_p hT rfl rfl ?_
          rw [pk_sub c4.1]
          refine v_call hT [.int (nI (c - 48))] rfl rfl (by first | rfl | assumption) (by omega) rfl rfl (Nat.le_of_ble_eq_true rfl) (Nat.le_of_ble_eq_true rfl) (e1) ?_
          refine v_ret hT rfl (fun _ => bI_or _) rfl ⟨rfl, rfl⟩
      · rw [if_neg c4]
        obtain ⟨f2, e1, e2, e3⟩ := s_beginOrder (n := n) (kf := kf) hR hI hc
        refine ⟨f2, start _ ?_, e2, e3⟩
        refine g_if hT rfl (fun cq => ?_) (fun cq => ?_)
        · refine v_p hT rfl rfl ?_
          refine v_call hT [.int (nI c)] rfl rfl (by first | rfl | assumption) (by omega) rfl rfl (Nat.le_of_ble_eq_true rfl) (Nat.le_of_ble_eq_true rfl) (e1) ?_
          refine v_ret hT rfl (fun _ => bI_or _) rfl ⟨rfl, rfl⟩
        · have cq := bt_of cq
          rw [decide_eq_false c4] at cq
          cases cq
/-- the text: its length and its bytes -/
abbrev TX : Type := Nat × (Nat → Nat)
def VT (t : TX) : Prop := t.1 ≤ 120 ∧ ∀ k, k < t.1 → t.2 k < 128
/-- the reading from i on: a fault's place, or all that was read -/
def scan (t : TX) : Nat → Nat → QS → Nat × Option QS
  | 0, _, Q => if ¬ qKd Q = 0 ∨ qNo Q = 0 then (t.1, none) else (t.1, some Q)
  | d + 1, i, Q => match qStep Q (t.2 i) with
    | none => (i, none)
    | some Q' => scan t d (i + 1) Q'
def Q0 : QS := (0, 0, 0, 0, fun _ => 0, fun _ => 0, fun _ => 0)
def readF (t : TX) : Nat × Option QS := scan t t.1 0 Q0
def txR (f : Nat → Nat → Int32) (t : TX) : Prop := f 75 1 = nI t.1 ∧ ∀ k, k < t.1 → f 76 k = nI (t.2 k)
theorem s_read {n : Nat} {kf : Nat → Nat} {f : Nat → Nat → Int32} {t : TX} (hV : VT t) (hR : txR f t) :
    ∃ f2, Run n_X4_read 110 0 (ini n_X4_read [.ref 75]) [] (HH n kf f) (Ret (some (.int (bif (readF t).2.isSome then mI 1 else nI (readF t).1))) (HH n kf f2)) ∧ (∀ Q, (readF t).2 = some Q → qR f2 Q) ∧ scF f f2 := by
  have hT : mT n_X4_read = tb_X4_read := rfl
  obtain ⟨v1, v2⟩ := hV
  obtain ⟨t1, t2⟩ := hR
  have loop : ∀ d i, i + d = t.1 → ∀ (F : Nat → Nat → Int32) (Q : QS), scF f F → qR F Q → qI Q i →
      ∃ f2, Run n_X4_read 110 34 [some (.ref 75), some (.int (nI i))] [.int (nI t.1), .int (nI i)] (HH n kf F) (Ret (some (.int (bif (scan t d i Q).2.isSome then mI 1 else nI (scan t d i Q).1))) (HH n kf f2)) ∧ (∀ Q2, (scan t d i Q).2 = some Q2 → qR f2 Q2) ∧ scF f f2 := by
    intro d
    induction d with
    | zero =>
      intro i hi F Q hF hQ hI
      have hno := hI.1
      have hkd := hI.2.2.2.2.1
      have h75 : F 75 1 = nI t.1 := by rw [hF.2, t1]
      refine ⟨F, ?_, fun Q2 z => ?_, hF⟩
      · show Run _ _ _ _ _ _ (Ret (some (.int (bif (if ¬ qKd Q = 0 ∨ qNo Q = 0 then (t.1, none) else (t.1, some Q) : Nat × Option QS).2.isSome then mI 1 else nI (if ¬ qKd Q = 0 ∨ qNo Q = 0 then (t.1, none) else (t.1, some Q) : Nat × Option QS).1))) _)
        refine g_cmp hT rfl (fun cq => ?_) (fun cq => ?_)
        · refine v_p hT rfl rfl ?_
          refine v_geti hT rfl (by first | rfl | assumption) (by omega) ?_
          rw [hQ.2.2.1]
          refine g_if hT rfl (fun cq2 => ?_) (fun cq2 => ?_)
          · have cq2 := (cj_ne (b := 0) (by omega) (by omega)).mp cq2
            rw [if_pos (Or.inl cq2)]
            refine v_p hT rfl rfl ?_
            refine v_geti hT rfl (by first | rfl | assumption) (by omega) ?_
            rw [h75]
            refine v_p hT rfl rfl ?_
            refine v_ret hT rfl (fun z => by cases z) rfl ⟨rfl, rfl⟩
          · have cq2 := Classical.not_not.mp ((not_congr (cj_ne (b := 0) (by omega) (by omega))).mp cq2)
            refine v_p hT rfl rfl ?_
            refine v_geti hT rfl (by first | rfl | assumption) (by omega) ?_
            rw [hQ.1]
            refine g_if hT rfl (fun cq3 => ?_) (fun cq3 => ?_)
            · have cq3 := (cj_ne (b := 0) (by omega) (by omega)).mp cq3
              rw [if_neg (by omega)]
              refine v_p hT rfl rfl ?_
              refine v_ret hT rfl (fun z => by cases z) rfl ⟨rfl, rfl⟩
            · have cq3 := Classical.not_not.mp ((not_congr (cj_ne (b := 0) (by omega) (by omega))).mp cq3)
              rw [if_pos (Or.inr cq3)]
              refine v_p hT rfl rfl ?_
              refine v_geti hT rfl (by first | rfl | assumption) (by omega) ?_
              rw [h75]
              refine v_p hT rfl rfl ?_
              refine v_ret hT rfl (fun z => by cases z) rfl ⟨rfl, rfl⟩
        · exact absurd ((cj_ge (by omega) (by omega)).mpr (by omega)) cq
      · have z : (if ¬ qKd Q = 0 ∨ qNo Q = 0 then (t.1, none) else (t.1, some Q) : Nat × Option QS).2 = some Q2 := z
        by_cases hc : ¬ qKd Q = 0 ∨ qNo Q = 0
        · rw [if_pos hc] at z; cases z
        · rw [if_neg hc] at z; cases z; exact hQ
    | succ d ih =>
      intro i hi F Q hF hQ hI
      have h75 : F 75 1 = nI t.1 := by rw [hF.2, t1]
      have h76 : F 76 i = nI (t.2 i) := by rw [hF.1 76 (by omega) (by omega) (by omega) (by omega)]; exact t2 i (by omega)
      obtain ⟨g, e1, e2, e3⟩ := s_accepts (n := n) (kf := kf) (c := t.2 i) hQ hI (by omega) (v2 i (by omega))
      have hg : scF f g := ⟨fun c x1 x2 x3 x4 => by rw [e3.1 c x1 x2 x3 x4, hF.1 c x1 x2 x3 x4], by rw [e3.2, hF.2]⟩
      have start : ∀ Φ, Run n_X4_read 110 47 [some (.ref 75), some (.int (nI i))] [.int (bI (qStep Q (t.2 i)).isSome)] (HH n kf g) Φ → Run n_X4_read 110 34 [some (.ref 75), some (.int (nI i))] [.int (nI t.1), .int (nI i)] (HH n kf F) Φ := by
        intro Φ hΦ
        refine g_cmp hT rfl (fun cq => ?_) (fun cq => ?_)
        · exact absurd ((cj_ge (by omega) (by omega)).mp cq) (by omega)
        · refine v_p hT rfl rfl ?_
          refine v_getr hT rfl rfl (by omega) rfl ?_
          refine v_p hT rfl rfl ?_
          refine v_bld hT rfl (by first | assumption | rfl) (by decide) (by omega) (by decide) (by omega) ?_
          rw [h76]
          refine v_call hT [.int (nI (t.2 i))] rfl rfl (by first | rfl | assumption) (by omega) rfl rfl (Nat.le_of_ble_eq_true rfl) (Nat.le_of_ble_eq_true rfl) (e1) ?_
          exact hΦ
      have hsc : scan t (d + 1) i Q = match qStep Q (t.2 i) with | none => (i, none) | some Q' => scan t d (i + 1) Q' := rfl
      cases hst : qStep Q (t.2 i) with
      | none =>
        rw [hst] at hsc start
        rw [hsc]
        refine ⟨g, start _ ?_, (fun Q2 z => by cases z), hg⟩
        refine g_if hT rfl (fun cq => ?_) (fun cq => ?_)
        · exact absurd rfl cq
        · refine v_p hT rfl rfl ?_
          refine v_ret hT rfl (fun z => by cases z) rfl ⟨rfl, rfl⟩
      | some Q' =>
        rw [hst] at hsc start
        rw [hsc]
        obtain ⟨f2, g1, g2, g3⟩ := ih (i + 1) (by omega) g Q' hg (e2 Q' hst) (qI_step hI (v2 i (by omega)) hst)
        refine ⟨f2, start _ ?_, g2, g3⟩
        refine g_if hT rfl (fun cq => ?_) (fun cq => ?_)
        · refine v_p hT rfl rfl ?_
          refine v_geti hT rfl (by first | rfl | assumption) (by omega) ?_
          rw [hg.2, t1]
          refine v_cv g1 ⟨rfl, ?_, trivial⟩ ?_ rfl
          · rw [nI_add]
          · rw [nI_add]
        · exact absurd (show ¬ (1 : Int32) = 0 by decide) cq
  obtain ⟨f2, g1, g2, g3⟩ := loop t.1 0 (by omega) (hset (hset (hset (hset (hset f 75 5 (nI 0)) 75 6 (nI 0)) 75 7 (nI 0)) 75 8 (nI 0)) 78 0 (nI 0)) Q0 ⟨fun c x1 x2 x3 x4 => by rw [hset_ne x3, hset_ne x1, hset_ne x1, hset_ne x1, hset_ne x1], by simp [hset, upd]⟩ ⟨by simp [hset, upd, Q0], by simp [hset, upd, Q0], by simp [hset, upd, Q0], by simp [hset, upd, Q0], fun k hk => absurd hk (Nat.not_lt_zero _), fun k hk => by rw [Nat.le_zero.mp hk]; simp [hset, upd, Q0], fun k hk => absurd hk (Nat.not_lt_zero _)⟩ ⟨Nat.le_refl _, Nat.le_refl _, Nat.le_refl _, fun z => (by cases z), by show 0 < 128; omega, Nat.zero_le _⟩
  refine ⟨f2, ?_, g2, g3⟩
  refine v_p hT rfl rfl ?_
  refine v_puti hT rfl rfl (by omega) (fun z => by cases z) ?_
  refine v_p hT rfl rfl ?_
  refine v_puti hT rfl rfl (by omega) (fun z => by cases z) ?_
  refine v_p hT rfl rfl ?_
  refine v_puti hT rfl rfl (by omega) (fun z => by cases z) ?_
  refine v_p hT rfl rfl ?_
  refine v_puti hT rfl rfl (by omega) (fun z => by cases z) ?_
  refine v_p hT rfl rfl ?_
  refine v_getr hT rfl rfl (by omega) rfl ?_
  refine v_p hT rfl rfl ?_
  refine v_ast hT rfl rfl (by omega) (by decide) (by omega) ?_
  refine v_p hT rfl rfl ?_
  refine v_geti hT rfl (by first | rfl | assumption) (by omega) ?_
  rw [hset_ne (by omega)]
  have h75 : hset (hset (hset (hset f 75 5 (nI 0)) 75 6 (nI 0)) 75 7 (nI 0)) 75 8 (nI 0) 75 1 = nI t.1 := by simp [hset, upd]; exact t1
  rw [h75]
  exact g1
def tAdd (t : TX) (c : Nat) : TX := (t.1 + 1, fun k => if k = t.1 then c else t.2 k)
theorem nar_b : ∀ c, c < 128 → vp_nar .byte ((nI c).toInt8.toInt32) = nI c := by decide +kernel
theorem s_append {n c : Nat} {kf : Nat → Nat} {f : Nat → Nat → Int32} {t : TX} (hV : VT t) (hR : txR f t) (hc : c < 128) :
    ∃ f2, Run n_X4_append 110 0 (ini n_X4_append [.ref 75, .int (nI c)]) [] (HH n kf f) (Ret (some (.int (bI (decide (t.1 < 120))))) (HH n kf f2)) ∧ txR f2 (if t.1 < 120 then tAdd t c else t) ∧ ∀ c, c ≠ 75 → c ≠ 76 → f2 c = f c := by
  have hT : mT n_X4_append = tb_X4_append := rfl
  obtain ⟨v1, v2⟩ := hV
  obtain ⟨t1, t2⟩ := hR
  by_cases h : t.1 < 120
  · rw [if_pos h, decide_eq_true h]
    refine ⟨hset (hset f 76 t.1 (nI c)) 75 1 (nI (t.1 + 1)), ?_, ⟨?_, fun k hk => ?_⟩, fun q x1 x2 => by rw [hset_ne x1, hset_ne x2]⟩
    · refine v_p hT rfl rfl ?_
      refine v_geti hT rfl (by first | rfl | assumption) (by omega) ?_
      rw [t1]
      refine v_p hT rfl rfl ?_
      refine g_cmp hT rfl (fun cq => ?_) (fun cq => ?_)
      · refine v_p hT rfl rfl ?_
        refine v_getr hT rfl rfl (by omega) rfl ?_
        refine v_p hT rfl rfl ?_
        refine v_geti hT rfl (by first | rfl | assumption) (by omega) ?_
        rw [t1]
        refine v_p hT rfl rfl ?_
        refine v_bst hT rfl rfl (by omega) (by omega) h ?_
        rw [nar_b c hc]
        refine v_p hT rfl rfl ?_
        refine v_geti hT rfl (by first | rfl | assumption) (by omega) ?_
        rw [hset_ne (by omega), t1]
        refine v_p hT rfl rfl ?_
        rw [nI_add]
        refine v_puti hT rfl rfl (by omega) (fun z => by cases z) ?_
        refine v_p hT rfl rfl ?_
        refine v_ret hT rfl (fun _ => Or.inr rfl) rfl ⟨rfl, rfl⟩
      · exact absurd ((cj_lt (by omega) (by omega)).mpr h) cq
    · rw [hs_s]; simp [upd, tAdd]
    · rw [hset_ne (by omega), hs_s]
      have hk : k < t.1 + 1 := hk
      show upd _ _ _ k = nI (if k = t.1 then c else t.2 k)
      unfold upd
      by_cases hkk : k = t.1
      · rw [if_pos hkk, if_pos hkk]
      · rw [if_neg hkk, if_neg hkk]; exact t2 k (by omega)
  · rw [if_neg h, decide_eq_false h]
    refine ⟨f, ?_, ⟨t1, t2⟩, fun _ _ _ => rfl⟩
    refine v_p hT rfl rfl ?_
    refine v_geti hT rfl (by first | rfl | assumption) (by omega) ?_
    rw [t1]
    refine v_p hT rfl rfl ?_
    refine g_cmp hT rfl (fun cq => ?_) (fun cq => ?_)
    · exact absurd ((cj_lt (by omega) (by omega)).mp cq) h
    · refine v_p hT rfl rfl ?_
      refine v_ret hT rfl (fun _ => Or.inl rfl) rfl ⟨rfl, rfl⟩
end
section
/-! The state of all, and that changes keep it sound. -/
theorem linF_cg {B C : BK} {s p : Nat} (h1 : bWd C s = bWd B s) (h2 : bNw C s p = bNw B s p) (h3 : bLn C s p = bLn B s p) : linF C s p = linF B s p := by
  unfold linF
  rw [h1, h2, h3]
theorem fstF_cg {B C : BK} {s : Nat} : ∀ p, (∀ q, q < p → linF C s q = linF B s q) → fstF C s p = fstF B s p := by
  intro p
  induction p with
  | zero => intro _; rfl
  | succ p ih =>
    intro h
    show fstF C s p + linF C s p = fstF B s p + linF B s p
    rw [ih (fun q hq => h q (by omega)), h p (by omega)]
theorem totF_cg {B C : BK} {s : Nat} (h0 : bNp C s = bNp B s) (h : ∀ q, q < bNp B s → linF C s q = linF B s q) : totF C s = totF B s := by
  unfold totF
  rw [h0]
  exact fstF_cg _ h
theorem VB_set {B : BK} (hV : VB B) {i v : Nat} (h1 : seLo i ≤ v) (h2 : v ≤ seHi i) : VB (bSetTo B i v) := ⟨VB0_set hV.1 h1 h2, fun s hs => by rw [show totF (bSetTo B i v) s = totF B s from totF_cg rfl (fun _ _ => linF_cg rfl rfl rfl)]; exact hV.2 s hs⟩
theorem VB_wid {B : BK} (hV : VB B) {s v : Nat} (h1 : 9 ≤ v) (h2 : v ≤ 40) (ht : totF (bWidTo B s v) s ≤ 60) : VB (bWidTo B s v) := ⟨VB0_wid hV.1 h1 h2, fun z hz => by
  by_cases e : z = s
  · rw [e]; exact ht
  · rw [show totF (bWidTo B s v) z = totF B z from totF_cg rfl (fun _ _ => linF_cg (by show (if z = s then v else bWd B z) = bWd B z; rw [if_neg e]) rfl rfl)]
    exact hV.2 z hz⟩
theorem VB_add {B : BK} (hV : VB B) {s n : Nat} {l : Nat → Nat} (hs : bNp B s < 8) (h1 : 1 ≤ n) (h12 : n ≤ 12) (hl : ∀ k, k < n → 1 ≤ l k ∧ l k ≤ 9) (ht : totF (bParAdd B s n l) s ≤ 60) : VB (bParAdd B s n l) := ⟨VB0_add hV.1 hs h1 h12 hl, fun z hz => by
  by_cases e : z = s
  · rw [e]; exact ht
  · have h5 : totF (bParAdd B s n l) z = totF B z := by
      unfold totF
      rw [show bNp (bParAdd B s n l) z = bNp B z by show (if z = s then bNp B s + 1 else bNp B z) = bNp B z; rw [if_neg e]]
      exact fstF_add_old _ (fun h => absurd h e)
    rw [h5]
    exact hV.2 z hz⟩
theorem VB_tieAdd {B : BK} (hV : VB B) {p q w : Nat} (hp : p < bNp B 0) (hq : q < bNp B 1) (h1 : 1 ≤ w) (h9 : w ≤ 9) (hn : bNt B < 10) : VB (bTieAdd B p q w) := by
  obtain ⟨⟨a1, a2, a3, a4, a5, a6⟩, a7⟩ := hV
  refine ⟨⟨a1, a2, a3, a4, by show bNt B + 1 ≤ 10; omega, fun i hi => ?_⟩, fun s hs => by rw [show totF (bTieAdd B p q w) s = totF B s from totF_cg rfl (fun _ _ => linF_cg rfl rfl rfl)]; exact a7 s hs⟩
  have hi : i < bNt B + 1 := hi
  by_cases e : i = bNt B
  · subst e
    simp only [bTieAdd, bTi, if_pos]
    exact ⟨hp, hq, h1, h9⟩
  · have := a6 i (by omega)
    simp only [bTieAdd, bTi, if_neg e]
    exact this
theorem VB_tieGo {B : BK} (hV : VB B) {i : Nat} (hi : i < bNt B) : VB (bTieGo B i) := by
  obtain ⟨⟨a1, a2, a3, a4, a5, a6⟩, a7⟩ := hV
  refine ⟨⟨a1, a2, a3, a4, by show bNt B - 1 ≤ 10; omega, fun j hj => ?_⟩, fun s hs => by rw [show totF (bTieGo B i) s = totF B s from totF_cg rfl (fun _ _ => linF_cg rfl rfl rfl)]; exact a7 s hs⟩
  have hj : j < bNt B - 1 := hj
  by_cases e : j < i
  · have := a6 j (by omega)
    simp only [bTieGo, bTi, if_pos e]
    exact this
  · have := a6 (j + 1) (by omega)
    simp only [bTieGo, bTi, if_neg e]
    exact this
def tVal (m0 m1 : Nat) (t : Nat → Nat → Nat) (i : Nat) : Prop := t 0 i < m0 ∧ t 1 i < m1 ∧ 1 ≤ t 2 i ∧ t 2 i ≤ 9
def lss (z y m : Nat) : Nat := if y = z then m - 1 else m
theorem tsOf_ok {z p m0 m1 : Nat} (hz : z < 2) (hp : p < (if z = 0 then m0 else m1)) : ∀ j (t : TS), j ≤ t.1 → (∀ i, i < j → tVal m0 m1 t.2 i) → (∀ i, j ≤ i → i < t.1 → tVal (lss z 0 m0) (lss z 1 m1) t.2 i) → (tsOf z p j t).1 ≤ t.1 ∧ ∀ i, i < (tsOf z p j t).1 → tVal (lss z 0 m0) (lss z 1 m1) (tsOf z p j t).2 i := by
  intro j
  induction j with
  | zero => intro t _ _ h; exact ⟨Nat.le_refl _, fun i hi => h i (by omega) hi⟩
  | succ j ih =>
    intro t hj hold hnew
    have hlt : j < t.1 := by omega
    show (tsOf z p j (tsStep t z p j)).1 ≤ t.1 ∧ ∀ i, i < (tsOf z p j (tsStep t z p j)).1 → tVal (lss z 0 m0) (lss z 1 m1) (tsOf z p j (tsStep t z p j)).2 i
    unfold tsStep
    by_cases c1 : t.2 z j = p
    · rw [if_pos c1]
      have h := ih (tsGo t j) (by show j ≤ t.1 - 1; omega) (fun i hi => by
        have := hold i (by omega)
        unfold tVal tsGo
        simp only [if_pos hi]
        exact this) (fun i h1 h2 => by
        have h2 : i < t.1 - 1 := h2
        have := hnew (i + 1) (by omega) (by omega)
        unfold tVal tsGo
        simp only [if_neg (show ¬ i < j by omega)]
        exact this)
      refine ⟨Nat.le_trans h.1 (by show t.1 - 1 ≤ t.1; omega), h.2⟩
    · rw [if_neg c1]
      have hj0 := hold j (by omega)
      obtain ⟨x1, x2, x3, x4⟩ := id hj0
      by_cases c2 : p < t.2 z j
      · rw [if_pos c2]
        refine ih _ (by show j ≤ t.1; omega) (fun i hi => ?_) (fun i h1 h2 => ?_)
        · have := hold i (by omega)
          unfold tVal
          simp only [show ∀ y : Nat, ¬ (y = z ∧ i = j) from fun y q => by omega, if_false]
          exact this
        · by_cases e : i = j
          · subst e
            unfold tVal lss
            rcases (show z = 0 ∨ z = 1 by omega) with e0 | e0
            · subst e0
              simp only [and_self, if_true, and_true, show ¬ (1 : Nat) = 0 by omega, show ¬ (2 : Nat) = 0 by omega, if_false]
              omega
            · subst e0
              simp only [and_self, if_true, and_true, show ¬ (0 : Nat) = 1 by omega, show ¬ (2 : Nat) = 1 by omega, if_false]
              omega
          · have := hnew i (by omega) h2
            unfold tVal
            simp only [show ∀ y : Nat, ¬ (y = z ∧ i = j) from fun y q => by omega, if_false]
            exact this
      · rw [if_neg c2]
        refine ih t (by omega) (fun i hi => hold i (by omega)) (fun i h1 h2 => ?_)
        by_cases e : i = j
        · subst e
          unfold tVal lss
          rcases (show z = 0 ∨ z = 1 by omega) with e0 | e0
          · subst e0
            simp only [if_true, show ¬ (1 : Nat) = 0 by omega, if_false] at hp ⊢
            omega
          · subst e0
            simp only [if_true, show ¬ (0 : Nat) = 1 by omega, show ¬ (1 : Nat) = 0 by omega, if_false] at hp ⊢
            omega
        · exact hnew i (by omega) h2
theorem linF_parGo {B : BK} {s p z j : Nat} : linF (bParGo B s p) z j = linF B z (if z = s ∧ p ≤ j then j + 1 else j) := by
  unfold linF
  by_cases e : z = s ∧ p ≤ j
  · rw [if_pos e]
    simp only [bParGo, bNw, bLn, bWd, if_pos e]
  · rw [if_neg e]
    simp only [bParGo, bNw, bLn, bWd, if_neg e]
theorem fstF_parGo {B : BK} {s p : Nat} : ∀ j, fstF (bParGo B s p) s j ≤ fstF B s (j + 1) := by
  intro j
  induction j with
  | zero => exact Nat.zero_le _
  | succ j ih =>
    show fstF (bParGo B s p) s j + linF (bParGo B s p) s j ≤ fstF B s (j + 1) + linF B s (j + 1)
    by_cases e : p ≤ j
    · rw [linF_parGo, if_pos ⟨rfl, e⟩]; omega
    · have : ∀ i, i ≤ j → fstF (bParGo B s p) s i = fstF B s i := fun i hi => fstF_cg i (fun q hq => by rw [linF_parGo, if_neg (by omega)])
      rw [this j (Nat.le_refl _), linF_parGo, if_neg (by omega)]
      exact Nat.le_trans (Nat.le_refl (fstF B s (j + 1))) (Nat.le_add_right _ _)
theorem VB_drop {B : BK} (hV : VB B) {s p : Nat} (hs : s < 2) (hp : p < bNp B s) : VB (bWT (bParGo B s p) (tsOf s p (bNt B) (bT B))) ∧ (tsOf s p (bNt B) (bT B)).1 ≤ bNt B := by
  obtain ⟨⟨a1, a2, a3, a4, a5, a6⟩, a7⟩ := id hV
  have hts := tsOf_ok (z := s) (p := p) (m0 := bNp B 0) (m1 := bNp B 1) hs (by
    rcases (show s = 0 ∨ s = 1 by omega) with e0 | e0
    · subst e0; rw [if_pos rfl]; exact hp
    · subst e0; rw [if_neg (by omega)]; exact hp) (bNt B) (bT B) (Nat.le_refl _) (fun i hi => a6 i hi) (fun i h1 h2 => by have h2 : i < bNt B := h2; omega)
  refine ⟨⟨⟨fun z hz => ?_, fun z q hz hq => ?_, a3, a4, ?_, fun i hi => ?_⟩, fun z hz => ?_⟩, hts.1⟩
  · show (if z = s then bNp B s - 1 else bNp B z) ≤ 8
    have := a1 s hs
    have := a1 z hz
    split <;> omega
  · have hq : q < (if z = s then bNp B s - 1 else bNp B z) := hq
    by_cases e : z = s ∧ p ≤ q
    · rw [if_pos e.1] at hq
      have := a2 z (q + 1) hz (by rw [e.1]; omega)
      simp only [bWT, bParGo, bNw, bLn, if_pos e]
      exact this
    · have hq2 : q < bNp B z := by
        by_cases e2 : z = s
        · rw [if_pos e2] at hq; rw [e2]; omega
        · rw [if_neg e2] at hq; exact hq
      have := a2 z q hz hq2
      simp only [bWT, bParGo, bNw, bLn, if_neg e]
      exact this
  · exact Nat.le_trans hts.1 a5
  · have h5 := hts.2 i hi
    obtain ⟨y1, y2, y3, y4⟩ := h5
    refine ⟨?_, ?_, y3, y4⟩
    · show _ < (if 0 = s then bNp B s - 1 else bNp B 0)
      refine Nat.lt_of_lt_of_le y1 (Nat.le_of_eq ?_)
      unfold lss
      split
      · next h => subst h; rfl
      · rfl
    · show _ < (if 1 = s then bNp B s - 1 else bNp B 1)
      refine Nat.lt_of_lt_of_le y2 (Nat.le_of_eq ?_)
      unfold lss
      split
      · next h => subst h; rfl
      · rfl
  · have h6 : totF (bWT (bParGo B s p) (tsOf s p (bNt B) (bT B))) z = totF (bParGo B s p) z := totF_cg rfl (fun _ _ => linF_cg rfl rfl rfl)
    rw [h6]
    have h7 : totF (bParGo B s p) z ≤ totF B z := by
      by_cases e : z = s
      · subst e
        unfold totF
        rw [show bNp (bParGo B z p) z = bNp B z - 1 by show (if z = z then bNp B z - 1 else bNp B z) = _; rw [if_pos rfl]]
        have h8 := fstF_parGo (B := B) (s := z) (p := p) (bNp B z - 1)
        rw [show bNp B z - 1 + 1 = bNp B z by omega] at h8
        exact h8
      · refine Nat.le_of_eq (totF_cg ?_ (fun q _ => ?_))
        · show (if z = s then bNp B s - 1 else bNp B z) = _; rw [if_neg e]
        · rw [linF_parGo, if_neg (fun q => e q.1)]
    exact Nat.le_trans h7 (hV.2 z hz)
/-- answers as they come -/
def okA (x : Int32) : Prop := x = mI 2 ∨ x = mI 3 ∨ x = mI 4 ∨ ∃ k : Nat, k < 1000 ∧ x = nI k
theorem nI_tn {k : Nat} (h : k < 2 ^ 31) : (nI k).toNatClampNeg = k := by
  unfold nI
  rw [Int32.toNatClampNeg_ofNat_of_lt h]
theorem aTie_ok {B : BK} (hV : VB B) (p q w : Int32) : VB (aTie B p q w).2 ∧ okA (aTie B p q w).1 := by
  unfold aTie
  cases hc : (isPa B (nI 0) p && isPa B (nI 1) q && decide (nI 1 ≤ w ∧ w ≤ nI 9)) with
  | false => exact ⟨hV, Or.inl rfl⟩
  | true =>
    rw [Bool.and_eq_true, Bool.and_eq_true] at hc
    obtain ⟨⟨h1, h2⟩, h3⟩ := hc
    simp only [cond_true]
    cases hd : pB (∃ i, i < bNt B ∧ nI (bTi B 0 i) = p ∧ nI (bTi B 1 i) = q) with
    | true => exact ⟨hV, Or.inr (Or.inl rfl)⟩
    | false =>
      simp only [cond_false]
      by_cases ht : 10 ≤ bNt B
      · rw [decide_eq_true ht]; exact ⟨hV, Or.inr (Or.inr (Or.inl rfl))⟩
      · rw [decide_eq_false ht]
        obtain ⟨s0, p0, q1, q2, q3, q4⟩ := isPa_of h1
        obtain ⟨s1, p1, y1, y2, y3, y4⟩ := isPa_of h2
        obtain ⟨k, k1, k2, k3⟩ := in_range w (by omega) (of_decide_eq_true h3) (by omega)
        have e0 : s0 = 0 := by
          have : nI s0 = nI 0 := q3.symm
          exact (cj_eq (a := s0) (b := 0) (by omega) (by omega)).mp this
        have e1 : s1 = 1 := by
          have : nI s1 = nI 1 := y3.symm
          exact (cj_eq (a := s1) (b := 1) (by omega) (by omega)).mp this
        subst e0; subst e1
        have hn0 := hV.1.1 0 (by omega)
        have hn1 := hV.1.1 1 (by omega)
        refine ⟨?_, Or.inr (Or.inr (Or.inr ⟨bNt B, by omega, rfl⟩))⟩
        subst q4; subst y4; subst k3
        show VB (bTieAdd B _ _ _)
        rw [nI_tn (by omega), nI_tn (by omega), nI_tn (by omega)]
        exact VB_tieAdd hV q2 y2 k1 k2 (by omega)
theorem aWid_ok {B : BK} (hV : VB B) (s v : Int32) : VB (aWid B s v).2 ∧ okA (aWid B s v).1 := by
  unfold aWid
  cases hc : (decide (0 ≤ s ∧ s ≤ 1) && decide (nI 9 ≤ v ∧ v ≤ nI 40)) with
  | false => exact ⟨hV, Or.inl rfl⟩
  | true =>
    rw [Bool.and_eq_true] at hc
    obtain ⟨h1, h2⟩ := hc
    obtain ⟨k, k1, k2, k3⟩ := in_range v (by omega) (of_decide_eq_true h2) (by omega)
    simp only [cond_true]
    by_cases ht : 60 < totF (bWidTo B s.toNatClampNeg v.toNatClampNeg) s.toNatClampNeg
    · rw [decide_eq_true ht]; exact ⟨hV, Or.inr (Or.inr (Or.inl rfl))⟩
    · rw [decide_eq_false ht]
      have hs2 : s.toNatClampNeg < 2 := by
        rcases int_lo (of_decide_eq_true h1) with e | e
        · rw [e, nI_tn (by omega)]; omega
        · rw [e, nI_tn (by omega)]; omega
      have := (hV.1.2.2.1 _ hs2).2
      refine ⟨?_, Or.inr (Or.inr (Or.inr ⟨_, by omega, rfl⟩))⟩
      refine VB_wid hV ?_ ?_ (by omega)
      · rw [k3, nI_tn (by omega)]; omega
      · rw [k3, nI_tn (by omega)]; omega
theorem aSet_ok {B : BK} (hV : VB B) (w v : Int32) : VB (aSet B w v).2 ∧ okA (aSet B w v).1 := by
  unfold aSet
  cases hc : (decide (nI 0 ≤ w ∧ w ≤ nI 2) && decide (nI (seLo w.toNatClampNeg) ≤ v ∧ v ≤ nI (seHi w.toNatClampNeg))) with
  | false => exact ⟨hV, Or.inl rfl⟩
  | true =>
    rw [Bool.and_eq_true] at hc
    obtain ⟨h1, h2⟩ := hc
    have hh := seHi_le w.toNatClampNeg
    obtain ⟨k, k1, k2, k3⟩ := in_range v (by omega) (of_decide_eq_true h2) (seLo_hi _)
    obtain ⟨j, j1, j2, j3⟩ := in_range w (by omega) (of_decide_eq_true h1) (by omega)
    simp only [cond_true]
    have hw : w.toNatClampNeg = j := by rw [j3, nI_tn (by omega)]
    have hv : v.toNatClampNeg = k := by rw [k3, nI_tn (by omega)]
    have hse := hV.1.2.2.2.1
    refine ⟨?_, Or.inr (Or.inr (Or.inr ⟨_, ?_, rfl⟩))⟩
    · exact VB_set hV (by omega) (by omega)
    · rw [hw]
      rcases (show j = 0 ∨ j = 1 ∨ j = 2 by omega) with e | e | e <;> subst e <;> omega
theorem aDrop_ok {B : BK} (hV : VB B) (s p : Int32) : VB (aDrop B s p).2 ∧ okA (aDrop B s p).1 := by
  unfold aDrop
  cases hc : isPa B s p with
  | false => exact ⟨hV, Or.inl rfl⟩
  | true =>
    obtain ⟨s0, p0, q1, q2, q3, q4⟩ := isPa_of hc
    have hn := hV.1.1 s0 q1
    simp only [cond_true]
    subst q3; subst q4
    rw [nI_tn (by omega), nI_tn (by omega)]
    obtain ⟨x1, x2⟩ := VB_drop hV q1 q2
    have h10 := hV.1.2.2.2.2.1
    refine ⟨x1, Or.inr (Or.inr (Or.inr ⟨bNt B - (tsOf s0 p0 (bNt B) (bT B)).1, by omega, ?_⟩))⟩
    rw [pk_sub x2]
theorem aPar_ok {B : BK} (hV : VB B) {s n : Nat} (hs : s < 2) (h1 : 1 ≤ n) (h12 : n ≤ 12) (ws : Nat → Int32) : VB (aPar B s n ws).2 ∧ okA (aPar B s n ws).1 := by
  unfold aPar
  cases hc : pB (∀ k, k < n → nI 1 ≤ ws k ∧ ws k ≤ nI 9) with
  | false => exact ⟨hV, Or.inl rfl⟩
  | true =>
    have hw := pB_of hc
    simp only [cond_true]
    cases hd : (decide (8 ≤ bNp B s) || decide (60 < totF (bParAdd B s n (fun k => (ws k).toNatClampNeg)) s)) with
    | true => exact ⟨hV, Or.inr (Or.inr (Or.inl rfl))⟩
    | false =>
      rw [Bool.or_eq_false_iff] at hd
      have d1 := of_decide_eq_false hd.1
      have d2 := of_decide_eq_false hd.2
      refine ⟨?_, Or.inr (Or.inr (Or.inr ⟨bNp B s, by omega, rfl⟩))⟩
      refine VB_add hV (by omega) h1 h12 (fun k hk => ?_) (by omega)
      obtain ⟨j, j1, j2, j3⟩ := in_range (ws k) (by omega) (hw k hk) (by omega)
      rw [j3, nI_tn (by omega)]
      exact ⟨j1, j2⟩
end
section
/-! THE CLASS as a whole: what its cells hold. -/
abbrev ST : Type := BK × HS × TX × (Nat → Int32)
def VS (S : ST) : Prop := VB S.1 ∧ VH S.2.1 ∧ VT S.2.2.1
def msR (f : Nat → Nat → Int32) (B : BK) : Prop := lnR f 81 B 0 ∧ lnR f 84 B 1 ∧ (∀ i, i < bNt B → f 88 i = nI (crM B i (bNt B))) ∧ f 87 1 = nI (endN B (bNt B) (bNt B) / 2) ∧ f 87 2 = nI (keptF B) ∧ f 87 3 = nI (wtF B (keptF B) (bNt B))
def RepC (kf : Nat → Nat) (f : Nat → Nat → Int32) (S : ST) : Prop := kfOk kf ∧ bkR f 1 S.1 ∧ stR kf f S.2.1 ∧ txR f S.2.2.1 ∧ (∀ i, i < 3 → f 96 i = S.2.2.2 i) ∧ (f 1001 = sf1 ∧ f 1002 = sf2) ∧ ∃ me la : Bool, f 0 9 = bI me ∧ f 0 10 = bI la ∧ (me = true → msR f S.1) ∧ (la = true → me = true ∧ layR f S.1)
theorem lnR_fr {f f2 : Nat → Nat → Int32} {o s : Nat} {B : BK} (h : lnR f o B s) (h0 : f2 o = f o) (h1 : f2 (o + 1) = f (o + 1)) (h2 : f2 (o + 2) = f (o + 2)) : lnR f2 o B s := by
  obtain ⟨a, b, c⟩ := h
  exact ⟨by rw [h0]; exact a, fun p hp => by rw [h1]; exact b p hp, fun b hb => by rw [h2]; exact c b hb⟩
theorem msR_fr {f f2 : Nat → Nat → Int32} {B : BK} (h : msR f B) (hc : ∀ c, 81 ≤ c → c ≤ 88 → f2 c = f c) : msR f2 B := by
  obtain ⟨h1, h2, h3, h4, h5, h6⟩ := h
  refine ⟨lnR_fr h1 (hc _ (by omega) (by omega)) (hc _ (by omega) (by omega)) (hc _ (by omega) (by omega)), lnR_fr h2 (hc _ (by omega) (by omega)) (hc _ (by omega) (by omega)) (hc _ (by omega) (by omega)), fun i hi => by rw [hc 88 (by omega) (by omega)]; exact h3 i hi, by rw [hc 87 (by omega) (by omega)]; exact h4, by rw [hc 87 (by omega) (by omega)]; exact h5, by rw [hc 87 (by omega) (by omega)]; exact h6⟩
theorem layR_fr {f f2 : Nat → Nat → Int32} {B : BK} (h : layR f B) (hc : ∀ c, 89 ≤ c → c ≤ 95 → f2 c = f c) : layR f2 B := by
  obtain ⟨⟨a1, a2, a3, a4⟩, h2, h3, h4⟩ := h
  refine ⟨⟨by rw [hc 89 (by omega) (by omega)]; exact a1, by rw [hc 89 (by omega) (by omega)]; exact a2, by rw [hc 89 (by omega) (by omega)]; exact a3, fun x y hx hy => by rw [hc 90 (by omega) (by omega)]; exact a4 x y hx hy⟩, by rw [hc 89 (by omega) (by omega)]; exact h2, by rw [hc 89 (by omega) (by omega)]; exact h3, fun k hk => by rw [hc 94 (by omega) (by omega), hc 95 (by omega) (by omega)]; exact h4 k hk⟩
theorem stR_fr {kf : Nat → Nat} {f f2 : Nat → Nat → Int32} {H : HS} (hk : kfOk kf) (h6 : H.1 ≤ 6) (h : stR kf f H) (hc : ∀ c, 19 ≤ c → c < 75 → f2 c = f c) : stR kf f2 H := by
  obtain ⟨a, b⟩ := h
  refine ⟨by rw [hc 19 (by omega) (by omega)]; exact a, fun i hi => ?_⟩
  obtain ⟨bb, e, ib, lb⟩ := hk.1 i (by omega)
  have hlo := bk_lo ib
  exact bkR_fr (b i hi) (fun c h1 h2 => hc c (by omega) (by omega))
theorem RepC_fr {kf : Nat → Nat} {f f2 : Nat → Nat → Int32} {S : ST} (hV : VS S) (h : RepC kf f S) (hc : ∀ c, c < 10 ∨ (18 < c ∧ c < 75) ∨ c = 76 ∨ (79 < c ∧ c < 97) ∨ c = 1001 ∨ c = 1002 → f2 c = f c) (h75 : f2 75 1 = f 75 1) : RepC kf f2 S := by
  obtain ⟨a1, a2, a3, a4, a5, a6, me, la, a7, a8, a9, a10⟩ := h
  refine ⟨a1, bkR_fr a2 (fun c _ _ => hc c (by omega)), stR_fr a1 hV.2.1.1 a3 (fun c _ _ => hc c (by omega)), ⟨by rw [h75]; exact a4.1, fun k hk => by rw [hc 76 (by omega)]; exact a4.2 k hk⟩, fun i hi => by rw [hc 96 (by omega)]; exact a5 i hi, ⟨by rw [hc 1001 (by omega)]; exact a6.1, by rw [hc 1002 (by omega)]; exact a6.2⟩, me, la, by rw [hc 0 (by omega)]; exact a7, by rw [hc 0 (by omega)]; exact a8, fun z => msR_fr (a9 z) (fun c _ _ => hc c (by omega)), fun z => ⟨(a10 z).1, layR_fr (a10 z).2 (fun c _ _ => hc c (by omega))⟩⟩
theorem s_measure {n : Nat} {kf : Nat → Nat} {f : Nat → Nat → Int32} {S : ST} (hV : VS S) (hR : RepC kf f S) :
    ∃ f2, Run n_X6_measure 110 0 (ini n_X6_measure [.ref 0]) [] (HH n kf f) (Ret none (HH n kf f2)) ∧ RepC kf f2 S ∧ msR f2 S.1 ∧ f2 0 9 = bI true ∧ ∀ c, 97 < c → f2 c = f c := by
  have hT : mT n_X6_measure = tb_X6_measure := rfl
  have hR0 := hR
  obtain ⟨a1, a2, a3, a4, a5, a6, me, la, a7, a8, a9, a10⟩ := hR
  cases me with
  | true =>
    refine ⟨f, ?_, hR0, a9 rfl, a7, fun _ _ => rfl⟩
    refine v_p hT rfl rfl ?_
    refine v_geti hT rfl (by first | rfl | assumption) (by omega) ?_
    rw [a7]
    refine g_if hT rfl (fun cq => ?_) (fun cq => ?_)
    · cases bf_of cq
    · refine v_vret hT rfl rfl ⟨rfl, rfl⟩
  | false =>
    have hla : la = false := by
      cases la with
      | false => rfl
      | true => cases (a10 rfl).1
    obtain ⟨f1, r1, t1, k1⟩ := s_lines (n := n) (kf := kf) (o := 81) (s := 0) (Or.inl rfl) (Or.inl rfl) a2 hV.1 (by omega)
    have b1 : bkR f1 1 S.1 := bkR_fr a2 (fun c _ _ => k1 c (by omega))
    obtain ⟨f2, r2, t2, k2⟩ := s_lines (n := n) (kf := kf) (o := 84) (s := 1) (Or.inl rfl) (Or.inr rfl) b1 hV.1 (by omega)
    have b2 : bkR f2 1 S.1 := bkR_fr b1 (fun c _ _ => k2 c (by omega))
    obtain ⟨f3, r3, t3, t4, t5, t6, k3⟩ := s_choice (n := n) (kf := kf) (Or.inl rfl) b2 ⟨hV.1.1.2.2.2.2.1, fun z i hz hi => by
      have h5 := hV.1.1.2.2.2.2.2 i hi
      have h6 := hV.1.1.1 0 (by omega)
      have h7 := hV.1.1.1 1 (by omega)
      rcases (show z = 0 ∨ z = 1 by omega) with e | e
      · subst e; have := h5.1; show bTi S.1 0 i < 100; omega
      · subst e; have := h5.2.1; show bTi S.1 1 i < 100; omega⟩ (fun i hi => (hV.1.1.2.2.2.2.2 i hi).2.2.2)
    have k13 : ∀ c, c < 81 ∨ 88 < c → f3 c = f c := fun c hc => by rw [k3 c (by omega) (by omega), k2 c (by omega), k1 c (by omega)]
    have hms : msR (hset f3 0 9 (nI 1)) S.1 := by
      refine ⟨?_, ?_, fun i hi => by rw [hset_ne (by omega)]; exact t3 i hi, by rw [hset_ne (by omega)]; exact t4, by rw [hset_ne (by omega)]; exact t5, by rw [hset_ne (by omega)]; exact t6⟩
      · refine lnR_fr t1 ?_ ?_ ?_
        · rw [hset_ne (by omega), k3 _ (by omega) (by omega), k2 _ (by omega)]
        · rw [hset_ne (by omega), k3 _ (by omega) (by omega), k2 _ (by omega)]
        · rw [hset_ne (by omega), k3 _ (by omega) (by omega), k2 _ (by omega)]
      · refine lnR_fr t2 ?_ ?_ ?_
        · rw [hset_ne (by omega), k3 _ (by omega) (by omega)]
        · rw [hset_ne (by omega), k3 _ (by omega) (by omega)]
        · rw [hset_ne (by omega), k3 _ (by omega) (by omega)]
    have h09 : hset f3 0 9 (nI 1) 0 9 = bI true := by rw [hs_s]; simp [upd]; rfl
    refine ⟨hset f3 0 9 (nI 1), ?_, ?_, hms, h09, fun c hc => by rw [hset_ne (by omega), k13 c (by omega)]⟩
    · refine v_p hT rfl rfl ?_
      refine v_geti hT rfl (by first | rfl | assumption) (by omega) ?_
      rw [a7]
      refine g_if hT rfl (fun cq => ?_) (fun cq => ?_)
      · refine v_p hT rfl rfl ?_
        refine g_cmp hT rfl (fun cq2 => ?_) (fun cq2 => ?_)
        · exact absurd ((cj_ge (a := 0) (b := 2) (by omega) (by omega)).mp cq2) (by omega)
        · refine v_p hT rfl rfl ?_
          refine v_getr hT rfl rfl (by omega) rfl ?_
          refine v_p hT rfl rfl ?_
          refine v_rld hT rfl rfl (Or.inr rfl) (by omega) (by omega) (show 0 < 2 by omega) (j := 81) rfl ?_
          refine v_p hT rfl rfl ?_
          refine v_getr hT rfl rfl (by omega) rfl ?_
          refine v_p hT rfl rfl ?_
          refine v_call hT [.ref 1, .int (nI 0)] rfl rfl (by first | rfl | assumption) (by omega) rfl rfl (Nat.le_of_ble_eq_true rfl) (Nat.le_of_ble_eq_true rfl) (r1) ?_
          refine v_p hT rfl rfl ?_
          refine g_cmp hT rfl (fun cq3 => ?_) (fun cq3 => ?_)
          · exact absurd ((cj_ge (a := 1) (b := 2) (by omega) (by omega)).mp cq3) (by omega)
          · refine v_p hT rfl rfl ?_
            refine v_getr hT rfl rfl (by omega) rfl ?_
            refine v_p hT rfl rfl ?_
            refine v_rld hT rfl rfl (Or.inr rfl) (by omega) (by omega) (show 1 < 2 by omega) (j := 84) rfl ?_
            refine v_p hT rfl rfl ?_
            refine v_getr hT rfl rfl (by omega) rfl ?_
            refine v_p hT rfl rfl ?_
            refine v_call hT [.ref 1, .int (nI 1)] rfl rfl (by first | rfl | assumption) (by omega) rfl rfl (Nat.le_of_ble_eq_true rfl) (Nat.le_of_ble_eq_true rfl) (r2) ?_
            refine v_p hT rfl rfl ?_
            refine g_cmp hT rfl (fun cq4 => ?_) (fun cq4 => ?_)
            · refine v_p hT rfl rfl ?_
              refine v_getr hT rfl rfl (by omega) rfl ?_
              refine v_p hT rfl rfl ?_
              refine v_getr hT rfl rfl (by omega) rfl ?_
              refine v_call hT [.ref 1] rfl rfl (by first | rfl | assumption) (by omega) rfl rfl (Nat.le_of_ble_eq_true rfl) (Nat.le_of_ble_eq_true rfl) (r3) ?_
              refine v_p hT rfl rfl ?_
              refine v_puti hT rfl rfl (by omega) (fun _ => Or.inr rfl) ?_
              refine v_vret hT rfl rfl ⟨rfl, rfl⟩
            · exact absurd ((cj_ge (a := 2) (b := 2) (by omega) (by omega)).mpr (by omega)) cq4
      · exact absurd rfl cq
    · refine ⟨a1, bkR_fr a2 (fun c _ _ => by rw [hset_ne (by omega), k13 c (by omega)]), stR_fr a1 hV.2.1.1 a3 (fun c _ _ => by rw [hset_ne (by omega), k13 c (by omega)]), ⟨by rw [hset_ne (by omega), k13 75 (by omega)]; exact a4.1, fun k hk => by rw [hset_ne (by omega), k13 76 (by omega)]; exact a4.2 k hk⟩, fun i hi => by rw [hset_ne (by omega), k13 96 (by omega)]; exact a5 i hi, ⟨by rw [hset_ne (by omega), k13 1001 (by omega)]; exact a6.1, by rw [hset_ne (by omega), k13 1002 (by omega)]; exact a6.2⟩, true, la, h09, ?_, fun _ => hms, fun z => ?_⟩
      · rw [hs_s]
        simp only [upd, if_neg (show (10 : Nat) ≠ 9 by omega)]
        rw [k13 0 (by omega)]
        exact a8
      · rw [hla] at z; cases z
theorem s_layOut {n : Nat} {kf : Nat → Nat} {f : Nat → Nat → Int32} {S : ST} (hV : VS S) (hR : RepC kf f S) :
    ∃ f2, Run n_X6_layOut 110 0 (ini n_X6_layOut [.ref 0]) [] (HH n kf f) (Ret (some (.ref 89)) (HH n kf f2)) ∧ RepC kf f2 S ∧ msR f2 S.1 ∧ layR f2 S.1 ∧ ∀ c, 97 < c → f2 c = f c := by
  have hT : mT n_X6_layOut = tb_X6_layOut := rfl
  obtain ⟨f1, r1, hR1, hm, h09, k1⟩ := s_measure (n := n) hV hR
  have hR0 := hR1
  obtain ⟨a1, a2, a3, a4, a5, a6, me, la, a7, a8, a9, a10⟩ := hR1
  cases la with
  | true =>
    refine ⟨f1, ?_, hR0, hm, (a10 rfl).2, k1⟩
    refine v_p hT rfl rfl ?_
    refine v_call hT [] rfl rfl (by first | rfl | assumption) (by omega) rfl rfl (Nat.le_of_ble_eq_true rfl) (Nat.le_of_ble_eq_true rfl) (r1) ?_
    refine v_p hT rfl rfl ?_
    refine v_geti hT rfl (by first | rfl | assumption) (by omega) ?_
    rw [a8]
    refine g_if hT rfl (fun cq => ?_) (fun cq => ?_)
    · refine v_p hT rfl rfl ?_
      refine v_getr hT rfl rfl (by omega) rfl ?_
      refine v_rret hT rfl rfl ⟨rfl, rfl⟩
    · exact absurd (show ¬ (1 : Int32) = 0 by decide) cq
  | false =>
    obtain ⟨f2, r2, t2, k2⟩ := s_layout (n := n) (kf := kf) a2 hV.1 hm.1 hm.2.1
    have hme : me = true := by
      cases me with
      | true => rfl
      | false => rw [h09] at a7; cases a7
    have hms : msR (hset f2 0 10 (nI 1)) S.1 := msR_fr hm (fun c _ _ => by rw [hset_ne (by omega), k2 c (by omega)])
    have hly : layR (hset f2 0 10 (nI 1)) S.1 := layR_fr t2 (fun c _ _ => hset_ne (by omega))
    refine ⟨hset f2 0 10 (nI 1), ?_, ?_, hms, hly, fun c hc => by rw [hset_ne (by omega), k2 c (by omega), k1 c hc]⟩
    · refine v_p hT rfl rfl ?_
      refine v_call hT [] rfl rfl (by first | rfl | assumption) (by omega) rfl rfl (Nat.le_of_ble_eq_true rfl) (Nat.le_of_ble_eq_true rfl) (r1) ?_
      refine v_p hT rfl rfl ?_
      refine v_geti hT rfl (by first | rfl | assumption) (by omega) ?_
      rw [a8]
      refine g_if hT rfl (fun cq => ?_) (fun cq => ?_)
      · exact absurd rfl cq
      · refine v_p hT rfl rfl ?_
        refine v_getr hT rfl rfl (by omega) rfl ?_
        refine v_p hT rfl rfl ?_
        refine v_getr hT rfl rfl (by omega) rfl ?_
        refine v_p hT rfl rfl ?_
        refine v_getr hT rfl rfl (by omega) rfl ?_
        refine v_p hT rfl rfl ?_
        refine v_rld hT rfl rfl (Or.inr rfl) (by omega) (by omega) (show 0 < 2 by omega) (j := 81) rfl ?_
        refine v_p hT rfl rfl ?_
        refine v_getr hT rfl rfl (by omega) rfl ?_
        refine v_p hT rfl rfl ?_
        refine v_rld hT rfl rfl (Or.inr rfl) (by omega) (by omega) (show 1 < 2 by omega) (j := 84) rfl ?_
        refine v_p hT rfl rfl ?_
        refine v_getr hT rfl rfl (by omega) rfl ?_
        refine v_geti hT rfl (by first | rfl | assumption) (by omega) ?_
        rw [hm.2.2.2.2.1]
        refine v_call hT [.ref 1, .ref 81, .ref 84, .int (nI (keptF S.1))] rfl rfl (by first | rfl | assumption) (by omega) rfl rfl (Nat.le_of_ble_eq_true rfl) (Nat.le_of_ble_eq_true rfl) (r2) ?_
        refine v_p hT rfl rfl ?_
        refine v_puti hT rfl rfl (by omega) (fun _ => Or.inr rfl) ?_
        refine v_p hT rfl rfl ?_
        refine v_getr hT rfl rfl (by omega) rfl ?_
        refine v_rret hT rfl rfl ⟨rfl, rfl⟩
    · refine ⟨a1, bkR_fr a2 (fun c _ _ => by rw [hset_ne (by omega), k2 c (by omega)]), stR_fr a1 hV.2.1.1 a3 (fun c _ _ => by rw [hset_ne (by omega), k2 c (by omega)]), ⟨by rw [hset_ne (by omega), k2 75 (by omega)]; exact a4.1, fun k hk => by rw [hset_ne (by omega), k2 76 (by omega)]; exact a4.2 k hk⟩, fun i hi => by rw [hset_ne (by omega), k2 96 (by omega)]; exact a5 i hi, ⟨by rw [hset_ne (by omega), k2 1001 (by omega)]; exact a6.1, by rw [hset_ne (by omega), k2 1002 (by omega)]; exact a6.2⟩, me, true, ?_, ?_, fun _ => hms, fun z => ⟨hme, hly⟩⟩
      · rw [hs_s]
        simp only [upd, if_neg (show (9 : Nat) ≠ 10 by omega)]
        rw [k2 0 (by omega)]
        exact a7
      · rw [hs_s]; simp [upd]; rfl
/-- a refusal -/
def refu (S : ST) (j : Nat) : ST := (S.1, S.2.1, S.2.2.1, fun i => if i = j then S.2.2.2 i + 1 else S.2.2.2 i)
theorem VS_refu {S : ST} {j : Nat} (h : VS S) : VS (refu S j) := h
theorem s_refuse {n j : Nat} {kf : Nat → Nat} {f : Nat → Nat → Int32} (hj : j < 3) : Run n_X6_refuse 110 0 (ini n_X6_refuse [.ref 0, .int (mI (2 + j))]) [] (HH n kf f) (Ret (some (.int (mI (2 + j)))) (HH n kf (hset f 96 j (f 96 j + nI 1)))) := by
  have hT : mT n_X6_refuse = tb_X6_refuse := rfl
  have hd : mI 2 - mI (2 + j) = nI j := by
    rcases (show j = 0 ∨ j = 1 ∨ j = 2 by omega) with e | e | e <;> subst e <;> decide
  have hw : decide (nI 0 ≤ nI j ∧ nI j ≤ nI 2) = true := by
    rcases (show j = 0 ∨ j = 1 ∨ j = 2 by omega) with e | e | e <;> subst e <;> decide
  refine v_p hT rfl rfl ?_
  rw [hd]
  refine v_scall hT [.int (nI j), .int (nI 0), .int (nI 2)] rfl rfl rfl rfl (Nat.le_of_ble_eq_true rfl) (Nat.le_of_ble_eq_true rfl) (s_within (nI j) (nI 0) (nI 2)) ?_
  rw [hw]
  refine g_if hT rfl (fun cq => ?_) (fun cq => ?_)
  · cases bf_of cq
  · refine v_p hT rfl rfl ?_
    refine v_getr hT rfl rfl (by omega) rfl ?_
    refine v_p hT rfl rfl ?_
    refine v_ald hT rfl (by first | assumption | rfl) (by omega) (by decide) (by omega) ?_
    refine v_p hT rfl rfl ?_
    refine v_ast hT rfl rfl (by omega) (by decide) (by omega) ?_
    refine v_p hT rfl rfl ?_
    refine v_ret hT rfl (fun z => by cases z) rfl ⟨rfl, rfl⟩
theorem RepC_refu {kf : Nat → Nat} {f f2 : Nat → Nat → Int32} {S : ST} {j : Nat} (hV : VS S) (h : RepC kf f S) (hc : ∀ c, c ≠ 96 → f2 c = f c) (h96 : f2 96 = upd (f 96) j (f 96 j + nI 1)) : RepC kf f2 (refu S j) := by
  obtain ⟨a1, a2, a3, a4, a5, a6, me, la, a7, a8, a9, a10⟩ := h
  refine ⟨a1, bkR_fr a2 (fun c _ _ => hc c (by omega)), stR_fr a1 hV.2.1.1 a3 (fun c _ _ => hc c (by omega)), ⟨by rw [hc 75 (by omega)]; exact a4.1, fun k hk => by rw [hc 76 (by omega)]; exact a4.2 k hk⟩, fun i hi => ?_, ⟨by rw [hc 1001 (by omega)]; exact a6.1, by rw [hc 1002 (by omega)]; exact a6.2⟩, me, la, by rw [hc 0 (by omega)]; exact a7, by rw [hc 0 (by omega)]; exact a8, fun z => msR_fr (a9 z) (fun c _ _ => hc c (by omega)), fun z => ⟨(a10 z).1, layR_fr (a10 z).2 (fun c _ _ => hc c (by omega))⟩⟩
  rw [h96]
  show upd (f 96) j (f 96 j + nI 1) i = (if i = j then S.2.2.2 i + 1 else S.2.2.2 i)
  unfold upd
  by_cases e : i = j
  · subst e
    rw [if_pos rfl, if_pos rfl, a5 i hi]
    rfl
  · rw [if_neg e, if_neg e]; exact a5 i hi
theorem s_refu {n j : Nat} {kf : Nat → Nat} {f : Nat → Nat → Int32} {S : ST} (hj : j < 3) (hV : VS S) (hR : RepC kf f S) : ∃ f2, Run n_X6_refuse 110 0 (ini n_X6_refuse [.ref 0, .int (mI (2 + j))]) [] (HH n kf f) (Ret (some (.int (mI (2 + j)))) (HH n kf f2)) ∧ RepC kf f2 (refu S j) ∧ ∀ c, 97 < c → f2 c = f c := ⟨_, s_refuse hj, RepC_refu hV hR (fun c hc => hset_ne hc) (hs_s _ _ _ _), fun c hc => hset_ne (by omega)⟩
theorem s_copyToTry {n : Nat} {kf : Nat → Nat} {f : Nat → Nat → Int32} {S : ST} (hV : VS S) (hR : RepC kf f S) : ∃ f2, Run n_X6_copyToTry 110 0 (ini n_X6_copyToTry [.ref 0]) [] (HH n kf f) (Ret (some (.ref 10)) (HH n kf f2)) ∧ RepC kf f2 S ∧ bkR f2 10 S.1 ∧ ∀ c, c < 10 ∨ 18 < c → f2 c = f c := by
  have hT : mT n_X6_copyToTry = tb_X6_copyToTry := rfl
  have hfr : ∀ c, c < 10 ∨ 18 < c → TF f 10 1 c = f c := fun c hc => TF_out (by omega)
  refine ⟨TF f 10 1, ?_, RepC_fr hV hR (fun c hc => hfr c (by omega)) (by rw [hfr 75 (by omega)]), bkR_TF (by omega) hV.1.1 hR.2.1, hfr⟩
  refine v_p hT rfl rfl ?_
  refine v_getr hT rfl rfl (by omega) rfl ?_
  refine v_p hT rfl rfl ?_
  refine v_getr hT rfl rfl (by omega) rfl ?_
  refine v_call hT [.ref 1] rfl rfl (by first | rfl | assumption) (by omega) rfl rfl (Nat.le_of_ble_eq_true rfl) (Nat.le_of_ble_eq_true rfl) (s_takeFrom (Or.inr (Or.inl rfl)) (Or.inl rfl)) ?_
  refine v_p hT rfl rfl ?_
  refine v_getr hT rfl rfl (by omega) rfl ?_
  refine v_rret hT rfl rfl ⟨rfl, rfl⟩
theorem s_forgetPlans {n : Nat} {kf : Nat → Nat} {f : Nat → Nat → Int32} : Run n_X6_forgetPlans 110 0 (ini n_X6_forgetPlans [.ref 0]) [] (HH n kf f) (Ret none (HH n kf (hset (hset f 0 9 (nI 0)) 0 10 (nI 0)))) := by
  have hT : mT n_X6_forgetPlans = tb_X6_forgetPlans := rfl
  refine v_p hT rfl rfl ?_
  refine v_puti hT rfl rfl (by omega) (fun _ => Or.inl rfl) ?_
  refine v_p hT rfl rfl ?_
  refine v_puti hT rfl rfl (by omega) (fun _ => Or.inl rfl) ?_
  refine v_vret hT rfl rfl ⟨rfl, rfl⟩
/-- a change that is tried, and what becomes of it -/
noncomputable def chg (S : ST) (r : Int32 × BK) : Int32 × ST := bif pB (r.1 = mI 2) then (mI 2, refu S 0) else bif pB (r.1 = mI 3) then (mI 3, refu S 1) else bif pB (r.1 = mI 4) then (mI 4, refu S 2) else (r.1, (r.2, hPush S.2.1 S.1, S.2.2.1, S.2.2.2))
theorem nI_nmI {k j : Nat} (hk : k < 1000) (hj : j < 3) : ¬ nI k = mI (2 + j) := by
  intro h
  have h2 : nI 0 ≤ nI k := (cj_ge (a := k) (b := 0) (by omega) (by omega)).mpr (by omega)
  rw [h] at h2
  rcases (show j = 0 ∨ j = 1 ∨ j = 2 by omega) with e | e | e <;> subst e <;> revert h2 <;> decide
theorem chg_ok {S : ST} {k : Nat} {B : BK} (hk : k < 1000) : chg S (nI k, B) = (nI k, (B, hPush S.2.1 S.1, S.2.2.1, S.2.2.2)) := by
  unfold chg
  rw [pB_f (nI_nmI (j := 0) hk (by omega)), pB_f (nI_nmI (j := 1) hk (by omega)), pB_f (nI_nmI (j := 2) hk (by omega))]
  rfl
theorem chg_no {S : ST} {j : Nat} {B : BK} (hj : j < 3) : chg S (mI (2 + j), B) = (mI (2 + j), refu S j) := by
  unfold chg
  rcases (show j = 0 ∨ j = 1 ∨ j = 2 by omega) with e | e | e
  · subst e; rw [pB_t (show mI (2 + 0) = mI 2 from rfl)]; rfl
  · subst e; rw [pB_f (show ¬ mI (2 + 1) = mI 2 by decide), pB_t (show mI (2 + 1) = mI 3 from rfl)]; rfl
  · subst e; rw [pB_f (show ¬ mI (2 + 2) = mI 2 by decide), pB_f (show ¬ mI (2 + 2) = mI 3 by decide), pB_t (show mI (2 + 2) = mI 4 from rfl)]; rfl
theorem okA_or {x : Int32} (h : okA x) : (∃ j, j < 3 ∧ x = mI (2 + j)) ∨ ∃ k : Nat, k < 1000 ∧ x = nI k := by
  rcases h with h | h | h | h
  · exact Or.inl ⟨0, by omega, h⟩
  · exact Or.inl ⟨1, by omega, h⟩
  · exact Or.inl ⟨2, by omega, h⟩
  · exact Or.inr h
theorem VS_chg {S : ST} {r : Int32 × BK} (hV : VS S) (hB : VB r.2) (hx : okA r.1) : VS (chg S r).2 := by
  rcases okA_or hx with ⟨j, hj, e⟩ | ⟨k, hk, e⟩
  · rw [show r = (mI (2 + j), r.2) from Prod.ext e rfl, chg_no hj]; exact hV
  · rw [show r = (nI k, r.2) from Prod.ext e rfl, chg_ok hk]
    exact ⟨hB, VH_push hV.2.1 hV.1, hV.2.2⟩
theorem s_settle {n : Nat} {kf : Nat → Nat} {f : Nat → Nat → Int32} {S : ST} {r : Int32 × BK} (hV : VS S) (hR : RepC kf f S) (hB : VB r.2) (hb : bkR f 10 r.2) (hx : okA r.1) :
    ∃ kf2 f2, Run n_X6_settle 110 0 (ini n_X6_settle [.ref 0, .int r.1]) [] (HH n kf f) (Ret (some (.int (chg S r).1)) (HH n kf2 f2)) ∧ RepC kf2 f2 (chg S r).2 ∧ ∀ c, 97 < c → f2 c = f c := by
  have hT : mT n_X6_settle = tb_X6_settle := rfl
  rcases okA_or hx with ⟨j, hj, e⟩ | ⟨k, hk, e⟩
  · rw [show r = (mI (2 + j), r.2) from Prod.ext e rfl, chg_no hj]
    obtain ⟨f2, r1, r2, r3⟩ := s_refu (n := n) hj hV hR
    refine ⟨kf, f2, ?_, r2, r3⟩
    refine v_p hT rfl rfl ?_
    refine g_if hT rfl (fun cq => ?_) (fun cq => ?_)
    · exfalso
      have cq : (0 : Int32) ≤ mI (2 + j) := cq
      rcases (show j = 0 ∨ j = 1 ∨ j = 2 by omega) with e | e | e <;> subst e <;> revert cq <;> decide
    · refine v_p hT rfl rfl ?_
      refine v_call hT [.int (mI (2 + j))] rfl rfl (by first | rfl | assumption) (by omega) rfl rfl (Nat.le_of_ble_eq_true rfl) (Nat.le_of_ble_eq_true rfl) (r1) ?_
      refine v_ret hT rfl (fun z => by cases z) rfl ⟨rfl, rfl⟩
  · rw [show r = (nI k, r.2) from Prod.ext e rfl, chg_ok hk]
    obtain ⟨a1, a2, a3, a4, a5, a6, me, la, a7, a8, a9, a10⟩ := hR
    obtain ⟨kf2, f1, r1, b1, b2, b3⟩ := s_keep (n := n) a1 a3 hV.2.1 a2 hV.1
    have hH := VH_push hV.2.1 hV.1
    have hfr : ∀ c, (18 < c ∧ c ≠ 0) → hset (hset (TF f1 1 10) 0 9 (nI 0)) 0 10 (nI 0) c = f1 c := fun c hc => by rw [hset_ne hc.2, hset_ne hc.2, TF_out (by omega)]
    refine ⟨kf2, hset (hset (TF f1 1 10) 0 9 (nI 0)) 0 10 (nI 0), ?_, ⟨b1, ?_, ?_, ?_, fun i hi => ?_, ?_, false, false, ?_, ?_, fun z => (by cases z), fun z => (by cases z)⟩, fun c hc => by rw [hfr c (by omega), b3 c (by omega)]⟩
    · refine v_p hT rfl rfl ?_
      refine g_if hT rfl (fun cq => ?_) (fun cq => ?_)
      · refine v_p hT rfl rfl ?_
        refine v_getr hT rfl rfl (by omega) rfl ?_
        refine v_p hT rfl rfl ?_
        refine v_getr hT rfl rfl (by omega) rfl ?_
        refine v_call hT [.ref 1] rfl rfl (by first | rfl | assumption) (by omega) rfl rfl (Nat.le_of_ble_eq_true rfl) (Nat.le_of_ble_eq_true rfl) (r1) ?_
        refine v_p hT rfl rfl ?_
        refine v_getr hT rfl rfl (by omega) rfl ?_
        refine v_p hT rfl rfl ?_
        refine v_getr hT rfl rfl (by omega) rfl ?_
        refine v_call hT [.ref 10] rfl rfl (by first | rfl | assumption) (by omega) rfl rfl (Nat.le_of_ble_eq_true rfl) (Nat.le_of_ble_eq_true rfl) (s_takeFrom (Or.inl rfl) (Or.inr (Or.inl rfl))) ?_
        refine v_p hT rfl rfl ?_
        refine v_call hT [] rfl rfl (by first | rfl | assumption) (by omega) rfl rfl (Nat.le_of_ble_eq_true rfl) (Nat.le_of_ble_eq_true rfl) (s_forgetPlans) ?_
        refine v_p hT rfl rfl ?_
        refine v_ret hT rfl (fun z => by cases z) rfl ⟨rfl, rfl⟩
      · exact absurd ((cj_ge (a := k) (b := 0) (by omega) (by omega)).mpr (by omega)) cq
    · refine bkR_fr (bkR_TF (f := f1) (b := 1) (b2 := 10) (by omega) hB.1 (bkR_fr hb (fun c h1 h2 => b3 c (by omega)))) (fun c h1 h2 => by rw [hset_ne (by omega), hset_ne (by omega)])
    · exact stR_fr b1 hH.1 b2 (fun c h1 h2 => hfr c (by omega))
    · exact ⟨by rw [hfr 75 (by omega), b3 75 (by omega)]; exact a4.1, fun q hq => by rw [hfr 76 (by omega), b3 76 (by omega)]; exact a4.2 q hq⟩
    · rw [hfr 96 (by omega), b3 96 (by omega)]; exact a5 i hi
    · exact ⟨by rw [hfr 1001 (by omega), b3 1001 (by omega)]; exact a6.1, by rw [hfr 1002 (by omega), b3 1002 (by omega)]; exact a6.2⟩
    · rw [hs_s]
      simp only [upd, if_neg (show (9 : Nat) ≠ 10 by omega)]
      rw [hs_s]
      simp [upd]
      rfl
    · rw [hs_s]; simp [upd]; rfl
end
section
/-! THE CLASS: the calls that change. -/
def CSp (m : Nat) (as : List Value) (S : ST) (r : Int32 × ST) : Prop := ∀ (n : Nat) (kf : Nat → Nat) (f : Nat → Nat → Int32), RepC kf f S → ∃ kf2 f2, Run m 110 0 (ini m (.ref 0 :: as)) [] (HH n kf f) (Ret (some (.int r.1)) (HH n kf2 f2)) ∧ RepC kf2 f2 r.2 ∧ ∀ c, 97 < c → f2 c = f c
noncomputable def aUnt (B : BK) (i : Int32) : Int32 × BK := bif pB (∃ k, k < bNt B ∧ i = nI k) then (nI (bNt B - 1), bTieGo B i.toNatClampNeg) else (mI 2, B)
theorem aUnt_ok {B : BK} (hV : VB B) (i : Int32) : VB (aUnt B i).2 ∧ okA (aUnt B i).1 := by
  unfold aUnt
  have h10 := hV.1.2.2.2.2.1
  cases hc : pB (∃ k, k < bNt B ∧ i = nI k) with
  | false => exact ⟨hV, Or.inl rfl⟩
  | true =>
    obtain ⟨k, hk, e⟩ := pB_of hc
    refine ⟨?_, Or.inr (Or.inr (Or.inr ⟨bNt B - 1, by omega, rfl⟩))⟩
    subst e
    show VB (bTieGo B _)
    rw [nI_tn (by omega)]
    exact VB_tieGo hV hk
/-- from the trial on -/
theorem C_try {m : Nat} {as : List Value} {S : ST} {r : Int32 × BK} (hV : VS S) (hB : VB r.2) (hx : okA r.1) (h : ∀ (n : Nat) (kf : Nat → Nat) (f : Nat → Nat → Int32), RepC kf f S → bkR f 10 S.1 → ∃ f2, bkR f2 10 r.2 ∧ (∀ c, c < 10 ∨ 18 < c → f2 c = f c) ∧ ∀ a kf2 f3 f0, Run n_X6_copyToTry 110 0 (ini n_X6_copyToTry [.ref 0]) [] (HH n kf f0) (Ret (some (.ref 10)) (HH n kf f)) → Run n_X6_settle 110 0 (ini n_X6_settle [.ref 0, .int r.1]) [] (HH n kf f2) (Ret (some (.int a)) (HH n kf2 f3)) → Run m 110 0 (ini m (.ref 0 :: as)) [] (HH n kf f0) (Ret (some (.int a)) (HH n kf2 f3))) : CSp m as S (chg S r) := by
  intro n kf f hR
  obtain ⟨f1, r1, hR1, b1, k1⟩ := s_copyToTry (n := n) hV hR
  obtain ⟨f2, b2, k2, hgo⟩ := h n kf f1 hR1 b1
  obtain ⟨kf2, f3, r3, hR3, k3⟩ := s_settle (n := n) (kf := kf) (f := f2) (S := S) (r := r) hV (RepC_fr hV hR1 (fun c hc => k2 c (by omega)) (by rw [k2 75 (by omega)])) hB b2 hx
  exact ⟨kf2, f3, hgo _ _ _ _ r1 r3, hR3, fun c hc => by rw [k3 c hc, k2 c (by omega), k1 c (by omega)]⟩
theorem s_dropTieB {b n : Nat} {kf : Nat → Nat} {f : Nat → Nat → Int32} {B : BK} (hb : isBk b) (hR : bkR f b B) (hV : VB0 B) (i : Int32) :
    ∃ f2, Run n_X0_dropTie 110 0 (ini n_X0_dropTie [.ref b, .int i]) [] (HH n kf f) (Ret (some (.int (aUnt B i).1)) (HH n kf f2)) ∧ bkR f2 b (aUnt B i).2 ∧ ∀ c, c < b ∨ b + 8 < c → f2 c = f c := by
  have h10 := hV.2.2.2.2.1
  unfold aUnt
  by_cases hc : ∃ k, k < bNt B ∧ i = nI k
  · rw [pB_t hc]
    obtain ⟨k, hk, e⟩ := hc
    subst e
    refine ⟨_, s_dropTie hb hR.2.2.2.2.1 h10 hk, ?_, fun c hc => ?_⟩
    · show bkR _ b (bTieGo B _)
      rw [nI_tn (by omega)]
      exact bkR_tieGo hR hk
    · rw [hset_ne (by omega)]
      unfold hputs
      simp only [if_neg (show ¬ c = b + 8 by omega), if_neg (show ¬ c = b + 7 by omega), if_neg (show ¬ c = b + 6 by omega)]
  · rw [pB_f hc]
    exact ⟨f, s_dropTieBad hb hR.2.2.2.2.1 h10 hc, hR, fun _ _ => rfl⟩
theorem C_drops {S : ST} (hV : VS S) (s p : Int32) : CSp n_X6_drops [.int s, .int p] S (chg S (aDrop S.1 s p)) := by
  have hT : mT n_X6_drops = tb_X6_drops := rfl
  obtain ⟨o1, o2⟩ := aDrop_ok hV.1 s p
  refine C_try hV o1 o2 (fun n kf f hR hb => ?_)
  obtain ⟨f2, e1, e2, e3⟩ := s_dropParagraph (n := n) (kf := kf) (b := 10) (Or.inr (Or.inl rfl)) hb hV.1.1 s p
  refine ⟨f2, e2, e3, fun a kf2 f3 f0 q1 q2 => ?_⟩
  refine v_p hT rfl rfl ?_
  refine v_call hT [] rfl rfl (by first | rfl | assumption) (by omega) rfl rfl (Nat.le_of_ble_eq_true rfl) (Nat.le_of_ble_eq_true rfl) (q1) ?_
  refine v_p hT rfl rfl ?_
  refine v_call hT [.int s, .int p] rfl rfl (by first | rfl | assumption) (by omega) rfl rfl (Nat.le_of_ble_eq_true rfl) (Nat.le_of_ble_eq_true rfl) (e1) ?_
  refine v_call hT [.int (aDrop S.1 s p).1] rfl rfl (by first | rfl | assumption) (by omega) rfl rfl (Nat.le_of_ble_eq_true rfl) (Nat.le_of_ble_eq_true rfl) (q2) ?_
  refine v_ret hT rfl (fun z => by cases z) rfl ⟨rfl, rfl⟩
theorem C_widths {S : ST} (hV : VS S) (s v : Int32) : CSp n_X6_widths [.int s, .int v] S (chg S (aWid S.1 s v)) := by
  have hT : mT n_X6_widths = tb_X6_widths := rfl
  obtain ⟨o1, o2⟩ := aWid_ok hV.1 s v
  refine C_try hV o1 o2 (fun n kf f hR hb => ?_)
  obtain ⟨f2, e1, e2, e3⟩ := s_changeWidth (n := n) (kf := kf) (b := 10) (Or.inr (Or.inl rfl)) hb hV.1.1 s v
  refine ⟨f2, e2, e3, fun a kf2 f3 f0 q1 q2 => ?_⟩
  refine v_p hT rfl rfl ?_
  refine v_call hT [] rfl rfl (by first | rfl | assumption) (by omega) rfl rfl (Nat.le_of_ble_eq_true rfl) (Nat.le_of_ble_eq_true rfl) (q1) ?_
  refine v_p hT rfl rfl ?_
  refine v_call hT [.int s, .int v] rfl rfl (by first | rfl | assumption) (by omega) rfl rfl (Nat.le_of_ble_eq_true rfl) (Nat.le_of_ble_eq_true rfl) (e1) ?_
  refine v_call hT [.int (aWid S.1 s v).1] rfl rfl (by first | rfl | assumption) (by omega) rfl rfl (Nat.le_of_ble_eq_true rfl) (Nat.le_of_ble_eq_true rfl) (q2) ?_
  refine v_ret hT rfl (fun z => by cases z) rfl ⟨rfl, rfl⟩
theorem C_sets {S : ST} (hV : VS S) (w v : Int32) : CSp n_X6_sets [.int w, .int v] S (chg S (aSet S.1 w v)) := by
  have hT : mT n_X6_sets = tb_X6_sets := rfl
  obtain ⟨o1, o2⟩ := aSet_ok hV.1 w v
  refine C_try hV o1 o2 (fun n kf f hR hb => ?_)
  obtain ⟨f2, e1, e2, e3⟩ := s_changeSetting (n := n) (kf := kf) (b := 10) (Or.inr (Or.inl rfl)) hb hR.2.2.2.2.2.1.1 hR.2.2.2.2.2.1.2 w v
  refine ⟨f2, e2, e3, fun a kf2 f3 f0 q1 q2 => ?_⟩
  refine v_p hT rfl rfl ?_
  refine v_call hT [] rfl rfl (by first | rfl | assumption) (by omega) rfl rfl (Nat.le_of_ble_eq_true rfl) (Nat.le_of_ble_eq_true rfl) (q1) ?_
  refine v_p hT rfl rfl ?_
  refine v_call hT [.int w, .int v] rfl rfl (by first | rfl | assumption) (by omega) rfl rfl (Nat.le_of_ble_eq_true rfl) (Nat.le_of_ble_eq_true rfl) (e1) ?_
  refine v_call hT [.int (aSet S.1 w v).1] rfl rfl (by first | rfl | assumption) (by omega) rfl rfl (Nat.le_of_ble_eq_true rfl) (Nat.le_of_ble_eq_true rfl) (q2) ?_
  refine v_ret hT rfl (fun z => by cases z) rfl ⟨rfl, rfl⟩
theorem C_ties {S : ST} (hV : VS S) (p q w : Int32) : CSp n_X6_ties [.int p, .int q, .int w] S (chg S (aTie S.1 p q w)) := by
  have hT : mT n_X6_ties = tb_X6_ties := rfl
  obtain ⟨o1, o2⟩ := aTie_ok hV.1 p q w
  refine C_try hV o1 o2 (fun n kf f hR hb => ?_)
  obtain ⟨f2, e1, e2, e3⟩ := s_addTie (n := n) (kf := kf) (b := 10) (Or.inr (Or.inl rfl)) hb hV.1.1 p q w
  refine ⟨f2, e2, e3, fun a kf2 f3 f0 q1 q2 => ?_⟩
  refine v_p hT rfl rfl ?_
  refine v_call hT [] rfl rfl (by first | rfl | assumption) (by omega) rfl rfl (Nat.le_of_ble_eq_true rfl) (Nat.le_of_ble_eq_true rfl) (q1) ?_
  refine v_p hT rfl rfl ?_
  refine v_call hT [.int p, .int q, .int w] rfl rfl (by first | rfl | assumption) (by omega) rfl rfl (Nat.le_of_ble_eq_true rfl) (Nat.le_of_ble_eq_true rfl) (e1) ?_
  refine v_call hT [.int (aTie S.1 p q w).1] rfl rfl (by first | rfl | assumption) (by omega) rfl rfl (Nat.le_of_ble_eq_true rfl) (Nat.le_of_ble_eq_true rfl) (q2) ?_
  refine v_ret hT rfl (fun z => by cases z) rfl ⟨rfl, rfl⟩
theorem C_unties {S : ST} (hV : VS S) (i : Int32) : CSp n_X6_unties [.int i] S (chg S (aUnt S.1 i)) := by
  have hT : mT n_X6_unties = tb_X6_unties := rfl
  obtain ⟨o1, o2⟩ := aUnt_ok hV.1 i
  refine C_try hV o1 o2 (fun n kf f hR hb => ?_)
  obtain ⟨f2, e1, e2, e3⟩ := s_dropTieB (n := n) (kf := kf) (b := 10) (Or.inr (Or.inl rfl)) hb hV.1.1 i
  refine ⟨f2, e2, e3, fun a kf2 f3 f0 q1 q2 => ?_⟩
  refine v_p hT rfl rfl ?_
  refine v_call hT [] rfl rfl (by first | rfl | assumption) (by omega) rfl rfl (Nat.le_of_ble_eq_true rfl) (Nat.le_of_ble_eq_true rfl) (q1) ?_
  refine v_p hT rfl rfl ?_
  refine v_call hT [.int i] rfl rfl (by first | rfl | assumption) (by omega) rfl rfl (Nat.le_of_ble_eq_true rfl) (Nat.le_of_ble_eq_true rfl) (e1) ?_
  refine v_call hT [.int (aUnt S.1 i).1] rfl rfl (by first | rfl | assumption) (by omega) rfl rfl (Nat.le_of_ble_eq_true rfl) (Nat.le_of_ble_eq_true rfl) (q2) ?_
  refine v_ret hT rfl (fun z => by cases z) rfl ⟨rfl, rfl⟩
theorem lin_add {B : BK} {s n : Nat} {l : Nat → Nat} : linF (bParAdd B s n l) s (bNp B s) = (lineF (bWd B s) l (n - 1)).1 + 1 := by
  unfold linF
  simp only [bParAdd, bNw, bLn, bWd, and_self, if_true]
theorem tot_add_cg {B : BK} {s n : Nat} {l l' : Nat → Nat} (h : ∀ k, k ≤ n - 1 → l k = l' k) : totF (bParAdd B s n l) s = totF (bParAdd B s n l') s := by
  rw [totF_add, totF_add, lin_add, lin_add, lineF_congr (n - 1) h]
theorem bkR_addcg {B : BK} {s n : Nat} {l l' : Nat → Nat} (h : ∀ k, k < n → l k = l' k) {f : Nat → Nat → Int32} {b : Nat} (q : bkR f b (bParAdd B s n l)) : bkR f b (bParAdd B s n l') := by
  obtain ⟨a1, a2, a3, a4, a5, a6⟩ := q
  refine ⟨a1, fun z p hz hp => ⟨(a2 z p hz hp).1, fun k hk => ?_⟩, a3, a4, a5, a6⟩
  have h5 := (a2 z p hz hp).2 k hk
  refine h5.trans ?_
  by_cases e : z = s ∧ p = bNp B s
  · have hk : k < (if z = s ∧ p = bNp B s then n else bNw B z p) := hk
    rw [if_pos e] at hk
    show nI (if z = s ∧ p = bNp B s then l k else bLn B z p k) = nI (if z = s ∧ p = bNp B s then l' k else bLn B z p k)
    rw [if_pos e, if_pos e, h k hk]
  · show nI (if z = s ∧ p = bNp B s then l k else bLn B z p k) = nI (if z = s ∧ p = bNp B s then l' k else bLn B z p k)
    rw [if_neg e, if_neg e]
def aParX (X Y : Bool) (a : Int32) (B C : BK) : Int32 × BK := bif X then (bif Y then (mI 4, B) else (a, C)) else (mI 2, B)
theorem aParX_cg {X Y : Bool} {a : Int32} {B C C2 : BK} (e3 : ∀ f b, bkR f b C → bkR f b C2) : (aParX X Y a B C).1 = (aParX X Y a B C2).1 ∧ ∀ f b, bkR f b (aParX X Y a B C).2 → bkR f b (aParX X Y a B C2).2 := by
  cases X with
  | false => exact ⟨rfl, fun f b q => q⟩
  | true =>
    cases Y with
    | true => exact ⟨rfl, fun f b q => q⟩
    | false => exact ⟨rfl, e3⟩
theorem aPar_X (B : BK) (s n : Nat) (ws : Nat → Int32) : aPar B s n ws = aParX (pB (∀ k, k < n → nI 1 ≤ ws k ∧ ws k ≤ nI 9)) (decide (8 ≤ bNp B s) || decide (60 < totF (bParAdd B s n (fun k => (ws k).toNatClampNeg)) s)) (nI (bNp B s)) B (bParAdd B s n (fun k => (ws k).toNatClampNeg)) := by unfold aPar aParX; rfl
theorem aPar_e1 {n : Nat} {ws ws' : Nat → Int32} (h : ∀ k, k < n → ws k = ws' k) : pB (∀ k, k < n → nI 1 ≤ ws k ∧ ws k ≤ nI 9) = pB (∀ k, k < n → nI 1 ≤ ws' k ∧ ws' k ≤ nI 9) := by
  have e1 : (∀ k, k < n → nI 1 ≤ ws k ∧ ws k ≤ nI 9) = (∀ k, k < n → nI 1 ≤ ws' k ∧ ws' k ≤ nI 9) := propext ⟨fun q k hk => by rw [← h k hk]; exact q k hk, fun q k hk => by rw [h k hk]; exact q k hk⟩
  rw [e1]
theorem aPar_e2 {B : BK} {s n : Nat} {ws ws' : Nat → Int32} (h1 : 1 ≤ n) (h : ∀ k, k < n → ws k = ws' k) : totF (bParAdd B s n (fun k => (ws k).toNatClampNeg)) s = totF (bParAdd B s n (fun k => (ws' k).toNatClampNeg)) s := tot_add_cg (fun k hk => congrArg Int32.toNatClampNeg (h k (by omega)))
theorem aPar_cg {B : BK} {s n : Nat} {ws ws' : Nat → Int32} (h1 : 1 ≤ n) (h : ∀ k, k < n → ws k = ws' k) : (aPar B s n ws).1 = (aPar B s n ws').1 ∧ ∀ f b, bkR f b (aPar B s n ws).2 → bkR f b (aPar B s n ws').2 := by
  rw [aPar_X, aPar_X, aPar_e1 h, aPar_e2 h1 h]
  exact aParX_cg (fun f b q => bkR_addcg (fun k hk => congrArg Int32.toNatClampNeg (h k hk)) q)
def sdN (sd k : Nat) : Nat := (sd * 7 + k * k * 3 + k * 5) % 9 + 1
noncomputable def oPara (S : ST) (s n sd : Int32) : Int32 × ST := bif decide (0 ≤ s ∧ s ≤ 1) && decide (nI 1 ≤ n ∧ n ≤ nI 12) && decide (nI 0 ≤ sd ∧ sd ≤ nI 99) then chg S (aPar S.1 s.toNatClampNeg n.toNatClampNeg (fun k => nI (sdN sd.toNatClampNeg k))) else (mI 2, refu S 0)
theorem C_para {S : ST} (hV : VS S) (s n sd : Int32) : CSp n_X6_para [.int s, .int n, .int sd] S (oPara S s n sd) := by
  have hT : mT n_X6_para = tb_X6_para := rfl
  intro m kf f hR
  obtain ⟨fr, q1, q2, q3⟩ := s_refu (n := m) (j := 0) (by omega) hV hR
  have hbad : Run n_X6_para 110 27 [some (.ref 0), some (.int s), some (.int n), some (.int sd), none] [] (HH m kf f) (Ret (some (.int (mI 2))) (HH m kf fr)) := by
    refine v_p hT rfl rfl ?_
    refine v_call hT [.int (mI 2)] rfl rfl (by first | rfl | assumption) (by omega) rfl rfl (Nat.le_of_ble_eq_true rfl) (Nat.le_of_ble_eq_true rfl) (q1) ?_
    refine v_ret hT rfl (fun z => by cases z) rfl ⟨rfl, rfl⟩
  unfold oPara
  by_cases c1 : 0 ≤ s ∧ s ≤ 1
  · by_cases c2 : nI 1 ≤ n ∧ n ≤ nI 12
    · by_cases c3 : nI 0 ≤ sd ∧ sd ≤ nI 99
      · rw [decide_eq_true c1, decide_eq_true c2, decide_eq_true c3]
        obtain ⟨N, n1, n2, n3⟩ := in_range n (by omega) c2 (by omega)
        obtain ⟨D, d1, d2, d3⟩ := in_range sd (by omega) c3 (by omega)
        obtain ⟨Z, z1, z2⟩ : ∃ Z, Z < 2 ∧ s = nI Z := by
          rcases int_lo c1 with e | e
          · exact ⟨0, by omega, e⟩
          · exact ⟨1, by omega, e⟩
        subst n3; subst d3; subst z2
        show ∃ kf2 f2, Run n_X6_para 110 0 _ [] (HH m kf f) (Ret (some (.int (chg S (aPar S.1 _ _ _)).1)) (HH m kf2 f2)) ∧ RepC kf2 f2 (chg S (aPar S.1 _ _ _)).2 ∧ _
        rw [nI_tn (show Z < 2 ^ 31 by omega), nI_tn (show N < 2 ^ 31 by omega), nI_tn (show D < 2 ^ 31 by omega)]
        obtain ⟨o1, o2⟩ := aPar_ok hV.1 z1 n1 n2 (fun k => nI (sdN D k))
        have loop : ∀ d k, k + d = N → ∀ F : Nat → Nat → Int32, (∀ c, c ≠ 97 → F c = f c) → (∀ j, j < k → F 97 j = nI (sdN D j)) → ∃ F2 : Nat → Nat → Int32, (∀ c, c ≠ 97 → F2 c = f c) ∧ (∀ j, j < N → F2 97 j = nI (sdN D j)) ∧ ∀ Φ, Run n_X6_para 110 78 [some (.ref 0), some (.int (nI Z)), some (.int (nI N)), some (.int (nI D)), none] [] (HH m kf F2) Φ → Run n_X6_para 110 40 [some (.ref 0), some (.int (nI Z)), some (.int (nI N)), some (.int (nI D)), some (.int (nI k))] [.int (nI N), .int (nI k)] (HH m kf F) Φ := by
          intro d
          induction d with
          | zero =>
            intro k hk F hF hj
            refine ⟨F, hF, fun j hj2 => hj j (by omega), fun Φ hΦ => ?_⟩
            refine g_cmp hT rfl (fun cq => ?_) (fun cq => ?_)
            · exact v_cv hΦ ⟨rfl, rfl, rfl, rfl, trivial⟩ rfl rfl
            · exact absurd ((cj_ge (by omega) (by omega)).mpr (by omega)) cq
          | succ d ih =>
            intro k hk F hF hj
            obtain ⟨F2, g1, g2, g3⟩ := ih (k + 1) (by omega) (hset F 97 k (nI (sdN D k))) (fun c hc => by rw [hset_ne hc]; exact hF c hc) (fun j hj2 => by
              rw [hs_s]
              unfold upd
              by_cases e : j = k
              · rw [if_pos e, e]
              · rw [if_neg e]; exact hj j (by omega))
            refine ⟨F2, g1, g2, fun Φ hΦ => ?_⟩
            refine g_cmp hT rfl (fun cq => ?_) (fun cq => ?_)
            · exact absurd ((cj_ge (by omega) (by omega)).mp cq) (by omega)
            · refine v_p hT rfl rfl ?_
              refine v_getr hT rfl rfl (by omega) rfl ?_
              refine v_p hT rfl rfl ?_
              rw [pk_mul, pk_mul, pk_mul, pk_mul, nI_add, nI_add]
              have hb1 : k * k ≤ 12 * 12 := Nat.mul_le_mul (by omega) (by omega)
              refine g_remN hT rfl (by omega) (by omega) (by omega) ?_
              refine v_p hT rfl rfl ?_
              rw [nI_add]
              refine v_ast hT rfl rfl (by omega) (by decide) (by omega) ?_
              refine v_p hT rfl rfl ?_
              refine v_cv (g3 Φ hΦ) ⟨rfl, rfl, rfl, rfl, ?_, trivial⟩ ?_ rfl
              · rw [nI_add]
              · rw [nI_add]
        obtain ⟨F2, g1, g2, g3⟩ := loop N 0 (by omega) f (fun _ _ => rfl) (fun j hj => absurd hj (Nat.not_lt_zero _))
        have hRF : RepC kf F2 S := RepC_fr hV hR (fun c hc => g1 c (by omega)) (by rw [g1 75 (by omega)])
        obtain ⟨f1, r1, hR1, b1, k1⟩ := s_copyToTry (n := m) hV hRF
        obtain ⟨f2, e1, e2, e3⟩ := s_addParagraph (m := m) (kf := kf) (f := f1) (b := 10) (r := 97) (at_ := 0) (s := Z) (n := N) (Or.inr (Or.inl rfl)) b1 hV.1.1 z1 n1 n2 rfl (by omega) (by omega) (by omega) (by omega)
        obtain ⟨p1, p2⟩ := aPar_cg (B := S.1) (s := Z) (n := N) (ws := fun k => f1 97 (0 + k)) (ws' := fun k => nI (sdN D k)) n1 (fun k hk => by
          show f1 97 (0 + k) = nI (sdN D k)
          rw [k1 97 (by omega), Nat.zero_add]
          exact g2 k hk)
        rw [p1] at e1
        obtain ⟨kf2, f3, r3, hR3, k3⟩ := s_settle (n := m) (kf := kf) (f := f2) (S := S) (r := aPar S.1 Z N (fun k => nI (sdN D k))) hV (RepC_fr hV hR1 (fun c hc => e3 c (by omega)) (by rw [e3 75 (by omega)])) o1 (p2 _ _ e2) o2
        refine ⟨kf2, f3, ?_, hR3, fun c hc => by rw [k3 c hc, e3 c (by omega), k1 c (by omega), g1 c (by omega)]⟩
        refine v_p hT rfl rfl ?_
        refine v_scall hT [.int (nI Z)] rfl rfl rfl rfl (Nat.le_of_ble_eq_true rfl) (Nat.le_of_ble_eq_true rfl) (s_isSide (nI Z)) ?_
        rw [decide_eq_true c1]
        refine g_if hT rfl (fun cq => ?_) (fun cq => ?_)
        · cases bf_of cq
        · refine v_p hT rfl rfl ?_
          refine v_scall hT [.int (nI N), .int (nI 1), .int (nI 12)] rfl rfl rfl rfl (Nat.le_of_ble_eq_true rfl) (Nat.le_of_ble_eq_true rfl) (s_within (nI N) (nI 1) (nI 12)) ?_
          rw [decide_eq_true c2]
          refine g_if hT rfl (fun cq2 => ?_) (fun cq2 => ?_)
          · cases bf_of cq2
          · refine v_p hT rfl rfl ?_
            refine v_scall hT [.int (nI D), .int (nI 0), .int (nI 99)] rfl rfl rfl rfl (Nat.le_of_ble_eq_true rfl) (Nat.le_of_ble_eq_true rfl) (s_within (nI D) (nI 0) (nI 99)) ?_
            rw [decide_eq_true c3]
            refine g_if hT rfl (fun cq3 => ?_) (fun cq3 => ?_)
            · refine v_p hT rfl rfl ?_
              refine g3 _ ?_
              refine v_p hT rfl rfl ?_
              refine v_call hT [] rfl rfl (by first | rfl | assumption) (by omega) rfl rfl (Nat.le_of_ble_eq_true rfl) (Nat.le_of_ble_eq_true rfl) (r1) ?_
              refine v_p hT rfl rfl ?_
              refine v_getr hT rfl rfl (by omega) rfl ?_
              refine v_p hT rfl rfl ?_
              refine v_call hT [.int (nI Z), .ref 97, .int (nI 0), .int (nI N)] rfl rfl (by first | rfl | assumption) (by omega) rfl rfl (Nat.le_of_ble_eq_true rfl) (Nat.le_of_ble_eq_true rfl) (e1) ?_
              refine v_call hT [.int (aPar S.1 Z N (fun k => nI (sdN D k))).1] rfl rfl (by first | rfl | assumption) (by omega) rfl rfl (Nat.le_of_ble_eq_true rfl) (Nat.le_of_ble_eq_true rfl) (r3) ?_
              refine v_ret hT rfl (fun z => by cases z) rfl ⟨rfl, rfl⟩
            · exact absurd (show ¬ (1 : Int32) = 0 by decide) cq3
      · rw [decide_eq_false c3, Bool.and_false]
        refine ⟨kf, fr, ?_, q2, q3⟩
        refine v_p hT rfl rfl ?_
        refine v_scall hT [.int s] rfl rfl rfl rfl (Nat.le_of_ble_eq_true rfl) (Nat.le_of_ble_eq_true rfl) (s_isSide s) ?_
        refine g_if hT rfl (fun cq => ?_) (fun cq => ?_)
        · exact hbad
        · refine v_p hT rfl rfl ?_
          refine v_scall hT [.int n, .int (nI 1), .int (nI 12)] rfl rfl rfl rfl (Nat.le_of_ble_eq_true rfl) (Nat.le_of_ble_eq_true rfl) (s_within n (nI 1) (nI 12)) ?_
          refine g_if hT rfl (fun cq2 => ?_) (fun cq2 => ?_)
          · exact hbad
          · refine v_p hT rfl rfl ?_
            refine v_scall hT [.int sd, .int (nI 0), .int (nI 99)] rfl rfl rfl rfl (Nat.le_of_ble_eq_true rfl) (Nat.le_of_ble_eq_true rfl) (s_within sd (nI 0) (nI 99)) ?_
            rw [decide_eq_false c3]
            refine g_if hT rfl (fun cq3 => ?_) (fun cq3 => ?_)
            · exact absurd rfl cq3
            · exact hbad
    · rw [decide_eq_false c2, Bool.and_false, Bool.false_and]
      refine ⟨kf, fr, ?_, q2, q3⟩
      refine v_p hT rfl rfl ?_
      refine v_scall hT [.int s] rfl rfl rfl rfl (Nat.le_of_ble_eq_true rfl) (Nat.le_of_ble_eq_true rfl) (s_isSide s) ?_
      refine g_if hT rfl (fun cq => ?_) (fun cq => ?_)
      · exact hbad
      · refine v_p hT rfl rfl ?_
        refine v_scall hT [.int n, .int (nI 1), .int (nI 12)] rfl rfl rfl rfl (Nat.le_of_ble_eq_true rfl) (Nat.le_of_ble_eq_true rfl) (s_within n (nI 1) (nI 12)) ?_
        rw [decide_eq_false c2]
        refine g_if hT rfl (fun cq2 => ?_) (fun cq2 => ?_)
        · exact hbad
        · exact absurd rfl cq2
  · rw [decide_eq_false c1, Bool.false_and, Bool.false_and]
    refine ⟨kf, fr, ?_, q2, q3⟩
    refine v_p hT rfl rfl ?_
    refine v_scall hT [.int s] rfl rfl rfl rfl (Nat.le_of_ble_eq_true rfl) (Nat.le_of_ble_eq_true rfl) (s_isSide s) ?_
    rw [decide_eq_false c1]
    refine g_if hT rfl (fun cq => ?_) (fun cq => ?_)
    · exact hbad
    · exact absurd rfl cq
end
section
/-! THE CLASS: orders done, texts, going back. -/
theorem kinds7 {c : Nat} (h : ¬ mostN c = 0) : c = 97 ∨ c = 98 ∨ c = 116 ∨ c = 119 ∨ c = 104 ∨ c = 108 ∨ c = 115 := by
  unfold mostN at h
  by_cases h1 : c = 97 ∨ c = 98
  · omega
  · rw [if_neg h1] at h
    by_cases h2 : c = 116
    · omega
    · rw [if_neg h2] at h
      by_cases h3 : c = 119
      · omega
      · rw [if_neg h3] at h
        by_cases h4 : c = 104 ∨ c = 108 ∨ c = 115
        · omega
        · rw [if_neg h4] at h; omega
noncomputable def ordA (B : BK) (c : Nat) (ns : Nat → Nat) (k : Nat) : Int32 × BK := if c = 97 then aPar B 0 k (fun i => nI (ns i)) else if c = 98 then aPar B 1 k (fun i => nI (ns i)) else if c = 116 then aTie B (nI (ns 0)) (nI (ns 1)) (nI (ns 2)) else if c = 119 then aWid B (nI (ns 0)) (nI (ns 1)) else if c = 104 then aSet B (nI 0) (nI (ns 0)) else if c = 108 then aSet B (nI 1) (nI (ns 0)) else if c = 115 then aSet B (nI 2) (nI (ns 0)) else (mI 2, B)
def kOk (c k : Nat) : Prop := ¬ mostN c = 0 ∧ leastN c ≤ k ∧ k ≤ mostN c
theorem ordA_ok {B : BK} (hV : VB B) {c k : Nat} {ns : Nat → Nat} (hk : kOk c k) : VB (ordA B c ns k).2 ∧ okA (ordA B c ns k).1 := by
  obtain ⟨h1, h2, h3⟩ := hk
  unfold ordA
  rcases kinds7 h1 with e | e | e | e | e | e | e
  · subst e; rw [if_pos rfl]; exact aPar_ok hV (by omega) h2 h3 _
  · subst e; rw [if_neg (by omega), if_pos rfl]; exact aPar_ok hV (by omega) h2 h3 _
  · subst e; rw [if_neg (by omega), if_neg (by omega), if_pos rfl]; exact aTie_ok hV _ _ _
  · subst e; rw [if_neg (by omega), if_neg (by omega), if_neg (by omega), if_pos rfl]; exact aWid_ok hV _ _
  · subst e; rw [if_neg (by omega), if_neg (by omega), if_neg (by omega), if_neg (by omega), if_pos rfl]; exact aSet_ok hV _ _
  · subst e; rw [if_neg (by omega), if_neg (by omega), if_neg (by omega), if_neg (by omega), if_neg (by omega), if_pos rfl]; exact aSet_ok hV _ _
  · subst e; rw [if_neg (by omega), if_neg (by omega), if_neg (by omega), if_neg (by omega), if_neg (by omega), if_neg (by omega), if_pos rfl]; exact aSet_ok hV _ _
def qG (Q : QS) (o : Nat) : Prop := kOk (qKs Q o) (qFr Q (o + 1) - qFr Q o) ∧ qFr Q o ≤ qFr Q (o + 1) ∧ qFr Q (o + 1) ≤ qNn Q
def qW (Q : QS) : Prop := (∀ o, o < qNo Q → qG Q o) ∧ (¬ qKd Q = 0 → ¬ mostN (qKd Q) = 0 ∧ qNn Q - qFr Q (qNo Q) ≤ mostN (qKd Q)) ∧ (qKd Q = 0 → qNn Q = qFr Q (qNo Q))
theorem qW_step {Q Q' : QS} {c i : Nat} (h : qW Q) (hI : qI Q i) (hs : qStep Q c = some Q') : qW Q' := by
  obtain ⟨w1, w2, w3⟩ := h
  obtain ⟨h1, h2, h3, h4, h5, h6⟩ := hI
  unfold qStep at hs
  by_cases c1 : c = 32
  · rw [if_pos c1] at hs
    cases hs
    exact ⟨w1, w2, w3⟩
  · rw [if_neg c1] at hs
    by_cases c2 : c = 59
    · rw [if_pos c2] at hs
      unfold qEnd at hs
      by_cases c3 : qKd Q = 0 ∨ qNn Q - qFr Q (qNo Q) < leastN (qKd Q)
      · rw [if_pos c3] at hs; cases hs
      · rw [if_neg c3] at hs
        cases hs
        have hk : ¬ qKd Q = 0 := fun z => c3 (Or.inl z)
        refine ⟨fun o ho => ?_, fun z => absurd rfl z, fun _ => ?_⟩
        · have ho : o < qNo Q + 1 := ho
          unfold qG
          show kOk (updN (qKs Q) (qNo Q) (qKd Q) o) (updN (qFr Q) (qNo Q + 1) (qNn Q) (o + 1) - updN (qFr Q) (qNo Q + 1) (qNn Q) o) ∧ updN (qFr Q) (qNo Q + 1) (qNn Q) o ≤ updN (qFr Q) (qNo Q + 1) (qNn Q) (o + 1) ∧ updN (qFr Q) (qNo Q + 1) (qNn Q) (o + 1) ≤ qNn Q
          unfold updN
          by_cases e : o = qNo Q
          · subst e
            rw [if_pos rfl, if_pos rfl, if_neg (by omega)]
            exact ⟨⟨(w2 hk).1, by omega, (w2 hk).2⟩, h3, Nat.le_refl _⟩
          · rw [if_neg e, if_neg (show ¬ o + 1 = qNo Q + 1 by omega), if_neg (show ¬ o = qNo Q + 1 by omega)]
            exact w1 o (by omega)
        · show qNn Q = updN (qFr Q) (qNo Q + 1) (qNn Q) (qNo Q + 1)
          unfold updN
          rw [if_pos rfl]
    · rw [if_neg c2] at hs
      by_cases c4 : 48 ≤ c ∧ c ≤ 57
      · rw [if_pos c4] at hs
        unfold qFig at hs
        by_cases c5 : qKd Q = 0 ∨ 2 ≤ qFg Q
        · rw [if_pos c5] at hs; cases hs
        · rw [if_neg c5] at hs
          have hk : ¬ qKd Q = 0 := fun z => c5 (Or.inl z)
          by_cases c6 : qFg Q = 1
          · rw [if_pos c6] at hs
            cases hs
            exact ⟨w1, w2, w3⟩
          · rw [if_neg c6] at hs
            by_cases c7 : mostN (qKd Q) ≤ qNn Q - qFr Q (qNo Q)
            · rw [if_pos c7] at hs; cases hs
            · rw [if_neg c7] at hs
              cases hs
              refine ⟨fun o ho => ?_, fun _ => ⟨(w2 hk).1, by show qNn Q + 1 - qFr Q (qNo Q) ≤ mostN (qKd Q); omega⟩, fun z => absurd z hk⟩
              obtain ⟨g1, g2, g3⟩ := w1 o ho
              exact ⟨g1, g2, by show qFr Q (o + 1) ≤ qNn Q + 1; omega⟩
      · rw [if_neg c4] at hs
        unfold qBeg at hs
        by_cases c8 : ¬ qKd Q = 0 ∨ mostN c = 0
        · rw [if_pos c8] at hs; cases hs
        · rw [if_neg c8] at hs
          cases hs
          have hk : qKd Q = 0 := Classical.not_not.mp (fun z => c8 (Or.inl z))
          refine ⟨w1, fun z => ⟨fun q => c8 (Or.inr q), ?_⟩, fun z => ?_⟩
          · show qNn Q - qFr Q (qNo Q) ≤ mostN c
            rw [w3 hk]
            omega
          · exact w3 hk
theorem scan_ok {t : TX} (hV : VT t) : ∀ d i Q, i + d = t.1 → qI Q i → qW Q → ∀ Q2, (scan t d i Q).2 = some Q2 → qI Q2 t.1 ∧ qW Q2 := by
  intro d
  induction d with
  | zero =>
    intro i Q hi hI hW Q2 z
    have z : (if ¬ qKd Q = 0 ∨ qNo Q = 0 then (t.1, none) else (t.1, some Q) : Nat × Option QS).2 = some Q2 := z
    by_cases hc : ¬ qKd Q = 0 ∨ qNo Q = 0
    · rw [if_pos hc] at z; cases z
    · rw [if_neg hc] at z
      cases z
      rw [show t.1 = i by omega]
      exact ⟨hI, hW⟩
  | succ d ih =>
    intro i Q hi hI hW Q2 z
    have hsc : scan t (d + 1) i Q = match qStep Q (t.2 i) with | none => (i, none) | some Q' => scan t d (i + 1) Q' := rfl
    cases hst : qStep Q (t.2 i) with
    | none =>
      rw [hst] at hsc
      rw [hsc] at z
      cases z
    | some Q' =>
      rw [hst] at hsc
      rw [hsc] at z
      exact ih (i + 1) Q' (by omega) (qI_step hI (hV.2 i (by omega)) hst) (qW_step hW hI hst) Q2 z
theorem Q0_I : qI Q0 0 := ⟨Nat.le_refl _, Nat.le_refl _, Nat.le_refl _, fun z => (by cases z), by show 0 < 128; omega, Nat.zero_le _⟩
theorem Q0_W : qW Q0 := ⟨fun o ho => absurd ho (Nat.not_lt_zero _), fun z => absurd rfl z, fun _ => rfl⟩
theorem readF_ok {t : TX} (hV : VT t) {Q : QS} (h : (readF t).2 = some Q) : qI Q t.1 ∧ qW Q := scan_ok hV t.1 0 Q0 (by omega) Q0_I Q0_W Q h
noncomputable def qOrd (Q : QS) (o : Nat) (B : BK) : Int32 × BK := ordA B (qKs Q o) (fun i => qNm Q (qFr Q o + i)) (qFr Q (o + 1) - qFr Q o)
theorem s_tryOrder {n o : Nat} {kf : Nat → Nat} {f : Nat → Nat → Int32} {Q : QS} {B : BK} (hQ : qR f Q) (hI : qI Q 120) (hW : qW Q) (ho : o < qNo Q) (hb : bkR f 10 B) (hV : VB B) (hf1 : f 1001 = sf1) (hf2 : f 1002 = sf2) :
    ∃ f2, Run n_X6_tryOrder 110 0 (ini n_X6_tryOrder [.ref 0, .int (nI o)]) [] (HH n kf f) (Ret (some (.int (qOrd Q o B).1)) (HH n kf f2)) ∧ bkR f2 10 (qOrd Q o B).2 ∧ ∀ c, c < 10 ∨ 18 < c → f2 c = f c := by
  have hT : mT n_X6_tryOrder = tb_X6_tryOrder := rfl
  obtain ⟨r1, r2, r3, r4, r5, r6, r7⟩ := hQ
  obtain ⟨i1, i2, i3, i4, i5, i6⟩ := hI
  obtain ⟨⟨g1, g2, g3⟩, g4, g5⟩ := hW.1 o ho
  have s0 := r6 o (by omega)
  have s1 := r6 (o + 1) (by omega)
  have s2 := r5 o ho
  have start : ∀ Φ, Run n_X6_tryOrder 110 42 [some (.ref 0), some (.int (nI o)), some (.ref 79), some (.int (nI (qFr Q o))), some (.int (nI (qFr Q (o + 1) - qFr Q o)))] [.int (nI (qKs Q o))] (HH n kf f) Φ → Run n_X6_tryOrder 110 0 (ini n_X6_tryOrder [.ref 0, .int (nI o)]) [] (HH n kf f) Φ := by
    intro Φ hΦ
    refine v_p hT rfl rfl ?_
    refine v_getr hT rfl rfl (by omega) rfl ?_
    refine v_getr hT rfl rfl (by omega) rfl ?_
    refine v_p hT rfl rfl ?_
    refine v_getr hT rfl rfl (by omega) rfl ?_
    refine v_getr hT rfl rfl (by omega) rfl ?_
    refine v_p hT rfl rfl ?_
    refine v_ald hT rfl (by first | assumption | rfl) (by omega) (by decide) (by omega) ?_
    rw [s0]
    refine v_p hT rfl rfl ?_
    refine v_getr hT rfl rfl (by omega) rfl ?_
    refine v_getr hT rfl rfl (by omega) rfl ?_
    refine v_p hT rfl rfl ?_
    rw [nI_add]
    refine v_ald hT rfl (by first | assumption | rfl) (by omega) (by decide) (by omega) ?_
    rw [s1]
    refine v_p hT rfl rfl ?_
    rw [pk_sub g4]
    refine v_getr hT rfl rfl (by omega) rfl ?_
    refine v_getr hT rfl rfl (by omega) rfl ?_
    refine v_p hT rfl rfl ?_
    refine v_ald hT rfl (by first | assumption | rfl) (by omega) (by decide) (by omega) ?_
    rw [s2]
    exact hΦ
  unfold qOrd
  generalize hA : qFr Q o = A at *
  generalize hK : qFr Q (o + 1) - A = K at *
  have hAK : A + K ≤ 120 := by omega
  have hn : ∀ i, i < K → f 79 (A + i) = nI (qNm Q (A + i)) := fun i hi => r7 _ (by omega)
  unfold ordA
  rcases kinds7 g1 with e | e | e | e | e | e | e
  · rw [e] at start g2 g3 ⊢
    rw [if_pos rfl]
    have g2 : 1 ≤ K := g2
    have g3 : K ≤ 12 := g3
    obtain ⟨f2, e1, e2, e3⟩ := s_addParagraph (m := n) (kf := kf) (f := f) (b := 10) (r := 79) (at_ := A) (s := 0) (n := K) (Or.inr (Or.inl rfl)) hb hV.1 (by omega) g2 g3 rfl (by omega) (by omega) hAK (by omega)
    obtain ⟨p1, p2⟩ := aPar_cg (B := B) (s := 0) (n := K) (ws := fun k => f 79 (A + k)) (ws' := fun i => nI (qNm Q (A + i))) g2 (fun k hk => hn k hk)
    rw [p1] at e1
    refine ⟨f2, start _ ?_, p2 _ _ e2, e3⟩
    refine g_sw hT rfl (Or.inl rfl) (pc' := 148) rfl ?_
    refine v_p hT rfl rfl ?_
    refine v_getr hT rfl rfl (by omega) rfl ?_
    refine v_p hT rfl rfl ?_
    refine v_call hT [.int (nI 0), .ref 79, .int (nI A), .int (nI K)] rfl rfl (by first | rfl | assumption) (by omega) rfl rfl (Nat.le_of_ble_eq_true rfl) (Nat.le_of_ble_eq_true rfl) (e1) ?_
    refine v_ret hT rfl (fun z => by cases z) rfl ⟨rfl, rfl⟩
  · rw [e] at start g2 g3 ⊢
    rw [if_neg (by omega), if_pos rfl]
    have g2 : 1 ≤ K := g2
    have g3 : K ≤ 12 := g3
    obtain ⟨f2, e1, e2, e3⟩ := s_addParagraph (m := n) (kf := kf) (f := f) (b := 10) (r := 79) (at_ := A) (s := 1) (n := K) (Or.inr (Or.inl rfl)) hb hV.1 (by omega) g2 g3 rfl (by omega) (by omega) hAK (by omega)
    obtain ⟨p1, p2⟩ := aPar_cg (B := B) (s := 1) (n := K) (ws := fun k => f 79 (A + k)) (ws' := fun i => nI (qNm Q (A + i))) g2 (fun k hk => hn k hk)
    rw [p1] at e1
    refine ⟨f2, start _ ?_, p2 _ _ e2, e3⟩
    refine g_sw hT rfl (Or.inl rfl) (pc' := 161) rfl ?_
    refine v_p hT rfl rfl ?_
    refine v_getr hT rfl rfl (by omega) rfl ?_
    refine v_p hT rfl rfl ?_
    refine v_call hT [.int (nI 1), .ref 79, .int (nI A), .int (nI K)] rfl rfl (by first | rfl | assumption) (by omega) rfl rfl (Nat.le_of_ble_eq_true rfl) (Nat.le_of_ble_eq_true rfl) (e1) ?_
    refine v_ret hT rfl (fun z => by cases z) rfl ⟨rfl, rfl⟩
  · rw [e] at start g2 g3 ⊢
    rw [if_neg (by omega), if_neg (by omega), if_pos rfl]
    have g2 : 3 ≤ K := g2
    obtain ⟨f2, e1, e2, e3⟩ := s_addTie (n := n) (kf := kf) (f := f) (b := 10) (Or.inr (Or.inl rfl)) hb hV.1 (nI (qNm Q (A + 0))) (nI (qNm Q (A + 1))) (nI (qNm Q (A + 2)))
    refine ⟨f2, start _ ?_, e2, e3⟩
    refine g_sw hT rfl (Or.inl rfl) (pc' := 174) rfl ?_
    refine v_p hT rfl rfl ?_
    refine v_getr hT rfl rfl (by omega) rfl ?_
    refine v_p hT rfl rfl ?_
    refine v_ald hT rfl (by first | assumption | rfl) (by omega) (by decide) (by omega) ?_
    rw [show f 79 A = nI (qNm Q (A + 0)) from hn 0 (by omega)]
    refine v_p hT rfl rfl ?_
    rw [nI_add]
    refine v_ald hT rfl (by first | assumption | rfl) (by omega) (by decide) (by omega) ?_
    rw [hn 1 (by omega)]
    refine v_p hT rfl rfl ?_
    rw [nI_add]
    refine v_ald hT rfl (by first | assumption | rfl) (by omega) (by decide) (by omega) ?_
    rw [hn 2 (by omega)]
    refine v_call hT [.int (nI (qNm Q (A + 0))), .int (nI (qNm Q (A + 1))), .int (nI (qNm Q (A + 2)))] rfl rfl (by first | rfl | assumption) (by omega) rfl rfl (Nat.le_of_ble_eq_true rfl) (Nat.le_of_ble_eq_true rfl) (e1) ?_
    refine v_ret hT rfl (fun z => by cases z) rfl ⟨rfl, rfl⟩
  · rw [e] at start g2 g3 ⊢
    rw [if_neg (by omega), if_neg (by omega), if_neg (by omega), if_pos rfl]
    have g2 : 2 ≤ K := g2
    obtain ⟨f2, e1, e2, e3⟩ := s_changeWidth (n := n) (kf := kf) (f := f) (b := 10) (Or.inr (Or.inl rfl)) hb hV.1 (nI (qNm Q (A + 0))) (nI (qNm Q (A + 1)))
    refine ⟨f2, start _ ?_, e2, e3⟩
    refine g_sw hT rfl (Or.inl rfl) (pc' := 195) rfl ?_
    refine v_p hT rfl rfl ?_
    refine v_getr hT rfl rfl (by omega) rfl ?_
    refine v_p hT rfl rfl ?_
    refine v_ald hT rfl (by first | assumption | rfl) (by omega) (by decide) (by omega) ?_
    rw [show f 79 A = nI (qNm Q (A + 0)) from hn 0 (by omega)]
    refine v_p hT rfl rfl ?_
    rw [nI_add]
    refine v_ald hT rfl (by first | assumption | rfl) (by omega) (by decide) (by omega) ?_
    rw [hn 1 (by omega)]
    refine v_call hT [.int (nI (qNm Q (A + 0))), .int (nI (qNm Q (A + 1)))] rfl rfl (by first | rfl | assumption) (by omega) rfl rfl (Nat.le_of_ble_eq_true rfl) (Nat.le_of_ble_eq_true rfl) (e1) ?_
    refine v_ret hT rfl (fun z => by cases z) rfl ⟨rfl, rfl⟩
  · rw [e] at start g2 g3 ⊢
    rw [if_neg (by omega), if_neg (by omega), if_neg (by omega), if_neg (by omega), if_pos rfl]
    have g2 : 1 ≤ K := g2
    obtain ⟨f2, e1, e2, e3⟩ := s_changeSetting (n := n) (kf := kf) (f := f) (b := 10) (Or.inr (Or.inl rfl)) hb hf1 hf2 (nI 0) (nI (qNm Q (A + 0)))
    refine ⟨f2, start _ ?_, e2, e3⟩
    refine g_sw hT rfl (Or.inl rfl) (pc' := 211) rfl ?_
    refine v_p hT rfl rfl ?_
    refine v_getr hT rfl rfl (by omega) rfl ?_
    refine v_p hT rfl rfl ?_
    refine v_ald hT rfl (by first | assumption | rfl) (by omega) (by decide) (by omega) ?_
    rw [show f 79 A = nI (qNm Q (A + 0)) from hn 0 (by omega)]
    refine v_call hT [.int (nI 0), .int (nI (qNm Q (A + 0)))] rfl rfl (by first | rfl | assumption) (by omega) rfl rfl (Nat.le_of_ble_eq_true rfl) (Nat.le_of_ble_eq_true rfl) (e1) ?_
    refine v_ret hT rfl (fun z => by cases z) rfl ⟨rfl, rfl⟩
  · rw [e] at start g2 g3 ⊢
    rw [if_neg (by omega), if_neg (by omega), if_neg (by omega), if_neg (by omega), if_neg (by omega), if_pos rfl]
    have g2 : 1 ≤ K := g2
    obtain ⟨f2, e1, e2, e3⟩ := s_changeSetting (n := n) (kf := kf) (f := f) (b := 10) (Or.inr (Or.inl rfl)) hb hf1 hf2 (nI 1) (nI (qNm Q (A + 0)))
    refine ⟨f2, start _ ?_, e2, e3⟩
    refine g_sw hT rfl (Or.inl rfl) (pc' := 223) rfl ?_
    refine v_p hT rfl rfl ?_
    refine v_getr hT rfl rfl (by omega) rfl ?_
    refine v_p hT rfl rfl ?_
    refine v_ald hT rfl (by first | assumption | rfl) (by omega) (by decide) (by omega) ?_
    rw [show f 79 A = nI (qNm Q (A + 0)) from hn 0 (by omega)]
    refine v_call hT [.int (nI 1), .int (nI (qNm Q (A + 0)))] rfl rfl (by first | rfl | assumption) (by omega) rfl rfl (Nat.le_of_ble_eq_true rfl) (Nat.le_of_ble_eq_true rfl) (e1) ?_
    refine v_ret hT rfl (fun z => by cases z) rfl ⟨rfl, rfl⟩
  · rw [e] at start g2 g3 ⊢
    rw [if_neg (by omega), if_neg (by omega), if_neg (by omega), if_neg (by omega), if_neg (by omega), if_neg (by omega), if_pos rfl]
    have g2 : 1 ≤ K := g2
    obtain ⟨f2, e1, e2, e3⟩ := s_changeSetting (n := n) (kf := kf) (f := f) (b := 10) (Or.inr (Or.inl rfl)) hb hf1 hf2 (nI 2) (nI (qNm Q (A + 0)))
    refine ⟨f2, start _ ?_, e2, e3⟩
    refine g_sw hT rfl (Or.inl rfl) (pc' := 235) rfl ?_
    refine v_p hT rfl rfl ?_
    refine v_getr hT rfl rfl (by omega) rfl ?_
    refine v_p hT rfl rfl ?_
    refine v_ald hT rfl (by first | assumption | rfl) (by omega) (by decide) (by omega) ?_
    rw [show f 79 A = nI (qNm Q (A + 0)) from hn 0 (by omega)]
    refine v_call hT [.int (nI 2), .int (nI (qNm Q (A + 0)))] rfl rfl (by first | rfl | assumption) (by omega) rfl rfl (Nat.le_of_ble_eq_true rfl) (Nat.le_of_ble_eq_true rfl) (e1) ?_
    refine v_ret hT rfl (fun z => by cases z) rfl ⟨rfl, rfl⟩
/-- the orders from o on: where one is refused, or the book at the end -/
noncomputable def doS (Q : QS) : Nat → Nat → BK → Nat × Option BK
  | 0, o, B => (o, some B)
  | d + 1, o, B => bif decide ((qOrd Q o B).1 < 0) then (o, none) else doS Q d (o + 1) (qOrd Q o B).2
theorem qOrd_ok {Q : QS} {o : Nat} {B : BK} (hW : qW Q) (ho : o < qNo Q) (hV : VB B) : VB (qOrd Q o B).2 ∧ okA (qOrd Q o B).1 := ordA_ok hV (hW.1 o ho).1
theorem doS_ok {Q : QS} (hW : qW Q) : ∀ d o B, o + d = qNo Q → VB B → ∀ B2, (doS Q d o B).2 = some B2 → VB B2 := by
  intro d
  induction d with
  | zero => intro o B _ hV B2 z; cases z; exact hV
  | succ d ih =>
    intro o B ho hV B2 z
    have z : (bif decide ((qOrd Q o B).1 < 0) then (o, none) else doS Q d (o + 1) (qOrd Q o B).2).2 = some B2 := z
    by_cases hc : (qOrd Q o B).1 < 0
    · rw [decide_eq_true hc] at z; cases z
    · rw [decide_eq_false hc] at z
      exact ih (o + 1) _ (by omega) (qOrd_ok hW (by omega) hV).1 B2 z
noncomputable def oDoes (S : ST) : Int32 × ST := match readF S.2.2.1 with
  | (i, none) => (mI 10 - nI i, S)
  | (_, some Q) => match doS Q (qNo Q) 0 S.1 with
    | (o, none) => (mI 1000 - nI o, S)
    | (_, some B) => chg S (nI (qNo Q), B)
theorem C_does {S : ST} (hV : VS S) : CSp n_X6_does [] S (oDoes S) := by
  have hT : mT n_X6_does = tb_X6_does := rfl
  intro n kf f hR
  obtain ⟨fa, r1, q1, q2⟩ := s_read (n := n) (kf := kf) hV.2.2 hR.2.2.2.1
  have hRa : RepC kf fa S := RepC_fr hV hR (fun c hc => q2.1 c (by omega) (by omega) (by omega) (by omega)) q2.2
  have hga : ∀ c, 97 < c → fa c = f c := fun c hc => q2.1 c (by omega) (by omega) (by omega) (by omega)
  unfold oDoes
  have hok := fun Q => readF_ok hV.2.2 (Q := Q)
  have hpl : (readF S.2.2.1).1 < 2 ^ 31 - 1 := by
    have hs : ∀ d i Q, i + d = S.2.2.1.1 → (scan S.2.2.1 d i Q).1 ≤ S.2.2.1.1 := by
      intro d
      induction d with
      | zero =>
        intro i Q hi
        show (if ¬ qKd Q = 0 ∨ qNo Q = 0 then (S.2.2.1.1, none) else (S.2.2.1.1, some Q) : Nat × Option QS).1 ≤ _
        split <;> exact Nat.le_refl _
      | succ d ih =>
        intro i Q hi
        have hsc : scan S.2.2.1 (d + 1) i Q = match qStep Q (S.2.2.1.2 i) with | none => (i, none) | some Q' => scan S.2.2.1 d (i + 1) Q' := rfl
        cases hst : qStep Q (S.2.2.1.2 i) with
        | none => rw [hst] at hsc; rw [hsc]; show i ≤ _; omega
        | some Q' => rw [hst] at hsc; rw [hsc]; exact ih (i + 1) Q' (by omega)
    have h1 := hs S.2.2.1.1 0 Q0 (by omega)
    have h2 := hV.2.2.1
    show (scan S.2.2.1 S.2.2.1.1 0 Q0).1 < _
    omega
  generalize hrd : readF S.2.2.1 = R at *
  obtain ⟨i, oq⟩ := R
  cases oq with
  | none =>
    refine ⟨kf, fa, ?_, hRa, hga⟩
    refine v_p hT rfl rfl ?_
    refine v_getr hT rfl rfl (by omega) rfl ?_
    refine v_call hT [] rfl rfl (by first | rfl | assumption) (by omega) rfl rfl (Nat.le_of_ble_eq_true rfl) (Nat.le_of_ble_eq_true rfl) (r1) ?_
    refine v_p hT rfl rfl ?_
    refine g_cmp hT rfl (fun cq => ?_) (fun cq => ?_)
    · exfalso
      have cq : nI i = mI 1 := cq
      have h2 : nI 0 ≤ nI i := (cj_ge (a := i) (b := 0) (by have : i < 2 ^ 31 - 1 := hpl; omega) (by omega)).mpr (by omega)
      rw [cq] at h2
      revert h2
      decide
    · refine v_p hT rfl rfl ?_
      refine v_ret hT rfl (fun z => by cases z) rfl ⟨rfl, rfl⟩
  | some Q =>
    obtain ⟨hI0, hW⟩ := hok Q rfl
    have hQ := q1 Q rfl
    have h120 := hV.2.2.1
    have hI : qI Q 120 := ⟨by have := hI0.1; omega, by have := hI0.2.1; omega, hI0.2.2⟩
    have hno := hI.1
    obtain ⟨fb, r2, hRb, b1, k1⟩ := s_copyToTry (n := n) hV hRa
    have hQb : qR fb Q := by
      obtain ⟨x1, x2, x3, x4, x5, x6, x7⟩ := hQ
      exact ⟨by rw [k1 75 (by omega)]; exact x1, by rw [k1 75 (by omega)]; exact x2, by rw [k1 75 (by omega)]; exact x3, by rw [k1 75 (by omega)]; exact x4, fun k hk => by rw [k1 77 (by omega)]; exact x5 k hk, fun k hk => by rw [k1 78 (by omega)]; exact x6 k hk, fun k hk => by rw [k1 79 (by omega)]; exact x7 k hk⟩
    have start : ∀ Φ, Run n_X6_does 110 33 [some (.ref 0), some (.int (mI 1)), some (.int (nI 0))] [.int (nI (qNo Q)), .int (nI 0)] (HH n kf fb) Φ → Run n_X6_does 110 0 (ini n_X6_does [.ref 0]) [] (HH n kf f) Φ := by
      intro Φ hΦ
      refine v_p hT rfl rfl ?_
      refine v_getr hT rfl rfl (by omega) rfl ?_
      refine v_call hT [] rfl rfl (by first | rfl | assumption) (by omega) rfl rfl (Nat.le_of_ble_eq_true rfl) (Nat.le_of_ble_eq_true rfl) (r1) ?_
      refine v_p hT rfl rfl ?_
      refine g_cmp hT rfl (fun cq => ?_) (fun cq => ?_)
      · refine v_p hT rfl rfl ?_
        refine v_call hT [] rfl rfl (by first | rfl | assumption) (by omega) rfl rfl (Nat.le_of_ble_eq_true rfl) (Nat.le_of_ble_eq_true rfl) (r2) ?_
        refine v_p hT rfl rfl ?_
        refine v_getr hT rfl rfl (by omega) rfl ?_
        refine v_geti hT rfl (by first | rfl | assumption) (by omega) ?_
        rw [hQb.1]
        exact hΦ
      · exact absurd rfl cq
    have loop : ∀ d o, o + d = qNo Q → ∀ (F : Nat → Nat → Int32) (B : BK), bkR F 10 B → VB B → (∀ c, c < 10 ∨ 18 < c → F c = fb c) →
        ∃ kf2 f2, Run n_X6_does 110 33 [some (.ref 0), some (.int (mI 1)), some (.int (nI o))] [.int (nI (qNo Q)), .int (nI o)] (HH n kf F) (Ret (some (.int (match doS Q d o B with | (o, none) => (mI 1000 - nI o, S) | (_, some B) => chg S (nI (qNo Q), B) : Int32 × ST).1)) (HH n kf2 f2)) ∧ RepC kf2 f2 (match doS Q d o B with | (o, none) => (mI 1000 - nI o, S) | (_, some B) => chg S (nI (qNo Q), B) : Int32 × ST).2 ∧ ∀ c, 97 < c → f2 c = fb c := by
      intro d
      induction d with
      | zero =>
        intro o ho F B hB hVB hF
        obtain ⟨kf2, f3, r3, hR3, k3⟩ := s_settle (n := n) (kf := kf) (f := F) (S := S) (r := (nI (qNo Q), B)) hV (RepC_fr hV hRb (fun c hc => hF c (by omega)) (by rw [hF 75 (by omega)])) hVB hB (Or.inr (Or.inr (Or.inr ⟨qNo Q, by omega, rfl⟩)))
        refine ⟨kf2, f3, ?_, hR3, fun c hc => by rw [k3 c hc, hF c (by omega)]⟩
        refine g_cmp hT rfl (fun cq => ?_) (fun cq => ?_)
        · refine v_p hT rfl rfl ?_
          refine v_getr hT rfl rfl (by omega) rfl ?_
          refine v_geti hT rfl (by first | rfl | assumption) (by omega) ?_
          rw [hF 75 (by omega), hQb.1]
          refine v_call hT [.int (nI (qNo Q))] rfl rfl (by first | rfl | assumption) (by omega) rfl rfl (Nat.le_of_ble_eq_true rfl) (Nat.le_of_ble_eq_true rfl) (r3) ?_
          refine v_ret hT rfl (fun z => by cases z) rfl ⟨rfl, rfl⟩
        · exact absurd ((cj_ge (by omega) (by omega)).mpr (by omega)) cq
      | succ d ih =>
        intro o ho F B hB hVB hF
        have hQF : qR F Q := by
          obtain ⟨x1, x2, x3, x4, x5, x6, x7⟩ := hQb
          exact ⟨by rw [hF 75 (by omega)]; exact x1, by rw [hF 75 (by omega)]; exact x2, by rw [hF 75 (by omega)]; exact x3, by rw [hF 75 (by omega)]; exact x4, fun k hk => by rw [hF 77 (by omega)]; exact x5 k hk, fun k hk => by rw [hF 78 (by omega)]; exact x6 k hk, fun k hk => by rw [hF 79 (by omega)]; exact x7 k hk⟩
        obtain ⟨F2, e1, e2, e3⟩ := s_tryOrder (n := n) (kf := kf) (o := o) hQF hI hW (by omega) hB hVB (by rw [hF 1001 (by omega)]; exact hRb.2.2.2.2.2.1.1) (by rw [hF 1002 (by omega)]; exact hRb.2.2.2.2.2.1.2)
        have hF2 : ∀ c, c < 10 ∨ 18 < c → F2 c = fb c := fun c hc => by rw [e3 c hc, hF c hc]
        have hdo : doS Q (d + 1) o B = bif decide ((qOrd Q o B).1 < 0) then (o, none) else doS Q d (o + 1) (qOrd Q o B).2 := rfl
        rw [hdo]
        have st2 : ∀ Φ, Run n_X6_does 110 41 [some (.ref 0), some (.int (mI 1)), some (.int (nI o))] [.int (qOrd Q o B).1] (HH n kf F2) Φ → Run n_X6_does 110 33 [some (.ref 0), some (.int (mI 1)), some (.int (nI o))] [.int (nI (qNo Q)), .int (nI o)] (HH n kf F) Φ := by
          intro Φ hΦ
          refine g_cmp hT rfl (fun cq => ?_) (fun cq => ?_)
          · exact absurd ((cj_ge (by omega) (by omega)).mp cq) (by omega)
          · refine v_p hT rfl rfl ?_
            refine v_call hT [.int (nI o)] rfl rfl (by first | rfl | assumption) (by omega) rfl rfl (Nat.le_of_ble_eq_true rfl) (Nat.le_of_ble_eq_true rfl) (e1) ?_
            exact hΦ
        by_cases hc : (qOrd Q o B).1 < 0
        · rw [decide_eq_true hc]
          refine ⟨kf, F2, st2 _ ?_, RepC_fr hV hRb (fun c hc => hF2 c (by omega)) (by rw [hF2 75 (by omega)]), fun c hc => hF2 c (by omega)⟩
          refine g_if hT rfl (fun cq => ?_) (fun cq => ?_)
          · have cq : (0 : Int32) ≤ (qOrd Q o B).1 := cq
            exact absurd hc (Int32.not_lt.mpr cq)
          · refine v_p hT rfl rfl ?_
            refine v_ret hT rfl (fun z => by cases z) rfl ⟨rfl, rfl⟩
        · rw [decide_eq_false hc]
          obtain ⟨kf2, f2, g1, g2, g3⟩ := ih (o + 1) (by omega) F2 _ e2 (qOrd_ok hW (by omega) hVB).1 hF2
          refine ⟨kf2, f2, st2 _ ?_, g2, g3⟩
          refine g_if hT rfl (fun cq => ?_) (fun cq => ?_)
          · refine v_p hT rfl rfl ?_
            refine v_getr hT rfl rfl (by omega) rfl ?_
            refine v_geti hT rfl (by first | rfl | assumption) (by omega) ?_
            rw [hF2 75 (by omega), hQb.1]
            refine v_cv g1 ⟨rfl, rfl, ?_, trivial⟩ ?_ rfl
            · rw [nI_add]
            · rw [nI_add]
          · exact absurd (Int32.not_lt.mp hc) cq
    obtain ⟨kf2, f2, g1, g2, g3⟩ := loop (qNo Q) 0 (by omega) fb S.1 b1 hV.1 (fun _ _ => rfl)
    exact ⟨kf2, f2, start _ g1, g2, fun c hc => by rw [g3 c hc, k1 c (by omega), hga c hc]⟩
end
section
/-! THE CLASS: what is asked. -/
theorem int_04 {w : Int32} {b : Nat} (hb : b < 1000) (h : nI 0 ≤ w ∧ w ≤ nI b) : ∃ k, k ≤ b ∧ w = nI k := by
  obtain ⟨k, _, h2, h3⟩ := in_range w (by omega) h (by omega)
  exact ⟨k, h2, h3⟩
theorem neg_lt {x : Int32} : cnd 2 x 0 ↔ x < 0 := Iff.rfl
noncomputable def oBack (S : ST) : Int32 × ST := if S.2.1.1 = 0 then (mI 3, refu S 1) else (nI (S.2.1.1 - 1), (S.2.1.2 (S.2.1.1 - 1), (S.2.1.1 - 1, S.2.1.2), S.2.2.1, S.2.2.2))
theorem C_back {S : ST} (hV : VS S) : CSp n_X6_back [] S (oBack S) := by
  have hT : mT n_X6_back = tb_X6_back := rfl
  intro n kf f hR
  have hR0 := hR
  obtain ⟨a1, a2, a3, a4, a5, a6, me, la, a7, a8, a9, a10⟩ := hR
  obtain ⟨f1, r1, g1, g2, g3, g4⟩ := s_giveBack (n := n) a1 a3 hV.2.1
  unfold oBack
  by_cases h0 : S.2.1.1 = 0
  · rw [if_pos h0]
    have e := g2 h0
    subst e
    obtain ⟨f2, q1, q2, q3⟩ := s_refu (n := n) (j := 1) (by omega) hV hR0
    refine ⟨kf, f2, ?_, q2, q3⟩
    rw [decide_eq_false (show ¬ 0 < S.2.1.1 by omega)] at r1
    refine v_p hT rfl rfl ?_
    refine v_getr hT rfl rfl (by omega) rfl ?_
    refine v_p hT rfl rfl ?_
    refine v_getr hT rfl rfl (by omega) rfl ?_
    refine v_call hT [.ref 1] rfl rfl (by first | rfl | assumption) (by omega) rfl rfl (Nat.le_of_ble_eq_true rfl) (Nat.le_of_ble_eq_true rfl) (r1) ?_
    refine g_if hT rfl (fun cq => ?_) (fun cq => ?_)
    · exact absurd rfl cq
    · refine v_p hT rfl rfl ?_
      refine v_call hT [.int (mI 3)] rfl rfl (by first | rfl | assumption) (by omega) rfl rfl (Nat.le_of_ble_eq_true rfl) (Nat.le_of_ble_eq_true rfl) (q1) ?_
      refine v_ret hT rfl (fun z => by cases z) rfl ⟨rfl, rfl⟩
  · rw [if_neg h0]
    rw [decide_eq_true (show 0 < S.2.1.1 by omega)] at r1
    have hn := hV.2.1.1
    have h19 : hset (hset f1 0 9 (nI 0)) 0 10 (nI 0) 19 1 = nI (S.2.1.1 - 1) := by rw [hset_ne (by omega), hset_ne (by omega)]; exact g3.1
    have hfr : ∀ c, 19 < c → hset (hset f1 0 9 (nI 0)) 0 10 (nI 0) c = f c := fun c hc => by rw [hset_ne (by omega), hset_ne (by omega), g4 c (by omega)]
    refine ⟨kf, hset (hset f1 0 9 (nI 0)) 0 10 (nI 0), ?_, ⟨a1, ?_, ?_, ?_, fun i hi => ?_, ?_, false, false, ?_, ?_, fun z => (by cases z), fun z => (by cases z)⟩, fun c hc => hfr c (by omega)⟩
    · refine v_p hT rfl rfl ?_
      refine v_getr hT rfl rfl (by omega) rfl ?_
      refine v_p hT rfl rfl ?_
      refine v_getr hT rfl rfl (by omega) rfl ?_
      refine v_call hT [.ref 1] rfl rfl (by first | rfl | assumption) (by omega) rfl rfl (Nat.le_of_ble_eq_true rfl) (Nat.le_of_ble_eq_true rfl) (r1) ?_
      refine g_if hT rfl (fun cq => ?_) (fun cq => ?_)
      · refine v_p hT rfl rfl ?_
        refine v_call hT [] rfl rfl (by first | rfl | assumption) (by omega) rfl rfl (Nat.le_of_ble_eq_true rfl) (Nat.le_of_ble_eq_true rfl) (s_forgetPlans) ?_
        refine v_p hT rfl rfl ?_
        refine v_getr hT rfl rfl (by omega) rfl ?_
        refine v_geti hT rfl (by first | rfl | assumption) (by omega) ?_
        rw [h19]
        refine v_ret hT rfl (fun z => by cases z) rfl ⟨rfl, rfl⟩
      · exact absurd (show ¬ (1 : Int32) = 0 by decide) cq
    · exact bkR_fr (g1 (by omega)) (fun c h1 h2 => by rw [hset_ne (by omega), hset_ne (by omega)])
    · exact stR_fr a1 (by show S.2.1.1 - 1 ≤ 6; omega) g3 (fun c h1 h2 => by rw [hset_ne (by omega), hset_ne (by omega)])
    · exact ⟨by rw [hfr 75 (by omega)]; exact a4.1, fun k hk => by rw [hfr 76 (by omega)]; exact a4.2 k hk⟩
    · rw [hfr 96 (by omega)]; exact a5 i hi
    · exact ⟨by rw [hfr 1001 (by omega)]; exact a6.1, by rw [hfr 1002 (by omega)]; exact a6.2⟩
    · rw [hs_s]
      simp only [upd, if_neg (show (9 : Nat) ≠ 10 by omega)]
      rw [hs_s]
      simp [upd]
      rfl
    · rw [hs_s]; simp [upd]; rfl
theorem VS_back {S : ST} (hV : VS S) : VS (oBack S).2 := by
  unfold oBack
  by_cases h0 : S.2.1.1 = 0
  · rw [if_pos h0]; exact hV
  · rw [if_neg h0]
    obtain ⟨h1, h2, h3⟩ := hV
    exact ⟨h2.2 _ (by omega), ⟨by show S.2.1.1 - 1 ≤ 6; have := h2.1; omega, fun i hi => h2.2 i (by have : i < S.2.1.1 - 1 := hi; omega)⟩, h3⟩
/-- the text alone becomes other -/
theorem RepC_tx {kf : Nat → Nat} {f f2 : Nat → Nat → Int32} {S : ST} {t : TX} (hV : VS S) (h : RepC kf f S) (hc : ∀ c, c ≠ 75 → c ≠ 76 → f2 c = f c) (ht : txR f2 t) : RepC kf f2 (S.1, S.2.1, t, S.2.2.2) := by
  obtain ⟨a1, a2, a3, a4, a5, a6, me, la, a7, a8, a9, a10⟩ := h
  exact ⟨a1, bkR_fr a2 (fun c _ _ => hc c (by omega) (by omega)), stR_fr a1 hV.2.1.1 a3 (fun c _ _ => hc c (by omega) (by omega)), ht, fun i hi => by rw [hc 96 (by omega) (by omega)]; exact a5 i hi, ⟨by rw [hc 1001 (by omega) (by omega)]; exact a6.1, by rw [hc 1002 (by omega) (by omega)]; exact a6.2⟩, me, la, by rw [hc 0 (by omega) (by omega)]; exact a7, by rw [hc 0 (by omega) (by omega)]; exact a8, fun z => msR_fr (a9 z) (fun c _ _ => hc c (by omega) (by omega)), fun z => ⟨(a10 z).1, layR_fr (a10 z).2 (fun c _ _ => hc c (by omega) (by omega))⟩⟩
def oClear (S : ST) : Int32 × ST := (nI S.2.2.1.1, (S.1, S.2.1, (0, S.2.2.1.2), S.2.2.2))
theorem C_clear {S : ST} (hV : VS S) : CSp n_X6_clear [] S (oClear S) := by
  have hT : mT n_X6_clear = tb_X6_clear := rfl
  intro n kf f hR
  refine ⟨kf, hset f 75 1 (nI 0), ?_, RepC_tx hV hR (fun c h1 _ => hset_ne h1) ⟨by rw [hs_s]; simp [upd], fun k hk => absurd hk (Nat.not_lt_zero _)⟩, fun c hc => hset_ne (by omega)⟩
  refine v_p hT rfl rfl ?_
  refine v_getr hT rfl rfl (by omega) rfl ?_
  refine v_geti hT rfl (by first | rfl | assumption) (by omega) ?_
  rw [hR.2.2.2.1.1]
  refine v_p hT rfl rfl ?_
  refine v_getr hT rfl rfl (by omega) rfl ?_
  refine v_p hT rfl rfl ?_
  refine v_puti hT rfl rfl (by omega) (fun z => by cases z) ?_
  refine v_p hT rfl rfl ?_
  refine v_ret hT rfl (fun z => by cases z) rfl ⟨rfl, rfl⟩
noncomputable def oType (S : ST) (c : Int32) : Int32 × ST := bif decide (nI 0 ≤ c ∧ c ≤ nI 127) then (if S.2.2.1.1 < 120 then (nI (S.2.2.1.1 + 1), (S.1, S.2.1, tAdd S.2.2.1 c.toNatClampNeg, S.2.2.2)) else (mI 4, refu S 2)) else (mI 2, refu S 0)
theorem VS_type {S : ST} (hV : VS S) (c : Int32) : VS (oType S c).2 := by
  unfold oType
  by_cases hc : nI 0 ≤ c ∧ c ≤ nI 127
  · rw [decide_eq_true hc]
    obtain ⟨k, k1, k2⟩ := int_04 (by omega) hc
    by_cases ht : S.2.2.1.1 < 120
    · simp only [cond_true]
      rw [if_pos ht]
      refine ⟨hV.1, hV.2.1, ?_, fun i hi => ?_⟩
      · show S.2.2.1.1 + 1 ≤ 120; omega
      · have hi : i < S.2.2.1.1 + 1 := hi
        show (if i = S.2.2.1.1 then c.toNatClampNeg else S.2.2.1.2 i) < 128
        split
        · rw [k2, nI_tn (by omega)]; omega
        · exact hV.2.2.2 i (by omega)
    · simp only [cond_true]
      rw [if_neg ht]
      exact hV
  · rw [decide_eq_false hc]; exact hV
theorem C_type {S : ST} (hV : VS S) (c : Int32) : CSp n_X6_type [.int c] S (oType S c) := by
  have hT : mT n_X6_type = tb_X6_type := rfl
  intro n kf f hR
  unfold oType
  by_cases hc : nI 0 ≤ c ∧ c ≤ nI 127
  · obtain ⟨k, k1, k2⟩ := int_04 (by omega) hc
    obtain ⟨f1, r1, t1, h1⟩ := s_append (n := n) (kf := kf) (c := k) hV.2.2 hR.2.2.2.1 (by omega)
    rw [decide_eq_true hc]
    simp only [cond_true]
    have start : ∀ Φ, Run n_X6_type 110 25 [some (.ref 0), some (.int c)] [.int (bI (decide (S.2.2.1.1 < 120)))] (HH n kf f1) Φ → Run n_X6_type 110 0 (ini n_X6_type [.ref 0, .int c]) [] (HH n kf f) Φ := by
      intro Φ hΦ
      refine v_p hT rfl rfl ?_
      refine v_scall hT [.int c, .int (nI 0), .int (nI 127)] rfl rfl rfl rfl (Nat.le_of_ble_eq_true rfl) (Nat.le_of_ble_eq_true rfl) (s_within c (nI 0) (nI 127)) ?_
      rw [decide_eq_true hc]
      refine g_if hT rfl (fun cq => ?_) (fun cq => ?_)
      · refine v_p hT rfl rfl ?_
        refine v_getr hT rfl rfl (by omega) rfl ?_
        refine v_p hT rfl rfl ?_
        rw [k2]
        refine v_call hT [.int (nI k)] rfl rfl (by first | rfl | assumption) (by omega) rfl rfl (Nat.le_of_ble_eq_true rfl) (Nat.le_of_ble_eq_true rfl) (r1) ?_
        rw [k2] at hΦ
        exact hΦ
      · exact absurd (show ¬ (1 : Int32) = 0 by decide) cq
    by_cases ht : S.2.2.1.1 < 120
    · rw [if_pos ht] at t1 ⊢
      have hck : c.toNatClampNeg = k := by rw [k2, nI_tn (by omega)]
      rw [hck]
      refine ⟨kf, f1, start _ ?_, RepC_tx hV hR h1 t1, fun c hc => h1 c (by omega) (by omega)⟩
      rw [decide_eq_true ht]
      refine g_if hT rfl (fun cq => ?_) (fun cq => ?_)
      · refine v_p hT rfl rfl ?_
        refine v_getr hT rfl rfl (by omega) rfl ?_
        refine v_geti hT rfl (by first | rfl | assumption) (by omega) ?_
        rw [t1.1]
        refine v_ret hT rfl (fun z => by cases z) rfl ⟨rfl, rfl⟩
      · exact absurd (show ¬ (1 : Int32) = 0 by decide) cq
    · rw [if_neg ht] at t1 ⊢
      have hR1 : RepC kf f1 S := RepC_tx hV hR h1 t1
      obtain ⟨f2, q1, q2, q3⟩ := s_refu (n := n) (j := 2) (by omega) hV hR1
      refine ⟨kf, f2, start _ ?_, q2, fun c hc => by rw [q3 c hc, h1 c (by omega) (by omega)]⟩
      rw [decide_eq_false ht]
      refine g_if hT rfl (fun cq => ?_) (fun cq => ?_)
      · exact absurd rfl cq
      · refine v_p hT rfl rfl ?_
        refine v_call hT [.int (mI 4)] rfl rfl (by first | rfl | assumption) (by omega) rfl rfl (Nat.le_of_ble_eq_true rfl) (Nat.le_of_ble_eq_true rfl) (q1) ?_
        refine v_ret hT rfl (fun z => by cases z) rfl ⟨rfl, rfl⟩
  · rw [decide_eq_false hc]
    obtain ⟨f2, q1, q2, q3⟩ := s_refu (n := n) (j := 0) (by omega) hV hR
    refine ⟨kf, f2, ?_, q2, q3⟩
    refine v_p hT rfl rfl ?_
    refine v_scall hT [.int c, .int (nI 0), .int (nI 127)] rfl rfl rfl rfl (Nat.le_of_ble_eq_true rfl) (Nat.le_of_ble_eq_true rfl) (s_within c (nI 0) (nI 127)) ?_
    rw [decide_eq_false hc]
    refine g_if hT rfl (fun cq => ?_) (fun cq => ?_)
    · exact absurd rfl cq
    · refine v_p hT rfl rfl ?_
      refine v_call hT [.int (mI 2)] rfl rfl (by first | rfl | assumption) (by omega) rfl rfl (Nat.le_of_ble_eq_true rfl) (Nat.le_of_ble_eq_true rfl) (q1) ?_
      refine v_ret hT rfl (fun z => by cases z) rfl ⟨rfl, rfl⟩
def tlA (S : ST) (w : Nat) : Int32 := if w < 3 then S.2.2.2 w else if w < 5 then nI (bWd S.1 (w - 3)) else if w < 8 then nI (bSe S.1 (w - 5)) else if w = 8 then nI S.2.2.1.1 else nI S.2.1.1
def oTold (S : ST) (w : Int32) : Int32 × ST := bif decide (nI 0 ≤ w ∧ w ≤ nI 9) then (tlA S w.toNatClampNeg, S) else (mI 2, refu S 0)
theorem not_in {w : Int32} {b : Nat} (hb : b < 1000) (h : ¬ (nI 0 ≤ w ∧ w ≤ nI b)) : w.toInt < 0 ∨ (b : Int) < w.toInt := by
  by_cases h1 : w < 0
  · have h3 := Int32.lt_iff_toInt_lt.mp h1
    exact Or.inl h3
  · obtain ⟨j, hj, e⟩ := nI_of h1
    subst e
    right
    have h2 : ¬ j ≤ b := fun z => h ⟨(cj_le (a := 0) (b := j) (by omega) hj).mpr (by omega), (cj_le (a := j) (b := b) hj (by omega)).mpr z⟩
    rw [show (nI j).toInt = (j : Int) from Int32.toInt_ofNat_of_lt hj]
    omega
theorem told_sw {w : Int32} (h : ¬ (nI 0 ≤ w ∧ w ≤ nI 9)) : swt 6 w = 103 := by
  have h2 := not_in (by omega) h
  show swf [(0,56), (1,56), (2,56), (3,63), (4,63), (5,75), (6,75), (7,75), (8,87), (9,95)] 103 w.toInt = 103
  simp only [swf]
  rw [if_neg (by omega), if_neg (by omega), if_neg (by omega), if_neg (by omega), if_neg (by omega), if_neg (by omega), if_neg (by omega), if_neg (by omega), if_neg (by omega), if_neg (by omega)]
theorem c_told {S : ST} (hV : VS S) {k n : Nat} (hk : k ≤ 9) {kf : Nat → Nat} {f : Nat → Nat → Int32} (hR : RepC kf f S) : Run n_X6_told 110 0 (ini n_X6_told [.ref 0, .int (nI k)]) [] (HH n kf f) (Ret (some (.int (tlA S k))) (HH n kf f)) := by
  have hT : mT n_X6_told = tb_X6_told := rfl
  obtain ⟨a1, a2, a3, a4, a5, a6, a7⟩ := hR
  rcases (show k = 0 ∨ k = 1 ∨ k = 2 ∨ k = 3 ∨ k = 4 ∨ k = 5 ∨ k = 6 ∨ k = 7 ∨ k = 8 ∨ k = 9 by omega) with e | e | e | e | e | e | e | e | e | e
  · subst e
    refine v_p hT rfl rfl ?_
    refine g_sw hT rfl (Or.inl rfl) (pc' := 56) rfl ?_
    refine v_p hT rfl rfl ?_
    refine v_getr hT rfl rfl (by omega) rfl ?_
    refine v_p hT rfl rfl ?_
    refine v_ald hT rfl (by first | assumption | rfl) (by omega) (by decide) (by omega) ?_
    rw [a5 0 (by omega)]
    refine v_ret hT rfl (fun z => by cases z) rfl ⟨rfl, rfl⟩
  · subst e
    refine v_p hT rfl rfl ?_
    refine g_sw hT rfl (Or.inl rfl) (pc' := 56) rfl ?_
    refine v_p hT rfl rfl ?_
    refine v_getr hT rfl rfl (by omega) rfl ?_
    refine v_p hT rfl rfl ?_
    refine v_ald hT rfl (by first | assumption | rfl) (by omega) (by decide) (by omega) ?_
    rw [a5 1 (by omega)]
    refine v_ret hT rfl (fun z => by cases z) rfl ⟨rfl, rfl⟩
  · subst e
    refine v_p hT rfl rfl ?_
    refine g_sw hT rfl (Or.inl rfl) (pc' := 56) rfl ?_
    refine v_p hT rfl rfl ?_
    refine v_getr hT rfl rfl (by omega) rfl ?_
    refine v_p hT rfl rfl ?_
    refine v_ald hT rfl (by first | assumption | rfl) (by omega) (by decide) (by omega) ?_
    rw [a5 2 (by omega)]
    refine v_ret hT rfl (fun z => by cases z) rfl ⟨rfl, rfl⟩
  · subst e
    refine v_p hT rfl rfl ?_
    refine g_sw hT rfl (Or.inl rfl) (pc' := 63) rfl ?_
    refine v_p hT rfl rfl ?_
    refine v_getr hT rfl rfl (by omega) rfl ?_
    refine v_getr hT rfl rfl (by omega) rfl ?_
    refine v_p hT rfl rfl ?_
    rw [pk_sub (by omega)]
    refine v_ald hT rfl (by first | assumption | rfl) (by omega) (by decide) (by omega) ?_
    rw [show f 5 (3 - 3) = nI (bWd S.1 0) from a2.2.2.1 0 (by omega)]
    refine v_ret hT rfl (fun z => by cases z) rfl ⟨rfl, rfl⟩
  · subst e
    refine v_p hT rfl rfl ?_
    refine g_sw hT rfl (Or.inl rfl) (pc' := 63) rfl ?_
    refine v_p hT rfl rfl ?_
    refine v_getr hT rfl rfl (by omega) rfl ?_
    refine v_getr hT rfl rfl (by omega) rfl ?_
    refine v_p hT rfl rfl ?_
    rw [pk_sub (by omega)]
    refine v_ald hT rfl (by first | assumption | rfl) (by omega) (by decide) (by omega) ?_
    rw [show f 5 (4 - 3) = nI (bWd S.1 1) from a2.2.2.1 1 (by omega)]
    refine v_ret hT rfl (fun z => by cases z) rfl ⟨rfl, rfl⟩
  · subst e
    refine v_p hT rfl rfl ?_
    refine g_sw hT rfl (Or.inl rfl) (pc' := 75) rfl ?_
    refine v_p hT rfl rfl ?_
    refine v_getr hT rfl rfl (by omega) rfl ?_
    refine v_getr hT rfl rfl (by omega) rfl ?_
    refine v_p hT rfl rfl ?_
    rw [pk_sub (by omega)]
    refine v_ald hT rfl (by first | assumption | rfl) (by omega) (by decide) (by omega) ?_
    rw [show f 6 (5 - 5) = nI (bSe S.1 0) from a2.2.2.2.1 0 (by omega)]
    refine v_ret hT rfl (fun z => by cases z) rfl ⟨rfl, rfl⟩
  · subst e
    refine v_p hT rfl rfl ?_
    refine g_sw hT rfl (Or.inl rfl) (pc' := 75) rfl ?_
    refine v_p hT rfl rfl ?_
    refine v_getr hT rfl rfl (by omega) rfl ?_
    refine v_getr hT rfl rfl (by omega) rfl ?_
    refine v_p hT rfl rfl ?_
    rw [pk_sub (by omega)]
    refine v_ald hT rfl (by first | assumption | rfl) (by omega) (by decide) (by omega) ?_
    rw [show f 6 (6 - 5) = nI (bSe S.1 1) from a2.2.2.2.1 1 (by omega)]
    refine v_ret hT rfl (fun z => by cases z) rfl ⟨rfl, rfl⟩
  · subst e
    refine v_p hT rfl rfl ?_
    refine g_sw hT rfl (Or.inl rfl) (pc' := 75) rfl ?_
    refine v_p hT rfl rfl ?_
    refine v_getr hT rfl rfl (by omega) rfl ?_
    refine v_getr hT rfl rfl (by omega) rfl ?_
    refine v_p hT rfl rfl ?_
    rw [pk_sub (by omega)]
    refine v_ald hT rfl (by first | assumption | rfl) (by omega) (by decide) (by omega) ?_
    rw [show f 6 (7 - 5) = nI (bSe S.1 2) from a2.2.2.2.1 2 (by omega)]
    refine v_ret hT rfl (fun z => by cases z) rfl ⟨rfl, rfl⟩
  · subst e
    refine v_p hT rfl rfl ?_
    refine g_sw hT rfl (Or.inl rfl) (pc' := 87) rfl ?_
    refine v_p hT rfl rfl ?_
    refine v_getr hT rfl rfl (by omega) rfl ?_
    refine v_geti hT rfl (by first | rfl | assumption) (by omega) ?_
    rw [a4.1]
    refine v_ret hT rfl (fun z => by cases z) rfl ⟨rfl, rfl⟩
  · subst e
    refine v_p hT rfl rfl ?_
    refine g_sw hT rfl (Or.inl rfl) (pc' := 95) rfl ?_
    refine v_p hT rfl rfl ?_
    refine v_getr hT rfl rfl (by omega) rfl ?_
    refine v_geti hT rfl (by first | rfl | assumption) (by omega) ?_
    rw [a3.1]
    refine v_ret hT rfl (fun z => by cases z) rfl ⟨rfl, rfl⟩
theorem C_told {S : ST} (hV : VS S) (w : Int32) : CSp n_X6_told [.int w] S (oTold S w) := by
  have hT : mT n_X6_told = tb_X6_told := rfl
  intro n kf f hR
  unfold oTold
  by_cases hc : nI 0 ≤ w ∧ w ≤ nI 9
  · obtain ⟨k, k1, k2⟩ := int_04 (by omega) hc
    rw [decide_eq_true hc]
    subst k2
    simp only [cond_true]
    rw [nI_tn (by omega)]
    exact ⟨kf, f, c_told hV k1 hR, hR, fun _ _ => rfl⟩
  · rw [decide_eq_false hc]
    obtain ⟨f2, q1, q2, q3⟩ := s_refu (n := n) (j := 0) (by omega) hV hR
    refine ⟨kf, f2, ?_, q2, q3⟩
    refine v_p hT rfl rfl ?_
    refine g_sw hT rfl (Or.inl rfl) (told_sw hc) ?_
    refine v_p hT rfl rfl ?_
    refine v_call hT [.int (mI 2)] rfl rfl (by first | rfl | assumption) (by omega) rfl rfl (Nat.le_of_ble_eq_true rfl) (Nat.le_of_ble_eq_true rfl) (q1) ?_
    refine v_ret hT rfl (fun z => by cases z) rfl ⟨rfl, rfl⟩
end
section
/-! THE CLASS: what is asked of paragraphs, words, breaks. -/
noncomputable def isWd (B : BK) (s p k : Int32) : Bool := pB (∃ s2 p2 k2 : Nat, s2 < 2 ∧ p2 < bNp B s2 ∧ k2 < bNw B s2 p2 ∧ s = nI s2 ∧ p = nI p2 ∧ k = nI k2)
theorem s_hasWord {n : Nat} {kf : Nat → Nat} {f : Nat → Nat → Int32} {B : BK} (hR : bkR f 1 B) (hV : VB0 B) (s p k : Int32) :
    Run n_X0_hasWord 110 0 (ini n_X0_hasWord [.ref 1, .int s, .int p, .int k]) [] (HH n kf f) (Ret (some (.int (bI (isWd B s p k)))) (HH n kf f)) := by
  have hT : mT n_X0_hasWord = tb_X0_hasWord := rfl
  have hno : isWd B s p k = false → Run n_X0_hasWord 110 27 [some (.ref 1), some (.int s), some (.int p), some (.int k)] [] (HH n kf f) (Ret (some (.int (bI (isWd B s p k)))) (HH n kf f)) := by
    intro e
    rw [e]
    refine v_p hT rfl rfl ?_
    refine v_ret hT rfl (fun _ => Or.inl rfl) rfl ⟨rfl, rfl⟩
  refine v_p hT rfl rfl ?_
  refine v_call hT [.int s, .int p] rfl rfl (by first | rfl | assumption) (by omega) rfl rfl (Nat.le_of_ble_eq_true rfl) (Nat.le_of_ble_eq_true rfl) (s_hasParagraph (Or.inl rfl) hR hV s p) ?_
  refine g_if hT rfl (fun cq => ?_) (fun cq => ?_)
  · refine hno (pB_f ?_)
    intro ⟨s2, p2, k2, h1, h2, h3, h4, h5, h6⟩
    have := bf_of cq
    rw [h4, h5, isPa_t h1 h2] at this
    cases this
  · obtain ⟨s2, p2, h1, h2, h3, h4⟩ := isPa_of (bt_of cq)
    subst h3; subst h4
    have hn := hV.1 s2 h1
    obtain ⟨w1, w2, _⟩ := hV.2.1 s2 p2 h1 h2
    refine v_p hT rfl rfl ?_
    refine g_if hT rfl (fun cq2 => ?_) (fun cq2 => ?_)
    · have cq2 : k < 0 := cq2
      refine hno (pB_f ?_)
      intro ⟨s3, p3, k3, g1, g2, g3, g4, g5, g6⟩
      have e1 := (cj_eq (a := s2) (b := s3) (by omega) (by omega)).mp g4
      subst e1
      have e2 := (cj_eq (a := p2) (b := p3) (by omega) (by omega)).mp g5
      subst e2
      rw [g6] at cq2
      exact nI_pos (by omega) cq2
    · have cq2 : ¬ k < 0 := cq2
      obtain ⟨K, hK, e⟩ := nI_of cq2
      subst e
      refine v_p hT rfl rfl ?_
      refine v_call hT [.int (nI s2), .int (nI p2)] rfl rfl (by first | rfl | assumption) (by omega) rfl rfl (Nat.le_of_ble_eq_true rfl) (Nat.le_of_ble_eq_true rfl) (s_wordsIn (Or.inl rfl) (by omega)) ?_
      rw [(hR.2.1 s2 p2 h1 h2).1]
      refine g_cmp hT rfl (fun cq3 => ?_) (fun cq3 => ?_)
      · have cq3 := (cj_ge (by omega) (by omega)).mp cq3
        refine hno (pB_f ?_)
        intro ⟨s3, p3, k3, g1, g2, g3, g4, g5, g6⟩
        have e1 := (cj_eq (a := s2) (b := s3) (by omega) (by omega)).mp g4
        subst e1
        have e2 := (cj_eq (a := p2) (b := p3) (by omega) (by omega)).mp g5
        subst e2
        have e3 := (cj_eq (a := K) (b := k3) (by omega) (by omega)).mp g6
        omega
      · have cq3 := (not_congr (cj_ge (by omega) (by omega))).mp cq3
        rw [show isWd B (nI s2) (nI p2) (nI K) = true from pB_t ⟨s2, p2, K, h1, h2, by omega, rfl, rfl, rfl⟩]
        refine v_p hT rfl rfl ?_
        refine v_ret hT rfl (fun _ => Or.inr rfl) rfl ⟨rfl, rfl⟩
noncomputable def wdA (B : BK) (s p k w : Nat) : Int32 := if w = 0 then nI (bLn B s p k) else nI (lineF (bWd B s) (bLn B s p) k).1
noncomputable def oWord (S : ST) (s p k w : Int32) : Int32 × ST := bif isWd S.1 s p k && decide (nI 0 ≤ w ∧ w ≤ nI 1) then (wdA S.1 s.toNatClampNeg p.toNatClampNeg k.toNatClampNeg w.toNatClampNeg, S) else (mI 2, refu S 0)
theorem C_word {S : ST} (hV : VS S) (s p k w : Int32) : CSp n_X6_word [.int s, .int p, .int k, .int w] S (oWord S s p k w) := by
  have hT : mT n_X6_word = tb_X6_word := rfl
  intro n kf f hR
  obtain ⟨fr, q1, q2, q3⟩ := s_refu (n := n) (j := 0) (by omega) hV hR
  have hbad : Run n_X6_word 110 23 [some (.ref 0), some (.int s), some (.int p), some (.int k), some (.int w)] [] (HH n kf f) (Ret (some (.int (mI 2))) (HH n kf fr)) := by
    refine v_p hT rfl rfl ?_
    refine v_call hT [.int (mI 2)] rfl rfl (by first | rfl | assumption) (by omega) rfl rfl (Nat.le_of_ble_eq_true rfl) (Nat.le_of_ble_eq_true rfl) (q1) ?_
    refine v_ret hT rfl (fun z => by cases z) rfl ⟨rfl, rfl⟩
  unfold oWord
  cases c1 : isWd S.1 s p k with
  | false =>
    rw [Bool.false_and]
    refine ⟨kf, fr, ?_, q2, q3⟩
    refine v_p hT rfl rfl ?_
    refine v_getr hT rfl rfl (by omega) rfl ?_
    refine v_p hT rfl rfl ?_
    refine v_call hT [.int s, .int p, .int k] rfl rfl (by first | rfl | assumption) (by omega) rfl rfl (Nat.le_of_ble_eq_true rfl) (Nat.le_of_ble_eq_true rfl) (s_hasWord hR.2.1 hV.1.1 s p k) ?_
    rw [c1]
    refine g_if hT rfl (fun cq => ?_) (fun cq => ?_)
    · exact hbad
    · exact absurd rfl cq
  | true =>
    have start : ∀ Φ, Run n_X6_word 110 20 [some (.ref 0), some (.int s), some (.int p), some (.int k), some (.int w)] [.int (bI (decide (nI 0 ≤ w ∧ w ≤ nI 1)))] (HH n kf f) Φ → Run n_X6_word 110 0 (ini n_X6_word [.ref 0, .int s, .int p, .int k, .int w]) [] (HH n kf f) Φ := by
      intro Φ hΦ
      refine v_p hT rfl rfl ?_
      refine v_getr hT rfl rfl (by omega) rfl ?_
      refine v_p hT rfl rfl ?_
      refine v_call hT [.int s, .int p, .int k] rfl rfl (by first | rfl | assumption) (by omega) rfl rfl (Nat.le_of_ble_eq_true rfl) (Nat.le_of_ble_eq_true rfl) (s_hasWord hR.2.1 hV.1.1 s p k) ?_
      rw [c1]
      refine g_if hT rfl (fun cq => ?_) (fun cq => ?_)
      · cases bf_of cq
      · refine v_p hT rfl rfl ?_
        refine v_scall hT [.int w, .int (nI 0), .int (nI 1)] rfl rfl rfl rfl (Nat.le_of_ble_eq_true rfl) (Nat.le_of_ble_eq_true rfl) (s_within w (nI 0) (nI 1)) ?_
        exact hΦ
    by_cases c2 : nI 0 ≤ w ∧ w ≤ nI 1
    · rw [decide_eq_true c2] at start ⊢
      obtain ⟨W, W1, W2⟩ := int_04 (by omega) c2
      obtain ⟨s2, p2, k2, h1, h2, h3, h4, h5, h6⟩ := pB_of c1
      have hn := hV.1.1.1 s2 h1
      obtain ⟨w1, w2, w3⟩ := hV.1.1.2.1 s2 p2 h1 h2
      obtain ⟨b1, b2⟩ := hR.2.1.2.1 s2 p2 h1 h2
      have hwd := hV.1.1.2.2.1 s2 h1
      subst h4; subst h5; subst h6; subst W2
      simp only [Bool.true_and, cond_true]
      rw [nI_tn (by omega), nI_tn (by omega), nI_tn (by omega), nI_tn (by omega)]
      refine ⟨kf, f, start _ ?_, hR, fun _ _ => rfl⟩
      unfold wdA
      refine g_if hT rfl (fun cq => ?_) (fun cq => ?_)
      · refine v_p hT rfl rfl ?_
        refine g_if hT rfl (fun cq2 => ?_) (fun cq2 => ?_)
        · have cq2 := (cj_ne (a := W) (b := 0) (by omega) (by omega)).mp cq2
          rw [if_neg cq2]
          refine v_p hT rfl rfl ?_
          refine v_getr hT rfl rfl (by omega) rfl ?_
          refine v_p hT rfl rfl ?_
          refine v_scall hT [.int (nI s2), .int (nI p2)] rfl rfl rfl rfl (Nat.le_of_ble_eq_true rfl) (Nat.le_of_ble_eq_true rfl) (s_slot s2 p2) ?_
          refine v_p hT rfl rfl ?_
          refine v_call hT [.int (nI (s2 * 8 + p2)), .int (nI k2)] rfl rfl (by first | rfl | assumption) (by omega) rfl rfl (Nat.le_of_ble_eq_true rfl) (Nat.le_of_ble_eq_true rfl) (s_lineOf (w := bWd S.1 s2) (ln := bLn S.1 s2 p2) (Or.inl rfl) (by omega) (by omega) (by rw [sl_div (by omega)]; exact hR.2.1.2.2.1 s2 h1) (by omega) (fun i hi => b2 i (by omega)) (fun i hi => by have := (w3 i (by omega)).2; omega)) ?_
          refine v_ret hT rfl (fun z => by cases z) rfl ⟨rfl, rfl⟩
        · have cq2 := Classical.not_not.mp ((not_congr (cj_ne (a := W) (b := 0) (by omega) (by omega))).mp cq2)
          rw [if_pos cq2]
          refine v_p hT rfl rfl ?_
          refine v_getr hT rfl rfl (by omega) rfl ?_
          refine v_p hT rfl rfl ?_
          refine v_call hT [.int (nI s2), .int (nI p2), .int (nI k2)] rfl rfl (by first | rfl | assumption) (by omega) rfl rfl (Nat.le_of_ble_eq_true rfl) (Nat.le_of_ble_eq_true rfl) (s_lengthOf (Or.inl rfl) (by omega) (by omega)) ?_
          rw [b2 k2 h3]
          refine v_p hT rfl rfl ?_
          refine v_ret hT rfl (fun z => by cases z) rfl ⟨rfl, rfl⟩
      · exact absurd (show ¬ (1 : Int32) = 0 by decide) cq
    · rw [decide_eq_false c2] at start ⊢
      refine ⟨kf, fr, start _ ?_, q2, q3⟩
      refine g_if hT rfl (fun cq => ?_) (fun cq => ?_)
      · exact absurd rfl cq
      · exact hbad
theorem bI_not0 (b : Bool) : (if b = true then (1 : Int32) else 0) = bI b := by cases b <;> rfl
noncomputable def oLaw (S : ST) (s b : Int32) : Int32 × ST := bif decide (0 ≤ s ∧ s ≤ 1) && decide (nI 0 ≤ b ∧ b ≤ nI (totF S.1 s.toNatClampNeg)) then (bI (lawF S.1 s.toNatClampNeg b.toNatClampNeg), S) else (mI 2, refu S 0)
theorem ln_at {m Z : Nat} {kf : Nat → Nat} (hz : Z < 2) : RR m kf 80 Z = 81 + 3 * Z + 1 ∧ isLn (81 + 3 * Z) := by
  rcases (show Z = 0 ∨ Z = 1 by omega) with e | e
  · subst e; exact ⟨rfl, Or.inl rfl⟩
  · subst e; exact ⟨rfl, Or.inr rfl⟩
theorem ms_ln {f : Nat → Nat → Int32} {B : BK} (h : msR f B) {Z : Nat} (hz : Z < 2) : lnR f (81 + 3 * Z) B Z := by
  rcases (show Z = 0 ∨ Z = 1 by omega) with e | e
  · subst e; exact h.1
  · subst e; exact h.2.1
theorem C_lawful {S : ST} (hV : VS S) (s b : Int32) : CSp n_X6_lawful [.int s, .int b] S (oLaw S s b) := by
  have hT : mT n_X6_lawful = tb_X6_lawful := rfl
  intro n kf f hR
  unfold oLaw
  by_cases c1 : 0 ≤ s ∧ s ≤ 1
  · obtain ⟨Z, z1, z2⟩ : ∃ Z, Z < 2 ∧ s = nI Z := by
      rcases int_lo c1 with e | e
      · exact ⟨0, by omega, e⟩
      · exact ⟨1, by omega, e⟩
    subst z2
    rw [decide_eq_true c1, nI_tn (show Z < 2 ^ 31 by omega)]
    simp only [Bool.true_and]
    obtain ⟨f1, r1, hR1, hm, _, k1⟩ := s_measure (n := n) hV hR
    have hln := ms_ln hm z1
    obtain ⟨hl1, hl2⟩ := ln_at (m := n) (kf := kf) z1
    have hlk := ln_kd hl2
    have hlr := ln_rr hl2 n kf
    have h60 := hV.1.2 Z z1
    have start : ∀ Φ, Run n_X6_lawful 110 32 [some (.ref 0), some (.int (nI Z)), some (.int b)] [.int (bI (decide (nI 0 ≤ b ∧ b ≤ nI (totF S.1 Z))))] (HH n kf f1) Φ → Run n_X6_lawful 110 0 (ini n_X6_lawful [.ref 0, .int (nI Z), .int b]) [] (HH n kf f) Φ := by
      intro Φ hΦ
      refine v_p hT rfl rfl ?_
      refine v_scall hT [.int (nI Z)] rfl rfl rfl rfl (Nat.le_of_ble_eq_true rfl) (Nat.le_of_ble_eq_true rfl) (s_isSide (nI Z)) ?_
      rw [decide_eq_true c1]
      refine g_if hT rfl (fun cq => ?_) (fun cq => ?_)
      · refine v_p hT rfl rfl ?_
        refine v_call hT [] rfl rfl (by first | rfl | assumption) (by omega) rfl rfl (Nat.le_of_ble_eq_true rfl) (Nat.le_of_ble_eq_true rfl) (r1) ?_
        refine v_p hT rfl rfl ?_
        refine v_getr hT rfl rfl (by omega) rfl ?_
        refine v_p hT rfl rfl ?_
        refine v_rld hT rfl rfl (Or.inr rfl) (by omega) (by omega) (show Z < 2 by omega) hl1 ?_
        refine v_geti hT rfl hlk.1 (by omega) ?_
        rw [hln.1]
        refine v_scall hT [.int b, .int (nI 0), .int (nI (totF S.1 Z))] rfl rfl rfl rfl (Nat.le_of_ble_eq_true rfl) (Nat.le_of_ble_eq_true rfl) (s_within b (nI 0) (nI (totF S.1 Z))) ?_
        exact hΦ
      · exact absurd (show ¬ (1 : Int32) = 0 by decide) cq
    by_cases c2 : nI 0 ≤ b ∧ b ≤ nI (totF S.1 Z)
    · rw [decide_eq_true c2] at start ⊢
      obtain ⟨K, K1, K2⟩ := int_04 (by omega) c2
      subst K2
      simp only [cond_true]
      rw [nI_tn (by omega)]
      refine ⟨kf, f1, start _ ?_, hR1, k1⟩
      refine g_if hT rfl (fun cq => ?_) (fun cq => ?_)
      · refine v_p hT rfl rfl ?_
        refine v_getr hT rfl rfl (by omega) rfl ?_
        refine v_p hT rfl rfl ?_
        refine v_rld hT rfl rfl (Or.inr rfl) (by omega) (by omega) (show Z < 2 by omega) hl1 ?_
        refine v_getr hT rfl hlk.1 (by omega) hlr.2 ?_
        refine v_p hT rfl rfl ?_
        refine v_bld hT rfl hlk.2.2 (Or.inl rfl) (by omega) (by omega) (by omega) ?_
        rw [hln.2.2 K K1]
        refine g_if hT rfl (fun cq2 => ?_) (fun cq2 => ?_)
        · rw [bf_of cq2]
          refine v_p hT rfl rfl ?_
          refine v_ret hT rfl (fun z => by cases z) rfl ⟨rfl, rfl⟩
        · rw [bt_of cq2]
          refine v_p hT rfl rfl ?_
          refine v_ret hT rfl (fun z => by cases z) rfl ⟨rfl, rfl⟩
      · exact absurd (show ¬ (1 : Int32) = 0 by decide) cq
    · rw [decide_eq_false c2] at start ⊢
      obtain ⟨fr, q1, q2, q3⟩ := s_refu (n := n) (j := 0) (by omega) hV hR1
      refine ⟨kf, fr, start _ ?_, q2, fun c hc => by rw [q3 c hc, k1 c hc]⟩
      refine g_if hT rfl (fun cq => ?_) (fun cq => ?_)
      · exact absurd rfl cq
      · refine v_p hT rfl rfl ?_
        refine v_call hT [.int (mI 2)] rfl rfl (by first | rfl | assumption) (by omega) rfl rfl (Nat.le_of_ble_eq_true rfl) (Nat.le_of_ble_eq_true rfl) (q1) ?_
        refine v_ret hT rfl (fun z => by cases z) rfl ⟨rfl, rfl⟩
  · rw [decide_eq_false c1, Bool.false_and]
    obtain ⟨fr, q1, q2, q3⟩ := s_refu (n := n) (j := 0) (by omega) hV hR
    refine ⟨kf, fr, ?_, q2, q3⟩
    refine v_p hT rfl rfl ?_
    refine v_scall hT [.int s] rfl rfl rfl rfl (Nat.le_of_ble_eq_true rfl) (Nat.le_of_ble_eq_true rfl) (s_isSide s) ?_
    rw [decide_eq_false c1]
    refine g_if hT rfl (fun cq => ?_) (fun cq => ?_)
    · exact absurd rfl cq
    · refine v_p hT rfl rfl ?_
      refine v_call hT [.int (mI 2)] rfl rfl (by first | rfl | assumption) (by omega) rfl rfl (Nat.le_of_ble_eq_true rfl) (Nat.le_of_ble_eq_true rfl) (q1) ?_
      refine v_ret hT rfl (fun z => by cases z) rfl ⟨rfl, rfl⟩
end
section
/-! THE CLASS: what is asked of counts, openings, ties, paragraphs. -/
def CS0 (m : Nat) (as : List Value) (S : ST) (a : Int32) : Prop := ∀ (n : Nat) (kf : Nat → Nat) (f : Nat → Nat → Int32), RepC kf f S → ∃ f2, Run m 110 0 (ini m (.ref 0 :: as)) [] (HH n kf f) (Ret (some (.int a)) (HH n kf f2)) ∧ RepC kf f2 S ∧ ∀ c, 97 < c → f2 c = f c
noncomputable def ctA (B : BK) (w : Nat) : Int32 := if w < 2 then nI (bNp B w) else if w < 4 then nI (totF B (w - 2)) else if w = 4 then nI (bNt B) else if w = 5 then nI (endN B (bNt B) (bNt B) / 2) else if w = 6 then nI (keptF B) else if w = 7 then nI (wtF B (keptF B) (bNt B)) else if w = 8 then opI (lyP B) else coI (lyP B)
theorem c_count {S : ST} (hV : VS S) {k : Nat} (hk : k ≤ 9) : CS0 n_X6_count [.int (nI k)] S (ctA S.1 k) := by
  have hT : mT n_X6_count = tb_X6_count := rfl
  intro n kf f hR
  obtain ⟨f1, r1, hR1, hm, _, k1⟩ := s_measure (n := n) hV hR
  obtain ⟨f2, r2, hR2, hm2, hl2, k2⟩ := s_layOut (n := n) hV hR1
  have start : ∀ Φ, Run n_X6_count 110 22 [some (.ref 0), some (.int (nI k))] [.int (nI k)] (HH n kf f1) Φ → Run n_X6_count 110 0 (ini n_X6_count [.ref 0, .int (nI k)]) [] (HH n kf f) Φ := by
    intro Φ hΦ
    refine v_p hT rfl rfl ?_
    refine v_scall hT [.int (nI k), .int (nI 0), .int (nI 9)] rfl rfl rfl rfl (Nat.le_of_ble_eq_true rfl) (Nat.le_of_ble_eq_true rfl) (s_within (nI k) (nI 0) (nI 9)) ?_
    rw [decide_eq_true (show nI 0 ≤ nI k ∧ nI k ≤ nI 9 from ⟨(cj_le (a := 0) (b := k) (by omega) (by omega)).mpr (by omega), (cj_le (a := k) (b := 9) (by omega) (by omega)).mpr hk⟩)]
    refine g_if hT rfl (fun cq => ?_) (fun cq => ?_)
    · refine v_p hT rfl rfl ?_
      refine v_call hT [] rfl rfl (by first | rfl | assumption) (by omega) rfl rfl (Nat.le_of_ble_eq_true rfl) (Nat.le_of_ble_eq_true rfl) (r1) ?_
      refine v_p hT rfl rfl ?_
      exact hΦ
    · exact absurd (show ¬ (1 : Int32) = 0 by decide) cq
  rcases (show k = 0 ∨ k = 1 ∨ k = 2 ∨ k = 3 ∨ k = 4 ∨ k = 5 ∨ k = 6 ∨ k = 7 ∨ k = 8 ∨ k = 9 by omega) with e | e | e | e | e | e | e | e | e | e
  · subst e
    refine ⟨f1, start _ ?_, hR1, k1⟩
    refine g_sw hT rfl (Or.inl rfl) (pc' := 72) rfl ?_
    refine v_p hT rfl rfl ?_
    refine v_getr hT rfl rfl (by omega) rfl ?_
    refine v_getr hT rfl rfl (by omega) rfl ?_
    refine v_p hT rfl rfl ?_
    refine v_ald hT rfl (by first | assumption | rfl) (by omega) (by decide) (by omega) ?_
    rw [show f1 2 0 = nI (bNp S.1 0) from hR1.2.1.1 0 (by omega)]
    refine v_ret hT rfl (fun z => by cases z) rfl ⟨rfl, rfl⟩
  · subst e
    refine ⟨f1, start _ ?_, hR1, k1⟩
    refine g_sw hT rfl (Or.inl rfl) (pc' := 72) rfl ?_
    refine v_p hT rfl rfl ?_
    refine v_getr hT rfl rfl (by omega) rfl ?_
    refine v_getr hT rfl rfl (by omega) rfl ?_
    refine v_p hT rfl rfl ?_
    refine v_ald hT rfl (by first | assumption | rfl) (by omega) (by decide) (by omega) ?_
    rw [show f1 2 1 = nI (bNp S.1 1) from hR1.2.1.1 1 (by omega)]
    refine v_ret hT rfl (fun z => by cases z) rfl ⟨rfl, rfl⟩
  · subst e
    refine ⟨f1, start _ ?_, hR1, k1⟩
    refine g_sw hT rfl (Or.inl rfl) (pc' := 82) rfl ?_
    refine v_p hT rfl rfl ?_
    refine v_getr hT rfl rfl (by omega) rfl ?_
    refine v_p hT rfl rfl ?_
    rw [pk_sub (by omega)]
    refine v_rld hT rfl rfl (Or.inr rfl) (by omega) (by omega) (show 2 - 2 < 2 by omega) (j := 81) rfl ?_
    refine v_geti hT rfl (by first | rfl | assumption) (by omega) ?_
    rw [hm.1.1]
    refine v_ret hT rfl (fun z => by cases z) rfl ⟨rfl, rfl⟩
  · subst e
    refine ⟨f1, start _ ?_, hR1, k1⟩
    refine g_sw hT rfl (Or.inl rfl) (pc' := 82) rfl ?_
    refine v_p hT rfl rfl ?_
    refine v_getr hT rfl rfl (by omega) rfl ?_
    refine v_p hT rfl rfl ?_
    rw [pk_sub (by omega)]
    refine v_rld hT rfl rfl (Or.inr rfl) (by omega) (by omega) (show 3 - 2 < 2 by omega) (j := 84) rfl ?_
    refine v_geti hT rfl (by first | rfl | assumption) (by omega) ?_
    rw [hm.2.1.1]
    refine v_ret hT rfl (fun z => by cases z) rfl ⟨rfl, rfl⟩
  · subst e
    refine ⟨f1, start _ ?_, hR1, k1⟩
    refine g_sw hT rfl (Or.inl rfl) (pc' := 94) rfl ?_
    refine v_p hT rfl rfl ?_
    refine v_getr hT rfl rfl (by omega) rfl ?_
    refine v_geti hT rfl (by first | rfl | assumption) (by omega) ?_
    rw [hR1.2.1.2.2.2.2.1]
    refine v_ret hT rfl (fun z => by cases z) rfl ⟨rfl, rfl⟩
  · subst e
    refine ⟨f1, start _ ?_, hR1, k1⟩
    refine g_sw hT rfl (Or.inl rfl) (pc' := 102) rfl ?_
    refine v_p hT rfl rfl ?_
    refine v_getr hT rfl rfl (by omega) rfl ?_
    refine v_geti hT rfl (by first | rfl | assumption) (by omega) ?_
    rw [hm.2.2.2.1]
    refine v_ret hT rfl (fun z => by cases z) rfl ⟨rfl, rfl⟩
  · subst e
    refine ⟨f1, start _ ?_, hR1, k1⟩
    refine g_sw hT rfl (Or.inl rfl) (pc' := 110) rfl ?_
    refine v_p hT rfl rfl ?_
    refine v_getr hT rfl rfl (by omega) rfl ?_
    refine v_geti hT rfl (by first | rfl | assumption) (by omega) ?_
    rw [hm.2.2.2.2.1]
    refine v_ret hT rfl (fun z => by cases z) rfl ⟨rfl, rfl⟩
  · subst e
    refine ⟨f1, start _ ?_, hR1, k1⟩
    refine g_sw hT rfl (Or.inl rfl) (pc' := 118) rfl ?_
    refine v_p hT rfl rfl ?_
    refine v_getr hT rfl rfl (by omega) rfl ?_
    refine v_geti hT rfl (by first | rfl | assumption) (by omega) ?_
    rw [hm.2.2.2.2.2]
    refine v_ret hT rfl (fun z => by cases z) rfl ⟨rfl, rfl⟩
  · subst e
    refine ⟨f2, start _ ?_, hR2, fun c hc => by rw [k2 c hc, k1 c hc]⟩
    refine g_sw hT rfl (Or.inl rfl) (pc' := 126) rfl ?_
    refine v_p hT rfl rfl ?_
    refine v_call hT [] rfl rfl (by first | rfl | assumption) (by omega) rfl rfl (Nat.le_of_ble_eq_true rfl) (Nat.le_of_ble_eq_true rfl) (r2) ?_
    refine v_geti hT rfl (by first | rfl | assumption) (by omega) ?_
    rw [hl2.2.1]
    refine v_ret hT rfl (fun z => by cases z) rfl ⟨rfl, rfl⟩
  · subst e
    refine ⟨f2, start _ ?_, hR2, fun c hc => by rw [k2 c hc, k1 c hc]⟩
    refine g_sw hT rfl (Or.inl rfl) (pc' := 134) rfl ?_
    refine v_p hT rfl rfl ?_
    refine v_call hT [] rfl rfl (by first | rfl | assumption) (by omega) rfl rfl (Nat.le_of_ble_eq_true rfl) (Nat.le_of_ble_eq_true rfl) (r2) ?_
    refine v_geti hT rfl (by first | rfl | assumption) (by omega) ?_
    rw [hl2.2.2.1]
    refine v_ret hT rfl (fun z => by cases z) rfl ⟨rfl, rfl⟩
noncomputable def oCount (S : ST) (w : Int32) : Int32 × ST := bif decide (nI 0 ≤ w ∧ w ≤ nI 9) then (ctA S.1 w.toNatClampNeg, S) else (mI 2, refu S 0)
theorem C_count {S : ST} (hV : VS S) (w : Int32) : CSp n_X6_count [.int w] S (oCount S w) := by
  have hT : mT n_X6_count = tb_X6_count := rfl
  intro n kf f hR
  unfold oCount
  by_cases hc : nI 0 ≤ w ∧ w ≤ nI 9
  · obtain ⟨k, k1, k2⟩ := int_04 (by omega) hc
    rw [decide_eq_true hc]
    subst k2
    simp only [cond_true]
    rw [nI_tn (by omega)]
    obtain ⟨f2, h1, h2, h3⟩ := c_count hV k1 n kf f hR
    exact ⟨kf, f2, h1, h2, h3⟩
  · rw [decide_eq_false hc]
    obtain ⟨f2, q1, q2, q3⟩ := s_refu (n := n) (j := 0) (by omega) hV hR
    refine ⟨kf, f2, ?_, q2, q3⟩
    refine v_p hT rfl rfl ?_
    refine v_scall hT [.int w, .int (nI 0), .int (nI 9)] rfl rfl rfl rfl (Nat.le_of_ble_eq_true rfl) (Nat.le_of_ble_eq_true rfl) (s_within w (nI 0) (nI 9)) ?_
    rw [decide_eq_false hc]
    refine g_if hT rfl (fun cq => ?_) (fun cq => ?_)
    · exact absurd rfl cq
    · refine v_p hT rfl rfl ?_
      refine v_call hT [.int (mI 2)] rfl rfl (by first | rfl | assumption) (by omega) rfl rfl (Nat.le_of_ble_eq_true rfl) (Nat.le_of_ble_eq_true rfl) (q1) ?_
      refine v_ret hT rfl (fun z => by cases z) rfl ⟨rfl, rfl⟩
noncomputable def opA (P : LYP) (k w : Nat) : Int32 := if w = 0 then nI (posF P k).1 else if w = 1 then nI ((posF P (k + 1)).1 - (posF P k).1) else if w = 2 then nI (posF P k).2 else if w = 3 then nI ((posF P (k + 1)).2 - (posF P k).2) else ocF P k
noncomputable def opB (P : LYP) (k w : Nat) : Int32 := if k < opN P then opA P k w else mI 1
theorem op_cmp {P : LYP} (hP : PBd P) {k : Nat} (hk : k < 2 ^ 31) : nI k < opI P ↔ k < opN P := by
  have h120 := opN_le hP
  by_cases hn : rkF P 0 0 = nvr
  · have e0 : opN P = 0 := by unfold opN; rw [decide_eq_true hn]; rfl
    have e1 : opI P = mI 1 := by unfold opI; rw [decide_eq_true hn]; rfl
    rw [e0, e1]
    refine ⟨fun h => ?_, fun h => absurd h (Nat.not_lt_zero _)⟩
    have h2 : nI 0 ≤ nI k := (cj_ge (a := k) (b := 0) (by omega) (by omega)).mpr (by omega)
    exact absurd (Int32.lt_of_le_of_lt h2 h) (by decide)
  · have e0 : opN P = rkF P 0 0 % 128 := by unfold opN; rw [decide_eq_false hn]; rfl
    have e1 : opI P = nI (opN P) := by rw [e0]; unfold opI; rw [decide_eq_false hn]; rfl
    rw [e1]
    exact cj_lt (by omega) (by omega)
theorem c_opening {S : ST} (hV : VS S) {k w : Nat} (hk : k < 2 ^ 31) (hw : w ≤ 4) : CS0 n_X6_opening [.int (nI k), .int (nI w)] S (opB (lyP S.1) k w) := by
  have hT : mT n_X6_opening = tb_X6_opening := rfl
  intro n kf f hR
  have hP := lyP_bd hV.1
  obtain ⟨f2, r2, hR2, hm2, hl2, k2⟩ := s_layOut (n := n) hV hR
  have h120 := opN_le hP
  refine ⟨f2, ?_, hR2, k2⟩
  have start : ∀ Φ, Run n_X6_opening 110 33 [some (.ref 0), some (.int (nI k)), some (.int (nI w))] [.int (opI (lyP S.1)), .int (nI k)] (HH n kf f2) Φ → Run n_X6_opening 110 0 (ini n_X6_opening [.ref 0, .int (nI k), .int (nI w)]) [] (HH n kf f) Φ := by
    intro Φ hΦ
    refine v_p hT rfl rfl ?_
    refine g_if hT rfl (fun cq => ?_) (fun cq => ?_)
    · exact absurd cq (nI_pos hk)
    · refine v_p hT rfl rfl ?_
      refine v_scall hT [.int (nI w), .int (nI 0), .int (nI 4)] rfl rfl rfl rfl (Nat.le_of_ble_eq_true rfl) (Nat.le_of_ble_eq_true rfl) (s_within (nI w) (nI 0) (nI 4)) ?_
      rw [decide_eq_true (show nI 0 ≤ nI w ∧ nI w ≤ nI 4 from ⟨(cj_le (a := 0) (b := w) (by omega) (by omega)).mpr (by omega), (cj_le (a := w) (b := 4) (by omega) (by omega)).mpr hw⟩)]
      refine g_if hT rfl (fun cq2 => ?_) (fun cq2 => ?_)
      · refine v_p hT rfl rfl ?_
        refine v_call hT [] rfl rfl (by first | rfl | assumption) (by omega) rfl rfl (Nat.le_of_ble_eq_true rfl) (Nat.le_of_ble_eq_true rfl) (r2) ?_
        refine v_p hT rfl rfl ?_
        refine v_getr hT rfl rfl (by omega) rfl ?_
        refine v_geti hT rfl (by first | rfl | assumption) (by omega) ?_
        rw [hl2.2.1]
        exact hΦ
      · exact absurd (show ¬ (1 : Int32) = 0 by decide) cq2
  refine start _ ?_
  unfold opB
  refine g_cmp hT rfl (fun cq => ?_) (fun cq => ?_)
  · have cq := (op_cmp hP hk).mp cq
    rw [if_pos cq]
    have hv := hl2.2.2.2 k (by omega)
    have hv1 := hl2.2.2.2 (k + 1) (by omega)
    obtain ⟨b1, b2, b3, b4, _⟩ := pos_1 hP cq
    unfold opA
    rcases (show w = 0 ∨ w = 1 ∨ w = 2 ∨ w = 3 ∨ w = 4 by omega) with e | e | e | e | e
    · subst e
      refine v_p hT rfl rfl ?_
      refine g_sw hT rfl (Or.inl rfl) (pc' := 68) rfl ?_
      refine v_p hT rfl rfl ?_
      refine v_getr hT rfl rfl (by omega) rfl ?_
      refine v_getr hT rfl rfl (by omega) rfl ?_
      refine v_p hT rfl rfl ?_
      refine v_ald hT rfl (by first | assumption | rfl) (by omega) (by decide) (by omega) ?_
      rw [hv.1]
      refine v_ret hT rfl (fun z => by cases z) rfl ⟨rfl, rfl⟩
    · subst e
      refine v_p hT rfl rfl ?_
      refine g_sw hT rfl (Or.inl rfl) (pc' := 78) rfl ?_
      refine v_p hT rfl rfl ?_
      refine v_getr hT rfl rfl (by omega) rfl ?_
      refine v_p hT rfl rfl ?_
      refine v_call hT [.int (nI k)] rfl rfl (by first | rfl | assumption) (by omega) rfl rfl (Nat.le_of_ble_eq_true rfl) (Nat.le_of_ble_eq_true rfl) (s_taken0 (by omega) hv.1 hv1.1 b1) ?_
      refine v_ret hT rfl (fun z => by cases z) rfl ⟨rfl, rfl⟩
    · subst e
      refine v_p hT rfl rfl ?_
      refine g_sw hT rfl (Or.inl rfl) (pc' := 87) rfl ?_
      refine v_p hT rfl rfl ?_
      refine v_getr hT rfl rfl (by omega) rfl ?_
      refine v_getr hT rfl rfl (by omega) rfl ?_
      refine v_p hT rfl rfl ?_
      refine v_ald hT rfl (by first | assumption | rfl) (by omega) (by decide) (by omega) ?_
      rw [hv.2]
      refine v_ret hT rfl (fun z => by cases z) rfl ⟨rfl, rfl⟩
    · subst e
      refine v_p hT rfl rfl ?_
      refine g_sw hT rfl (Or.inl rfl) (pc' := 97) rfl ?_
      refine v_p hT rfl rfl ?_
      refine v_getr hT rfl rfl (by omega) rfl ?_
      refine v_p hT rfl rfl ?_
      refine v_call hT [.int (nI k)] rfl rfl (by first | rfl | assumption) (by omega) rfl rfl (Nat.le_of_ble_eq_true rfl) (Nat.le_of_ble_eq_true rfl) (s_taken1 (by omega) hv.2 hv1.2 b2) ?_
      refine v_ret hT rfl (fun z => by cases z) rfl ⟨rfl, rfl⟩
    · subst e
      refine v_p hT rfl rfl ?_
      refine g_sw hT rfl (Or.inl rfl) (pc' := 106) rfl ?_
      refine v_p hT rfl rfl ?_
      refine v_getr hT rfl rfl (by omega) rfl ?_
      refine v_p hT rfl rfl ?_
      refine v_call hT [.int (nI k)] rfl rfl (by first | rfl | assumption) (by omega) rfl rfl (Nat.le_of_ble_eq_true rfl) (Nat.le_of_ble_eq_true rfl) (s_costOf hV.1 hl2 cq) ?_
      refine v_ret hT rfl (fun z => by cases z) rfl ⟨rfl, rfl⟩
  · have cq := (not_congr (op_cmp hP hk)).mp cq
    rw [if_neg cq]
    refine v_p hT rfl rfl ?_
    refine v_ret hT rfl (fun z => by cases z) rfl ⟨rfl, rfl⟩
noncomputable def oOpen (S : ST) (k w : Int32) : Int32 × ST := bif decide (¬ k < 0) && decide (nI 0 ≤ w ∧ w ≤ nI 4) then (opB (lyP S.1) k.toNatClampNeg w.toNatClampNeg, S) else (mI 2, refu S 0)
theorem C_opening {S : ST} (hV : VS S) (k w : Int32) : CSp n_X6_opening [.int k, .int w] S (oOpen S k w) := by
  have hT : mT n_X6_opening = tb_X6_opening := rfl
  intro n kf f hR
  unfold oOpen
  obtain ⟨fr, q1, q2, q3⟩ := s_refu (n := n) (j := 0) (by omega) hV hR
  have hbad : Run n_X6_opening 110 13 [some (.ref 0), some (.int k), some (.int w)] [] (HH n kf f) (Ret (some (.int (mI 2))) (HH n kf fr)) := by
    refine v_p hT rfl rfl ?_
    refine v_call hT [.int (mI 2)] rfl rfl (by first | rfl | assumption) (by omega) rfl rfl (Nat.le_of_ble_eq_true rfl) (Nat.le_of_ble_eq_true rfl) (q1) ?_
    refine v_ret hT rfl (fun z => by cases z) rfl ⟨rfl, rfl⟩
  by_cases c1 : k < 0
  · rw [decide_eq_false (fun z => z c1), Bool.false_and]
    refine ⟨kf, fr, ?_, q2, q3⟩
    refine v_p hT rfl rfl ?_
    refine g_if hT rfl (fun cq => ?_) (fun cq => ?_)
    · exact hbad
    · exact absurd c1 cq
  · rw [decide_eq_true c1]
    by_cases c2 : nI 0 ≤ w ∧ w ≤ nI 4
    · obtain ⟨K, K1, K2⟩ := nI_of c1
      obtain ⟨W, W1, W2⟩ := int_04 (by omega) c2
      rw [decide_eq_true c2]
      subst K2; subst W2
      simp only [Bool.true_and, cond_true]
      rw [nI_tn K1, nI_tn (by omega)]
      obtain ⟨f2, h1, h2, h3⟩ := c_opening hV K1 W1 n kf f hR
      exact ⟨kf, f2, h1, h2, h3⟩
    · rw [decide_eq_false c2, Bool.and_false]
      refine ⟨kf, fr, ?_, q2, q3⟩
      refine v_p hT rfl rfl ?_
      refine g_if hT rfl (fun cq => ?_) (fun cq => ?_)
      · exact absurd cq c1
      · refine v_p hT rfl rfl ?_
        refine v_scall hT [.int w, .int (nI 0), .int (nI 4)] rfl rfl rfl rfl (Nat.le_of_ble_eq_true rfl) (Nat.le_of_ble_eq_true rfl) (s_within w (nI 0) (nI 4)) ?_
        rw [decide_eq_false c2]
        refine g_if hT rfl (fun cq2 => ?_) (fun cq2 => ?_)
        · exact absurd rfl cq2
        · exact hbad
noncomputable def tiA (B : BK) (i w : Nat) : Int32 := if w < 3 then nI (bTi B w i) else if w = 3 then nI (keptF B / 2 ^ i % 2) else nI (rowN B i (bNt B))
theorem c_tie {S : ST} (hV : VS S) {i w : Nat} (hi : i < bNt S.1) (hw : w ≤ 4) : CS0 n_X6_tie [.int (nI i), .int (nI w)] S (tiA S.1 i w) := by
  have hT : mT n_X6_tie = tb_X6_tie := rfl
  intro n kf f hR
  obtain ⟨f1, r1, hR1, hm, _, k1⟩ := s_measure (n := n) hV hR
  have h10 := hV.1.1.2.2.2.2.1
  have hkl := kept_lt h10
  obtain ⟨t0, t1, t2⟩ := hR1.2.1.2.2.2.2.2 i hi
  refine ⟨f1, ?_, hR1, k1⟩
  have start : ∀ Φ, Run n_X6_tie 110 32 [some (.ref 0), some (.int (nI i)), some (.int (nI w))] [.int (nI w)] (HH n kf f1) Φ → Run n_X6_tie 110 0 (ini n_X6_tie [.ref 0, .int (nI i), .int (nI w)]) [] (HH n kf f) Φ := by
    intro Φ hΦ
    refine v_p hT rfl rfl ?_
    refine v_getr hT rfl rfl (by omega) rfl ?_
    refine v_p hT rfl rfl ?_
    refine v_call hT [.int (nI i)] rfl rfl (by first | rfl | assumption) (by omega) rfl rfl (Nat.le_of_ble_eq_true rfl) (Nat.le_of_ble_eq_true rfl) (s_hasTie (Or.inl rfl) hR.2.1.2.2.2.2.1 h10 (nI i)) ?_
    rw [pB_t ⟨i, hi, rfl⟩]
    refine g_if hT rfl (fun cq => ?_) (fun cq => ?_)
    · cases bf_of cq
    · refine v_p hT rfl rfl ?_
      refine v_scall hT [.int (nI w), .int (nI 0), .int (nI 4)] rfl rfl rfl rfl (Nat.le_of_ble_eq_true rfl) (Nat.le_of_ble_eq_true rfl) (s_within (nI w) (nI 0) (nI 4)) ?_
      rw [decide_eq_true (show nI 0 ≤ nI w ∧ nI w ≤ nI 4 from ⟨(cj_le (a := 0) (b := w) (by omega) (by omega)).mpr (by omega), (cj_le (a := w) (b := 4) (by omega) (by omega)).mpr hw⟩)]
      refine g_if hT rfl (fun cq2 => ?_) (fun cq2 => ?_)
      · refine v_p hT rfl rfl ?_
        refine v_call hT [] rfl rfl (by first | rfl | assumption) (by omega) rfl rfl (Nat.le_of_ble_eq_true rfl) (Nat.le_of_ble_eq_true rfl) (r1) ?_
        refine v_p hT rfl rfl ?_
        exact hΦ
      · exact absurd (show ¬ (1 : Int32) = 0 by decide) cq2
  refine start _ ?_
  unfold tiA
  rcases (show w = 0 ∨ w = 1 ∨ w = 2 ∨ w = 3 ∨ w = 4 by omega) with e | e | e | e | e
  · subst e
    refine g_sw hT rfl (Or.inl rfl) (pc' := 64) rfl ?_
    refine v_p hT rfl rfl ?_
    refine v_getr hT rfl rfl (by omega) rfl ?_
    refine v_getr hT rfl rfl (by omega) rfl ?_
    refine v_p hT rfl rfl ?_
    refine v_ald hT rfl (by first | assumption | rfl) (by omega) (by decide) (by omega) ?_
    rw [show f1 7 i = nI (bTi S.1 0 i) from t0]
    refine v_ret hT rfl (fun z => by cases z) rfl ⟨rfl, rfl⟩
  · subst e
    refine g_sw hT rfl (Or.inl rfl) (pc' := 74) rfl ?_
    refine v_p hT rfl rfl ?_
    refine v_getr hT rfl rfl (by omega) rfl ?_
    refine v_getr hT rfl rfl (by omega) rfl ?_
    refine v_p hT rfl rfl ?_
    refine v_ald hT rfl (by first | assumption | rfl) (by omega) (by decide) (by omega) ?_
    rw [show f1 8 i = nI (bTi S.1 1 i) from t1]
    refine v_ret hT rfl (fun z => by cases z) rfl ⟨rfl, rfl⟩
  · subst e
    refine g_sw hT rfl (Or.inl rfl) (pc' := 84) rfl ?_
    refine v_p hT rfl rfl ?_
    refine v_getr hT rfl rfl (by omega) rfl ?_
    refine v_getr hT rfl rfl (by omega) rfl ?_
    refine v_p hT rfl rfl ?_
    refine v_ald hT rfl (by first | assumption | rfl) (by omega) (by decide) (by omega) ?_
    rw [show f1 9 i = nI (bTi S.1 2 i) from t2]
    refine v_ret hT rfl (fun z => by cases z) rfl ⟨rfl, rfl⟩
  · subst e
    refine g_sw hT rfl (Or.inl rfl) (pc' := 94) rfl ?_
    refine v_p hT rfl rfl ?_
    refine v_getr hT rfl rfl (by omega) rfl ?_
    refine v_geti hT rfl (by first | rfl | assumption) (by omega) ?_
    rw [hm.2.2.2.2.1]
    refine v_p hT rfl rfl ?_
    rw [bit_at (by omega) (by omega)]
    refine v_ret hT rfl (fun z => by cases z) rfl ⟨rfl, rfl⟩
  · subst e
    refine g_sw hT rfl (Or.inl rfl) (pc' := 106) rfl ?_
    refine v_p hT rfl rfl ?_
    refine v_getr hT rfl rfl (by omega) rfl ?_
    refine v_getr hT rfl rfl (by omega) rfl ?_
    refine v_p hT rfl rfl ?_
    refine v_ald hT rfl (by first | assumption | rfl) (by omega) (by decide) (by omega) ?_
    rw [hm.2.2.1 i hi]
    have hcl := crM_lt S.1 i (bNt S.1)
    have hc10 : crM S.1 i (bNt S.1) < 1024 := Nat.lt_of_lt_of_le hcl (Nat.pow_le_pow_right (n := 2) (by omega) h10)
    have hcn : cnN (crM S.1 i (bNt S.1)) 10 = rowN S.1 i (bNt S.1) := by
      have h5 := cnN_ext hcl (10 - bNt S.1)
      rw [show bNt S.1 + (10 - bNt S.1) = 10 by omega] at h5
      rw [h5]
      exact crM_cn S.1 i (bNt S.1) (bNt S.1) (Nat.le_refl _)
    refine v_scall hT [.int (nI (crM S.1 i (bNt S.1)))] rfl rfl rfl rfl (Nat.le_of_ble_eq_true rfl) (Nat.le_of_ble_eq_true rfl) (s_bitCount (nI (crM S.1 i (bNt S.1)))) ?_
    rw [bcI_cn _ hc10, hcn]
    refine v_ret hT rfl (fun z => by cases z) rfl ⟨rfl, rfl⟩
noncomputable def oTie (S : ST) (i w : Int32) : Int32 × ST := bif pB (∃ k, k < bNt S.1 ∧ i = nI k) && decide (nI 0 ≤ w ∧ w ≤ nI 4) then (tiA S.1 i.toNatClampNeg w.toNatClampNeg, S) else (mI 2, refu S 0)
theorem C_tie {S : ST} (hV : VS S) (i w : Int32) : CSp n_X6_tie [.int i, .int w] S (oTie S i w) := by
  have hT : mT n_X6_tie = tb_X6_tie := rfl
  intro n kf f hR
  have h10 := hV.1.1.2.2.2.2.1
  unfold oTie
  obtain ⟨fr, q1, q2, q3⟩ := s_refu (n := n) (j := 0) (by omega) hV hR
  have hbad : Run n_X6_tie 110 20 [some (.ref 0), some (.int i), some (.int w)] [] (HH n kf f) (Ret (some (.int (mI 2))) (HH n kf fr)) := by
    refine v_p hT rfl rfl ?_
    refine v_call hT [.int (mI 2)] rfl rfl (by first | rfl | assumption) (by omega) rfl rfl (Nat.le_of_ble_eq_true rfl) (Nat.le_of_ble_eq_true rfl) (q1) ?_
    refine v_ret hT rfl (fun z => by cases z) rfl ⟨rfl, rfl⟩
  by_cases c1 : ∃ k, k < bNt S.1 ∧ i = nI k
  · by_cases c2 : nI 0 ≤ w ∧ w ≤ nI 4
    · obtain ⟨K, K1, K2⟩ := c1
      obtain ⟨W, W1, W2⟩ := int_04 (by omega) c2
      rw [pB_t ⟨K, K1, K2⟩, decide_eq_true c2]
      subst K2; subst W2
      simp only [Bool.true_and, cond_true]
      rw [nI_tn (by omega), nI_tn (by omega)]
      obtain ⟨f2, h1, h2, h3⟩ := c_tie hV K1 W1 n kf f hR
      exact ⟨kf, f2, h1, h2, h3⟩
    · rw [decide_eq_false c2, Bool.and_false]
      refine ⟨kf, fr, ?_, q2, q3⟩
      refine v_p hT rfl rfl ?_
      refine v_getr hT rfl rfl (by omega) rfl ?_
      refine v_p hT rfl rfl ?_
      refine v_call hT [.int i] rfl rfl (by first | rfl | assumption) (by omega) rfl rfl (Nat.le_of_ble_eq_true rfl) (Nat.le_of_ble_eq_true rfl) (s_hasTie (Or.inl rfl) hR.2.1.2.2.2.2.1 h10 i) ?_
      refine g_if hT rfl (fun cq => ?_) (fun cq => ?_)
      · exact hbad
      · refine v_p hT rfl rfl ?_
        refine v_scall hT [.int w, .int (nI 0), .int (nI 4)] rfl rfl rfl rfl (Nat.le_of_ble_eq_true rfl) (Nat.le_of_ble_eq_true rfl) (s_within w (nI 0) (nI 4)) ?_
        rw [decide_eq_false c2]
        refine g_if hT rfl (fun cq2 => ?_) (fun cq2 => ?_)
        · exact absurd rfl cq2
        · exact hbad
  · rw [pB_f c1, Bool.false_and]
    refine ⟨kf, fr, ?_, q2, q3⟩
    refine v_p hT rfl rfl ?_
    refine v_getr hT rfl rfl (by omega) rfl ?_
    refine v_p hT rfl rfl ?_
    refine v_call hT [.int i] rfl rfl (by first | rfl | assumption) (by omega) rfl rfl (Nat.le_of_ble_eq_true rfl) (Nat.le_of_ble_eq_true rfl) (s_hasTie (Or.inl rfl) hR.2.1.2.2.2.2.1 h10 i) ?_
    rw [pB_f c1]
    refine g_if hT rfl (fun cq => ?_) (fun cq => ?_)
    · exact hbad
    · exact absurd rfl cq
noncomputable def ofA (B : BK) (s p w : Nat) : Int32 := if w = 0 then nI (bNw B s p) else if w = 1 then nI (linF B s p) else if w = 2 then nI (fstF B s p) else if w = 3 then opW (lyP B) s (fstF B s p) else opW (lyP B) s (fstF B s (p + 1) - 1)
theorem c_of {S : ST} (hV : VS S) {s p w : Nat} (hs : s < 2) (hp : p < bNp S.1 s) (hw : w ≤ 4) : CS0 n_X6_of [.int (nI s), .int (nI p), .int (nI w)] S (ofA S.1 s p w) := by
  have hT : mT n_X6_of = tb_X6_of := rfl
  intro n kf f hR
  obtain ⟨f1, r1, hR1, hm, _, k1⟩ := s_measure (n := n) hV hR
  obtain ⟨f2, r2, hR2, hm2, hl2, k2⟩ := s_layOut (n := n) hV hR1
  have hln := ms_ln hm hs
  have hln2 := ms_ln hm2 hs
  obtain ⟨hl1, hli⟩ := ln_at (m := n) (kf := kf) hs
  have hlk := ln_kd hli
  have hlr := ln_rr hli n kf
  have hn := hV.1.1.1 s hs
  have e0 := hln.2.1 p (by omega)
  have e1 := hln.2.1 (p + 1) (by omega)
  have y0 := hln2.2.1 p (by omega)
  have y1 := hln2.2.1 (p + 1) (by omega)
  have l0 := fstF_le hV.1.1 hs p (by omega)
  have l1 := fstF_le hV.1.1 hs (p + 1) (by omega)
  have l2 := linF_pos S.1 s p
  have l3 : fstF S.1 s (p + 1) = fstF S.1 s p + linF S.1 s p := rfl
  have start : ∀ Φ, Run n_X6_of 110 41 [some (.ref 0), some (.int (nI s)), some (.int (nI p)), some (.int (nI w)), some (.ref (81 + 3 * s))] [.int (nI w)] (HH n kf f1) Φ → Run n_X6_of 110 0 (ini n_X6_of [.ref 0, .int (nI s), .int (nI p), .int (nI w)]) [] (HH n kf f) Φ := by
    intro Φ hΦ
    refine v_p hT rfl rfl ?_
    refine v_getr hT rfl rfl (by omega) rfl ?_
    refine v_p hT rfl rfl ?_
    refine v_call hT [.int (nI s), .int (nI p)] rfl rfl (by first | rfl | assumption) (by omega) rfl rfl (Nat.le_of_ble_eq_true rfl) (Nat.le_of_ble_eq_true rfl) (s_hasParagraph (Or.inl rfl) hR.2.1 hV.1.1 (nI s) (nI p)) ?_
    rw [isPa_t hs hp]
    refine g_if hT rfl (fun cq => ?_) (fun cq => ?_)
    · cases bf_of cq
    · refine v_p hT rfl rfl ?_
      refine v_scall hT [.int (nI w), .int (nI 0), .int (nI 4)] rfl rfl rfl rfl (Nat.le_of_ble_eq_true rfl) (Nat.le_of_ble_eq_true rfl) (s_within (nI w) (nI 0) (nI 4)) ?_
      rw [decide_eq_true (show nI 0 ≤ nI w ∧ nI w ≤ nI 4 from ⟨(cj_le (a := 0) (b := w) (by omega) (by omega)).mpr (by omega), (cj_le (a := w) (b := 4) (by omega) (by omega)).mpr hw⟩)]
      refine g_if hT rfl (fun cq2 => ?_) (fun cq2 => ?_)
      · refine v_p hT rfl rfl ?_
        refine v_call hT [] rfl rfl (by first | rfl | assumption) (by omega) rfl rfl (Nat.le_of_ble_eq_true rfl) (Nat.le_of_ble_eq_true rfl) (r1) ?_
        refine v_p hT rfl rfl ?_
        refine v_getr hT rfl rfl (by omega) rfl ?_
        refine v_p hT rfl rfl ?_
        refine v_rld hT rfl rfl (Or.inr rfl) (by omega) (by omega) (show s < 2 by omega) hl1 ?_
        refine v_p hT rfl rfl ?_
        exact hΦ
      · exact absurd (show ¬ (1 : Int32) = 0 by decide) cq2
  unfold ofA
  rcases (show w = 0 ∨ w = 1 ∨ w = 2 ∨ w = 3 ∨ w = 4 by omega) with e | e | e | e | e
  · subst e
    refine ⟨f1, start _ ?_, hR1, k1⟩
    refine g_sw hT rfl (Or.inl rfl) (pc' := 72) rfl ?_
    refine v_p hT rfl rfl ?_
    refine v_getr hT rfl rfl (by omega) rfl ?_
    refine v_p hT rfl rfl ?_
    refine v_call hT [.int (nI s), .int (nI p)] rfl rfl (by first | rfl | assumption) (by omega) rfl rfl (Nat.le_of_ble_eq_true rfl) (Nat.le_of_ble_eq_true rfl) (s_wordsIn (Or.inl rfl) (by omega)) ?_
    rw [(hR1.2.1.2.1 s p hs hp).1]
    refine v_ret hT rfl (fun z => by cases z) rfl ⟨rfl, rfl⟩
  · subst e
    refine ⟨f1, start _ ?_, hR1, k1⟩
    refine g_sw hT rfl (Or.inl rfl) (pc' := 82) rfl ?_
    refine v_p hT rfl rfl ?_
    refine v_getr hT rfl hlk.1 (by omega) hlr.1 ?_
    refine v_p hT rfl rfl ?_
    rw [nI_add]
    refine v_ald hT rfl hlk.2.1 (by omega) (by decide) (by omega) ?_
    rw [e1]
    refine v_p hT rfl rfl ?_
    refine v_getr hT rfl hlk.1 (by omega) hlr.1 ?_
    refine v_p hT rfl rfl ?_
    refine v_ald hT rfl hlk.2.1 (by omega) (by decide) (by omega) ?_
    rw [e0]
    refine v_p hT rfl rfl ?_
    rw [pk_sub (by omega), l3, Nat.add_sub_cancel_left]
    refine v_ret hT rfl (fun z => by cases z) rfl ⟨rfl, rfl⟩
  · subst e
    refine ⟨f1, start _ ?_, hR1, k1⟩
    refine g_sw hT rfl (Or.inl rfl) (pc' := 100) rfl ?_
    refine v_p hT rfl rfl ?_
    refine v_getr hT rfl hlk.1 (by omega) hlr.1 ?_
    refine v_p hT rfl rfl ?_
    refine v_ald hT rfl hlk.2.1 (by omega) (by decide) (by omega) ?_
    rw [e0]
    refine v_ret hT rfl (fun z => by cases z) rfl ⟨rfl, rfl⟩
  · subst e
    refine ⟨f2, start _ ?_, hR2, fun c hc => by rw [k2 c hc, k1 c hc]⟩
    refine g_sw hT rfl (Or.inl rfl) (pc' := 108) rfl ?_
    refine v_p hT rfl rfl ?_
    refine v_call hT [] rfl rfl (by first | rfl | assumption) (by omega) rfl rfl (Nat.le_of_ble_eq_true rfl) (Nat.le_of_ble_eq_true rfl) (r2) ?_
    refine v_p hT rfl rfl ?_
    refine v_getr hT rfl hlk.1 (by omega) hlr.1 ?_
    refine v_p hT rfl rfl ?_
    refine v_ald hT rfl hlk.2.1 (by omega) (by decide) (by omega) ?_
    rw [y0]
    refine v_call hT [.int (nI s), .int (nI (fstF S.1 s p))] rfl rfl (by first | rfl | assumption) (by omega) rfl rfl (Nat.le_of_ble_eq_true rfl) (Nat.le_of_ble_eq_true rfl) (s_openingWith hV.1 hl2 hs (by omega)) ?_
    refine v_ret hT rfl (fun z => by cases z) rfl ⟨rfl, rfl⟩
  · subst e
    refine ⟨f2, start _ ?_, hR2, fun c hc => by rw [k2 c hc, k1 c hc]⟩
    refine g_sw hT rfl (Or.inl rfl) (pc' := 124) rfl ?_
    refine v_p hT rfl rfl ?_
    refine v_call hT [] rfl rfl (by first | rfl | assumption) (by omega) rfl rfl (Nat.le_of_ble_eq_true rfl) (Nat.le_of_ble_eq_true rfl) (r2) ?_
    refine v_p hT rfl rfl ?_
    refine v_getr hT rfl hlk.1 (by omega) hlr.1 ?_
    refine v_p hT rfl rfl ?_
    rw [nI_add]
    refine v_ald hT rfl hlk.2.1 (by omega) (by decide) (by omega) ?_
    rw [y1]
    refine v_p hT rfl rfl ?_
    rw [pk_sub (by omega)]
    refine v_call hT [.int (nI s), .int (nI (fstF S.1 s (p + 1) - 1))] rfl rfl (by first | rfl | assumption) (by omega) rfl rfl (Nat.le_of_ble_eq_true rfl) (Nat.le_of_ble_eq_true rfl) (s_openingWith hV.1 hl2 hs (by omega)) ?_
    refine v_ret hT rfl (fun z => by cases z) rfl ⟨rfl, rfl⟩
noncomputable def oOf (S : ST) (s p w : Int32) : Int32 × ST := bif isPa S.1 s p && decide (nI 0 ≤ w ∧ w ≤ nI 4) then (ofA S.1 s.toNatClampNeg p.toNatClampNeg w.toNatClampNeg, S) else (mI 2, refu S 0)
theorem C_of {S : ST} (hV : VS S) (s p w : Int32) : CSp n_X6_of [.int s, .int p, .int w] S (oOf S s p w) := by
  have hT : mT n_X6_of = tb_X6_of := rfl
  intro n kf f hR
  unfold oOf
  obtain ⟨fr, q1, q2, q3⟩ := s_refu (n := n) (j := 0) (by omega) hV hR
  have hbad : Run n_X6_of 110 21 [some (.ref 0), some (.int s), some (.int p), some (.int w), none] [] (HH n kf f) (Ret (some (.int (mI 2))) (HH n kf fr)) := by
    refine v_p hT rfl rfl ?_
    refine v_call hT [.int (mI 2)] rfl rfl (by first | rfl | assumption) (by omega) rfl rfl (Nat.le_of_ble_eq_true rfl) (Nat.le_of_ble_eq_true rfl) (q1) ?_
    refine v_ret hT rfl (fun z => by cases z) rfl ⟨rfl, rfl⟩
  cases c1 : isPa S.1 s p with
  | true =>
    by_cases c2 : nI 0 ≤ w ∧ w ≤ nI 4
    · obtain ⟨s2, p2, h1, h2, h3, h4⟩ := isPa_of c1
      obtain ⟨W, W1, W2⟩ := int_04 (by omega) c2
      have hn := hV.1.1.1 s2 h1
      rw [decide_eq_true c2]
      subst h3; subst h4; subst W2
      simp only [Bool.true_and, cond_true]
      rw [nI_tn (by omega), nI_tn (by omega), nI_tn (by omega)]
      obtain ⟨f2, g1, g2, g3⟩ := c_of hV h1 h2 W1 n kf f hR
      exact ⟨kf, f2, g1, g2, g3⟩
    · rw [decide_eq_false c2, Bool.and_false]
      refine ⟨kf, fr, ?_, q2, q3⟩
      refine v_p hT rfl rfl ?_
      refine v_getr hT rfl rfl (by omega) rfl ?_
      refine v_p hT rfl rfl ?_
      refine v_call hT [.int s, .int p] rfl rfl (by first | rfl | assumption) (by omega) rfl rfl (Nat.le_of_ble_eq_true rfl) (Nat.le_of_ble_eq_true rfl) (s_hasParagraph (Or.inl rfl) hR.2.1 hV.1.1 s p) ?_
      refine g_if hT rfl (fun cq => ?_) (fun cq => ?_)
      · exact hbad
      · refine v_p hT rfl rfl ?_
        refine v_scall hT [.int w, .int (nI 0), .int (nI 4)] rfl rfl rfl rfl (Nat.le_of_ble_eq_true rfl) (Nat.le_of_ble_eq_true rfl) (s_within w (nI 0) (nI 4)) ?_
        rw [decide_eq_false c2]
        refine g_if hT rfl (fun cq2 => ?_) (fun cq2 => ?_)
        · exact absurd rfl cq2
        · exact hbad
  | false =>
    rw [Bool.false_and]
    refine ⟨kf, fr, ?_, q2, q3⟩
    refine v_p hT rfl rfl ?_
    refine v_getr hT rfl rfl (by omega) rfl ?_
    refine v_p hT rfl rfl ?_
    refine v_call hT [.int s, .int p] rfl rfl (by first | rfl | assumption) (by omega) rfl rfl (Nat.le_of_ble_eq_true rfl) (Nat.le_of_ble_eq_true rfl) (s_hasParagraph (Or.inl rfl) hR.2.1 hV.1.1 s p) ?_
    rw [c1]
    refine g_if hT rfl (fun cq => ?_) (fun cq => ?_)
    · exact hbad
    · exact absurd rfl cq
end
section
/-! THE CLASS: crossing, digest. -/
def xP (B : BK) (k : Nat) : Bool := decide (k / 10 < k % 10 ∧ k % 10 < bNt B) && crossB B (k / 10) (k % 10)
def xF (B : BK) (w : Nat) : Nat → Nat → Nat → Int32
  | 0, _, _ => mI 1
  | d + 1, k, l => if xP B k = true then (if l = 0 then (if w = 0 then nI (k / 10) else nI (k % 10)) else xF B w d (k + 1) (l - 1)) else xF B w d (k + 1) l
theorem xF_skip {B : BK} {w l : Nat} : ∀ e d k, (∀ j, k ≤ j → j < k + e → xP B j = false) → xF B w (e + d) k l = xF B w d (k + e) l := by
  intro e
  induction e with
  | zero => intro d k _; rw [Nat.zero_add]; rfl
  | succ e ih =>
    intro d k h
    rw [show e + 1 + d = (e + d) + 1 by omega]
    show (if xP B k = true then (if l = 0 then (if w = 0 then nI (k / 10) else nI (k % 10)) else xF B w (e + d) (k + 1) (l - 1)) else xF B w (e + d) (k + 1) l) = _
    rw [if_neg (by rw [h k (by omega) (by omega)]; decide), ih d (k + 1) (fun j h1 h2 => h j (by omega) (by omega))]
    rw [show k + 1 + e = k + (e + 1) by omega]
theorem xP_no {B : BK} {i r : Nat} (hr : r < 10) (h : ¬ (i < r ∧ r < bNt B)) : xP B (10 * i + r) = false := by
  unfold xP
  rw [show (10 * i + r) / 10 = i by omega, show (10 * i + r) % 10 = r by omega, decide_eq_false h]
  rfl
theorem xP_at {B : BK} {i r : Nat} (hr : r < 10) (h : i < r ∧ r < bNt B) : xP B (10 * i + r) = crossB B i r := by
  unfold xP
  rw [show (10 * i + r) / 10 = i by omega, show (10 * i + r) % 10 = r by omega, decide_eq_true h]
  rfl
theorem c_crossing {S : ST} (hV : VS S) {m w : Nat} (hm : m < 2 ^ 31) (hw : w ≤ 1) : CS0 n_X6_crossing [.int (nI m), .int (nI w)] S (xF S.1 w (10 * bNt S.1) 0 m) := by
  have hT : mT n_X6_crossing = tb_X6_crossing := rfl
  intro n kf f hR
  obtain ⟨f1, r1, hR1, hms, _, k1⟩ := s_measure (n := n) hV hR
  have h10 := hV.1.1.2.2.2.2.1
  refine ⟨f1, ?_, hR1, k1⟩
  have h8 : f1 1 8 = nI (bNt S.1) := hR1.2.1.2.2.2.2.1
  have outer : ∀ e i, i + e = bNt S.1 → ∀ l, l < 2 ^ 31 → Run n_X6_crossing 110 38 [some (.ref 0), some (.int (nI m)), some (.int (nI w)), some (.int (nI l)), some (.int (nI i)), none, none] [.int (nI (bNt S.1)), .int (nI i)] (HH n kf f1) (Ret (some (.int (xF S.1 w (10 * e) (10 * i) l))) (HH n kf f1)) := by
    intro e
    induction e with
    | zero =>
      intro i hi l hl
      refine g_cmp hT rfl (fun cq => ?_) (fun cq => ?_)
      · refine v_p hT rfl rfl ?_
        refine v_ret hT rfl (fun z => by cases z) rfl ⟨rfl, rfl⟩
      · exact absurd ((cj_ge (by omega) (by omega)).mpr (by omega)) cq
    | succ e ih =>
      intro i hi l hl
      have inner : ∀ d j, j + d = bNt S.1 → i < j → ∀ l, l < 2 ^ 31 → Run n_X6_crossing 110 56 [some (.ref 0), some (.int (nI m)), some (.int (nI w)), some (.int (nI l)), some (.int (nI i)), some (.int (nI j)), none] [.int (nI (bNt S.1)), .int (nI j)] (HH n kf f1) (Ret (some (.int (xF S.1 w (10 * (e + 1) - j) (10 * i + j) l))) (HH n kf f1)) := by
        intro d
        induction d with
        | zero =>
          intro j hj hij l hl
          have hsk := xF_skip (B := S.1) (w := w) (l := l) (10 - j) (10 * e) (10 * i + j) (fun q h1 h2 => by
            have h3 := xP_no (B := S.1) (i := i) (r := q - 10 * i) (by omega) (by omega)
            rw [show 10 * i + (q - 10 * i) = q by omega] at h3
            exact h3)
          rw [show 10 - j + 10 * e = 10 * (e + 1) - j by omega, show 10 * i + j + (10 - j) = 10 * (i + 1) by omega] at hsk
          rw [hsk]
          refine g_cmp hT rfl (fun cq => ?_) (fun cq => ?_)
          · refine v_p hT rfl rfl ?_
            refine v_getr hT rfl rfl (by omega) rfl ?_
            refine v_geti hT rfl (by first | rfl | assumption) (by omega) ?_
            rw [h8]
            refine v_cv (ih (i + 1) (by omega) l hl) ⟨rfl, rfl, rfl, rfl, ?_, trivial⟩ ?_ rfl
            · rw [nI_add]
            · rw [nI_add]
          · exact absurd ((cj_ge (by omega) (by omega)).mpr (by omega)) cq
        | succ d ihd =>
          intro j hj hij l hl
          have hx := xP_at (B := S.1) (i := i) (r := j) (by omega) ⟨hij, by omega⟩
          have hcl := crM_lt S.1 i (bNt S.1)
          have hc10 : crM S.1 i (bNt S.1) < 1024 := Nat.lt_of_lt_of_le hcl (Nat.pow_le_pow_right (n := 2) (by omega) h10)
          have hbt := crM_bit S.1 i (bNt S.1) j
          rw [decide_eq_true (show j < bNt S.1 by omega), Bool.true_and] at hbt
          rw [show 10 * (e + 1) - j = (10 * (e + 1) - (j + 1)) + 1 by omega]
          show Run _ _ _ _ _ _ (Ret (some (.int (if xP S.1 (10 * i + j) = true then (if l = 0 then (if w = 0 then nI ((10 * i + j) / 10) else nI ((10 * i + j) % 10)) else xF S.1 w (10 * (e + 1) - (j + 1)) (10 * i + j + 1) (l - 1)) else xF S.1 w (10 * (e + 1) - (j + 1)) (10 * i + j + 1) l))) _)
          rw [hx, show (10 * i + j) / 10 = i by omega, show (10 * i + j) % 10 = j by omega]
          have next : ∀ l2, l2 < 2 ^ 31 → ∀ z, Run n_X6_crossing 110 50 [some (.ref 0), some (.int (nI m)), some (.int (nI w)), some (.int (nI l2)), some (.int (nI i)), some (.int (nI j + nI 1)), some z] [.ref 0, .int (nI j + nI 1)] (HH n kf f1) (Ret (some (.int (xF S.1 w (10 * (e + 1) - (j + 1)) (10 * i + j + 1) l2))) (HH n kf f1)) := by
            intro l2 hl2 z
            refine v_getr hT rfl rfl (by omega) rfl ?_
            refine v_geti hT rfl (by first | rfl | assumption) (by omega) ?_
            rw [h8]
            refine v_cv (ihd (j + 1) (by omega) (by omega) l2 hl2) ⟨rfl, rfl, rfl, rfl, rfl, ?_, trivial⟩ ?_ rfl
            · rw [nI_add]
            · rw [nI_add]
          refine g_cmp hT rfl (fun cq => ?_) (fun cq => ?_)
          · exact absurd ((cj_ge (by omega) (by omega)).mp cq) (by omega)
          · refine v_p hT rfl rfl ?_
            refine v_getr hT rfl rfl (by omega) rfl ?_
            refine v_getr hT rfl rfl (by omega) rfl ?_
            refine v_p hT rfl rfl ?_
            refine v_ald hT rfl (by first | assumption | rfl) (by omega) (by decide) (by omega) ?_
            rw [hms.2.2.1 i (by omega)]
            refine v_p hT rfl rfl ?_
            refine g_cmp hT rfl (fun cq2 => ?_) (fun cq2 => ?_)
            · have cq2 := (tb_nI (show crM S.1 i (bNt S.1) < 2 ^ 31 by omega) (show j < 32 by omega)).mp cq2
              rw [hbt] at cq2
              rw [if_neg cq2]
              refine v_p hT rfl rfl ?_
              refine g_if hT rfl (fun cq3 => ?_) (fun cq3 => ?_)
              · refine v_p hT rfl rfl ?_
                refine g_if hT rfl (fun cq4 => ?_) (fun cq4 => ?_)
                · refine v_p hT rfl rfl ?_
                  rw [pk_sub (show 0 ≤ l by omega)]
                  exact next l hl _
                · exact absurd rfl cq4
              · exact absurd rfl cq3
            · have cq2 := Classical.not_not.mp ((not_congr (tb_nI (show crM S.1 i (bNt S.1) < 2 ^ 31 by omega) (show j < 32 by omega))).mp cq2)
              rw [hbt] at cq2
              rw [if_pos cq2]
              refine v_p hT rfl rfl ?_
              refine g_if hT rfl (fun cq3 => ?_) (fun cq3 => ?_)
              · exact absurd cq3 (show ¬ nI 1 = 0 by decide)
              · refine v_p hT rfl rfl ?_
                refine g_if hT rfl (fun cq4 => ?_) (fun cq4 => ?_)
                · have cq4 := (cj_ne (a := l) (b := 0) (by omega) (by omega)).mp cq4
                  rw [if_neg cq4]
                  refine v_p hT rfl rfl ?_
                  refine g_if hT rfl (fun cq5 => ?_) (fun cq5 => ?_)
                  · exact absurd cq5 (show ¬ nI 1 = 0 by decide)
                  · refine v_p hT rfl rfl ?_
                    rw [pk_sub (show 1 ≤ l by omega)]
                    exact next (l - 1) (by omega) _
                · have cq4 := Classical.not_not.mp ((not_congr (cj_ne (a := l) (b := 0) (by omega) (by omega))).mp cq4)
                  rw [if_pos cq4]
                  refine v_p hT rfl rfl ?_
                  refine g_if hT rfl (fun cq5 => ?_) (fun cq5 => ?_)
                  · have cq5 := (cj_ne (a := w) (b := 0) (by omega) (by omega)).mp cq5
                    rw [if_neg cq5]
                    refine v_p hT rfl rfl ?_
                    refine v_ret hT rfl (fun z => by cases z) rfl ⟨rfl, rfl⟩
                  · have cq5 := Classical.not_not.mp ((not_congr (cj_ne (a := w) (b := 0) (by omega) (by omega))).mp cq5)
                    rw [if_pos cq5]
                    refine v_p hT rfl rfl ?_
                    refine v_ret hT rfl (fun z => by cases z) rfl ⟨rfl, rfl⟩
      have hsk := xF_skip (B := S.1) (w := w) (l := l) (i + 1) (10 * (e + 1) - (i + 1)) (10 * i) (fun q h1 h2 => by
        have h3 := xP_no (B := S.1) (i := i) (r := q - 10 * i) (by omega) (by omega)
        rw [show 10 * i + (q - 10 * i) = q by omega] at h3
        exact h3)
      rw [show i + 1 + (10 * (e + 1) - (i + 1)) = 10 * (e + 1) by omega] at hsk
      rw [hsk]
      refine g_cmp hT rfl (fun cq => ?_) (fun cq => ?_)
      · exact absurd ((cj_ge (by omega) (by omega)).mp cq) (by omega)
      · refine v_p hT rfl rfl ?_
        refine v_getr hT rfl rfl (by omega) rfl ?_
        refine v_geti hT rfl (by first | rfl | assumption) (by omega) ?_
        rw [h8]
        refine v_cv (inner (bNt S.1 - (i + 1)) (i + 1) (by omega) (by omega) l hl) ⟨rfl, rfl, rfl, rfl, rfl, ?_, trivial⟩ ?_ rfl
        · rw [nI_add]
        · rw [nI_add]
  refine v_p hT rfl rfl ?_
  refine g_if hT rfl (fun cq => ?_) (fun cq => ?_)
  · exact absurd cq (nI_pos hm)
  · refine v_p hT rfl rfl ?_
    refine v_scall hT [.int (nI w), .int (nI 0), .int (nI 1)] rfl rfl rfl rfl (Nat.le_of_ble_eq_true rfl) (Nat.le_of_ble_eq_true rfl) (s_within (nI w) (nI 0) (nI 1)) ?_
    rw [decide_eq_true (show nI 0 ≤ nI w ∧ nI w ≤ nI 1 from ⟨(cj_le (a := 0) (b := w) (by omega) (by omega)).mpr (by omega), (cj_le (a := w) (b := 1) (by omega) (by omega)).mpr hw⟩)]
    refine g_if hT rfl (fun cq2 => ?_) (fun cq2 => ?_)
    · refine v_p hT rfl rfl ?_
      refine v_call hT [] rfl rfl (by first | rfl | assumption) (by omega) rfl rfl (Nat.le_of_ble_eq_true rfl) (Nat.le_of_ble_eq_true rfl) (r1) ?_
      refine v_p hT rfl rfl ?_
      refine v_getr hT rfl rfl (by omega) rfl ?_
      refine v_geti hT rfl (by first | rfl | assumption) (by omega) ?_
      rw [h8]
      exact outer (bNt S.1) 0 (by omega) m hm
    · exact absurd (show ¬ (1 : Int32) = 0 by decide) cq2
noncomputable def oCross (S : ST) (k w : Int32) : Int32 × ST := bif decide (¬ k < 0) && decide (nI 0 ≤ w ∧ w ≤ nI 1) then (xF S.1 w.toNatClampNeg (10 * bNt S.1) 0 k.toNatClampNeg, S) else (mI 2, refu S 0)
theorem C_crossing {S : ST} (hV : VS S) (k w : Int32) : CSp n_X6_crossing [.int k, .int w] S (oCross S k w) := by
  have hT : mT n_X6_crossing = tb_X6_crossing := rfl
  intro n kf f hR
  unfold oCross
  obtain ⟨fr, q1, q2, q3⟩ := s_refu (n := n) (j := 0) (by omega) hV hR
  have hbad : Run n_X6_crossing 110 13 [some (.ref 0), some (.int k), some (.int w), none, none, none, none] [] (HH n kf f) (Ret (some (.int (mI 2))) (HH n kf fr)) := by
    refine v_p hT rfl rfl ?_
    refine v_call hT [.int (mI 2)] rfl rfl (by first | rfl | assumption) (by omega) rfl rfl (Nat.le_of_ble_eq_true rfl) (Nat.le_of_ble_eq_true rfl) (q1) ?_
    refine v_ret hT rfl (fun z => by cases z) rfl ⟨rfl, rfl⟩
  by_cases c1 : k < 0
  · rw [decide_eq_false (fun z => z c1), Bool.false_and]
    refine ⟨kf, fr, ?_, q2, q3⟩
    refine v_p hT rfl rfl ?_
    refine g_if hT rfl (fun cq => ?_) (fun cq => ?_)
    · exact hbad
    · exact absurd c1 cq
  · rw [decide_eq_true c1]
    by_cases c2 : nI 0 ≤ w ∧ w ≤ nI 1
    · obtain ⟨K, K1, K2⟩ := nI_of c1
      obtain ⟨W, W1, W2⟩ := int_04 (by omega) c2
      rw [decide_eq_true c2]
      subst K2; subst W2
      simp only [Bool.true_and, cond_true]
      rw [nI_tn K1, nI_tn (by omega)]
      obtain ⟨f2, h1, h2, h3⟩ := c_crossing hV K1 W1 n kf f hR
      exact ⟨kf, f2, h1, h2, h3⟩
    · rw [decide_eq_false c2, Bool.and_false]
      refine ⟨kf, fr, ?_, q2, q3⟩
      refine v_p hT rfl rfl ?_
      refine g_if hT rfl (fun cq => ?_) (fun cq => ?_)
      · exact absurd cq c1
      · refine v_p hT rfl rfl ?_
        refine v_scall hT [.int w, .int (nI 0), .int (nI 1)] rfl rfl rfl rfl (Nat.le_of_ble_eq_true rfl) (Nat.le_of_ble_eq_true rfl) (s_within w (nI 0) (nI 1)) ?_
        rw [decide_eq_false c2]
        refine g_if hT rfl (fun cq2 => ?_) (fun cq2 => ?_)
        · exact absurd rfl cq2
        · exact hbad
end
section
/-! THE CLASS: digest. -/
def dgf (a : Nat → Int32) : Nat → Int64 → Int64
  | 0, h => h
  | k + 1, h => lN 31 * dgf a k h + (a k).toInt64
noncomputable def dg2 (S : ST) : Int64 := dgf (ctA S.1) 10 (dgf (tlA S) 10 (lN 2591))
noncomputable def dg4 (S : ST) : Int64 := dgf (fun k => ofA S.1 1 (k / 5) (k % 5)) (5 * bNp S.1 1) (dgf (fun k => ofA S.1 0 (k / 5) (k % 5)) (5 * bNp S.1 0) (dg2 S))
noncomputable def dg5 (S : ST) : Int64 := dgf (fun k => tiA S.1 (k / 5) (k % 5)) (5 * bNt S.1) (dg4 S)
noncomputable def dgA (S : ST) : Int64 := dgf (fun k => opA (lyP S.1) (k / 5) (k % 5)) (5 * opN (lyP S.1)) (dg5 S)
theorem dg_lp1 {S : ST} (hV : VS S) (n : Nat) (kf : Nat → Nat) (f : Nat → Nat → Int32) : ∀ d k, k + d = 10 → ∀ F, RepC kf F S → (∀ c, 97 < c → F c = f c) → ∃ F2, RepC kf F2 S ∧ (∀ c, 97 < c → F2 c = f c) ∧ ∀ Φ, Run n_X6_digest 110 31 [some (.ref 0), some (.long (dgf (tlA S) 10 (lN 2591))), none, none, none, none] [] (HH n kf F2) Φ → Run n_X6_digest 110 9 [some (.ref 0), some (.long (dgf (tlA S) k (lN 2591))), none, some (.int (nI k)), none, none] [.int (nI 9), .int (nI k)] (HH n kf F) Φ := by
  have hT : mT n_X6_digest = tb_X6_digest := rfl
  have hP := lyP_bd hV.1
  have h120 := opN_le hP
  have h10 := hV.1.1.2.2.2.2.1
  intro d
  induction d with
  | zero =>
    intro k hk F hF hfr
    refine ⟨F, hF, hfr, fun Φ hΦ => ?_⟩
    have e : k = 10 := by omega
    subst e
    refine g_cmp hT rfl (fun cq => ?_) (fun cq => ?_)
    · exact v_cv hΦ ⟨rfl, rfl, trivial⟩ rfl rfl
    · exact absurd ((cj_gt (by omega) (by omega)).mpr (by omega)) cq
  | succ d ih =>
    intro k hk F hF hfr
    obtain ⟨F1, e1, e2, e3⟩ : ∃ F1, Run n_X6_told 110 0 (ini n_X6_told [.ref 0, .int (nI k)]) [] (HH n kf F) (Ret (some (.int (tlA S k))) (HH n kf F1)) ∧ RepC kf F1 S ∧ ∀ c, 97 < c → F1 c = F c := ⟨F, c_told hV (by omega) hF, hF, fun _ _ => rfl⟩
    obtain ⟨F2, g1, g2, g3⟩ := ih (k + 1) (by omega) F1 e2 (fun c hc => by rw [e3 c hc, hfr c hc])
    refine ⟨F2, g1, g2, fun Φ hΦ => ?_⟩
    refine g_cmp hT rfl (fun cq => ?_) (fun cq => ?_)
    · exact absurd ((cj_gt (by omega) (by omega)).mp cq) (by omega)
    · refine v_p hT rfl rfl ?_
      refine v_call hT [.int (nI k)] rfl rfl (by first | rfl | assumption) (by omega) rfl rfl (Nat.le_of_ble_eq_true rfl) (Nat.le_of_ble_eq_true rfl) (e1) ?_
      refine v_p hT rfl rfl ?_
      refine v_cv (g3 Φ hΦ) ⟨rfl, rfl, ?_, trivial⟩ ?_ rfl
      · rw [nI_add]
      · rw [nI_add]
theorem dg_lp2 {S : ST} (hV : VS S) (n : Nat) (kf : Nat → Nat) (f : Nat → Nat → Int32) : ∀ d k, k + d = 10 → ∀ F, RepC kf F S → (∀ c, 97 < c → F c = f c) → ∃ F2, RepC kf F2 S ∧ (∀ c, 97 < c → F2 c = f c) ∧ ∀ Φ, Run n_X6_digest 110 58 [some (.ref 0), some (.long (dgf (ctA S.1) 10 (dgf (tlA S) 10 (lN 2591)))), none, none, none, none] [] (HH n kf F2) Φ → Run n_X6_digest 110 36 [some (.ref 0), some (.long (dgf (ctA S.1) k (dgf (tlA S) 10 (lN 2591)))), none, some (.int (nI k)), none, none] [.int (nI 9), .int (nI k)] (HH n kf F) Φ := by
  have hT : mT n_X6_digest = tb_X6_digest := rfl
  have hP := lyP_bd hV.1
  have h120 := opN_le hP
  have h10 := hV.1.1.2.2.2.2.1
  intro d
  induction d with
  | zero =>
    intro k hk F hF hfr
    refine ⟨F, hF, hfr, fun Φ hΦ => ?_⟩
    have e : k = 10 := by omega
    subst e
    refine g_cmp hT rfl (fun cq => ?_) (fun cq => ?_)
    · exact v_cv hΦ ⟨rfl, rfl, trivial⟩ rfl rfl
    · exact absurd ((cj_gt (by omega) (by omega)).mpr (by omega)) cq
  | succ d ih =>
    intro k hk F hF hfr
    obtain ⟨F1, e1, e2, e3⟩ : ∃ F1, Run n_X6_count 110 0 (ini n_X6_count [.ref 0, .int (nI k)]) [] (HH n kf F) (Ret (some (.int (ctA S.1 k))) (HH n kf F1)) ∧ RepC kf F1 S ∧ ∀ c, 97 < c → F1 c = F c := c_count hV (by omega) n kf F hF
    obtain ⟨F2, g1, g2, g3⟩ := ih (k + 1) (by omega) F1 e2 (fun c hc => by rw [e3 c hc, hfr c hc])
    refine ⟨F2, g1, g2, fun Φ hΦ => ?_⟩
    refine g_cmp hT rfl (fun cq => ?_) (fun cq => ?_)
    · exact absurd ((cj_gt (by omega) (by omega)).mp cq) (by omega)
    · refine v_p hT rfl rfl ?_
      refine v_call hT [.int (nI k)] rfl rfl (by first | rfl | assumption) (by omega) rfl rfl (Nat.le_of_ble_eq_true rfl) (Nat.le_of_ble_eq_true rfl) (e1) ?_
      refine v_p hT rfl rfl ?_
      refine v_cv (g3 Φ hΦ) ⟨rfl, rfl, ?_, trivial⟩ ?_ rfl
      · rw [nI_add]
      · rw [nI_add]
theorem dg_ofw {S : ST} (hV : VS S) (n : Nat) (kf : Nat → Nat) (f : Nat → Nat → Int32) : ∀ s, s < 2 → ∀ p, p < bNp S.1 s → ∀ h0 d w, w + d = 5 → ∀ F, RepC kf F S → (∀ c, 97 < c → F c = f c) → ∃ F2, RepC kf F2 S ∧ (∀ c, 97 < c → F2 c = f c) ∧ ∀ Φ, Run n_X6_digest 110 114 [some (.ref 0), some (.long (dgf (fun k => ofA S.1 s (k / 5) (k % 5)) (5 * (p + 1)) h0)), none, some (.int (nI s)), some (.int (nI p)), none] [] (HH n kf F2) Φ → Run n_X6_digest 110 88 [some (.ref 0), some (.long (dgf (fun k => ofA S.1 s (k / 5) (k % 5)) (5 * p + w) h0)), none, some (.int (nI s)), some (.int (nI p)), some (.int (nI w))] [.int (nI 4), .int (nI w)] (HH n kf F) Φ := by
  have hT : mT n_X6_digest = tb_X6_digest := rfl
  have hP := lyP_bd hV.1
  have h120 := opN_le hP
  have h10 := hV.1.1.2.2.2.2.1
  intro s hs p hp h0 d
  have hn := hV.1.1.1 s hs
  induction d with
  | zero =>
    intro w hw F hF hfr
    refine ⟨F, hF, hfr, fun Φ hΦ => ?_⟩
    have e : w = 5 := by omega
    subst e
    refine g_cmp hT rfl (fun cq => ?_) (fun cq => ?_)
    · exact v_cv hΦ ⟨rfl, rfl, rfl, rfl, trivial⟩ rfl rfl
    · exact absurd ((cj_gt (by omega) (by omega)).mpr (by omega)) cq
  | succ d ih =>
    intro w hw F hF hfr
    obtain ⟨F1, e1, e2, e3⟩ := c_of hV hs hp (w := w) (by omega) n kf F hF
    obtain ⟨F2, g1, g2, g3⟩ := ih (w + 1) (by omega) F1 e2 (fun c hc => by rw [e3 c hc, hfr c hc])
    refine ⟨F2, g1, g2, fun Φ hΦ => ?_⟩
    have hst : dgf (fun k => ofA S.1 s (k / 5) (k % 5)) (5 * p + (w + 1)) h0 = lN 31 * dgf (fun k => ofA S.1 s (k / 5) (k % 5)) (5 * p + w) h0 + (ofA S.1 s p w).toInt64 := by
      show lN 31 * dgf (fun k => ofA S.1 s (k / 5) (k % 5)) (5 * p + w) h0 + (ofA S.1 s ((5 * p + w) / 5) ((5 * p + w) % 5)).toInt64 = _
      rw [show (5 * p + w) / 5 = p by omega, show (5 * p + w) % 5 = w by omega]
    have g4 := g3 Φ hΦ
    rw [hst] at g4
    refine g_cmp hT rfl (fun cq => ?_) (fun cq => ?_)
    · exact absurd ((cj_gt (by omega) (by omega)).mp cq) (by omega)
    · refine v_p hT rfl rfl ?_
      refine v_call hT [.int (nI s), .int (nI p), .int (nI w)] rfl rfl (by first | rfl | assumption) (by omega) rfl rfl (Nat.le_of_ble_eq_true rfl) (Nat.le_of_ble_eq_true rfl) (e1) ?_
      refine v_p hT rfl rfl ?_
      refine v_cv g4 ⟨rfl, rfl, rfl, rfl, ?_, trivial⟩ ?_ rfl
      · rw [nI_add]
      · rw [nI_add]
theorem dg_ofp {S : ST} (hV : VS S) (n : Nat) (kf : Nat → Nat) (f : Nat → Nat → Int32) : ∀ s, s < 2 → ∀ h0 d p, p + d = bNp S.1 s → ∀ F, RepC kf F S → (∀ c, 97 < c → F c = f c) → ∃ F2, RepC kf F2 S ∧ (∀ c, 97 < c → F2 c = f c) ∧ ∀ Φ, Run n_X6_digest 110 120 [some (.ref 0), some (.long (dgf (fun k => ofA S.1 s (k / 5) (k % 5)) (5 * bNp S.1 s) h0)), none, some (.int (nI s)), none, none] [] (HH n kf F2) Φ → Run n_X6_digest 110 79 [some (.ref 0), some (.long (dgf (fun k => ofA S.1 s (k / 5) (k % 5)) (5 * p) h0)), none, some (.int (nI s)), some (.int (nI p)), none] [.int (nI (bNp S.1 s)), .int (nI p)] (HH n kf F) Φ := by
  have hT : mT n_X6_digest = tb_X6_digest := rfl
  have hP := lyP_bd hV.1
  have h120 := opN_le hP
  have h10 := hV.1.1.2.2.2.2.1
  intro s hs h0 d
  have hn := hV.1.1.1 s hs
  induction d with
  | zero =>
    intro p hp F hF hfr
    refine ⟨F, hF, hfr, fun Φ hΦ => ?_⟩
    have e : p = bNp S.1 s := by omega
    subst e
    refine g_cmp hT rfl (fun cq => ?_) (fun cq => ?_)
    · exact v_cv hΦ ⟨rfl, rfl, rfl, trivial⟩ rfl rfl
    · exact absurd ((cj_ge (by omega) (by omega)).mpr (by omega)) cq
  | succ d ih =>
    intro p hp F hF hfr
    obtain ⟨F1, e1, e2, e3⟩ := dg_ofw hV n kf f s hs p (by omega) h0 5 0 (by omega) F hF hfr
    obtain ⟨F2, g1, g2, g3⟩ := ih (p + 1) (by omega) F1 e1 e2
    refine ⟨F2, g1, g2, fun Φ hΦ => ?_⟩
    refine g_cmp hT rfl (fun cq => ?_) (fun cq => ?_)
    · exact absurd ((cj_ge (by omega) (by omega)).mp cq) (by omega)
    · refine v_p hT rfl rfl ?_
      refine e3 Φ ?_
      refine v_p hT rfl rfl ?_
      refine v_getr hT rfl rfl (by omega) rfl ?_
      refine v_getr hT rfl rfl (by omega) rfl ?_
      refine v_p hT rfl rfl ?_
      refine v_ald hT rfl rfl (by omega) (by decide) (by omega) ?_
      rw [show F1 2 s = nI (bNp S.1 s) from e1.2.1.1 s hs]
      refine v_cv (g3 Φ hΦ) ⟨rfl, rfl, rfl, ?_, trivial⟩ ?_ rfl
      · rw [nI_add]
      · rw [nI_add]
theorem dg_tiw {S : ST} (hV : VS S) (n : Nat) (kf : Nat → Nat) (f : Nat → Nat → Int32) : ∀ p, p < bNt S.1 → ∀ h0 d w, w + d = 5 → ∀ F, RepC kf F S → (∀ c, 97 < c → F c = f c) → ∃ F2, RepC kf F2 S ∧ (∀ c, 97 < c → F2 c = f c) ∧ ∀ Φ, Run n_X6_digest 110 169 [some (.ref 0), some (.long (dgf (fun k => tiA S.1 (k / 5) (k % 5)) (5 * (p + 1)) h0)), none, some (.int (nI p)), none, none] [] (HH n kf F2) Φ → Run n_X6_digest 110 145 [some (.ref 0), some (.long (dgf (fun k => tiA S.1 (k / 5) (k % 5)) (5 * p + w) h0)), none, some (.int (nI p)), some (.int (nI w)), none] [.int (nI 4), .int (nI w)] (HH n kf F) Φ := by
  have hT : mT n_X6_digest = tb_X6_digest := rfl
  have hP := lyP_bd hV.1
  have h120 := opN_le hP
  have h10 := hV.1.1.2.2.2.2.1
  intro p hp h0 d
  induction d with
  | zero =>
    intro w hw F hF hfr
    refine ⟨F, hF, hfr, fun Φ hΦ => ?_⟩
    have e : w = 5 := by omega
    subst e
    refine g_cmp hT rfl (fun cq => ?_) (fun cq => ?_)
    · exact v_cv hΦ ⟨rfl, rfl, rfl, trivial⟩ rfl rfl
    · exact absurd ((cj_gt (by omega) (by omega)).mpr (by omega)) cq
  | succ d ih =>
    intro w hw F hF hfr
    obtain ⟨F1, e1, e2, e3⟩ := c_tie hV hp (w := w) (by omega) n kf F hF
    skip
    obtain ⟨F2, g1, g2, g3⟩ := ih (w + 1) (by omega) F1 e2 (fun c hc => by rw [e3 c hc, hfr c hc])
    refine ⟨F2, g1, g2, fun Φ hΦ => ?_⟩
    have hst : dgf (fun k => tiA S.1 (k / 5) (k % 5)) (5 * p + (w + 1)) h0 = lN 31 * dgf (fun k => tiA S.1 (k / 5) (k % 5)) (5 * p + w) h0 + (tiA S.1 p w).toInt64 := by
      show lN 31 * dgf (fun k => tiA S.1 (k / 5) (k % 5)) (5 * p + w) h0 + (tiA S.1 ((5 * p + w) / 5) ((5 * p + w) % 5)).toInt64 = _
      rw [show (5 * p + w) / 5 = p by omega, show (5 * p + w) % 5 = w by omega]
    have g4 := g3 Φ hΦ
    rw [hst] at g4
    refine g_cmp hT rfl (fun cq => ?_) (fun cq => ?_)
    · exact absurd ((cj_gt (by omega) (by omega)).mp cq) (by omega)
    · refine v_p hT rfl rfl ?_
      refine v_call hT [.int (nI p), .int (nI w)] rfl rfl (by first | rfl | assumption) (by omega) rfl rfl (Nat.le_of_ble_eq_true rfl) (Nat.le_of_ble_eq_true rfl) (e1) ?_
      refine v_p hT rfl rfl ?_
      refine v_cv g4 ⟨rfl, rfl, rfl, ?_, trivial⟩ ?_ rfl
      · rw [nI_add]
      · rw [nI_add]
theorem dg_tip {S : ST} (hV : VS S) (n : Nat) (kf : Nat → Nat) (f : Nat → Nat → Int32) : ∀ h0 d p, p + d = bNt S.1 → ∀ F, RepC kf F S → (∀ c, 97 < c → F c = f c) → ∃ F2, RepC kf F2 S ∧ (∀ c, 97 < c → F2 c = f c) ∧ ∀ Φ, Run n_X6_digest 110 175 [some (.ref 0), some (.long (dgf (fun k => tiA S.1 (k / 5) (k % 5)) (5 * bNt S.1) h0)), none, none, none, none] [] (HH n kf F2) Φ → Run n_X6_digest 110 136 [some (.ref 0), some (.long (dgf (fun k => tiA S.1 (k / 5) (k % 5)) (5 * p) h0)), none, some (.int (nI p)), none, none] [.int (nI (bNt S.1)), .int (nI p)] (HH n kf F) Φ := by
  have hT : mT n_X6_digest = tb_X6_digest := rfl
  have hP := lyP_bd hV.1
  have h120 := opN_le hP
  have h10 := hV.1.1.2.2.2.2.1
  intro h0 d
  induction d with
  | zero =>
    intro p hp F hF hfr
    refine ⟨F, hF, hfr, fun Φ hΦ => ?_⟩
    have e : p = bNt S.1 := by omega
    subst e
    refine g_cmp hT rfl (fun cq => ?_) (fun cq => ?_)
    · exact v_cv hΦ ⟨rfl, rfl, trivial⟩ rfl rfl
    · exact absurd ((cj_ge (by omega) (by omega)).mpr (by omega)) cq
  | succ d ih =>
    intro p hp F hF hfr
    obtain ⟨F1, e1, e2, e3⟩ := dg_tiw hV n kf f p (by omega) h0 5 0 (by omega) F hF hfr
    obtain ⟨F2, g1, g2, g3⟩ := ih (p + 1) (by omega) F1 e1 e2
    refine ⟨F2, g1, g2, fun Φ hΦ => ?_⟩
    refine g_cmp hT rfl (fun cq => ?_) (fun cq => ?_)
    · exact absurd ((cj_ge (by omega) (by omega)).mp cq) (by omega)
    · refine v_p hT rfl rfl ?_
      refine e3 Φ ?_
      refine v_p hT rfl rfl ?_
      refine v_getr hT rfl rfl (by omega) rfl ?_
      refine v_geti hT rfl (by first | rfl | assumption) (by omega) ?_
      rw [e1.2.1.2.2.2.2.1]
      refine v_cv (g3 Φ hΦ) ⟨rfl, rfl, ?_, trivial⟩ ?_ rfl
      · rw [nI_add]
      · rw [nI_add]
theorem dg_opw {S : ST} (hV : VS S) (n : Nat) (kf : Nat → Nat) (f : Nat → Nat → Int32) : ∀ p, p < opN (lyP S.1) → ∀ h0 d w, w + d = 5 → ∀ F, RepC kf F S → (∀ c, 97 < c → F c = f c) → ∃ F2, RepC kf F2 S ∧ (∀ c, 97 < c → F2 c = f c) ∧ ∀ Φ, Run n_X6_digest 110 218 [some (.ref 0), some (.long (dgf (fun k => opA (lyP S.1) (k / 5) (k % 5)) (5 * (p + 1)) h0)), none, some (.int (nI p)), none, none] [] (HH n kf F2) Φ → Run n_X6_digest 110 194 [some (.ref 0), some (.long (dgf (fun k => opA (lyP S.1) (k / 5) (k % 5)) (5 * p + w) h0)), none, some (.int (nI p)), some (.int (nI w)), none] [.int (nI 4), .int (nI w)] (HH n kf F) Φ := by
  have hT : mT n_X6_digest = tb_X6_digest := rfl
  have hP := lyP_bd hV.1
  have h120 := opN_le hP
  have h10 := hV.1.1.2.2.2.2.1
  intro p hp h0 d
  induction d with
  | zero =>
    intro w hw F hF hfr
    refine ⟨F, hF, hfr, fun Φ hΦ => ?_⟩
    have e : w = 5 := by omega
    subst e
    refine g_cmp hT rfl (fun cq => ?_) (fun cq => ?_)
    · exact v_cv hΦ ⟨rfl, rfl, rfl, trivial⟩ rfl rfl
    · exact absurd ((cj_gt (by omega) (by omega)).mpr (by omega)) cq
  | succ d ih =>
    intro w hw F hF hfr
    obtain ⟨F1, e1, e2, e3⟩ := c_opening hV (k := p) (w := w) (by omega) (by omega) n kf F hF
    rw [show opB (lyP S.1) p w = opA (lyP S.1) p w by unfold opB; rw [if_pos hp]] at e1
    obtain ⟨F2, g1, g2, g3⟩ := ih (w + 1) (by omega) F1 e2 (fun c hc => by rw [e3 c hc, hfr c hc])
    refine ⟨F2, g1, g2, fun Φ hΦ => ?_⟩
    have hst : dgf (fun k => opA (lyP S.1) (k / 5) (k % 5)) (5 * p + (w + 1)) h0 = lN 31 * dgf (fun k => opA (lyP S.1) (k / 5) (k % 5)) (5 * p + w) h0 + (opA (lyP S.1) p w).toInt64 := by
      show lN 31 * dgf (fun k => opA (lyP S.1) (k / 5) (k % 5)) (5 * p + w) h0 + (opA (lyP S.1) ((5 * p + w) / 5) ((5 * p + w) % 5)).toInt64 = _
      rw [show (5 * p + w) / 5 = p by omega, show (5 * p + w) % 5 = w by omega]
    have g4 := g3 Φ hΦ
    rw [hst] at g4
    refine g_cmp hT rfl (fun cq => ?_) (fun cq => ?_)
    · exact absurd ((cj_gt (by omega) (by omega)).mp cq) (by omega)
    · refine v_p hT rfl rfl ?_
      refine v_call hT [.int (nI p), .int (nI w)] rfl rfl (by first | rfl | assumption) (by omega) rfl rfl (Nat.le_of_ble_eq_true rfl) (Nat.le_of_ble_eq_true rfl) (e1) ?_
      refine v_p hT rfl rfl ?_
      refine v_cv g4 ⟨rfl, rfl, rfl, ?_, trivial⟩ ?_ rfl
      · rw [nI_add]
      · rw [nI_add]
theorem dg_opp {S : ST} (hV : VS S) (n : Nat) (kf : Nat → Nat) (f : Nat → Nat → Int32) : ∀ h0 d p, p + d = opN (lyP S.1) → ∀ F, RepC kf F S → (∀ c, 97 < c → F c = f c) → ∃ F2, RepC kf F2 S ∧ (∀ c, 97 < c → F2 c = f c) ∧ ∀ Φ, Run n_X6_digest 110 224 [some (.ref 0), some (.long (dgf (fun k => opA (lyP S.1) (k / 5) (k % 5)) (5 * opN (lyP S.1)) h0)), none, none, none, none] [] (HH n kf F2) Φ → Run n_X6_digest 110 185 [some (.ref 0), some (.long (dgf (fun k => opA (lyP S.1) (k / 5) (k % 5)) (5 * p) h0)), none, some (.int (nI p)), none, none] [.int (opI (lyP S.1)), .int (nI p)] (HH n kf F) Φ := by
  have hT : mT n_X6_digest = tb_X6_digest := rfl
  have hP := lyP_bd hV.1
  have h120 := opN_le hP
  have h10 := hV.1.1.2.2.2.2.1
  intro h0 d
  induction d with
  | zero =>
    intro p hp F hF hfr
    refine ⟨F, hF, hfr, fun Φ hΦ => ?_⟩
    have e : p = opN (lyP S.1) := by omega
    subst e
    refine g_cmp hT rfl (fun cq => ?_) (fun cq => ?_)
    · exact v_cv hΦ ⟨rfl, rfl, trivial⟩ rfl rfl
    · have cq : ¬ opI (lyP S.1) ≤ nI (opN (lyP S.1)) := cq
      exact absurd (Int32.not_lt.mp (fun z => Nat.lt_irrefl _ ((op_cmp hP (by omega)).mp z))) cq
  | succ d ih =>
    intro p hp F hF hfr
    obtain ⟨F1, e1, e2, e3⟩ := dg_opw hV n kf f p (by omega) h0 5 0 (by omega) F hF hfr
    obtain ⟨F3, r3, hR3, _, hl3, k3⟩ := s_layOut (n := n) hV e1
    obtain ⟨F2, g1, g2, g3⟩ := ih (p + 1) (by omega) F3 hR3 (fun c hc => by rw [k3 c hc, e2 c hc])
    refine ⟨F2, g1, g2, fun Φ hΦ => ?_⟩
    refine g_cmp hT rfl (fun cq => ?_) (fun cq => ?_)
    · have cq : opI (lyP S.1) ≤ nI p := cq
      exact absurd cq (Int32.not_le.mpr ((op_cmp hP (by omega)).mpr (by omega)))
    · refine v_p hT rfl rfl ?_
      refine e3 Φ ?_
      refine v_p hT rfl rfl ?_
      refine v_call hT [] rfl rfl (by first | rfl | assumption) (by omega) rfl rfl (Nat.le_of_ble_eq_true rfl) (Nat.le_of_ble_eq_true rfl) (r3) ?_
      refine v_geti hT rfl (by first | rfl | assumption) (by omega) ?_
      rw [hl3.2.1]
      refine v_cv (g3 Φ hΦ) ⟨rfl, rfl, ?_, trivial⟩ ?_ rfl
      · rw [nI_add]
      · rw [nI_add]; rfl
theorem dgf_0 (a : Nat → Int32) (h : Int64) : dgf a 0 h = h := rfl
theorem dgf_50 (a : Nat → Int32) (h : Int64) : dgf a (5 * 0) h = h := rfl
theorem c_digest {S : ST} (hV : VS S) (n : Nat) (kf : Nat → Nat) (f : Nat → Nat → Int32) (hR : RepC kf f S) : ∃ f2, Run n_X6_digest 110 0 (ini n_X6_digest [.ref 0]) [] (HH n kf f) (Ret (some (.long (dgA S))) (HH n kf f2)) ∧ RepC kf f2 S ∧ ∀ c, 97 < c → f2 c = f c := by
  have hT : mT n_X6_digest = tb_X6_digest := rfl
  have hP := lyP_bd hV.1
  have h120 := opN_le hP
  have h10 := hV.1.1.2.2.2.2.1
  obtain ⟨f1, a1, b1, c1⟩ := dg_lp1 hV n kf f 10 0 (by omega) f hR (fun _ _ => rfl)
  obtain ⟨f2, a2, b2, c2⟩ := dg_lp2 hV n kf f 10 0 (by omega) f1 a1 b1
  obtain ⟨f3, a3, b3, c3⟩ := dg_ofp hV n kf f 0 (by omega) (dgf (ctA S.1) 10 (dgf (tlA S) 10 (lN 2591))) (bNp S.1 0) 0 (by omega) f2 a2 b2
  obtain ⟨f4, a4, b4, c4⟩ := dg_ofp hV n kf f 1 (by omega) (dgf (fun k => ofA S.1 0 (k / 5) (k % 5)) (5 * bNp S.1 0) (dgf (ctA S.1) 10 (dgf (tlA S) 10 (lN 2591)))) (bNp S.1 1) 0 (by omega) f3 a3 b3
  obtain ⟨f5, a5, b5, c5⟩ := dg_tip hV n kf f (dgf (fun k => ofA S.1 1 (k / 5) (k % 5)) (5 * bNp S.1 1) (dgf (fun k => ofA S.1 0 (k / 5) (k % 5)) (5 * bNp S.1 0) (dgf (ctA S.1) 10 (dgf (tlA S) 10 (lN 2591))))) (bNt S.1) 0 (by omega) f4 a4 b4
  obtain ⟨f6, r6, a6, _, hl6, k6⟩ := s_layOut (n := n) hV a5
  obtain ⟨f7, a7, b7, c7⟩ := dg_opp hV n kf f (dgf (fun k => tiA S.1 (k / 5) (k % 5)) (5 * bNt S.1) (dgf (fun k => ofA S.1 1 (k / 5) (k % 5)) (5 * bNp S.1 1) (dgf (fun k => ofA S.1 0 (k / 5) (k % 5)) (5 * bNp S.1 0) (dgf (ctA S.1) 10 (dgf (tlA S) 10 (lN 2591)))))) (opN (lyP S.1)) 0 (by omega) f6 a6 (fun c hc => by rw [k6 c hc, b5 c hc])
  rw [dgf_0] at c1 c2
  rw [dgf_50] at c3 c4 c5 c7
  unfold dgA dg5 dg4 dg2
  refine ⟨f7, ?_, a7, b7⟩
  refine v_p hT rfl rfl ?_
  refine c1 _ ?_
  refine v_p hT rfl rfl ?_
  refine c2 _ ?_
  refine v_p hT rfl rfl ?_
  refine g_cmp hT rfl (fun cq => ?_) (fun cq => ?_)
  · exact absurd ((cj_ge (a := 0) (b := 2) (by omega) (by omega)).mp cq) (by omega)
  · refine v_p hT rfl rfl ?_
    refine v_getr hT rfl rfl (by omega) rfl ?_
    refine v_getr hT rfl rfl (by omega) rfl ?_
    refine v_p hT rfl rfl ?_
    refine v_ald hT rfl rfl (by omega) (by decide) (show 0 < 2 by omega) ?_
    rw [show f2 2 0 = nI (bNp S.1 0) from a2.2.1.1 0 (by omega)]
    refine c3 _ ?_
    refine v_p hT rfl rfl ?_
    refine g_cmp hT rfl (fun cq2 => ?_) (fun cq2 => ?_)
    · exact absurd ((cj_ge (a := 1) (b := 2) (by omega) (by omega)).mp cq2) (by omega)
    · refine v_p hT rfl rfl ?_
      refine v_getr hT rfl rfl (by omega) rfl ?_
      refine v_getr hT rfl rfl (by omega) rfl ?_
      refine v_p hT rfl rfl ?_
      rw [nI_add]
      refine v_ald hT rfl rfl (by omega) (by decide) (show 0 + 1 < 2 by omega) ?_
      rw [show f3 2 (0 + 1) = nI (bNp S.1 1) from a3.2.1.1 1 (by omega)]
      refine c4 _ ?_
      refine v_p hT rfl rfl ?_
      refine g_cmp hT rfl (fun cq3 => ?_) (fun cq3 => ?_)
      · refine v_p hT rfl rfl ?_
        refine v_getr hT rfl rfl (by omega) rfl ?_
        refine v_geti hT rfl (by first | rfl | assumption) (by omega) ?_
        rw [a4.2.1.2.2.2.2.1]
        refine c5 _ ?_
        refine v_p hT rfl rfl ?_
        refine v_call hT [] rfl rfl (by first | rfl | assumption) (by omega) rfl rfl (Nat.le_of_ble_eq_true rfl) (Nat.le_of_ble_eq_true rfl) (r6) ?_
        refine v_geti hT rfl (by first | rfl | assumption) (by omega) ?_
        rw [hl6.2.1]
        refine c7 _ ?_
        refine v_p hT rfl rfl ?_
        refine v_lret hT rfl rfl ⟨rfl, rfl⟩
      · exact absurd ((cj_ge (a := 2) (b := 2) (by omega) (by omega)).mpr (by omega)) cq3
end
section
/-! THE REFERENCE: its cells, its small methods. -/
def nowR (g : Nat → Int32) (B : BK) : Prop := (∀ s, s < 2 → g s = nI (bWd B s)) ∧ (∀ i, i < 3 → g (2 + i) = nI (bSe B i)) ∧ (∀ s, s < 2 → g (5 + s) = nI (bNp B s)) ∧ g 7 = nI (bNt B) ∧ (∀ s p, s < 2 → p < bNp B s → g (8 + 13 * (8 * s + p)) = nI (bNw B s p) ∧ ∀ k, k < bNw B s p → g (8 + 13 * (8 * s + p) + 1 + k) = nI (bLn B s p k)) ∧ ∀ i, i < bNt B → ∀ z, z < 3 → g (224 + 3 * i + z) = nI (bTi B z i)
theorem nowR_cg {g g' : Nat → Int32} {B : BK} (hV : VB0 B) (h : nowR g B) (e : ∀ c, c < 260 → g' c = g c) : nowR g' B := by
  obtain ⟨a1, a2, a3, a4, a5, a6⟩ := h
  have hn0 := hV.1
  have hnt := hV.2.2.2.2.1
  refine ⟨fun s hs => by rw [e _ (by omega)]; exact a1 s hs, fun i hi => by rw [e _ (by omega)]; exact a2 i hi, fun s hs => by rw [e _ (by omega)]; exact a3 s hs, by rw [e _ (by omega)]; exact a4, fun s p hs hp => ⟨?_, fun k hk => ?_⟩, fun i hi z hz => by rw [e _ (by omega)]; exact a6 i hi z hz⟩
  · have := hn0 s hs
    rw [e _ (by omega)]; exact (a5 s p hs hp).1
  · have := hn0 s hs
    have := (hV.2.1 s p hs hp).2.1
    rw [e _ (by omega)]; exact (a5 s p hs hp).2 k hk
theorem m_in (x y z : Int32) {n : Nat} {kf : Nat → Nat} {f : Nat → Nat → Int32} : Run n_X7_in 110 0 (ini n_X7_in [.int x, .int y, .int z]) [] (HH n kf f) (Ret (some (.int (bI (decide (y ≤ x ∧ x ≤ z))))) (HH n kf f)) := by
  have hT : mT n_X7_in = tb_X7_in := rfl
  refine v_p hT rfl rfl ?_
  refine g_cmp hT rfl (fun cq => ?_) (fun cq => ?_)
  · have cq : x < y := cq
    rw [decide_eq_false (fun h => absurd h.1 (Int32.not_le.mpr cq))]
    refine v_p hT rfl rfl ?_
    refine v_ret hT rfl (fun _ => Or.inl rfl) rfl ⟨rfl, rfl⟩
  · have cq : ¬ x < y := cq
    refine v_p hT rfl rfl ?_
    refine g_cmp hT rfl (fun cq2 => ?_) (fun cq2 => ?_)
    · have cq2 : z < x := cq2
      rw [decide_eq_false (fun h => absurd h.2 (Int32.not_le.mpr cq2))]
      refine v_p hT rfl rfl ?_
      refine v_ret hT rfl (fun _ => Or.inl rfl) rfl ⟨rfl, rfl⟩
    · have cq2 : ¬ z < x := cq2
      rw [decide_eq_true ⟨Int32.not_lt.mp cq, Int32.not_lt.mp cq2⟩]
      refine v_p hT rfl rfl ?_
      refine v_ret hT rfl (fun _ => Or.inr rfl) rfl ⟨rfl, rfl⟩
theorem m_bad {n : Nat} {kf : Nat → Nat} {f : Nat → Nat → Int32} : Run n_X7_bad 110 0 (ini n_X7_bad [.ref 98]) [] (HH n kf f) (Ret (some (.int (mI 2))) (HH n kf (hset f 99 0 (f 99 0 + nI 1)))) := by
  have hT : mT n_X7_bad = tb_X7_bad := rfl
  refine v_p hT rfl rfl ?_
  refine v_getr hT rfl rfl (by omega) rfl ?_
  refine v_p hT rfl rfl ?_
  refine v_ald hT rfl (by first | assumption | rfl) (by omega) (by decide) (by omega) ?_
  refine v_p hT rfl rfl ?_
  refine v_ast hT rfl rfl (by omega) (by decide) (by omega) ?_
  refine v_p hT rfl rfl ?_
  refine v_ret hT rfl (fun z => by cases z) rfl ⟨rfl, rfl⟩
theorem m_no {n : Nat} {kf : Nat → Nat} {f : Nat → Nat → Int32} : Run n_X7_no 110 0 (ini n_X7_no [.ref 98]) [] (HH n kf f) (Ret (some (.int (mI 3))) (HH n kf (hset f 99 1 (f 99 1 + nI 1)))) := by
  have hT : mT n_X7_no = tb_X7_no := rfl
  refine v_p hT rfl rfl ?_
  refine v_getr hT rfl rfl (by omega) rfl ?_
  refine v_p hT rfl rfl ?_
  refine v_ald hT rfl (by first | assumption | rfl) (by omega) (by decide) (by omega) ?_
  refine v_p hT rfl rfl ?_
  refine v_ast hT rfl rfl (by omega) (by decide) (by omega) ?_
  refine v_p hT rfl rfl ?_
  refine v_ret hT rfl (fun z => by cases z) rfl ⟨rfl, rfl⟩
theorem m_full {n : Nat} {kf : Nat → Nat} {f : Nat → Nat → Int32} : Run n_X7_full 110 0 (ini n_X7_full [.ref 98]) [] (HH n kf f) (Ret (some (.int (mI 4))) (HH n kf (hset f 99 2 (f 99 2 + nI 1)))) := by
  have hT : mT n_X7_full = tb_X7_full := rfl
  refine v_p hT rfl rfl ?_
  refine v_getr hT rfl rfl (by omega) rfl ?_
  refine v_p hT rfl rfl ?_
  refine v_ald hT rfl (by first | assumption | rfl) (by omega) (by decide) (by omega) ?_
  refine v_p hT rfl rfl ?_
  refine v_ast hT rfl rfl (by omega) (by decide) (by omega) ?_
  refine v_p hT rfl rfl ?_
  refine v_ret hT rfl (fun z => by cases z) rfl ⟨rfl, rfl⟩
theorem m_counted {n j : Nat} {kf : Nat → Nat} {f : Nat → Nat → Int32} (hj : j < 3) : Run n_X7_counted 110 0 (ini n_X7_counted [.ref 98, .int (mI (2 + j))]) [] (HH n kf f) (Ret (some (.int (mI (2 + j)))) (HH n kf (hset f 99 j (f 99 j + nI 1)))) := by
  have hT : mT n_X7_counted = tb_X7_counted := rfl
  rcases (show j = 0 ∨ j = 1 ∨ j = 2 by omega) with e | e | e
  · subst e
    refine v_p hT rfl rfl ?_
    refine g_cmp hT rfl (fun cq => ?_) (fun cq => ?_)
    · exact absurd rfl cq
    · refine v_p hT rfl rfl ?_
      refine v_call hT [] rfl rfl (by first | rfl | assumption) (by omega) rfl rfl (Nat.le_of_ble_eq_true rfl) (Nat.le_of_ble_eq_true rfl) (m_bad) ?_
      refine v_p hT rfl rfl ?_
      refine v_ret hT rfl (fun z => by cases z) rfl ⟨rfl, rfl⟩
  · subst e
    refine v_p hT rfl rfl ?_
    refine g_cmp hT rfl (fun cq => ?_) (fun cq => ?_)
    · refine v_p hT rfl rfl ?_
      refine g_cmp hT rfl (fun cq2 => ?_) (fun cq2 => ?_)
      · exact absurd rfl cq2
      · refine v_p hT rfl rfl ?_
        refine v_call hT [] rfl rfl (by first | rfl | assumption) (by omega) rfl rfl (Nat.le_of_ble_eq_true rfl) (Nat.le_of_ble_eq_true rfl) (m_no) ?_
        refine v_p hT rfl rfl ?_
        refine v_ret hT rfl (fun z => by cases z) rfl ⟨rfl, rfl⟩
    · exact absurd (show ¬ mI (2 + 1) = mI 2 by decide) cq
  · subst e
    refine v_p hT rfl rfl ?_
    refine g_cmp hT rfl (fun cq => ?_) (fun cq => ?_)
    · refine v_p hT rfl rfl ?_
      refine g_cmp hT rfl (fun cq2 => ?_) (fun cq2 => ?_)
      · refine v_p hT rfl rfl ?_
        refine g_cmp hT rfl (fun cq3 => ?_) (fun cq3 => ?_)
        · exact absurd rfl cq3
        · refine v_p hT rfl rfl ?_
          refine v_call hT [] rfl rfl (by first | rfl | assumption) (by omega) rfl rfl (Nat.le_of_ble_eq_true rfl) (Nat.le_of_ble_eq_true rfl) (m_full) ?_
          refine v_p hT rfl rfl ?_
          refine v_ret hT rfl (fun z => by cases z) rfl ⟨rfl, rfl⟩
      · exact absurd (show ¬ mI (2 + 2) = mI 3 by decide) cq2
    · exact absurd (show ¬ mI (2 + 2) = mI 2 by decide) cq
theorem m_at (s p : Nat) {n : Nat} {kf : Nat → Nat} {f : Nat → Nat → Int32} : Run n_X7_at 110 0 (ini n_X7_at [.int (nI s), .int (nI p)]) [] (HH n kf f) (Ret (some (.int (nI (8 + 13 * (8 * s + p))))) (HH n kf f)) := by
  have hT : mT n_X7_at = tb_X7_at := rfl
  refine v_p hT rfl rfl ?_
  rw [pk_mul, nI_add, pk_mul, nI_add]
  refine v_ret hT rfl (fun z => by cases z) rfl ⟨rfl, rfl⟩
theorem m_many {n s : Nat} {kf : Nat → Nat} {f : Nat → Nat → Int32} (hs : s < 2) : Run n_X7_many 110 0 (ini n_X7_many [.ref 98, .int (nI s)]) [] (HH n kf f) (Ret (some (.int (f 100 (5 + s)))) (HH n kf f)) := by
  have hT : mT n_X7_many = tb_X7_many := rfl
  refine v_p hT rfl rfl ?_
  refine v_getr hT rfl rfl (by omega) rfl ?_
  refine v_p hT rfl rfl ?_
  rw [nI_add]
  refine v_ald hT rfl (by first | assumption | rfl) (by omega) (by decide) (by omega) ?_
  refine v_ret hT rfl (fun z => by cases z) rfl ⟨rfl, rfl⟩
theorem m_wordsOf {n s p : Nat} {kf : Nat → Nat} {f : Nat → Nat → Int32} (hs : 8 * s + p < 16) : Run n_X7_wordsOf 110 0 (ini n_X7_wordsOf [.ref 98, .int (nI s), .int (nI p)]) [] (HH n kf f) (Ret (some (.int (f 100 (8 + 13 * (8 * s + p))))) (HH n kf f)) := by
  have hT : mT n_X7_wordsOf = tb_X7_wordsOf := rfl
  refine v_p hT rfl rfl ?_
  refine v_getr hT rfl rfl (by omega) rfl ?_
  refine v_p hT rfl rfl ?_
  refine v_scall hT [.int (nI s), .int (nI p)] rfl rfl rfl rfl (Nat.le_of_ble_eq_true rfl) (Nat.le_of_ble_eq_true rfl) (m_at s p) ?_
  refine v_ald hT rfl (by first | assumption | rfl) (by omega) (by decide) (by omega) ?_
  refine v_ret hT rfl (fun z => by cases z) rfl ⟨rfl, rfl⟩
theorem m_lengthOf {n s p k : Nat} {kf : Nat → Nat} {f : Nat → Nat → Int32} (hs : 8 * s + p < 16) (hk : k < 12) : Run n_X7_lengthOf 110 0 (ini n_X7_lengthOf [.ref 98, .int (nI s), .int (nI p), .int (nI k)]) [] (HH n kf f) (Ret (some (.int (f 100 (8 + 13 * (8 * s + p) + 1 + k)))) (HH n kf f)) := by
  have hT : mT n_X7_lengthOf = tb_X7_lengthOf := rfl
  refine v_p hT rfl rfl ?_
  refine v_getr hT rfl rfl (by omega) rfl ?_
  refine v_p hT rfl rfl ?_
  refine v_scall hT [.int (nI s), .int (nI p)] rfl rfl rfl rfl (Nat.le_of_ble_eq_true rfl) (Nat.le_of_ble_eq_true rfl) (m_at s p) ?_
  refine v_p hT rfl rfl ?_
  rw [nI_add, nI_add]
  refine v_ald hT rfl (by first | assumption | rfl) (by omega) (by decide) (by omega) ?_
  refine v_ret hT rfl (fun z => by cases z) rfl ⟨rfl, rfl⟩
theorem m_lineOf {n s p k w : Nat} {kf : Nat → Nat} {f : Nat → Nat → Int32} {ln : Nat → Nat} (hs : s < 2) (hp : p < 8) (hk : k < 12) (hw : f 100 s = nI w) (hw2 : w ≤ 1000) (hln : ∀ i, i ≤ k → f 100 (8 + 13 * (8 * s + p) + 1 + i) = nI (ln i)) (hl2 : ∀ i, i ≤ k → ln i ≤ 1000) :
    Run n_X7_lineOf 110 0 (ini n_X7_lineOf [.ref 98, .int (nI s), .int (nI p), .int (nI k)]) [] (HH n kf f) (Ret (some (.int (nI (lineF w ln k).1))) (HH n kf f)) := by
  have hT : mT n_X7_lineOf = tb_X7_lineOf := rfl
  have loop : ∀ d i, i + d = k → Run n_X7_lineOf 110 18 [some (.ref 98), some (.int (nI s)), some (.int (nI p)), some (.int (nI k)), some (.int (nI (lineF w ln i).1)), some (.int (nI (lineF w ln i).2)), some (.int (nI (i + 1))), none, none] [.int (nI k), .int (nI (i + 1))] (HH n kf f) (Ret (some (.int (nI (lineF w ln k).1))) (HH n kf f)) := by
    intro d
    induction d with
    | zero =>
      intro i hi
      have e : i = k := by omega
      subst e
      refine g_cmp hT rfl (fun cq => ?_) (fun cq => ?_)
      · refine v_p hT rfl rfl ?_
        refine v_ret hT rfl (fun z => by cases z) rfl ⟨rfl, rfl⟩
      · exact absurd ((cj_gt (by omega) (by omega)).mpr (by omega)) cq
    | succ d ih =>
      intro i hi
      have hu := lineF_used w 1000 ln i hw2 (fun j hj => hl2 j (by omega))
      have hl := hl2 (i + 1) (by omega)
      have hlen := hln (i + 1) (by omega)
      have ih' := ih (i + 1) (by omega)
      refine g_cmp hT rfl (fun cq => ?_) (fun cq => ?_)
      · exact absurd ((cj_gt (by omega) (by omega)).mp cq) (by omega)
      · refine v_p hT rfl rfl ?_
        refine v_call hT [.int (nI s), .int (nI p), .int (nI (i + 1))] rfl rfl (by first | rfl | assumption) (by omega) rfl rfl (Nat.le_of_ble_eq_true rfl) (Nat.le_of_ble_eq_true rfl) (m_lengthOf (by omega) (by omega)) ?_
        rw [hlen]
        refine v_p hT rfl rfl ?_
        refine v_getr hT rfl rfl (by omega) rfl ?_
        refine v_p hT rfl rfl ?_
        rw [nI_add, nI_add, nI_add]
        refine v_ald hT rfl (by first | assumption | rfl) (by omega) (by decide) (by omega) ?_
        rw [show f 100 (0 + s) = nI w by rw [Nat.zero_add]; exact hw]
        refine g_cmp hT rfl (fun cq2 => ?_) (fun cq2 => ?_)
        · have cq2 := (cj_gt (by omega) (by omega)).mp cq2
          have hst : lineF w ln (i + 1) = ((lineF w ln i).1 + 1, ln (i + 1)) := by
            show (if (lineF w ln i).2 + 1 + ln (i + 1) ≤ w then _ else _) = _
            rw [if_neg (by omega)]
          rw [hst] at ih'
          refine v_p hT rfl rfl ?_
          refine g_if hT rfl (fun cq3 => ?_) (fun cq3 => ?_)
          · refine v_p hT rfl rfl ?_
            refine g_if hT rfl (fun cq4 => ?_) (fun cq4 => ?_)
            · refine v_p hT rfl rfl ?_
              refine v_call hT [.int (nI s), .int (nI p), .int (nI (i + 1))] rfl rfl (by first | rfl | assumption) (by omega) rfl rfl (Nat.le_of_ble_eq_true rfl) (Nat.le_of_ble_eq_true rfl) (m_lengthOf (by omega) (by omega)) ?_
              rw [hlen]
              refine v_p hT rfl rfl ?_
              refine v_cv ih' ⟨rfl, rfl, rfl, rfl, ?_, rfl, ?_, trivial⟩ ?_ rfl
              · rw [nI_add]
              · rw [nI_add]
              · rw [nI_add]; rfl
            · exact absurd rfl cq4
          · exact absurd rfl cq3
        · have cq2 := (not_congr (cj_gt (by omega) (by omega))).mp cq2
          have hst : lineF w ln (i + 1) = ((lineF w ln i).1, (lineF w ln i).2 + 1 + ln (i + 1)) := by
            show (if (lineF w ln i).2 + 1 + ln (i + 1) ≤ w then _ else _) = _
            rw [if_pos (by omega)]
          rw [hst] at ih'
          refine v_p hT rfl rfl ?_
          refine g_if hT rfl (fun cq3 => ?_) (fun cq3 => ?_)
          · exact absurd cq3 (show ¬ nI 1 = 0 by decide)
          · refine v_p hT rfl rfl ?_
            refine g_if hT rfl (fun cq4 => ?_) (fun cq4 => ?_)
            · exact absurd cq4 (show ¬ nI 1 = 0 by decide)
            · refine v_p hT rfl rfl ?_
              refine v_cv ih' ⟨rfl, rfl, rfl, rfl, ?_, rfl, ?_, trivial⟩ ?_ rfl
              · rw [nI_add]; rfl
              · rw [nI_add]
              · rw [nI_add]
  have h0 := hln 0 (by omega)
  refine v_p hT rfl rfl ?_
  refine v_call hT [.int (nI s), .int (nI p), .int (nI 0)] rfl rfl (by first | rfl | assumption) (by omega) rfl rfl (Nat.le_of_ble_eq_true rfl) (Nat.le_of_ble_eq_true rfl) (m_lengthOf (by omega) (by omega)) ?_
  rw [h0]
  refine v_p hT rfl rfl ?_
  exact loop k 0 (by omega)
theorem m_linesOf {n s p : Nat} {kf : Nat → Nat} {f : Nat → Nat → Int32} {B : BK} (hR : nowR (f 100) B) (hV : VB0 B) (hs : s < 2) (hp : p < bNp B s) :
    Run n_X7_linesOf 110 0 (ini n_X7_linesOf [.ref 98, .int (nI s), .int (nI p)]) [] (HH n kf f) (Ret (some (.int (nI (linF B s p)))) (HH n kf f)) := by
  have hT : mT n_X7_linesOf = tb_X7_linesOf := rfl
  have hn := hV.1 s hs
  obtain ⟨w1, w2, w3⟩ := hV.2.1 s p hs hp
  have hwd := hV.2.2.1 s hs
  obtain ⟨b1, b2⟩ := hR.2.2.2.2.1 s p hs hp
  have hl := lineF_le (bWd B s) (bLn B s p) (bNw B s p - 1)
  refine v_p hT rfl rfl ?_
  refine v_call hT [.int (nI s), .int (nI p)] rfl rfl (by first | rfl | assumption) (by omega) rfl rfl (Nat.le_of_ble_eq_true rfl) (Nat.le_of_ble_eq_true rfl) (m_wordsOf (by omega)) ?_
  rw [b1]
  refine v_p hT rfl rfl ?_
  rw [pk_sub (by omega)]
  refine v_call hT [.int (nI s), .int (nI p), .int (nI (bNw B s p - 1))] rfl rfl (by first | rfl | assumption) (by omega) rfl rfl (Nat.le_of_ble_eq_true rfl) (Nat.le_of_ble_eq_true rfl) (m_lineOf (w := bWd B s) (ln := bLn B s p) hs (by omega) (by omega) (hR.1 s hs) (by omega) (fun i hi => b2 i (by omega)) (fun i hi => by have := (w3 i (by omega)).2; omega)) ?_
  refine v_p hT rfl rfl ?_
  rw [nI_add]
  refine v_ret hT rfl (fun z => by cases z) rfl ⟨rfl, rfl⟩
theorem m_firstOf {n s p : Nat} {kf : Nat → Nat} {f : Nat → Nat → Int32} {B : BK} (hR : nowR (f 100) B) (hV : VB0 B) (hs : s < 2) (hp : p ≤ bNp B s) :
    Run n_X7_firstOf 110 0 (ini n_X7_firstOf [.ref 98, .int (nI s), .int (nI p)]) [] (HH n kf f) (Ret (some (.int (nI (fstF B s p)))) (HH n kf f)) := by
  have hT : mT n_X7_firstOf = tb_X7_firstOf := rfl
  have hn := hV.1 s hs
  have loop : ∀ d k, k + d = p → Run n_X7_firstOf 110 8 [some (.ref 98), some (.int (nI s)), some (.int (nI p)), some (.int (nI (fstF B s k))), some (.int (nI k))] [.int (nI p), .int (nI k)] (HH n kf f) (Ret (some (.int (nI (fstF B s p)))) (HH n kf f)) := by
    intro d
    induction d with
    | zero =>
      intro k hk
      have e : k = p := by omega
      subst e
      refine g_cmp hT rfl (fun cq => ?_) (fun cq => ?_)
      · refine v_p hT rfl rfl ?_
        refine v_ret hT rfl (fun z => by cases z) rfl ⟨rfl, rfl⟩
      · exact absurd ((cj_ge (by omega) (by omega)).mpr (by omega)) cq
    | succ d ih =>
      intro k hk
      refine g_cmp hT rfl (fun cq => ?_) (fun cq => ?_)
      · exact absurd ((cj_ge (by omega) (by omega)).mp cq) (by omega)
      · refine v_p hT rfl rfl ?_
        refine v_call hT [.int (nI s), .int (nI k)] rfl rfl (by first | rfl | assumption) (by omega) rfl rfl (Nat.le_of_ble_eq_true rfl) (Nat.le_of_ble_eq_true rfl) (m_linesOf hR hV hs (by omega)) ?_
        refine v_p hT rfl rfl ?_
        refine v_cv (ih (k + 1) (by omega)) ⟨rfl, rfl, rfl, ?_, ?_, trivial⟩ ?_ rfl
        · rw [nI_add]; rfl
        · rw [nI_add]
        · rw [nI_add]
  refine v_p hT rfl rfl ?_
  exact loop p 0 (by omega)
theorem m_linesOfAll {n s : Nat} {kf : Nat → Nat} {f : Nat → Nat → Int32} {B : BK} (hR : nowR (f 100) B) (hV : VB0 B) (hs : s < 2) :
    Run n_X7_linesOfAll 110 0 (ini n_X7_linesOfAll [.ref 98, .int (nI s)]) [] (HH n kf f) (Ret (some (.int (nI (totF B s)))) (HH n kf f)) := by
  have hT : mT n_X7_linesOfAll = tb_X7_linesOfAll := rfl
  refine v_p hT rfl rfl ?_
  refine v_call hT [.int (nI s)] rfl rfl (by first | rfl | assumption) (by omega) rfl rfl (Nat.le_of_ble_eq_true rfl) (Nat.le_of_ble_eq_true rfl) (m_many hs) ?_
  rw [hR.2.2.1 s hs]
  refine v_call hT [.int (nI s), .int (nI (bNp B s))] rfl rfl (by first | rfl | assumption) (by omega) rfl rfl (Nat.le_of_ble_eq_true rfl) (Nat.le_of_ble_eq_true rfl) (m_firstOf hR hV hs (Nat.le_refl _)) ?_
  refine v_ret hT rfl (fun z => by cases z) rfl ⟨rfl, rfl⟩
theorem m_isTooLong {n : Nat} {kf : Nat → Nat} {f : Nat → Nat → Int32} {B : BK} (hR : nowR (f 100) B) (hV : VB0 B) :
    Run n_X7_isTooLong 110 0 (ini n_X7_isTooLong [.ref 98]) [] (HH n kf f) (Ret (some (.int (bI (decide (60 < totF B 0 ∨ 60 < totF B 1))))) (HH n kf f)) := by
  have hT : mT n_X7_isTooLong = tb_X7_isTooLong := rfl
  have t0 := totF_le hV (s := 0) (by omega)
  have t1 := totF_le hV (s := 1) (by omega)
  refine v_p hT rfl rfl ?_
  refine v_call hT [.int (nI 0)] rfl rfl (by first | rfl | assumption) (by omega) rfl rfl (Nat.le_of_ble_eq_true rfl) (Nat.le_of_ble_eq_true rfl) (m_linesOfAll hR hV (by omega)) ?_
  refine v_p hT rfl rfl ?_
  refine g_cmp hT rfl (fun cq => ?_) (fun cq => ?_)
  · have cq := (cj_gt (by omega) (by omega)).mp cq
    rw [decide_eq_true (Or.inl cq)]
    refine v_p hT rfl rfl ?_
    refine v_ret hT rfl (fun _ => Or.inr rfl) rfl ⟨rfl, rfl⟩
  · have cq := (not_congr (cj_gt (by omega) (by omega))).mp cq
    refine v_p hT rfl rfl ?_
    refine v_call hT [.int (nI 1)] rfl rfl (by first | rfl | assumption) (by omega) rfl rfl (Nat.le_of_ble_eq_true rfl) (Nat.le_of_ble_eq_true rfl) (m_linesOfAll hR hV (by omega)) ?_
    refine v_p hT rfl rfl ?_
    refine g_cmp hT rfl (fun cq2 => ?_) (fun cq2 => ?_)
    · have cq2 := (cj_le (by omega) (by omega)).mp cq2
      rw [decide_eq_false (by omega)]
      refine v_p hT rfl rfl ?_
      refine v_ret hT rfl (fun _ => Or.inl rfl) rfl ⟨rfl, rfl⟩
    · have cq2 := (not_congr (cj_le (by omega) (by omega))).mp cq2
      rw [decide_eq_true (by omega)]
      refine v_p hT rfl rfl ?_
      refine v_ret hT rfl (fun _ => Or.inr rfl) rfl ⟨rfl, rfl⟩
theorem m_isPara {n : Nat} {kf : Nat → Nat} {f : Nat → Nat → Int32} {B : BK} (hR : nowR (f 100) B) (hV : VB0 B) (s p : Int32) :
    Run n_X7_isPara 110 0 (ini n_X7_isPara [.ref 98, .int s, .int p]) [] (HH n kf f) (Ret (some (.int (bI (isPa B s p)))) (HH n kf f)) := by
  have hT : mT n_X7_isPara = tb_X7_isPara := rfl
  have hno : isPa B s p = false → Run n_X7_isPara 110 28 [some (.ref 98), some (.int s), some (.int p)] [] (HH n kf f) (Ret (some (.int (bI (isPa B s p)))) (HH n kf f)) := by
    intro e
    rw [e]
    refine v_p hT rfl rfl ?_
    refine v_ret hT rfl (fun _ => Or.inl rfl) rfl ⟨rfl, rfl⟩
  refine v_p hT rfl rfl ?_
  refine v_scall hT [.int s, .int (nI 0), .int (nI 1)] rfl rfl rfl rfl (Nat.le_of_ble_eq_true rfl) (Nat.le_of_ble_eq_true rfl) (m_in s (nI 0) (nI 1)) ?_
  by_cases c1 : nI 0 ≤ s ∧ s ≤ nI 1
  · rw [decide_eq_true c1]
    obtain ⟨Z, z0, z2⟩ := int_04 (by omega) c1
    subst z2
    have z1 : Z < 2 := by omega
    have hn := hV.1 Z z1
    refine g_if hT rfl (fun cq => ?_) (fun cq => ?_)
    · cases bf_of cq
    · refine v_p hT rfl rfl ?_
      refine v_call hT [.int (nI Z)] rfl rfl (by first | rfl | assumption) (by omega) rfl rfl (Nat.le_of_ble_eq_true rfl) (Nat.le_of_ble_eq_true rfl) (m_many z1) ?_
      rw [hR.2.2.1 Z z1]
      refine v_p hT rfl rfl ?_
      refine v_scall hT [.int p, .int (nI 0), .int (nI (bNp B Z) - nI 1)] rfl rfl rfl rfl (Nat.le_of_ble_eq_true rfl) (Nat.le_of_ble_eq_true rfl) (m_in p (nI 0) (nI (bNp B Z) - nI 1)) ?_
      by_cases c2 : ∃ k, k < bNp B Z ∧ p = nI k
      · obtain ⟨k, hk, e⟩ := c2
        subst e
        rw [pk_sub (by omega), decide_eq_true (show nI 0 ≤ nI k ∧ nI k ≤ nI (bNp B Z - 1) from ⟨(cj_le (a := 0) (b := k) (by omega) (by omega)).mpr (by omega), (cj_le (a := k) (b := bNp B Z - 1) (by omega) (by omega)).mpr (by omega)⟩), isPa_t z1 hk]
        refine g_if hT rfl (fun cq2 => ?_) (fun cq2 => ?_)
        · cases bf_of cq2
        · refine v_p hT rfl rfl ?_
          refine v_ret hT rfl (fun _ => Or.inr rfl) rfl ⟨rfl, rfl⟩
      · have hf : decide (nI 0 ≤ p ∧ p ≤ nI (bNp B Z) - nI 1) = false := by
          refine decide_eq_false (fun ⟨h1, h2⟩ => c2 ?_)
          by_cases hz : bNp B Z = 0
          · rw [hz] at h2
            exact absurd (Int32.le_trans h1 h2) (by decide)
          · rw [pk_sub (by omega)] at h2
            obtain ⟨k, k1, k2⟩ := int_04 (by omega) ⟨h1, h2⟩
            exact ⟨k, by omega, k2⟩
        rw [hf]
        refine g_if hT rfl (fun cq2 => ?_) (fun cq2 => ?_)
        · refine hno (isPa_n ?_)
          intro ⟨s2, p2, g1, g2, g3, g4⟩
          have e1 := (cj_eq (a := Z) (b := s2) (by omega) (by omega)).mp g3
          subst e1
          exact c2 ⟨p2, g2, g4⟩
        · exact absurd rfl cq2
  · rw [decide_eq_false c1]
    refine g_if hT rfl (fun cq => ?_) (fun cq => ?_)
    · refine hno (isPa_n ?_)
      intro ⟨s2, p2, g1, g2, g3, g4⟩
      rw [g3] at c1
      exact c1 ⟨(cj_le (a := 0) (b := s2) (by omega) (by omega)).mpr (by omega), (cj_le (a := s2) (b := 1) (by omega) (by omega)).mpr (by omega)⟩
    · exact absurd rfl cq
end
section
/-! THE REFERENCE: its states. -/
theorem m_puts {n pl : Nat} {kf : Nat → Nat} {f : Nat → Nat → Int32} (hpl : pl ≤ 6) :
    ∃ F, Run n_X7_puts 110 0 (ini n_X7_puts [.ref 98, .int (nI pl)]) [] (HH n kf f) (Ret none (HH n kf F)) ∧ (∀ c, c < 260 → F 101 (260 * pl + c) = f 100 c) ∧ (∀ x, x < 260 * pl ∨ 260 * pl + 260 ≤ x → F 101 x = f 101 x) ∧ ∀ c, c ≠ 101 → F c = f c := by
  have hT : mT n_X7_puts = tb_X7_puts := rfl
  have loop : ∀ d k, k + d = 260 → ∀ F : Nat → Nat → Int32, (∀ c, c < k → F 101 (260 * pl + c) = f 100 c) → (∀ x, x < 260 * pl ∨ 260 * pl + 260 ≤ x → F 101 x = f 101 x) → (∀ c, c ≠ 101 → F c = f c) →
      ∃ F2, Run n_X7_puts 110 6 [some (.ref 98), some (.int (nI pl)), some (.int (nI k))] [.int (nI 260), .int (nI k)] (HH n kf F) (Ret none (HH n kf F2)) ∧ (∀ c, c < 260 → F2 101 (260 * pl + c) = f 100 c) ∧ (∀ x, x < 260 * pl ∨ 260 * pl + 260 ≤ x → F2 101 x = f 101 x) ∧ ∀ c, c ≠ 101 → F2 c = f c := by
    intro d
    induction d with
    | zero =>
      intro k hk F h1 h2 h3
      refine ⟨F, ?_, fun c hc => h1 c (by omega), h2, h3⟩
      refine g_cmp hT rfl (fun cq => ?_) (fun cq => ?_)
      · refine v_vret hT rfl rfl ⟨rfl, rfl⟩
      · exact absurd ((cj_ge (by omega) (by omega)).mpr (by omega)) cq
    | succ d ih =>
      intro k hk F h1 h2 h3
      obtain ⟨F2, g1, g2⟩ := ih (k + 1) (by omega) (hset F 101 (260 * pl + k) (f 100 k)) (fun c hc => by
        rw [hs_s]
        unfold upd
        by_cases e : c = k
        · subst e; rw [if_pos rfl]
        · rw [if_neg (by omega)]; exact h1 c (by omega)) (fun x hx => by
        rw [hs_s]
        unfold upd
        rw [if_neg (by omega)]; exact h2 x hx) (fun c hc => by rw [hset_ne hc]; exact h3 c hc)
      refine ⟨F2, ?_, g2⟩
      refine g_cmp hT rfl (fun cq => ?_) (fun cq => ?_)
      · exact absurd ((cj_ge (by omega) (by omega)).mp cq) (by omega)
      · refine v_p hT rfl rfl ?_
        refine v_getr hT rfl rfl (by omega) rfl ?_
        refine v_p hT rfl rfl ?_
        rw [pk_mul, nI_add]
        refine v_getr hT rfl rfl (by omega) rfl ?_
        refine v_p hT rfl rfl ?_
        refine v_ald hT rfl (by first | assumption | rfl) (by omega) (by decide) (by omega) ?_
        rw [h3 100 (by omega)]
        refine v_ast hT rfl rfl (by omega) (by decide) (by omega) ?_
        refine v_p hT rfl rfl ?_
        refine v_cv g1 ⟨rfl, rfl, ?_, trivial⟩ ?_ rfl
        · rw [nI_add]
        · rw [nI_add]
  obtain ⟨F2, g1, g2⟩ := loop 260 0 (by omega) f (fun c hc => absurd hc (Nat.not_lt_zero _)) (fun _ _ => rfl) (fun _ _ => rfl)
  refine ⟨F2, ?_, g2⟩
  refine v_p hT rfl rfl ?_
  exact g1
theorem m_takes {n pl : Nat} {kf : Nat → Nat} {f : Nat → Nat → Int32} (hpl : pl ≤ 6) :
    ∃ F, Run n_X7_takes 110 0 (ini n_X7_takes [.ref 98, .int (nI pl)]) [] (HH n kf f) (Ret none (HH n kf F)) ∧ (∀ c, c < 260 → F 100 c = f 101 (260 * pl + c)) ∧ F 98 = upd (f 98) 4 (nI 0) ∧ ∀ c, c ≠ 100 → c ≠ 98 → F c = f c := by
  have hT : mT n_X7_takes = tb_X7_takes := rfl
  have loop : ∀ d k, k + d = 260 → ∀ F : Nat → Nat → Int32, (∀ c, c < k → F 100 c = f 101 (260 * pl + c)) → (∀ c, c ≠ 100 → F c = f c) →
      ∃ F2, Run n_X7_takes 110 6 [some (.ref 98), some (.int (nI pl)), some (.int (nI k))] [.int (nI 260), .int (nI k)] (HH n kf F) (Ret none (HH n kf F2)) ∧ (∀ c, c < 260 → F2 100 c = f 101 (260 * pl + c)) ∧ F2 98 = upd (f 98) 4 (nI 0) ∧ ∀ c, c ≠ 100 → c ≠ 98 → F2 c = f c := by
    intro d
    induction d with
    | zero =>
      intro k hk F h1 h3
      refine ⟨hset F 98 4 (nI 0), ?_, fun c hc => by rw [hset_ne (by omega)]; exact h1 c (by omega), by rw [hs_s, h3 98 (by omega)], fun c x1 x2 => by rw [hset_ne x2]; exact h3 c x1⟩
      refine g_cmp hT rfl (fun cq => ?_) (fun cq => ?_)
      · refine v_p hT rfl rfl ?_
        refine v_puti hT rfl rfl (by omega) (fun _ => Or.inl rfl) ?_
        refine v_vret hT rfl rfl ⟨rfl, rfl⟩
      · exact absurd ((cj_ge (by omega) (by omega)).mpr (by omega)) cq
    | succ d ih =>
      intro k hk F h1 h3
      obtain ⟨F2, g1, g2⟩ := ih (k + 1) (by omega) (hset F 100 k (f 101 (260 * pl + k))) (fun c hc => by
        rw [hs_s]
        unfold upd
        by_cases e : c = k
        · subst e; rw [if_pos rfl]
        · rw [if_neg (by omega)]; exact h1 c (by omega)) (fun c hc => by rw [hset_ne hc]; exact h3 c hc)
      refine ⟨F2, ?_, g2⟩
      refine g_cmp hT rfl (fun cq => ?_) (fun cq => ?_)
      · exact absurd ((cj_ge (by omega) (by omega)).mp cq) (by omega)
      · refine v_p hT rfl rfl ?_
        refine v_getr hT rfl rfl (by omega) rfl ?_
        refine v_p hT rfl rfl ?_
        refine v_getr hT rfl rfl (by omega) rfl ?_
        refine v_p hT rfl rfl ?_
        rw [pk_mul, nI_add]
        refine v_ald hT rfl (by first | assumption | rfl) (by omega) (by decide) (by omega) ?_
        rw [h3 101 (by omega)]
        refine v_ast hT rfl rfl (by omega) (by decide) (by omega) ?_
        refine v_p hT rfl rfl ?_
        refine v_cv g1 ⟨rfl, rfl, ?_, trivial⟩ ?_ rfl
        · rw [nI_add]
        · rw [nI_add]
  obtain ⟨F2, g1, g2⟩ := loop 260 0 (by omega) f (fun c hc => absurd hc (Nat.not_lt_zero _)) (fun _ _ => rfl)
  refine ⟨F2, ?_, g2⟩
  refine v_p hT rfl rfl ?_
  exact g1
def stM (f : Nat → Nat → Int32) (H : HS) : Prop := f 98 3 = nI H.1 ∧ ∀ i, i < H.1 → nowR (fun c => f 101 (260 * i + c)) (H.2 i)
theorem m_leaves2 {n m : Nat} {kf : Nat → Nat} {f : Nat → Nat → Int32} {h' : Nat → BK} {B : BK} (hm : m < 6) (h3 : f 98 3 = nI m) (hb : ∀ i, i < m → nowR (fun c => f 101 (260 * i + c)) (h' i)) (hv : ∀ i, i < m → VB (h' i)) (h6 : nowR (fun c => f 101 (260 * 6 + c)) B) (hB : VB B) :
    ∃ F, Run n_X7_leavesState 110 50 [some (.ref 98), none] [] (HH n kf f) (Ret none (HH n kf F)) ∧ stM F (m + 1, fun i => if i = m then B else h' i) ∧ (∀ i, i ≠ 3 → F 98 i = f 98 i) ∧ ∀ c, c ≠ 98 → c ≠ 101 → F c = f c := by
  have hT : mT n_X7_leavesState = tb_X7_leavesState := rfl
  have loop : ∀ d k, k + d = 260 → ∀ F : Nat → Nat → Int32, (∀ c, c < k → F 101 (260 * m + c) = f 101 (1560 + c)) → (∀ x, x < 260 * m ∨ 260 * m + 260 ≤ x → F 101 x = f 101 x) → (∀ c, c ≠ 101 → F c = f c) →
      ∃ F2, Run n_X7_leavesState 110 56 [some (.ref 98), some (.int (nI k))] [.int (nI 260), .int (nI k)] (HH n kf F) (Ret none (HH n kf (hset F2 98 3 (nI (m + 1))))) ∧ (∀ c, c < 260 → F2 101 (260 * m + c) = f 101 (1560 + c)) ∧ (∀ x, x < 260 * m ∨ 260 * m + 260 ≤ x → F2 101 x = f 101 x) ∧ ∀ c, c ≠ 101 → F2 c = f c := by
    intro d
    induction d with
    | zero =>
      intro k hk F h1 h2 h4
      refine ⟨F, ?_, fun c hc => h1 c (by omega), h2, h4⟩
      refine g_cmp hT rfl (fun cq => ?_) (fun cq => ?_)
      · refine v_p hT rfl rfl ?_
        refine v_geti hT rfl (by first | rfl | assumption) (by omega) ?_
        rw [h4 98 (by omega), h3]
        refine v_p hT rfl rfl ?_
        rw [nI_add]
        refine v_puti hT rfl rfl (by omega) (fun z => by cases z) ?_
        refine v_vret hT rfl rfl ⟨rfl, rfl⟩
      · exact absurd ((cj_ge (by omega) (by omega)).mpr (by omega)) cq
    | succ d ih =>
      intro k hk F h1 h2 h4
      obtain ⟨F2, g1, g2⟩ := ih (k + 1) (by omega) (hset F 101 (260 * m + k) (f 101 (1560 + k))) (fun c hc => by
        rw [hs_s]
        unfold upd
        by_cases e : c = k
        · subst e; rw [if_pos rfl]
        · rw [if_neg (by omega)]; exact h1 c (by omega)) (fun x hx => by
        rw [hs_s]
        unfold upd
        rw [if_neg (by omega)]; exact h2 x hx) (fun c hc => by rw [hset_ne hc]; exact h4 c hc)
      refine ⟨F2, ?_, g2⟩
      refine g_cmp hT rfl (fun cq => ?_) (fun cq => ?_)
      · exact absurd ((cj_ge (by omega) (by omega)).mp cq) (by omega)
      · refine v_p hT rfl rfl ?_
        refine v_getr hT rfl rfl (by omega) rfl ?_
        refine v_p hT rfl rfl ?_
        refine v_geti hT rfl (by first | rfl | assumption) (by omega) ?_
        rw [h4 98 (by omega), h3]
        refine v_p hT rfl rfl ?_
        refine v_getr hT rfl rfl (by omega) rfl ?_
        refine v_p hT rfl rfl ?_
        rw [pk_mul, nI_add, nI_add]
        refine v_ald hT rfl (by first | assumption | rfl) (by omega) (by decide) (by omega) ?_
        rw [h2 _ (by omega)]
        refine v_ast hT rfl rfl (by omega) (by decide) (by omega) ?_
        refine v_p hT rfl rfl ?_
        refine v_cv g1 ⟨rfl, ?_, trivial⟩ ?_ rfl
        · rw [nI_add]
        · rw [nI_add]
  obtain ⟨F2, g1, g2, g3, g4⟩ := loop 260 0 (by omega) f (fun c hc => absurd hc (Nat.not_lt_zero _)) (fun _ _ => rfl) (fun _ _ => rfl)
  refine ⟨hset F2 98 3 (nI (m + 1)), ?_, ⟨by rw [hs_s]; simp [upd], fun i hi => ?_⟩, fun i hi => ?_, fun c x1 x2 => by rw [hset_ne x1]; exact g4 c x2⟩
  · refine v_p hT rfl rfl ?_
    exact g1
  · have hi : i < m + 1 := hi
    show nowR _ (if i = m then B else h' i)
    by_cases e : i = m
    · subst e
      rw [if_pos rfl]
      refine nowR_cg hB.1 h6 (fun c hc => ?_)
      show hset F2 98 3 (nI (i + 1)) 101 (260 * i + c) = f 101 (260 * 6 + c)
      rw [hset_ne (by omega)]
      exact g2 c hc
    · rw [if_neg e]
      refine nowR_cg (hv i (by omega)).1 (hb i (by omega)) (fun c hc => ?_)
      show hset F2 98 3 (nI (m + 1)) 101 (260 * i + c) = f 101 (260 * i + c)
      rw [hset_ne (by omega)]
      exact g3 _ (by omega)
  · rw [hs_s]
    unfold upd
    rw [if_neg hi, g4 98 (by omega)]
theorem m_leaves1 {n : Nat} {kf : Nat → Nat} {f : Nat → Nat → Int32} :
    ∃ F2, (∀ Φ, Run n_X7_leavesState 110 40 [some (.ref 98), none] [] (HH n kf F2) Φ → Run n_X7_leavesState 110 15 [some (.ref 98), some (.int (nI 0))] [.int (nI 1300), .int (nI 0)] (HH n kf f) Φ) ∧ (∀ c, c < 1300 → F2 101 c = f 101 (c + 260)) ∧ (∀ x, 1300 ≤ x → F2 101 x = f 101 x) ∧ ∀ c, c ≠ 101 → F2 c = f c := by
  have hT : mT n_X7_leavesState = tb_X7_leavesState := rfl
  have loop : ∀ d k, k + d = 1300 → ∀ F : Nat → Nat → Int32, (∀ c, c < k → F 101 c = f 101 (c + 260)) → (∀ x, k ≤ x → F 101 x = f 101 x) → (∀ c, c ≠ 101 → F c = f c) →
      ∃ F2, (∀ Φ, Run n_X7_leavesState 110 40 [some (.ref 98), none] [] (HH n kf F2) Φ → Run n_X7_leavesState 110 15 [some (.ref 98), some (.int (nI k))] [.int (nI 1300), .int (nI k)] (HH n kf F) Φ) ∧ (∀ c, c < 1300 → F2 101 c = f 101 (c + 260)) ∧ (∀ x, 1300 ≤ x → F2 101 x = f 101 x) ∧ ∀ c, c ≠ 101 → F2 c = f c := by
    intro d
    induction d with
    | zero =>
      intro k hk F h1 h2 h4
      refine ⟨F, fun Φ hΦ => ?_, fun c hc => h1 c (by omega), fun x hx => h2 x (by omega), h4⟩
      refine g_cmp hT rfl (fun cq => ?_) (fun cq => ?_)
      · exact v_cv hΦ ⟨rfl, trivial⟩ rfl rfl
      · exact absurd ((cj_ge (by omega) (by omega)).mpr (by omega)) cq
    | succ d ih =>
      intro k hk F h1 h2 h4
      obtain ⟨F2, g1, g2⟩ := ih (k + 1) (by omega) (hset F 101 k (f 101 (k + 260))) (fun c hc => by
        rw [hs_s]
        unfold upd
        by_cases e : c = k
        · subst e; rw [if_pos rfl]
        · rw [if_neg (by omega)]; exact h1 c (by omega)) (fun x hx => by
        rw [hs_s]
        unfold upd
        rw [if_neg (by omega)]; exact h2 x (by omega)) (fun c hc => by rw [hset_ne hc]; exact h4 c hc)
      refine ⟨F2, fun Φ hΦ => ?_, g2⟩
      refine g_cmp hT rfl (fun cq => ?_) (fun cq => ?_)
      · exact absurd ((cj_ge (by omega) (by omega)).mp cq) (by omega)
      · refine v_p hT rfl rfl ?_
        refine v_getr hT rfl rfl (by omega) rfl ?_
        refine v_p hT rfl rfl ?_
        refine v_getr hT rfl rfl (by omega) rfl ?_
        refine v_p hT rfl rfl ?_
        rw [nI_add]
        refine v_ald hT rfl (by first | assumption | rfl) (by omega) (by decide) (by omega) ?_
        rw [h2 _ (by omega)]
        refine v_ast hT rfl rfl (by omega) (by decide) (by omega) ?_
        refine v_p hT rfl rfl ?_
        refine v_cv (g1 Φ hΦ) ⟨rfl, ?_, trivial⟩ ?_ rfl
        · rw [nI_add]
        · rw [nI_add]
  exact loop 1300 0 (by omega) f (fun c hc => absurd hc (Nat.not_lt_zero _)) (fun _ _ => rfl) (fun _ _ => rfl)
theorem m_leavesState {n : Nat} {kf : Nat → Nat} {f : Nat → Nat → Int32} {H : HS} {B : BK} (hS : stM f H) (hH : VH H) (h6 : nowR (fun c => f 101 (260 * 6 + c)) B) (hB : VB B) :
    ∃ F, Run n_X7_leavesState 110 0 (ini n_X7_leavesState [.ref 98]) [] (HH n kf f) (Ret none (HH n kf F)) ∧ stM F (hPush H B) ∧ (∀ i, i ≠ 3 → F 98 i = f 98 i) ∧ ∀ c, c ≠ 98 → c ≠ 101 → F c = f c := by
  have hT : mT n_X7_leavesState = tb_X7_leavesState := rfl
  obtain ⟨s1, s2⟩ := hS
  obtain ⟨v1, v2⟩ := hH
  unfold hPush
  by_cases e6 : H.1 = 6
  · rw [if_pos e6]
    obtain ⟨F2, g1, g2, g3, g4⟩ := m_leaves1 (n := n) (kf := kf) (f := f)
    obtain ⟨F, q1, q2, q3, q4⟩ := m_leaves2 (n := n) (kf := kf) (m := 5) (f := hset F2 98 3 (nI 5)) (h' := fun i => H.2 (i + 1)) (B := B) (by omega) (by rw [hs_s]; simp [upd]) (fun i hi => by
      refine nowR_cg (v2 (i + 1) (by omega)).1 (s2 (i + 1) (by omega)) (fun c hc => ?_)
      show hset F2 98 3 (nI 5) 101 (260 * i + c) = f 101 (260 * (i + 1) + c)
      rw [hset_ne (by omega), g2 _ (by omega)]
      congr 1
      omega) (fun i hi => v2 _ (by omega)) (by
      refine nowR_cg hB.1 h6 (fun c hc => ?_)
      show hset F2 98 3 (nI 5) 101 (260 * 6 + c) = f 101 (260 * 6 + c)
      rw [hset_ne (by omega), g3 _ (by omega)]) hB
    refine ⟨F, ?_, q2, fun i hi => ?_, fun c x1 x2 => by rw [q4 c x1 x2, hset_ne x1, g4 c x2]⟩
    · refine v_p hT rfl rfl ?_
      refine v_geti hT rfl (by first | rfl | assumption) (by omega) ?_
      rw [s1, e6]
      refine v_p hT rfl rfl ?_
      refine g_cmp hT rfl (fun cq => ?_) (fun cq => ?_)
      · exact absurd rfl cq
      · refine v_p hT rfl rfl ?_
        refine g1 _ ?_
        refine v_p hT rfl rfl ?_
        refine v_geti hT rfl (by first | rfl | assumption) (by omega) ?_
        rw [g4 98 (by omega), s1, e6]
        refine v_p hT rfl rfl ?_
        rw [pk_sub (by omega)]
        refine v_puti hT rfl rfl (by omega) (fun z => by cases z) ?_
        exact q1
    · rw [q3 i hi, hs_s]
      unfold upd
      rw [if_neg hi, g4 98 (by omega)]
  · rw [if_neg e6]
    obtain ⟨F, q1, q2, q3, q4⟩ := m_leaves2 (n := n) (kf := kf) (m := H.1) (f := f) (h' := H.2) (B := B) (by omega) s1 s2 v2 h6 hB
    refine ⟨F, ?_, q2, q3, q4⟩
    refine v_p hT rfl rfl ?_
    refine v_geti hT rfl (by first | rfl | assumption) (by omega) ?_
    rw [s1]
    refine v_p hT rfl rfl ?_
    refine g_cmp hT rfl (fun cq => ?_) (fun cq => ?_)
    · exact q1
    · have cq := Classical.not_not.mp ((not_congr (cj_ne (by omega) (by omega))).mp cq)
      exact absurd cq e6
end
section
/-! THE REFERENCE: its changes. -/
theorem upd_ne {g : Nat → Int32} {k j : Nat} {v : Int32} (h : j ≠ k) : upd g k v j = g j := by unfold upd; rw [if_neg h]
theorem upd_eq {g : Nat → Int32} {k : Nat} {v : Int32} : upd g k v k = v := by unfold upd; rw [if_pos rfl]
theorem m_canWidth (s v : Int32) {n : Nat} {kf : Nat → Nat} {f : Nat → Nat → Int32} : Run n_X7_canWidth 110 0 (ini n_X7_canWidth [.ref 98, .int s, .int v]) [] (HH n kf f) (Ret (some (.int (bif decide (0 ≤ s ∧ s ≤ 1) && decide (nI 9 ≤ v ∧ v ≤ nI 40) then nI 0 else mI 2))) (HH n kf f)) := by
  have hT : mT n_X7_canWidth = tb_X7_canWidth := rfl
  refine v_p hT rfl rfl ?_
  refine v_scall hT [.int s, .int (nI 0), .int (nI 1)] rfl rfl rfl rfl (Nat.le_of_ble_eq_true rfl) (Nat.le_of_ble_eq_true rfl) (m_in s (nI 0) (nI 1)) ?_
  by_cases c1 : 0 ≤ s ∧ s ≤ 1
  · rw [decide_eq_true c1, show decide (nI 0 ≤ s ∧ s ≤ nI 1) = true from decide_eq_true c1]
    refine g_if hT rfl (fun cq => ?_) (fun cq => ?_)
    · cases bf_of cq
    · refine v_p hT rfl rfl ?_
      refine v_scall hT [.int v, .int (nI 9), .int (nI 40)] rfl rfl rfl rfl (Nat.le_of_ble_eq_true rfl) (Nat.le_of_ble_eq_true rfl) (m_in v (nI 9) (nI 40)) ?_
      refine g_if hT rfl (fun cq2 => ?_) (fun cq2 => ?_)
      · rw [bf_of cq2]
        refine v_p hT rfl rfl ?_
        refine v_ret hT rfl (fun z => by cases z) rfl ⟨rfl, rfl⟩
      · rw [bt_of cq2]
        refine v_p hT rfl rfl ?_
        refine v_ret hT rfl (fun z => by cases z) rfl ⟨rfl, rfl⟩
  · rw [decide_eq_false c1, show decide (nI 0 ≤ s ∧ s ≤ nI 1) = false from decide_eq_false c1]
    refine g_if hT rfl (fun cq => ?_) (fun cq => ?_)
    · refine v_p hT rfl rfl ?_
      refine v_ret hT rfl (fun z => by cases z) rfl ⟨rfl, rfl⟩
    · exact absurd rfl cq
theorem nowR_wid {g : Nat → Int32} {B : BK} {s v : Nat} (hV : VB0 B) (hs : s < 2) (h : nowR g B) : nowR (upd g s (nI v)) (bWidTo B s v) := by
  obtain ⟨a1, a2, a3, a4, a5, a6⟩ := h
  refine ⟨fun z hz => ?_, fun i hi => by rw [upd_ne (by omega)]; exact a2 i hi, fun z hz => by rw [upd_ne (by omega)]; exact a3 z hz, by rw [upd_ne (by omega)]; exact a4, fun z p hz hp => ⟨by rw [upd_ne (by omega)]; exact (a5 z p hz hp).1, fun k hk => by rw [upd_ne (by omega)]; exact (a5 z p hz hp).2 k hk⟩, fun i hi z hz => by rw [upd_ne (by omega)]; exact a6 i hi z hz⟩
  show (if z = s then nI v else g z) = nI (if z = s then v else bWd B z)
  by_cases e : z = s
  · rw [if_pos e, if_pos e]
  · rw [if_neg e, if_neg e]; exact a1 z hz
theorem nowR_set {g : Nat → Int32} {B : BK} {i v : Nat} (hi : i < 3) (h : nowR g B) : nowR (upd g (2 + i) (nI v)) (bSetTo B i v) := by
  obtain ⟨a1, a2, a3, a4, a5, a6⟩ := h
  refine ⟨fun z hz => by rw [upd_ne (by omega)]; exact a1 z hz, fun j hj => ?_, fun z hz => by rw [upd_ne (by omega)]; exact a3 z hz, by rw [upd_ne (by omega)]; exact a4, fun z p hz hp => ⟨by rw [upd_ne (by omega)]; exact (a5 z p hz hp).1, fun k hk => by rw [upd_ne (by omega)]; exact (a5 z p hz hp).2 k hk⟩, fun i hi z hz => by rw [upd_ne (by omega)]; exact a6 i hi z hz⟩
  show (if 2 + j = 2 + i then nI v else g (2 + j)) = nI (if j = i then v else bSe B j)
  by_cases e : j = i
  · rw [if_pos e, if_pos (by omega)]
  · rw [if_neg e, if_neg (by omega)]; exact a2 j hj
theorem m_widthBecomes {n s v : Nat} {kf : Nat → Nat} {f : Nat → Nat → Int32} {B : BK} (hR : nowR (f 100) B) (hV : VB0 B) (hs : s < 2) (h9 : 9 ≤ v) (h40 : v ≤ 40) :
    Run n_X7_widthBecomes 110 0 (ini n_X7_widthBecomes [.ref 98, .int (nI s), .int (nI v)]) [] (HH n kf f) (Ret (some (.int (bif decide (60 < totF (bWidTo B s v) 0 ∨ 60 < totF (bWidTo B s v) 1) then mI 4 else nI (bWd B s)))) (HH n kf (hset (hset f 100 s (nI v)) 98 4 (nI 0)))) := by
  have hT : mT n_X7_widthBecomes = tb_X7_widthBecomes := rfl
  have hR2 : nowR (hset (hset f 100 s (nI v)) 98 4 (nI 0) 100) (bWidTo B s v) := by
    rw [hset_ne (by omega), hs_s]
    exact nowR_wid hV hs hR
  have e0 : nI 0 + nI s = nI s := by rw [nI_add, Nat.zero_add]
  refine v_p hT rfl rfl ?_
  refine v_getr hT rfl rfl (by omega) rfl ?_
  refine v_p hT rfl rfl ?_
  rw [e0]
  refine v_ald hT rfl (by first | assumption | rfl) (by omega) (by decide) (by omega) ?_
  rw [hR.1 s hs]
  refine v_p hT rfl rfl ?_
  refine v_getr hT rfl rfl (by omega) rfl ?_
  refine v_p hT rfl rfl ?_
  rw [e0]
  refine v_ast hT rfl rfl (by omega) (by decide) (by omega) ?_
  refine v_p hT rfl rfl ?_
  refine v_puti hT rfl rfl (by omega) (fun _ => Or.inl rfl) ?_
  refine v_p hT rfl rfl ?_
  refine v_call hT [] rfl rfl (by first | rfl | assumption) (by omega) rfl rfl (Nat.le_of_ble_eq_true rfl) (Nat.le_of_ble_eq_true rfl) (m_isTooLong hR2 (VB0_wid hV h9 h40)) ?_
  refine g_if hT rfl (fun cq => ?_) (fun cq => ?_)
  · rw [bf_of cq]
    refine v_p hT rfl rfl ?_
    refine v_ret hT rfl (fun z => by cases z) rfl ⟨rfl, rfl⟩
  · rw [bt_of cq]
    refine v_p hT rfl rfl ?_
    refine v_ret hT rfl (fun z => by cases z) rfl ⟨rfl, rfl⟩
theorem m_canSet (w v : Int32) {n : Nat} {kf : Nat → Nat} {f : Nat → Nat → Int32} : Run n_X7_canSet 110 0 (ini n_X7_canSet [.int w, .int v]) [] (HH n kf f) (Ret (some (.int (bif decide (nI 0 ≤ w ∧ w ≤ nI 2) && decide (nI (seLo w.toNatClampNeg) ≤ v ∧ v ≤ nI (seHi w.toNatClampNeg)) then nI 0 else mI 2))) (HH n kf f)) := by
  have hT : mT n_X7_canSet = tb_X7_canSet := rfl
  have low : ∀ lo hi : Nat, (nI 0 ≤ w ∧ w ≤ nI 2 → lo = seLo w.toNatClampNeg ∧ hi = seHi w.toNatClampNeg) → Run n_X7_canSet 110 43 [some (.int w), some (.int v), some (.int (nI lo)), some (.int (nI hi))] [.int (nI 2), .int (nI 0), .int w] (HH n kf f) (Ret (some (.int (bif decide (nI 0 ≤ w ∧ w ≤ nI 2) && decide (nI (seLo w.toNatClampNeg) ≤ v ∧ v ≤ nI (seHi w.toNatClampNeg)) then nI 0 else mI 2))) (HH n kf f)) := by
    intro lo hi hlh
    refine v_scall hT [.int w, .int (nI 0), .int (nI 2)] rfl rfl rfl rfl (Nat.le_of_ble_eq_true rfl) (Nat.le_of_ble_eq_true rfl) (m_in w (nI 0) (nI 2)) ?_
    by_cases c1 : nI 0 ≤ w ∧ w ≤ nI 2
    · obtain ⟨e1, e2⟩ := hlh c1
      subst e1; subst e2
      rw [decide_eq_true c1]
      refine g_if hT rfl (fun cq => ?_) (fun cq => ?_)
      · cases bf_of cq
      · refine v_p hT rfl rfl ?_
        refine v_scall hT [.int v, .int (nI (seLo w.toNatClampNeg)), .int (nI (seHi w.toNatClampNeg))] rfl rfl rfl rfl (Nat.le_of_ble_eq_true rfl) (Nat.le_of_ble_eq_true rfl) (m_in v (nI (seLo w.toNatClampNeg)) (nI (seHi w.toNatClampNeg))) ?_
        refine g_if hT rfl (fun cq2 => ?_) (fun cq2 => ?_)
        · rw [bf_of cq2]
          refine v_p hT rfl rfl ?_
          refine v_ret hT rfl (fun z => by cases z) rfl ⟨rfl, rfl⟩
        · rw [bt_of cq2]
          refine v_p hT rfl rfl ?_
          refine v_ret hT rfl (fun z => by cases z) rfl ⟨rfl, rfl⟩
    · rw [decide_eq_false c1]
      refine g_if hT rfl (fun cq => ?_) (fun cq => ?_)
      · refine v_p hT rfl rfl ?_
        refine v_ret hT rfl (fun z => by cases z) rfl ⟨rfl, rfl⟩
      · exact absurd rfl cq
  refine v_p hT rfl rfl ?_
  refine g_if hT rfl (fun cq => ?_) (fun cq => ?_)
  · have cq : ¬ w = 0 := cq
    refine v_p hT rfl rfl ?_
    refine g_cmp hT rfl (fun cq2 => ?_) (fun cq2 => ?_)
    · have cq2 : ¬ w = nI 1 := cq2
      refine v_p hT rfl rfl ?_
      refine g_if hT rfl (fun cq3 => ?_) (fun cq3 => ?_)
      · refine v_p hT rfl rfl ?_
        refine g_cmp hT rfl (fun cq4 => ?_) (fun cq4 => ?_)
        · refine v_p hT rfl rfl ?_
          refine low 0 9 (fun c1 => ?_)
          obtain ⟨k, k1, k2⟩ := int_04 (by omega) c1
          subst k2
          rw [nI_tn (by omega)]
          rcases (show k = 0 ∨ k = 1 ∨ k = 2 by omega) with e | e | e
          · subst e; exact absurd rfl cq
          · subst e; exact absurd rfl cq2
          · subst e; exact ⟨rfl, rfl⟩
        · exact absurd cq2 cq4
      · exact absurd cq cq3
    · have cq2 : w = nI 1 := Classical.not_not.mp cq2
      refine v_p hT rfl rfl ?_
      refine g_if hT rfl (fun cq3 => ?_) (fun cq3 => ?_)
      · refine v_p hT rfl rfl ?_
        refine g_cmp hT rfl (fun cq4 => ?_) (fun cq4 => ?_)
        · exact absurd cq2 cq4
        · refine v_p hT rfl rfl ?_
          refine low 1 3 (fun c1 => ?_)
          rw [cq2, nI_tn (by omega)]
          exact ⟨rfl, rfl⟩
      · exact absurd cq cq3
  · have cq : w = 0 := Classical.not_not.mp cq
    refine v_p hT rfl rfl ?_
    refine g_if hT rfl (fun cq3 => ?_) (fun cq3 => ?_)
    · exact absurd cq cq3
    · refine v_p hT rfl rfl ?_
      refine low 2 12 (fun c1 => ?_)
      rw [show w = nI 0 from cq, nI_tn (by omega)]
      exact ⟨rfl, rfl⟩
theorem m_setBecomes {n i v : Nat} {kf : Nat → Nat} {f : Nat → Nat → Int32} {B : BK} (hR : nowR (f 100) B) (hi : i < 3) :
    Run n_X7_setBecomes 110 0 (ini n_X7_setBecomes [.ref 98, .int (nI i), .int (nI v)]) [] (HH n kf f) (Ret (some (.int (nI (bSe B i)))) (HH n kf (hset (hset f 100 (2 + i) (nI v)) 98 4 (nI 0)))) := by
  have hT : mT n_X7_setBecomes = tb_X7_setBecomes := rfl
  refine v_p hT rfl rfl ?_
  refine v_getr hT rfl rfl (by omega) rfl ?_
  refine v_p hT rfl rfl ?_
  rw [nI_add]
  refine v_ald hT rfl (by first | assumption | rfl) (by omega) (by decide) (by omega) ?_
  rw [hR.2.1 i hi]
  refine v_p hT rfl rfl ?_
  refine v_getr hT rfl rfl (by omega) rfl ?_
  refine v_p hT rfl rfl ?_
  rw [nI_add]
  refine v_ast hT rfl rfl (by omega) (by decide) (by omega) ?_
  refine v_p hT rfl rfl ?_
  refine v_puti hT rfl rfl (by omega) (fun _ => Or.inl rfl) ?_
  refine v_p hT rfl rfl ?_
  refine v_ret hT rfl (fun z => by cases z) rfl ⟨rfl, rfl⟩
theorem m_tieAt (i : Nat) {n : Nat} {kf : Nat → Nat} {f : Nat → Nat → Int32} : Run n_X7_tieAt 110 0 (ini n_X7_tieAt [.int (nI i)]) [] (HH n kf f) (Ret (some (.int (nI (224 + 3 * i)))) (HH n kf f)) := by
  have hT : mT n_X7_tieAt = tb_X7_tieAt := rfl
  refine v_p hT rfl rfl ?_
  rw [pk_mul, nI_add]
  refine v_ret hT rfl (fun z => by cases z) rfl ⟨rfl, rfl⟩
theorem m_ofTie {n i z : Nat} {kf : Nat → Nat} {f : Nat → Nat → Int32} (hi : i < 10) (hz : z < 3) : Run n_X7_ofTie 110 0 (ini n_X7_ofTie [.ref 98, .int (nI i), .int (nI z)]) [] (HH n kf f) (Ret (some (.int (f 100 (224 + 3 * i + z)))) (HH n kf f)) := by
  have hT : mT n_X7_ofTie = tb_X7_ofTie := rfl
  refine v_p hT rfl rfl ?_
  refine v_getr hT rfl rfl (by omega) rfl ?_
  refine v_p hT rfl rfl ?_
  refine v_scall hT [.int (nI i)] rfl rfl rfl rfl (Nat.le_of_ble_eq_true rfl) (Nat.le_of_ble_eq_true rfl) (m_tieAt i) ?_
  refine v_p hT rfl rfl ?_
  rw [nI_add]
  refine v_ald hT rfl (by first | assumption | rfl) (by omega) (by decide) (by omega) ?_
  refine v_ret hT rfl (fun z => by cases z) rfl ⟨rfl, rfl⟩
noncomputable def canT (B : BK) (p q w : Int32) : Int32 := bif isPa B (nI 0) p && isPa B (nI 1) q && decide (nI 1 ≤ w ∧ w ≤ nI 9) then (bif pB (∃ i, i < bNt B ∧ nI (bTi B 0 i) = p ∧ nI (bTi B 1 i) = q) then mI 3 else bif decide (10 ≤ bNt B) then mI 4 else nI 0) else mI 2
theorem m_canTie {n : Nat} {kf : Nat → Nat} {f : Nat → Nat → Int32} {B : BK} (hR : nowR (f 100) B) (hV : VB0 B) (p q w : Int32) :
    Run n_X7_canTie 110 0 (ini n_X7_canTie [.ref 98, .int p, .int q, .int w]) [] (HH n kf f) (Ret (some (.int (canT B p q w))) (HH n kf f)) := by
  have hT : mT n_X7_canTie = tb_X7_canTie := rfl
  have h10 := hV.2.2.2.2.1
  have h7 : f 100 7 = nI (bNt B) := hR.2.2.2.1
  unfold canT
  have hno : Run n_X7_canTie 110 28 [some (.ref 98), some (.int p), some (.int q), some (.int w), none, none] [] (HH n kf f) (Ret (some (.int (mI 2))) (HH n kf f)) := by
    refine v_p hT rfl rfl ?_
    refine v_ret hT rfl (fun z => by cases z) rfl ⟨rfl, rfl⟩
  have loop : ∀ d i, i + d = bNt B → ∀ b : Bool, (b = true ↔ ∃ j, j < i ∧ nI (bTi B 0 j) = p ∧ nI (bTi B 1 j) = q) → Run n_X7_canTie 110 46 [some (.ref 98), some (.int p), some (.int q), some (.int w), some (.int (bI b)), some (.int (nI i))] [.int (nI (bNt B)), .int (nI i)] (HH n kf f) (Ret (some (.int (bif pB (∃ i, i < bNt B ∧ nI (bTi B 0 i) = p ∧ nI (bTi B 1 i) = q) then mI 3 else bif decide (10 ≤ bNt B) then mI 4 else nI 0))) (HH n kf f)) := by
    intro d
    induction d with
    | zero =>
      intro i hi b hb
      have e : i = bNt B := by omega
      subst e
      refine g_cmp hT rfl (fun cq => ?_) (fun cq => ?_)
      · refine v_p hT rfl rfl ?_
        refine g_if hT rfl (fun cq2 => ?_) (fun cq2 => ?_)
        · have hbf := bf_of cq2
          rw [pB_f (fun z => by rw [hb.mpr z] at hbf; cases hbf)]
          refine v_p hT rfl rfl ?_
          refine v_getr hT rfl rfl (by omega) rfl ?_
          refine v_p hT rfl rfl ?_
          refine v_ald hT rfl (by first | assumption | rfl) (by omega) (by decide) (by omega) ?_
          rw [h7]
          refine v_p hT rfl rfl ?_
          refine g_cmp hT rfl (fun cq3 => ?_) (fun cq3 => ?_)
          · have cq3 := (cj_ne (by omega) (by omega)).mp cq3
            rw [decide_eq_false (by omega)]
            refine v_p hT rfl rfl ?_
            refine v_ret hT rfl (fun z => by cases z) rfl ⟨rfl, rfl⟩
          · have cq3 := Classical.not_not.mp ((not_congr (cj_ne (by omega) (by omega))).mp cq3)
            rw [decide_eq_true (by omega)]
            refine v_p hT rfl rfl ?_
            refine v_ret hT rfl (fun z => by cases z) rfl ⟨rfl, rfl⟩
        · rw [pB_t (hb.mp (bt_of cq2))]
          refine v_p hT rfl rfl ?_
          refine v_ret hT rfl (fun z => by cases z) rfl ⟨rfl, rfl⟩
      · exact absurd ((cj_ge (by omega) (by omega)).mpr (by omega)) cq
    | succ d ih =>
      intro i hi b hb
      have ti := hR.2.2.2.2.2 i (by omega)
      have nxt : ∀ b2 : Bool, (b2 = true ↔ ∃ j, j < i + 1 ∧ nI (bTi B 0 j) = p ∧ nI (bTi B 1 j) = q) → Run n_X7_canTie 110 40 [some (.ref 98), some (.int p), some (.int q), some (.int w), some (.int (bI b2)), some (.int (nI i + nI 1))] [.ref 98, .int (nI i + nI 1)] (HH n kf f) (Ret (some (.int (bif pB (∃ i, i < bNt B ∧ nI (bTi B 0 i) = p ∧ nI (bTi B 1 i) = q) then mI 3 else bif decide (10 ≤ bNt B) then mI 4 else nI 0))) (HH n kf f)) := by
        intro b2 hb2
        refine v_getr hT rfl rfl (by omega) rfl ?_
        refine v_p hT rfl rfl ?_
        refine v_ald hT rfl (by first | assumption | rfl) (by omega) (by decide) (by omega) ?_
        rw [h7]
        refine v_cv (ih (i + 1) (by omega) b2 hb2) ⟨rfl, rfl, rfl, rfl, rfl, ?_, trivial⟩ ?_ rfl
        · rw [nI_add]
        · rw [nI_add]
      refine g_cmp hT rfl (fun cq => ?_) (fun cq => ?_)
      · exact absurd ((cj_ge (by omega) (by omega)).mp cq) (by omega)
      · refine v_p hT rfl rfl ?_
        refine g_if hT rfl (fun cq2 => ?_) (fun cq2 => ?_)
        · have hbt : b = true := by
            cases b with
            | true => rfl
            | false => exact absurd rfl cq2
          refine v_p hT rfl rfl ?_
          refine nxt true ⟨fun _ => ?_, fun _ => rfl⟩
          obtain ⟨j, j1, j2⟩ := hb.mp hbt
          exact ⟨j, by omega, j2⟩
        · have hbf : ¬ b = true := by
            intro hbt
            subst hbt
            exact cq2 (show ¬ (1 : Int32) = 0 by decide)
          have hlast : ∀ b2 : Bool, (b2 = true ↔ nI (bTi B 0 i) = p ∧ nI (bTi B 1 i) = q) → (b2 = true ↔ ∃ j, j < i + 1 ∧ nI (bTi B 0 j) = p ∧ nI (bTi B 1 j) = q) := by
            intro b2 h2
            refine ⟨fun z => ⟨i, by omega, h2.mp z⟩, fun ⟨j, j1, j2⟩ => ?_⟩
            by_cases e : j = i
            · subst e; exact h2.mpr j2
            · exact absurd (hb.mpr ⟨j, by omega, j2⟩) hbf
          refine v_p hT rfl rfl ?_
          refine v_call hT [.int (nI i), .int (nI 0)] rfl rfl (by first | rfl | assumption) (by omega) rfl rfl (Nat.le_of_ble_eq_true rfl) (Nat.le_of_ble_eq_true rfl) (m_ofTie (by omega) (by omega)) ?_
          rw [ti 0 (by omega)]
          refine v_p hT rfl rfl ?_
          refine g_cmp hT rfl (fun cq3 => ?_) (fun cq3 => ?_)
          · have cq3 : ¬ nI (bTi B 0 i) = p := cq3
            refine v_p hT rfl rfl ?_
            exact nxt false (hlast false ⟨fun z => (by cases z), fun z => absurd z.1 cq3⟩)
          · have cq3 : nI (bTi B 0 i) = p := Classical.not_not.mp cq3
            refine v_p hT rfl rfl ?_
            refine v_call hT [.int (nI i), .int (nI 1)] rfl rfl (by first | rfl | assumption) (by omega) rfl rfl (Nat.le_of_ble_eq_true rfl) (Nat.le_of_ble_eq_true rfl) (m_ofTie (by omega) (by omega)) ?_
            rw [ti 1 (by omega)]
            refine v_p hT rfl rfl ?_
            refine g_cmp hT rfl (fun cq4 => ?_) (fun cq4 => ?_)
            · have cq4 : ¬ nI (bTi B 1 i) = q := cq4
              refine v_p hT rfl rfl ?_
              exact nxt false (hlast false ⟨fun z => (by cases z), fun z => absurd z.2 cq4⟩)
            · have cq4 : nI (bTi B 1 i) = q := Classical.not_not.mp cq4
              refine v_p hT rfl rfl ?_
              exact nxt true (hlast true ⟨fun _ => ⟨cq3, cq4⟩, fun _ => rfl⟩)
  refine v_p hT rfl rfl ?_
  refine v_call hT [.int (nI 0), .int p] rfl rfl (by first | rfl | assumption) (by omega) rfl rfl (Nat.le_of_ble_eq_true rfl) (Nat.le_of_ble_eq_true rfl) (m_isPara hR hV (nI 0) p) ?_
  refine g_if hT rfl (fun cq => ?_) (fun cq => ?_)
  · rw [bf_of cq]
    exact hno
  · rw [bt_of cq]
    refine v_p hT rfl rfl ?_
    refine v_call hT [.int (nI 1), .int q] rfl rfl (by first | rfl | assumption) (by omega) rfl rfl (Nat.le_of_ble_eq_true rfl) (Nat.le_of_ble_eq_true rfl) (m_isPara hR hV (nI 1) q) ?_
    refine g_if hT rfl (fun cq2 => ?_) (fun cq2 => ?_)
    · rw [bf_of cq2]
      exact hno
    · rw [bt_of cq2]
      refine v_p hT rfl rfl ?_
      refine v_scall hT [.int w, .int (nI 1), .int (nI 9)] rfl rfl rfl rfl (Nat.le_of_ble_eq_true rfl) (Nat.le_of_ble_eq_true rfl) (m_in w (nI 1) (nI 9)) ?_
      refine g_if hT rfl (fun cq3 => ?_) (fun cq3 => ?_)
      · have h3 := bt_of (fun z => cq3 z)
        rw [h3]
        refine v_p hT rfl rfl ?_
        refine v_getr hT rfl rfl (by omega) rfl ?_
        refine v_p hT rfl rfl ?_
        refine v_ald hT rfl (by first | assumption | rfl) (by omega) (by decide) (by omega) ?_
        rw [h7]
        exact loop (bNt B) 0 (by omega) false ⟨fun z => (by cases z), fun ⟨j, j1, _⟩ => absurd j1 (Nat.not_lt_zero _)⟩
      · have h3 : bI (decide (nI 1 ≤ w ∧ w ≤ nI 9)) = 0 := Classical.not_not.mp cq3
        rw [bf_of h3]
        exact hno
theorem nowR_tieAdd {g : Nat → Int32} {B : BK} {p q w : Nat} (hV : VB0 B) (h : nowR g B) : nowR (upd (upd (upd (upd g (224 + 3 * bNt B) (nI p)) (224 + 3 * bNt B + 1) (nI q)) (224 + 3 * bNt B + 2) (nI w)) 7 (nI (bNt B + 1))) (bTieAdd B p q w) := by
  obtain ⟨a1, a2, a3, a4, a5, a6⟩ := h
  have hnp := hV.1
  have hnw := fun s q hs hq => (hV.2.1 s q hs hq).2.1
  refine ⟨fun z hz => ?_, fun i hi => ?_, fun z hz => ?_, ?_, fun z r hz hr => ⟨?_, fun k hk => ?_⟩, fun i hi z hz => ?_⟩
  · rw [upd_ne (by omega), upd_ne (by omega), upd_ne (by omega), upd_ne (by omega)]; exact a1 z hz
  · rw [upd_ne (by omega), upd_ne (by omega), upd_ne (by omega), upd_ne (by omega)]; exact a2 i hi
  · rw [upd_ne (by omega), upd_ne (by omega), upd_ne (by omega), upd_ne (by omega)]; exact a3 z hz
  · rw [upd_eq]; rfl
  · have := hnp z hz
    have hr : r < bNp B z := hr
    rw [upd_ne (by omega), upd_ne (by omega), upd_ne (by omega), upd_ne (by omega)]; exact (a5 z r hz hr).1
  · have := hnp z hz
    have hr : r < bNp B z := hr
    have := hnw z r hz hr
    have hk : k < bNw B z r := hk
    rw [upd_ne (by omega), upd_ne (by omega), upd_ne (by omega), upd_ne (by omega)]; exact (a5 z r hz hr).2 k hk
  · have hi : i < bNt B + 1 := hi
    by_cases e : i = bNt B
    · subst e
      rw [upd_ne (by omega)]
      rcases (show z = 0 ∨ z = 1 ∨ z = 2 by omega) with y | y | y
      · subst y
        rw [upd_ne (by omega), upd_ne (by omega), Nat.add_zero, upd_eq]
        simp [bTieAdd, bTi]
      · subst y
        rw [upd_ne (by omega), upd_eq]
        simp [bTieAdd, bTi]
      · subst y
        rw [upd_eq]
        simp [bTieAdd, bTi]
    · rw [upd_ne (by omega), upd_ne (by omega), upd_ne (by omega), upd_ne (by omega)]
      have := a6 i (by omega) z hz
      simp only [bTieAdd, bTi, if_neg e]
      exact this
theorem m_tieComes {n p q w : Nat} {kf : Nat → Nat} {f : Nat → Nat → Int32} {B : BK} (hR : nowR (f 100) B) (hV : VB0 B) (h10 : bNt B < 10) :
    ∃ F, Run n_X7_tieComes 110 0 (ini n_X7_tieComes [.ref 98, .int (nI p), .int (nI q), .int (nI w)]) [] (HH n kf f) (Ret (some (.int (nI (bNt B)))) (HH n kf F)) ∧ nowR (F 100) (bTieAdd B p q w) ∧ F 98 = upd (f 98) 4 (nI 0) ∧ ∀ c, c ≠ 98 → c ≠ 100 → F c = f c := by
  have hT : mT n_X7_tieComes = tb_X7_tieComes := rfl
  have h7 : f 100 7 = nI (bNt B) := hR.2.2.2.1
  have h100 : hset (hset (hset (hset f 100 (224 + 3 * bNt B) (nI p)) 100 (224 + 3 * bNt B + 1) (nI q)) 100 (224 + 3 * bNt B + 2) (nI w)) 100 7 (nI (bNt B + 1)) 100 = upd (upd (upd (upd (f 100) (224 + 3 * bNt B) (nI p)) (224 + 3 * bNt B + 1) (nI q)) (224 + 3 * bNt B + 2) (nI w)) 7 (nI (bNt B + 1)) := by
    rw [hs_s, hs_s, hs_s, hs_s]
  refine ⟨hset (hset (hset (hset (hset f 100 (224 + 3 * bNt B) (nI p)) 100 (224 + 3 * bNt B + 1) (nI q)) 100 (224 + 3 * bNt B + 2) (nI w)) 100 7 (nI (bNt B + 1))) 98 4 (nI 0), ?_, ?_, ?_, fun c x1 x2 => by rw [hset_ne x1, hset_ne x2, hset_ne x2, hset_ne x2, hset_ne x2]⟩
  · refine v_p hT rfl rfl ?_
    refine v_getr hT rfl rfl (by omega) rfl ?_
    refine v_p hT rfl rfl ?_
    refine v_ald hT rfl (by first | assumption | rfl) (by omega) (by decide) (by omega) ?_
    rw [h7]
    refine v_p hT rfl rfl ?_
    refine v_getr hT rfl rfl (by omega) rfl ?_
    refine v_p hT rfl rfl ?_
    refine v_scall hT [.int (nI (bNt B))] rfl rfl rfl rfl (Nat.le_of_ble_eq_true rfl) (Nat.le_of_ble_eq_true rfl) (m_tieAt (bNt B)) ?_
    refine v_p hT rfl rfl ?_
    refine v_ast hT rfl rfl (by omega) (by decide) (by omega) ?_
    refine v_p hT rfl rfl ?_
    refine v_getr hT rfl rfl (by omega) rfl ?_
    refine v_p hT rfl rfl ?_
    refine v_scall hT [.int (nI (bNt B))] rfl rfl rfl rfl (Nat.le_of_ble_eq_true rfl) (Nat.le_of_ble_eq_true rfl) (m_tieAt (bNt B)) ?_
    refine v_p hT rfl rfl ?_
    rw [nI_add]
    refine v_ast hT rfl rfl (by omega) (by decide) (by omega) ?_
    refine v_p hT rfl rfl ?_
    refine v_getr hT rfl rfl (by omega) rfl ?_
    refine v_p hT rfl rfl ?_
    refine v_scall hT [.int (nI (bNt B))] rfl rfl rfl rfl (Nat.le_of_ble_eq_true rfl) (Nat.le_of_ble_eq_true rfl) (m_tieAt (bNt B)) ?_
    refine v_p hT rfl rfl ?_
    rw [nI_add]
    refine v_ast hT rfl rfl (by omega) (by decide) (by omega) ?_
    refine v_p hT rfl rfl ?_
    refine v_getr hT rfl rfl (by omega) rfl ?_
    refine v_p hT rfl rfl ?_
    refine v_ald hT rfl (by first | assumption | rfl) (by omega) (by decide) (by omega) ?_
    have h7' : hset (hset (hset f 100 (224 + 3 * bNt B) (nI p)) 100 (224 + 3 * bNt B + 1) (nI q)) 100 (224 + 3 * bNt B + 2) (nI w) 100 7 = nI (bNt B) := by
      rw [hs_s, hs_s, hs_s]
      unfold upd
      rw [if_neg (by omega), if_neg (by omega), if_neg (by omega), h7]
    rw [h7']
    refine v_p hT rfl rfl ?_
    rw [nI_add]
    refine v_ast hT rfl rfl (by omega) (by decide) (by omega) ?_
    refine v_p hT rfl rfl ?_
    refine v_puti hT rfl rfl (by omega) (fun _ => Or.inl rfl) ?_
    refine v_p hT rfl rfl ?_
    refine v_ret hT rfl (fun z => by cases z) rfl ⟨rfl, rfl⟩
  · rw [hset_ne (by omega), h100]
    exact nowR_tieAdd hV hR
  · rw [hs_s, hset_ne (by omega), hset_ne (by omega), hset_ne (by omega), hset_ne (by omega)]
end
section
/-! THE REFERENCE: paragraphs come, ties go, paragraphs go. -/
noncomputable def canP (B : BK) (s n : Int32) (w : Nat → Int32) : Int32 := bif decide (0 ≤ s ∧ s ≤ 1) && decide (nI 1 ≤ n ∧ n ≤ nI 12) && pB (∀ k, k < n.toNatClampNeg → nI 1 ≤ w k ∧ w k ≤ nI 9) then (bif decide (8 ≤ bNp B s.toNatClampNeg) then mI 4 else nI 0) else mI 2
theorem m_canPara {m : Nat} {kf : Nat → Nat} {f : Nat → Nat → Int32} {B : BK} (hR : nowR (f 100) B) (hV : VB0 B) (s n : Int32) :
    Run n_X7_canPara 110 0 (ini n_X7_canPara [.ref 98, .int s, .int n]) [] (HH m kf f) (Ret (some (.int (canP B s n (f 102)))) (HH m kf f)) := by
  have hT : mT n_X7_canPara = tb_X7_canPara := rfl
  have start : ∀ Φ, Run n_X7_canPara 110 31 [some (.ref 98), some (.int s), some (.int n), some (.int (bI (decide (0 ≤ s ∧ s ≤ 1) && decide (nI 1 ≤ n ∧ n ≤ nI 12)))), some (.int (nI 0))] [.int n, .int (nI 0)] (HH m kf f) Φ → Run n_X7_canPara 110 0 (ini n_X7_canPara [.ref 98, .int s, .int n]) [] (HH m kf f) Φ := by
    intro Φ hΦ
    refine v_p hT rfl rfl ?_
    refine v_scall hT [.int s, .int (nI 0), .int (nI 1)] rfl rfl rfl rfl (Nat.le_of_ble_eq_true rfl) (Nat.le_of_ble_eq_true rfl) (m_in s (nI 0) (nI 1)) ?_
    by_cases c1 : 0 ≤ s ∧ s ≤ 1
    · rw [decide_eq_true c1] at hΦ
      rw [show decide (nI 0 ≤ s ∧ s ≤ nI 1) = true from decide_eq_true c1]
      refine g_if hT rfl (fun cq => ?_) (fun cq => ?_)
      · cases bf_of cq
      · refine v_p hT rfl rfl ?_
        refine v_scall hT [.int n, .int (nI 1), .int (nI 12)] rfl rfl rfl rfl (Nat.le_of_ble_eq_true rfl) (Nat.le_of_ble_eq_true rfl) (m_in n (nI 1) (nI 12)) ?_
        refine g_if hT rfl (fun cq2 => ?_) (fun cq2 => ?_)
        · rw [bf_of cq2] at hΦ
          refine v_p hT rfl rfl ?_
          exact hΦ
        · rw [bt_of cq2] at hΦ
          refine v_p hT rfl rfl ?_
          exact hΦ
    · rw [decide_eq_false c1] at hΦ
      rw [show decide (nI 0 ≤ s ∧ s ≤ nI 1) = false from decide_eq_false c1]
      refine g_if hT rfl (fun cq => ?_) (fun cq => ?_)
      · refine v_p hT rfl rfl ?_
        exact hΦ
      · exact absurd rfl cq
  refine start _ ?_
  unfold canP
  cases hw : (decide (0 ≤ s ∧ s ≤ 1) && decide (nI 1 ≤ n ∧ n ≤ nI 12)) with
  | false =>
    rw [Bool.false_and]
    have bad : ∀ k, Run n_X7_canPara 110 73 [some (.ref 98), some (.int s), some (.int n), some (.int (bI false)), k] [] (HH m kf f) (Ret (some (.int (mI 2))) (HH m kf f)) := by
      intro k
      refine v_p hT rfl rfl ?_
      refine g_if hT rfl (fun cq => ?_) (fun cq => ?_)
      · exact absurd rfl cq
      · refine v_p hT rfl rfl ?_
        refine v_ret hT rfl (fun z => by cases z) rfl ⟨rfl, rfl⟩
    have loop : ∀ d k, k + d = 12 → Run n_X7_canPara 110 31 [some (.ref 98), some (.int s), some (.int n), some (.int (bI false)), some (.int (nI k))] [.int n, .int (nI k)] (HH m kf f) (Ret (some (.int (mI 2))) (HH m kf f)) := by
      intro d
      induction d with
      | zero =>
        intro k hk
        refine g_cmp hT rfl (fun cq => ?_) (fun cq => ?_)
        · exact bad _
        · refine v_p hT rfl rfl ?_
          refine g_cmp hT rfl (fun cq2 => ?_) (fun cq2 => ?_)
          · exact bad _
          · exact absurd ((cj_ge (by omega) (by omega)).mpr (by omega)) cq2
      | succ d ih =>
        intro k hk
        refine g_cmp hT rfl (fun cq => ?_) (fun cq => ?_)
        · exact bad _
        · refine v_p hT rfl rfl ?_
          refine g_cmp hT rfl (fun cq2 => ?_) (fun cq2 => ?_)
          · exact absurd ((cj_ge (by omega) (by omega)).mp cq2) (by omega)
          · refine v_p hT rfl rfl ?_
            refine g_if hT rfl (fun cq3 => ?_) (fun cq3 => ?_)
            · refine v_p hT rfl rfl ?_
              refine v_cv (ih (k + 1) (by omega)) ⟨rfl, rfl, rfl, rfl, ?_, trivial⟩ ?_ rfl
              · rw [nI_add]
              · rw [nI_add]
            · exact absurd rfl cq3
    exact loop 12 0 (by omega)
  | true =>
    rw [Bool.and_eq_true] at hw
    obtain ⟨N, n1, n2, n3⟩ := in_range n (by omega) (of_decide_eq_true hw.2) (by omega)
    obtain ⟨Z, z1, z2⟩ : ∃ Z, Z < 2 ∧ s = nI Z := by
      rcases int_lo (of_decide_eq_true hw.1) with e | e
      · exact ⟨0, by omega, e⟩
      · exact ⟨1, by omega, e⟩
    subst n3; subst z2
    rw [nI_tn (show N < 2 ^ 31 by omega), nI_tn (show Z < 2 ^ 31 by omega), Bool.true_and]
    have hn8 := hV.1 Z z1
    have loop : ∀ d k, k + d = N → ∀ b : Bool, (b = true ↔ ∀ j, j < k → nI 1 ≤ f 102 j ∧ f 102 j ≤ nI 9) → Run n_X7_canPara 110 31 [some (.ref 98), some (.int (nI Z)), some (.int (nI N)), some (.int (bI b)), some (.int (nI k))] [.int (nI N), .int (nI k)] (HH m kf f) (Ret (some (.int (bif pB (∀ k, k < N → nI 1 ≤ f 102 k ∧ f 102 k ≤ nI 9) then (bif decide (8 ≤ bNp B Z) then mI 4 else nI 0) else mI 2))) (HH m kf f)) := by
      intro d
      induction d with
      | zero =>
        intro k hk b hb
        have e : k = N := by omega
        subst e
        refine g_cmp hT rfl (fun cq => ?_) (fun cq => ?_)
        · refine v_p hT rfl rfl ?_
          refine g_if hT rfl (fun cq2 => ?_) (fun cq2 => ?_)
          · have hbt : b = true := by
              cases b with
              | true => rfl
              | false => exact absurd rfl cq2
            rw [pB_t (hb.mp hbt)]
            refine v_p hT rfl rfl ?_
            refine v_call hT [.int (nI Z)] rfl rfl (by first | rfl | assumption) (by omega) rfl rfl (Nat.le_of_ble_eq_true rfl) (Nat.le_of_ble_eq_true rfl) (m_many z1) ?_
            rw [hR.2.2.1 Z z1]
            refine v_p hT rfl rfl ?_
            refine g_cmp hT rfl (fun cq3 => ?_) (fun cq3 => ?_)
            · have cq3 := (cj_ne (by omega) (by omega)).mp cq3
              rw [decide_eq_false (by omega)]
              refine v_p hT rfl rfl ?_
              refine v_ret hT rfl (fun z => by cases z) rfl ⟨rfl, rfl⟩
            · have cq3 := Classical.not_not.mp ((not_congr (cj_ne (by omega) (by omega))).mp cq3)
              rw [decide_eq_true (by omega)]
              refine v_p hT rfl rfl ?_
              refine v_ret hT rfl (fun z => by cases z) rfl ⟨rfl, rfl⟩
          · have hbf : ¬ b = true := by
              intro hbt
              subst hbt
              exact cq2 (show ¬ (1 : Int32) = 0 by decide)
            rw [pB_f (fun z => hbf (hb.mpr z))]
            refine v_p hT rfl rfl ?_
            refine v_ret hT rfl (fun z => by cases z) rfl ⟨rfl, rfl⟩
        · exact absurd ((cj_ge (by omega) (by omega)).mpr (by omega)) cq
      | succ d ih =>
        intro k hk b hb
        have nxt : ∀ b2 : Bool, (b2 = true ↔ ∀ j, j < k + 1 → nI 1 ≤ f 102 j ∧ f 102 j ≤ nI 9) → Run n_X7_canPara 110 31 [some (.ref 98), some (.int (nI Z)), some (.int (nI N)), some (.int (bI b2)), some (.int (nI k + nI 1))] [.int (nI N), .int (nI k + nI 1)] (HH m kf f) (Ret (some (.int (bif pB (∀ k, k < N → nI 1 ≤ f 102 k ∧ f 102 k ≤ nI 9) then (bif decide (8 ≤ bNp B Z) then mI 4 else nI 0) else mI 2))) (HH m kf f)) := by
          intro b2 hb2
          refine v_cv (ih (k + 1) (by omega) b2 hb2) ⟨rfl, rfl, rfl, rfl, ?_, trivial⟩ ?_ rfl
          · rw [nI_add]
          · rw [nI_add]
        refine g_cmp hT rfl (fun cq => ?_) (fun cq => ?_)
        · exact absurd ((cj_ge (by omega) (by omega)).mp cq) (by omega)
        · refine v_p hT rfl rfl ?_
          refine g_cmp hT rfl (fun cq2 => ?_) (fun cq2 => ?_)
          · exact absurd ((cj_ge (by omega) (by omega)).mp cq2) (by omega)
          · refine v_p hT rfl rfl ?_
            refine g_if hT rfl (fun cq3 => ?_) (fun cq3 => ?_)
            · have hbf := bf_of cq3
              refine v_p hT rfl rfl ?_
              exact nxt false ⟨fun z => (by cases z), fun z => by rw [hb.mpr (fun j hj => z j (by omega))] at hbf; cases hbf⟩
            · have hbt := bt_of cq3
              refine v_p hT rfl rfl ?_
              refine v_getr hT rfl rfl (by omega) rfl ?_
              refine v_p hT rfl rfl ?_
              refine v_ald hT rfl (by first | assumption | rfl) (by omega) (by decide) (by omega) ?_
              refine v_p hT rfl rfl ?_
              refine v_scall hT [.int (f 102 k), .int (nI 1), .int (nI 9)] rfl rfl rfl rfl (Nat.le_of_ble_eq_true rfl) (Nat.le_of_ble_eq_true rfl) (m_in (f 102 k) (nI 1) (nI 9)) ?_
              by_cases c4 : nI 1 ≤ f 102 k ∧ f 102 k ≤ nI 9
              · rw [decide_eq_true c4]
                refine g_if hT rfl (fun cq4 => ?_) (fun cq4 => ?_)
                · cases bf_of cq4
                · refine v_p hT rfl rfl ?_
                  refine nxt true ⟨fun _ j hj => ?_, fun _ => rfl⟩
                  by_cases e : j = k
                  · subst e; exact c4
                  · exact hb.mp hbt j (by omega)
              · rw [decide_eq_false c4]
                refine g_if hT rfl (fun cq4 => ?_) (fun cq4 => ?_)
                · refine v_p hT rfl rfl ?_
                  exact nxt false ⟨fun z => (by cases z), fun z => absurd (z k (by omega)) c4⟩
                · exact absurd rfl cq4
    exact loop N 0 (by omega) true ⟨fun _ j hj => absurd hj (Nat.not_lt_zero _), fun _ => rfl⟩
theorem m_paraComes {m s n : Nat} {kf : Nat → Nat} {f : Nat → Nat → Int32} {B : BK} {l : Nat → Nat} (hR : nowR (f 100) B) (hV : VB0 B) (hs : s < 2) (h8 : bNp B s < 8) (h1 : 1 ≤ n) (h12 : n ≤ 12) (hl : ∀ k, k < n → f 102 k = nI (l k)) (hl9 : ∀ k, k < n → 1 ≤ l k ∧ l k ≤ 9) :
    ∃ F, Run n_X7_paraComes 110 0 (ini n_X7_paraComes [.ref 98, .int (nI s), .int (nI n)]) [] (HH m kf f) (Ret (some (.int (bif decide (60 < totF (bParAdd B s n l) 0 ∨ 60 < totF (bParAdd B s n l) 1) then mI 4 else nI (bNp B s)))) (HH m kf F)) ∧ nowR (F 100) (bParAdd B s n l) ∧ F 98 = upd (f 98) 4 (nI 0) ∧ ∀ c, c ≠ 98 → c ≠ 100 → F c = f c := by
  have hT : mT n_X7_paraComes = tb_X7_paraComes := rfl
  have hnp : f 100 (5 + s) = nI (bNp B s) := hR.2.2.1 s hs
  generalize hA : 8 + 13 * (8 * s + bNp B s) = A
  have hAb : A + 13 ≤ 224 ∧ 8 ≤ A := by omega
  have loop : ∀ d k, k + d = 12 → ∀ F : Nat → Nat → Int32, (∀ j, j < k → j < n → F 100 (A + 1 + j) = nI (l j)) → (∀ x, x < A + 1 ∨ A + 13 ≤ x → F 100 x = upd (f 100) A (nI n) x) → (∀ c, c ≠ 100 → F c = f c) →
      ∃ F2, (∀ Φ, Run n_X7_paraComes 110 65 [some (.ref 98), some (.int (nI s)), some (.int (nI n)), some (.int (nI (bNp B s))), none] [] (HH m kf F2) Φ → Run n_X7_paraComes 110 24 [some (.ref 98), some (.int (nI s)), some (.int (nI n)), some (.int (nI (bNp B s))), some (.int (nI k))] [.int (nI 12), .int (nI k)] (HH m kf F) Φ) ∧ (∀ j, j < n → F2 100 (A + 1 + j) = nI (l j)) ∧ (∀ x, x < A + 1 ∨ A + 13 ≤ x → F2 100 x = upd (f 100) A (nI n) x) ∧ ∀ c, c ≠ 100 → F2 c = f c := by
    intro d
    induction d with
    | zero =>
      intro k hk F g1 g2 g3
      refine ⟨F, fun Φ hΦ => ?_, fun j hj => g1 j (by omega) hj, g2, g3⟩
      refine g_cmp hT rfl (fun cq => ?_) (fun cq => ?_)
      · exact v_cv hΦ ⟨rfl, rfl, rfl, rfl, trivial⟩ rfl rfl
      · exact absurd ((cj_ge (by omega) (by omega)).mpr (by omega)) cq
    | succ d ih =>
      intro k hk F g1 g2 g3
      have stp : ∀ v : Int32, (k < n → v = nI (l k)) → ∃ F2, (∀ Φ, Run n_X7_paraComes 110 65 [some (.ref 98), some (.int (nI s)), some (.int (nI n)), some (.int (nI (bNp B s))), none] [] (HH m kf F2) Φ → Run n_X7_paraComes 110 24 [some (.ref 98), some (.int (nI s)), some (.int (nI n)), some (.int (nI (bNp B s))), some (.int (nI (k + 1)))] [.int (nI 12), .int (nI (k + 1))] (HH m kf (hset F 100 (A + 1 + k) v)) Φ) ∧ (∀ j, j < n → F2 100 (A + 1 + j) = nI (l j)) ∧ (∀ x, x < A + 1 ∨ A + 13 ≤ x → F2 100 x = upd (f 100) A (nI n) x) ∧ ∀ c, c ≠ 100 → F2 c = f c := by
        intro v hv
        refine ih (k + 1) (by omega) _ (fun j hj hjn => ?_) (fun x hx => by rw [hs_s, upd_ne (by omega)]; exact g2 x hx) (fun c hc => by rw [hset_ne hc]; exact g3 c hc)
        rw [hs_s]
        by_cases e : j = k
        · subst e; rw [upd_eq]; exact hv hjn
        · rw [upd_ne (by omega)]; exact g1 j (by omega) hjn
      by_cases hkn : k < n
      · obtain ⟨F2, q1, q2⟩ := stp (nI (l k)) (fun _ => rfl)
        refine ⟨F2, fun Φ hΦ => ?_, q2⟩
        refine g_cmp hT rfl (fun cq => ?_) (fun cq => ?_)
        · exact absurd ((cj_ge (by omega) (by omega)).mp cq) (by omega)
        · refine v_p hT rfl rfl ?_
          refine v_getr hT rfl rfl (by omega) rfl ?_
          refine v_p hT rfl rfl ?_
          refine v_scall hT [.int (nI s), .int (nI (bNp B s))] rfl rfl rfl rfl (Nat.le_of_ble_eq_true rfl) (Nat.le_of_ble_eq_true rfl) (m_at s (bNp B s)) ?_
          rw [hA]
          refine v_p hT rfl rfl ?_
          rw [nI_add, nI_add]
          refine g_cmp hT rfl (fun cq2 => ?_) (fun cq2 => ?_)
          · exact absurd ((cj_ge (by omega) (by omega)).mp cq2) (by omega)
          · refine v_p hT rfl rfl ?_
            refine v_getr hT rfl rfl (by omega) rfl ?_
            refine v_p hT rfl rfl ?_
            refine v_ald hT rfl (by first | assumption | rfl) (by omega) (by decide) (by omega) ?_
            rw [g3 102 (by omega), hl k hkn]
            refine v_p hT rfl rfl ?_
            refine v_ast hT rfl rfl (by omega) (by decide) (by omega) ?_
            refine v_p hT rfl rfl ?_
            refine v_cv (q1 Φ hΦ) ⟨rfl, rfl, rfl, rfl, ?_, trivial⟩ ?_ rfl
            · rw [nI_add]
            · rw [nI_add]
      · obtain ⟨F2, q1, q2⟩ := stp (nI 0) (fun z => absurd z hkn)
        refine ⟨F2, fun Φ hΦ => ?_, q2⟩
        refine g_cmp hT rfl (fun cq => ?_) (fun cq => ?_)
        · exact absurd ((cj_ge (by omega) (by omega)).mp cq) (by omega)
        · refine v_p hT rfl rfl ?_
          refine v_getr hT rfl rfl (by omega) rfl ?_
          refine v_p hT rfl rfl ?_
          refine v_scall hT [.int (nI s), .int (nI (bNp B s))] rfl rfl rfl rfl (Nat.le_of_ble_eq_true rfl) (Nat.le_of_ble_eq_true rfl) (m_at s (bNp B s)) ?_
          rw [hA]
          refine v_p hT rfl rfl ?_
          rw [nI_add, nI_add]
          refine g_cmp hT rfl (fun cq2 => ?_) (fun cq2 => ?_)
          · refine v_p hT rfl rfl ?_
            refine v_ast hT rfl rfl (by omega) (by decide) (by omega) ?_
            refine v_p hT rfl rfl ?_
            refine v_cv (q1 Φ hΦ) ⟨rfl, rfl, rfl, rfl, ?_, trivial⟩ ?_ rfl
            · rw [nI_add]
            · rw [nI_add]
          · exact absurd ((cj_ge (by omega) (by omega)).mpr (by omega)) cq2
  obtain ⟨F, q1, q2, q3, q4⟩ := loop 12 0 (by omega) (hset f 100 A (nI n)) (fun j hj => absurd hj (Nat.not_lt_zero _)) (fun x _ => by rw [hs_s]) (fun c hc => hset_ne hc)
  have h5 : F 100 (5 + s) = nI (bNp B s) := by rw [q3 _ (by omega), upd_ne (by omega)]; exact hnp
  have hN : nowR (upd (F 100) (5 + s) (nI (bNp B s + 1))) (bParAdd B s n l) := by
    obtain ⟨a1, a2, a3, a4, a5, a6⟩ := hR
    have hw := fun z r hz hr => (hV.2.1 z r hz hr).2.1
    have hp8 := hV.1
    have old : ∀ x, x ≠ 5 + s → x < A ∨ A + 13 ≤ x → upd (F 100) (5 + s) (nI (bNp B s + 1)) x = f 100 x := fun x x1 x2 => by rw [upd_ne x1, q3 x (by omega), upd_ne (by omega)]
    refine ⟨fun z hz => by rw [old _ (by omega) (by omega)]; exact a1 z hz, fun i hi => by rw [old _ (by omega) (by omega)]; exact a2 i hi, fun z hz => ?_, by rw [old _ (by omega) (by omega)]; exact a4, fun z r hz hr => ?_, fun i hi z hz => by rw [old _ (by omega) (by omega)]; exact a6 i hi z hz⟩
    · show _ = nI (if z = s then bNp B s + 1 else bNp B z)
      by_cases e : z = s
      · subst e; rw [if_pos rfl, upd_eq]
      · rw [if_neg e, old _ (by omega) (by omega)]; exact a3 z hz
    · have hr : r < (if z = s then bNp B s + 1 else bNp B z) := hr
      by_cases e : z = s ∧ r = bNp B s
      · obtain ⟨e1, e2⟩ := e
        subst e1; subst e2
        refine ⟨?_, fun k hk => ?_⟩
        · show _ = nI (if z = z ∧ bNp B z = bNp B z then n else bNw B z (bNp B z))
          rw [if_pos ⟨rfl, rfl⟩, hA, upd_ne (by omega), q3 _ (by omega), upd_eq]
        · have hk : k < (if z = z ∧ bNp B z = bNp B z then n else bNw B z (bNp B z)) := hk
          rw [if_pos ⟨rfl, rfl⟩] at hk
          show _ = nI (if z = z ∧ bNp B z = bNp B z then l k else bLn B z (bNp B z) k)
          rw [if_pos ⟨rfl, rfl⟩, hA, upd_ne (by omega), q2 k hk]
      · have hr2 : r < bNp B z := by
          by_cases e2 : z = s
          · rw [if_pos e2] at hr
            subst e2
            have : ¬ r = bNp B z := fun q => e ⟨rfl, q⟩
            omega
          · rw [if_neg e2] at hr; exact hr
        have hz8 := hp8 z hz
        have hzw := hw z r hz hr2
        have hloc : 8 + 13 * (8 * z + r) + 13 ≤ A ∨ A + 13 ≤ 8 + 13 * (8 * z + r) := by
          by_cases e2 : z = s
          · subst e2
            have : ¬ r = bNp B z := fun q => e ⟨rfl, q⟩
            omega
          · omega
        refine ⟨?_, fun k hk => ?_⟩
        · show _ = nI (if z = s ∧ r = bNp B s then n else bNw B z r)
          rw [if_neg e, old _ (by omega) (by omega)]; exact (a5 z r hz hr2).1
        · have hk : k < (if z = s ∧ r = bNp B s then n else bNw B z r) := hk
          rw [if_neg e] at hk
          show _ = nI (if z = s ∧ r = bNp B s then l k else bLn B z r k)
          rw [if_neg e, old _ (by omega) (by omega)]; exact (a5 z r hz hr2).2 k hk
  have hN2 : nowR (hset (hset F 100 (5 + s) (nI (bNp B s + 1))) 98 4 (nI 0) 100) (bParAdd B s n l) := by
    rw [hset_ne (by omega), hs_s]
    exact hN
  refine ⟨hset (hset F 100 (5 + s) (nI (bNp B s + 1))) 98 4 (nI 0), ?_, hN2, by rw [hs_s, hset_ne (by omega), q4 98 (by omega)], fun c x1 x2 => by rw [hset_ne x1, hset_ne x2, q4 c x2]⟩
  refine v_p hT rfl rfl ?_
  refine v_call hT [.int (nI s)] rfl rfl (by first | rfl | assumption) (by omega) rfl rfl (Nat.le_of_ble_eq_true rfl) (Nat.le_of_ble_eq_true rfl) (m_many hs) ?_
  rw [hnp]
  refine v_p hT rfl rfl ?_
  refine v_getr hT rfl rfl (by omega) rfl ?_
  refine v_p hT rfl rfl ?_
  refine v_scall hT [.int (nI s), .int (nI (bNp B s))] rfl rfl rfl rfl (Nat.le_of_ble_eq_true rfl) (Nat.le_of_ble_eq_true rfl) (m_at s (bNp B s)) ?_
  rw [hA]
  refine v_p hT rfl rfl ?_
  refine v_ast hT rfl rfl (by omega) (by decide) (by omega) ?_
  refine v_p hT rfl rfl ?_
  refine q1 _ ?_
  refine v_p hT rfl rfl ?_
  refine v_getr hT rfl rfl (by omega) rfl ?_
  refine v_p hT rfl rfl ?_
  rw [nI_add]
  refine v_ald hT rfl (by first | assumption | rfl) (by omega) (by decide) (by omega) ?_
  rw [h5]
  refine v_p hT rfl rfl ?_
  rw [nI_add]
  refine v_ast hT rfl rfl (by omega) (by decide) (by omega) ?_
  refine v_p hT rfl rfl ?_
  refine v_puti hT rfl rfl (by omega) (fun _ => Or.inl rfl) ?_
  refine v_p hT rfl rfl ?_
  refine v_call hT [] rfl rfl (by first | rfl | assumption) (by omega) rfl rfl (Nat.le_of_ble_eq_true rfl) (Nat.le_of_ble_eq_true rfl) (m_isTooLong hN2 (VB0_add hV h8 h1 h12 hl9)) ?_
  refine g_if hT rfl (fun cq => ?_) (fun cq => ?_)
  · rw [bf_of cq]
    refine v_p hT rfl rfl ?_
    refine v_ret hT rfl (fun z => by cases z) rfl ⟨rfl, rfl⟩
  · rw [bt_of cq]
    refine v_p hT rfl rfl ?_
    refine v_ret hT rfl (fun z => by cases z) rfl ⟨rfl, rfl⟩
end
section
/-! THE REFERENCE: ties go, paragraphs go. -/
def VBw (B : BK) : Prop := (∀ s, s < 2 → bNp B s ≤ 8) ∧ (∀ s p, s < 2 → p < bNp B s → bNw B s p ≤ 12) ∧ bNt B ≤ 10
theorem VBw_of {B : BK} (h : VB0 B) : VBw B := ⟨h.1, fun s p hs hp => (h.2.1 s p hs hp).2.1, h.2.2.2.2.1⟩
theorem m_tieGoes {n i : Nat} {kf : Nat → Nat} {f : Nat → Nat → Int32} {B : BK} (hR : nowR (f 100) B) (hW : VBw B) (hi : i < bNt B) :
    ∃ F, Run n_X7_tieGoes 110 0 (ini n_X7_tieGoes [.ref 98, .int (nI i)]) [] (HH n kf f) (Ret none (HH n kf F)) ∧ nowR (F 100) (bTieGo B i) ∧ F 98 = upd (f 98) 4 (nI 0) ∧ ∀ c, c ≠ 98 → c ≠ 100 → F c = f c := by
  have hT : mT n_X7_tieGoes = tb_X7_tieGoes := rfl
  obtain ⟨w1, w2, w3⟩ := hW
  have h7 : f 100 7 = nI (bNt B) := hR.2.2.2.1
  have lp2 : ∀ d x, x + d = 224 + 3 * bNt B → 224 + 3 * (bNt B - 1) ≤ x → ∀ F : Nat → Nat → Int32, F 100 7 = nI (bNt B - 1) → ∃ F2, Run n_X7_tieGoes 110 74 [some (.ref 98), some (.int (nI i)), some (.int (nI x))] [.int (nI (224 + 3 * bNt B)), .int (nI x)] (HH n kf F) (Ret none (HH n kf F2)) ∧ (∀ y, y < 224 + 3 * (bNt B - 1) → F2 100 y = F 100 y) ∧ F2 98 = upd (F 98) 4 (nI 0) ∧ ∀ c, c ≠ 98 → c ≠ 100 → F2 c = F c := by
    intro d
    induction d with
    | zero =>
      intro x hx hx2 F h7F
      refine ⟨hset F 98 4 (nI 0), ?_, fun y hy => by rw [hset_ne (by omega)], by rw [hs_s], fun c x1 x2 => hset_ne x1⟩
      refine g_cmp hT rfl (fun cq => ?_) (fun cq => ?_)
      · refine v_p hT rfl rfl ?_
        refine v_puti hT rfl rfl (by omega) (fun _ => Or.inl rfl) ?_
        refine v_vret hT rfl rfl ⟨rfl, rfl⟩
      · exact absurd ((cj_ge (by omega) (by omega)).mpr (by omega)) cq
    | succ d ih =>
      intro x hx hx2 F h7F
      obtain ⟨F2, g1, g2, g3, g4⟩ := ih (x + 1) (by omega) (by omega) (hset F 100 x (nI 0)) (by rw [hs_s, upd_ne (by omega)]; exact h7F)
      refine ⟨F2, ?_, fun y hy => by rw [g2 y hy, hs_s, upd_ne (by omega)], by rw [g3, hset_ne (by omega)], fun c x1 x2 => by rw [g4 c x1 x2, hset_ne x2]⟩
      refine g_cmp hT rfl (fun cq => ?_) (fun cq => ?_)
      · exact absurd ((cj_ge (by omega) (by omega)).mp cq) (by omega)
      · refine v_p hT rfl rfl ?_
        refine v_getr hT rfl rfl (by omega) rfl ?_
        refine v_p hT rfl rfl ?_
        refine v_ast hT rfl rfl (by omega) (by decide) (by omega) ?_
        refine v_p hT rfl rfl ?_
        refine v_getr hT rfl rfl (by omega) rfl ?_
        refine v_p hT rfl rfl ?_
        refine v_ald hT rfl (by first | assumption | rfl) (by omega) (by decide) (by omega) ?_
        rw [hs_s, upd_ne (show 7 ≠ x by omega), h7F]
        refine v_p hT rfl rfl ?_
        rw [nI_add (bNt B - 1) 1]
        refine v_scall hT [.int (nI (bNt B - 1 + 1))] rfl rfl rfl rfl (Nat.le_of_ble_eq_true rfl) (Nat.le_of_ble_eq_true rfl) (m_tieAt (bNt B - 1 + 1)) ?_
        refine v_cv g1 ⟨rfl, rfl, ?_, trivial⟩ ?_ rfl
        · rw [nI_add]
        · rw [nI_add, show bNt B - 1 + 1 = bNt B by omega]; rfl
  have lp1 : ∀ d x, x + d = 224 + 3 * (bNt B - 1) → 224 + 3 * i ≤ x → ∀ F : Nat → Nat → Int32, F 100 7 = nI (bNt B - 1) → (∀ y, 224 + 3 * i ≤ y → y < x → F 100 y = f 100 (y + 3)) → (∀ y, y ≠ 7 → y < 224 + 3 * i ∨ x ≤ y → F 100 y = f 100 y) → (∀ c, c ≠ 100 → F c = f c) →
      ∃ F2, (∀ Φ, Run n_X7_tieGoes 110 50 [some (.ref 98), some (.int (nI i)), none] [] (HH n kf F2) Φ → Run n_X7_tieGoes 110 27 [some (.ref 98), some (.int (nI i)), some (.int (nI x))] [.int (nI (224 + 3 * (bNt B - 1))), .int (nI x)] (HH n kf F) Φ) ∧ F2 100 7 = nI (bNt B - 1) ∧ (∀ y, 224 + 3 * i ≤ y → y < 224 + 3 * (bNt B - 1) → F2 100 y = f 100 (y + 3)) ∧ (∀ y, y ≠ 7 → y < 224 + 3 * i → F2 100 y = f 100 y) ∧ ∀ c, c ≠ 100 → F2 c = f c := by
    intro d
    induction d with
    | zero =>
      intro x hx hx2 F k7 k1 k2 k3
      refine ⟨F, fun Φ hΦ => ?_, k7, fun y y1 y2 => k1 y y1 (by omega), fun y y1 y2 => k2 y y1 (by omega), k3⟩
      refine g_cmp hT rfl (fun cq => ?_) (fun cq => ?_)
      · exact v_cv hΦ ⟨rfl, rfl, trivial⟩ rfl rfl
      · exact absurd ((cj_ge (by omega) (by omega)).mpr (by omega)) cq
    | succ d ih =>
      intro x hx hx2 F k7 k1 k2 k3
      obtain ⟨F2, g1, g2⟩ := ih (x + 1) (by omega) (by omega) (hset F 100 x (f 100 (x + 3))) (by rw [hs_s, upd_ne (by omega)]; exact k7) (fun y y1 y2 => by
        rw [hs_s]
        by_cases e : y = x
        · subst e; rw [upd_eq]
        · rw [upd_ne e]; exact k1 y y1 (by omega)) (fun y y1 y2 => by rw [hs_s, upd_ne (by omega)]; exact k2 y y1 (by omega)) (fun c hc => by rw [hset_ne hc]; exact k3 c hc)
      refine ⟨F2, fun Φ hΦ => ?_, g2⟩
      refine g_cmp hT rfl (fun cq => ?_) (fun cq => ?_)
      · exact absurd ((cj_ge (by omega) (by omega)).mp cq) (by omega)
      · refine v_p hT rfl rfl ?_
        refine v_getr hT rfl rfl (by omega) rfl ?_
        refine v_p hT rfl rfl ?_
        refine v_getr hT rfl rfl (by omega) rfl ?_
        refine v_p hT rfl rfl ?_
        rw [nI_add]
        refine v_ald hT rfl (by first | assumption | rfl) (by omega) (by decide) (by omega) ?_
        rw [k2 (x + 3) (by omega) (by omega)]
        refine v_ast hT rfl rfl (by omega) (by decide) (by omega) ?_
        refine v_p hT rfl rfl ?_
        refine v_getr hT rfl rfl (by omega) rfl ?_
        refine v_p hT rfl rfl ?_
        refine v_ald hT rfl (by first | assumption | rfl) (by omega) (by decide) (by omega) ?_
        rw [hs_s, upd_ne (show 7 ≠ x by omega), k7]
        refine v_scall hT [.int (nI (bNt B - 1))] rfl rfl rfl rfl (Nat.le_of_ble_eq_true rfl) (Nat.le_of_ble_eq_true rfl) (m_tieAt (bNt B - 1)) ?_
        refine v_cv (g1 Φ hΦ) ⟨rfl, rfl, ?_, trivial⟩ ?_ rfl
        · rw [nI_add]
        · rw [nI_add]; rfl
  obtain ⟨F1, q1, q2, q3, q4, q5⟩ := lp1 (3 * (bNt B - 1 - i)) (224 + 3 * i) (by omega) (Nat.le_refl _) (hset f 100 7 (nI (bNt B - 1))) (by rw [hs_s, upd_eq]) (fun y y1 y2 => by omega) (fun y y1 y2 => by rw [hs_s, upd_ne y1]) (fun c hc => hset_ne hc)
  obtain ⟨F2, r1, r2, r3, r4⟩ := lp2 3 (224 + 3 * (bNt B - 1)) (by omega) (Nat.le_refl _) F1 q2
  refine ⟨F2, ?_, ?_, by rw [r3, q5 98 (by omega)], fun c x1 x2 => by rw [r4 c x1 x2, q5 c x2]⟩
  · refine v_p hT rfl rfl ?_
    refine v_getr hT rfl rfl (by omega) rfl ?_
    refine v_p hT rfl rfl ?_
    refine v_ald hT rfl (by first | assumption | rfl) (by omega) (by decide) (by omega) ?_
    rw [h7]
    refine v_p hT rfl rfl ?_
    rw [pk_sub (by omega)]
    refine v_ast hT rfl rfl (by omega) (by decide) (by omega) ?_
    refine v_p hT rfl rfl ?_
    refine v_scall hT [.int (nI i)] rfl rfl rfl rfl (Nat.le_of_ble_eq_true rfl) (Nat.le_of_ble_eq_true rfl) (m_tieAt i) ?_
    refine v_p hT rfl rfl ?_
    refine v_getr hT rfl rfl (by omega) rfl ?_
    refine v_p hT rfl rfl ?_
    refine v_ald hT rfl (by first | assumption | rfl) (by omega) (by decide) (by omega) ?_
    rw [hs_s, upd_eq]
    refine v_scall hT [.int (nI (bNt B - 1))] rfl rfl rfl rfl (Nat.le_of_ble_eq_true rfl) (Nat.le_of_ble_eq_true rfl) (m_tieAt (bNt B - 1)) ?_
    refine q1 _ ?_
    refine v_p hT rfl rfl ?_
    refine v_getr hT rfl rfl (by omega) rfl ?_
    refine v_p hT rfl rfl ?_
    refine v_ald hT rfl (by first | assumption | rfl) (by omega) (by decide) (by omega) ?_
    rw [q2]
    refine v_scall hT [.int (nI (bNt B - 1))] rfl rfl rfl rfl (Nat.le_of_ble_eq_true rfl) (Nat.le_of_ble_eq_true rfl) (m_tieAt (bNt B - 1)) ?_
    refine v_p hT rfl rfl ?_
    refine v_getr hT rfl rfl (by omega) rfl ?_
    refine v_p hT rfl rfl ?_
    refine v_ald hT rfl (by first | assumption | rfl) (by omega) (by decide) (by omega) ?_
    rw [q2]
    refine v_p hT rfl rfl ?_
    rw [nI_add (bNt B - 1) 1]
    refine v_scall hT [.int (nI (bNt B - 1 + 1))] rfl rfl rfl rfl (Nat.le_of_ble_eq_true rfl) (Nat.le_of_ble_eq_true rfl) (m_tieAt (bNt B - 1 + 1)) ?_
    rw [show bNt B - 1 + 1 = bNt B by omega]
    exact r1
  · obtain ⟨a1, a2, a3, a4, a5, a6⟩ := hR
    have old : ∀ y, y ≠ 7 → y < 224 → F2 100 y = f 100 y := fun y y1 y2 => by rw [r2 y (by omega), q4 y y1 (by omega)]
    refine ⟨fun s hs => by rw [old _ (by omega) (by omega)]; exact a1 s hs, fun j hj => by rw [old _ (by omega) (by omega)]; exact a2 j hj, fun s hs => by rw [old _ (by omega) (by omega)]; exact a3 s hs, by rw [r2 7 (by omega)]; exact q2, fun s p hs hp => ⟨?_, fun k hk => ?_⟩, fun j hj z hz => ?_⟩
    · have := w1 s hs
      have hp : p < bNp B s := hp
      rw [old _ (by omega) (by omega)]; exact (a5 s p hs hp).1
    · have := w1 s hs
      have hp : p < bNp B s := hp
      have := w2 s p hs hp
      have hk : k < bNw B s p := hk
      rw [old _ (by omega) (by omega)]; exact (a5 s p hs hp).2 k hk
    · have hj : j < bNt B - 1 := hj
      show _ = nI (if j < i then bTi B z j else bTi B z (j + 1))
      rw [r2 _ (by omega)]
      by_cases e : j < i
      · rw [if_pos e, q4 _ (by omega) (by omega)]; exact a6 j (by omega) z hz
      · rw [if_neg e, q3 _ (by omega) (by omega)]
        have := a6 (j + 1) (by omega) z hz
        rw [show 224 + 3 * (j + 1) + z = 224 + 3 * j + z + 3 by omega] at this
        exact this
theorem nowR_tie1 {g : Nat → Int32} {B : BK} {t : TS} {i z v : Nat} (hW : VBw (bWT B t)) (hz : z < 2) (h : nowR g (bWT B t)) : nowR (upd g (224 + 3 * i + z) (nI v)) (bWT B (t.1, fun y j => if y = z ∧ j = i then v else t.2 y j)) := by
  obtain ⟨a1, a2, a3, a4, a5, a6⟩ := h
  obtain ⟨w1, w2, w3⟩ := hW
  refine ⟨fun s hs => by rw [upd_ne (by omega)]; exact a1 s hs, fun j hj => by rw [upd_ne (by omega)]; exact a2 j hj, fun s hs => by rw [upd_ne (by omega)]; exact a3 s hs, by rw [upd_ne (by omega)]; exact a4, fun s p hs hp => ⟨?_, fun k hk => ?_⟩, fun j hj y hy => ?_⟩
  · have := w1 s hs
    have hp2 : p < bNp B s := hp
    have : bNp B s ≤ 8 := this
    rw [upd_ne (by omega)]; exact (a5 s p hs hp).1
  · have h8 : bNp B s ≤ 8 := w1 s hs
    have hp2 : p < bNp B s := hp
    have h12 : bNw B s p ≤ 12 := w2 s p hs hp
    have hk2 : k < bNw B s p := hk
    rw [upd_ne (by omega)]; exact (a5 s p hs hp).2 k hk
  · show _ = nI (if y = z ∧ j = i then v else t.2 y j)
    by_cases e : y = z ∧ j = i
    · rw [if_pos e, e.1, e.2, upd_eq]
    · rw [if_neg e, upd_ne (by omega)]; exact a6 j hj y hy
theorem m_dropLoop {n s p nb : Nat} {kf : Nat → Nat} {B : BK} (hs : s < 2) (hp : p < 8) (hnb : nb ≤ 10) (hW : VBw B) :
    ∀ (j : Nat) (f : Nat → Nat → Int32) (t : TS), nowR (f 100) (bWT B t) → tsOk t → j ≤ t.1 → t.1 ≤ nb →
    ∃ F, (∀ Φ, Run n_X7_drops 110 102 [some (.ref 98), some (.int (nI s)), some (.int (nI p)), some (.int (nI (nb - (tsOf s p j t).1))), none, none] [] (HH n kf F) Φ → Run n_X7_drops 110 39 [some (.ref 98), some (.int (nI s)), some (.int (nI p)), some (.int (nI (nb - t.1))), some (.int (prI j)), none] [.int (prI j)] (HH n kf f) Φ) ∧ nowR (F 100) (bWT B (tsOf s p j t)) ∧ tsOk (tsOf s p j t) ∧ (∀ i, i ≠ 4 → F 98 i = f 98 i) ∧ ∀ c, c ≠ 98 → c ≠ 100 → F c = f c := by
  have hT : mT n_X7_drops = tb_X7_drops := rfl
  intro j
  induction j with
  | zero =>
    intro f t hR hok hj hn
    refine ⟨f, fun Φ hΦ => ?_, hR, hok, fun _ _ => rfl, fun _ _ _ => rfl⟩
    refine g_if hT rfl (fun cq => ?_) (fun cq => ?_)
    · exact v_cv hΦ ⟨rfl, rfl, rfl, rfl, trivial⟩ rfl rfl
    · exact absurd prI_0 cq
  | succ i ih =>
    intro f t hR hok hj hn
    have hit : i < t.1 := by omega
    have h10 := hok.1
    have hW2 : VBw (bWT B t) := ⟨hW.1, hW.2.1, hok.1⟩
    obtain ⟨k1, k2⟩ := tsOk_step (z := s) (p := p) hok hit
    have hv : f 100 (224 + 3 * i + s) = nI (t.2 s i) := hR.2.2.2.2.2 i hit s (by omega)
    have hv100 := hok.2 s i hs hit
    show ∃ F, (∀ Φ, Run n_X7_drops 110 102 [some (.ref 98), some (.int (nI s)), some (.int (nI p)), some (.int (nI (nb - (tsOf s p i (tsStep t s p i)).1))), none, none] [] (HH n kf F) Φ → _) ∧ nowR (F 100) (bWT B (tsOf s p i (tsStep t s p i))) ∧ tsOk (tsOf s p i (tsStep t s p i)) ∧ _ ∧ _
    have start : ∀ Φ, Run n_X7_drops 110 54 [some (.ref 98), some (.int (nI s)), some (.int (nI p)), some (.int (nI (nb - t.1))), some (.int (nI i)), some (.int (nI (t.2 s i)))] [.int (nI p), .int (nI (t.2 s i))] (HH n kf f) Φ → Run n_X7_drops 110 39 [some (.ref 98), some (.int (nI s)), some (.int (nI p)), some (.int (nI (nb - t.1))), some (.int (prI (i + 1))), none] [.int (prI (i + 1))] (HH n kf f) Φ := by
      intro Φ hΦ
      refine g_if hT rfl (fun cq => ?_) (fun cq => ?_)
      · exact absurd cq (prI_ok (show i < 2 ^ 31 by omega))
      · refine v_p hT rfl rfl ?_
        refine v_call hT [.int (nI i), .int (nI s)] rfl rfl (by first | rfl | assumption) (by omega) rfl rfl (Nat.le_of_ble_eq_true rfl) (Nat.le_of_ble_eq_true rfl) (m_ofTie (by omega) (by omega)) ?_
        rw [hv]
        refine v_p hT rfl rfl ?_
        exact hΦ
    unfold tsStep at k1 k2 ⊢
    by_cases c1 : t.2 s i = p
    · rw [if_pos c1] at k1 k2 ⊢
      obtain ⟨F1, e1, e2, e3, e4⟩ := m_tieGoes (n := n) (kf := kf) (i := i) hR hW2 hit
      obtain ⟨F, g1, g2, g3, g4, g5⟩ := ih F1 (tsGo t i) e2 k1 k2 (by show t.1 - 1 ≤ nb; omega)
      refine ⟨F, fun Φ hΦ => start Φ ?_, g2, g3, fun a ha => by rw [g4 a ha, e3, upd_ne ha], fun c x1 x2 => by rw [g5 c x1 x2, e4 c x1 x2]⟩
      refine g_cmp hT rfl (fun cq => ?_) (fun cq => ?_)
      · exact absurd c1 ((cj_ne (by omega) (by omega)).mp cq)
      · refine v_p hT rfl rfl ?_
        refine v_call hT [.int (nI i)] rfl rfl (by first | rfl | assumption) (by omega) rfl rfl (Nat.le_of_ble_eq_true rfl) (Nat.le_of_ble_eq_true rfl) (e1) ?_
        refine v_p hT rfl rfl ?_
        rw [prI_add]
        refine v_cv (g1 Φ hΦ) ⟨rfl, rfl, rfl, ?_, rfl, trivial⟩ rfl rfl
        rw [nI_add]
        show Value.int (nI (nb - (t.1 - 1))) = Value.int (nI (nb - t.1 + 1))
        rw [show nb - (t.1 - 1) = nb - t.1 + 1 by omega]
    · rw [if_neg c1] at k1 k2 ⊢
      by_cases c2 : p < t.2 s i
      · rw [if_pos c2] at k1 k2 ⊢
        obtain ⟨F, g1, g2, g3, g4, g5⟩ := ih (hset f 100 (224 + 3 * i + s) (nI (t.2 s i - 1))) (t.1, fun y j => if y = s ∧ j = i then t.2 s i - 1 else t.2 y j) (by rw [hs_s]; exact nowR_tie1 hW2 hs hR) k1 k2 hn
        refine ⟨F, fun Φ hΦ => start Φ ?_, g2, g3, fun a ha => by rw [g4 a ha, hset_ne (by omega)], fun c x1 x2 => by rw [g5 c x1 x2, hset_ne x2]⟩
        refine g_cmp hT rfl (fun cq => ?_) (fun cq => ?_)
        · refine v_p hT rfl rfl ?_
          refine v_getr hT rfl rfl (by omega) rfl ?_
          refine v_p hT rfl rfl ?_
          refine v_scall hT [.int (nI i)] rfl rfl rfl rfl (Nat.le_of_ble_eq_true rfl) (Nat.le_of_ble_eq_true rfl) (m_tieAt i) ?_
          refine v_p hT rfl rfl ?_
          rw [nI_add]
          refine g_cmp hT rfl (fun cq2 => ?_) (fun cq2 => ?_)
          · exact absurd ((cj_le (by omega) (by omega)).mp cq2) (by omega)
          · refine v_p hT rfl rfl ?_
            rw [pk_sub (by omega)]
            refine v_ast hT rfl rfl (by omega) (by decide) (by omega) ?_
            refine v_p hT rfl rfl ?_
            rw [prI_add]
            exact v_cv (g1 Φ hΦ) ⟨rfl, rfl, rfl, rfl, rfl, trivial⟩ rfl rfl
        · exact absurd (Classical.not_not.mp ((not_congr (cj_ne (by omega) (by omega))).mp cq)) c1
      · rw [if_neg c2] at k1 k2 ⊢
        obtain ⟨F, g1, g2, g3, g4, g5⟩ := ih f t hR k1 k2 hn
        refine ⟨F, fun Φ hΦ => start Φ ?_, g2, g3, g4, g5⟩
        refine g_cmp hT rfl (fun cq => ?_) (fun cq => ?_)
        · refine v_p hT rfl rfl ?_
          refine v_getr hT rfl rfl (by omega) rfl ?_
          refine v_p hT rfl rfl ?_
          refine v_scall hT [.int (nI i)] rfl rfl rfl rfl (Nat.le_of_ble_eq_true rfl) (Nat.le_of_ble_eq_true rfl) (m_tieAt i) ?_
          refine v_p hT rfl rfl ?_
          rw [nI_add]
          refine g_cmp hT rfl (fun cq2 => ?_) (fun cq2 => ?_)
          · refine v_p hT rfl rfl ?_
            refine v_ast hT rfl rfl (by omega) (by decide) (by omega) ?_
            rw [← hv, hset_same]
            refine v_p hT rfl rfl ?_
            rw [prI_add]
            exact v_cv (g1 Φ hΦ) ⟨rfl, rfl, rfl, rfl, rfl, trivial⟩ rfl rfl
          · exact absurd ((cj_le (by omega) (by omega)).mpr (by omega)) cq2
        · exact absurd (Classical.not_not.mp ((not_congr (cj_ne (by omega) (by omega))).mp cq)) c1
theorem m_dropTail {n s p g : Nat} {kf : Nat → Nat} {f : Nat → Nat → Int32} {B : BK} (hR : nowR (f 100) B) (hW : VBw B) (hs : s < 2) (hp : p < bNp B s) :
    ∃ F, Run n_X7_drops 110 102 [some (.ref 98), some (.int (nI s)), some (.int (nI p)), some (.int (nI g)), none, none] [] (HH n kf f) (Ret (some (.int (nI g))) (HH n kf F)) ∧ nowR (F 100) (bParGo B s p) ∧ F 98 = upd (f 98) 4 (nI 0) ∧ ∀ c, c ≠ 98 → c ≠ 100 → F c = f c := by
  have hT : mT n_X7_drops = tb_X7_drops := rfl
  obtain ⟨w1, w2, w3⟩ := id hW
  have h5 : f 100 (5 + s) = nI (bNp B s) := hR.2.2.1 s hs
  have hn8 := w1 s hs
  generalize hE : 8 + 13 * (8 * s + (bNp B s - 1)) = E
  generalize hA : 8 + 13 * (8 * s + p) = A
  have hAE : A ≤ E ∧ E + 13 ≤ 224 ∧ 8 ≤ A ∧ E = A + 13 * (bNp B s - 1 - p) := by omega
  have lp2 : ∀ d x, x + d = E + 13 → E ≤ x → ∀ F : Nat → Nat → Int32, F 100 (5 + s) = nI (bNp B s - 1) → ∃ F2, Run n_X7_drops 110 182 [some (.ref 98), some (.int (nI s)), some (.int (nI p)), some (.int (nI g)), some (.int (nI x)), none] [.int (nI (E + 13)), .int (nI x)] (HH n kf F) (Ret (some (.int (nI g))) (HH n kf F2)) ∧ (∀ y, y < E ∨ E + 13 ≤ y → F2 100 y = F 100 y) ∧ F2 98 = upd (F 98) 4 (nI 0) ∧ ∀ c, c ≠ 98 → c ≠ 100 → F2 c = F c := by
    intro d
    induction d with
    | zero =>
      intro x hx hx2 F hF
      refine ⟨hset F 98 4 (nI 0), ?_, fun y hy => by rw [hset_ne (by omega)], by rw [hs_s], fun c x1 x2 => hset_ne x1⟩
      refine g_cmp hT rfl (fun cq => ?_) (fun cq => ?_)
      · refine v_p hT rfl rfl ?_
        refine v_puti hT rfl rfl (by omega) (fun _ => Or.inl rfl) ?_
        refine v_p hT rfl rfl ?_
        refine v_ret hT rfl (fun z => by cases z) rfl ⟨rfl, rfl⟩
      · exact absurd ((cj_ge (by omega) (by omega)).mpr (by omega)) cq
    | succ d ih =>
      intro x hx hx2 F hF
      obtain ⟨F2, g1, g2, g3, g4⟩ := ih (x + 1) (by omega) (by omega) (hset F 100 x (nI 0)) (by rw [hs_s, upd_ne (by omega)]; exact hF)
      refine ⟨F2, ?_, fun y hy => by rw [g2 y hy, hs_s, upd_ne (by omega)], by rw [g3, hset_ne (by omega)], fun c x1 x2 => by rw [g4 c x1 x2, hset_ne x2]⟩
      refine g_cmp hT rfl (fun cq => ?_) (fun cq => ?_)
      · exact absurd ((cj_ge (by omega) (by omega)).mp cq) (by omega)
      · refine v_p hT rfl rfl ?_
        refine v_getr hT rfl rfl (by omega) rfl ?_
        refine v_p hT rfl rfl ?_
        refine v_ast hT rfl rfl (by omega) (by decide) (by omega) ?_
        refine v_p hT rfl rfl ?_
        refine v_call hT [.int (nI s)] rfl rfl (by first | rfl | assumption) (by omega) rfl rfl (Nat.le_of_ble_eq_true rfl) (Nat.le_of_ble_eq_true rfl) (m_many hs) ?_
        rw [hs_s, upd_ne (show 5 + s ≠ x by omega), hF]
        refine v_p hT rfl rfl ?_
        rw [nI_add (bNp B s - 1) 1]
        refine v_scall hT [.int (nI s), .int (nI (bNp B s - 1 + 1))] rfl rfl rfl rfl (Nat.le_of_ble_eq_true rfl) (Nat.le_of_ble_eq_true rfl) (m_at s (bNp B s - 1 + 1)) ?_
        rw [show 8 + 13 * (8 * s + (bNp B s - 1 + 1)) = E + 13 by omega]
        refine v_cv g1 ⟨rfl, rfl, rfl, rfl, ?_, trivial⟩ ?_ rfl
        · rw [nI_add]
        · rw [nI_add]; rfl
  have lp1 : ∀ d x, x + d = E → A ≤ x → ∀ F : Nat → Nat → Int32, F 100 (5 + s) = nI (bNp B s - 1) → (∀ y, A ≤ y → y < x → F 100 y = f 100 (y + 13)) → (∀ y, y ≠ 5 + s → y < A ∨ x ≤ y → F 100 y = f 100 y) → (∀ c, c ≠ 100 → F c = f c) →
      ∃ F2, (∀ Φ, Run n_X7_drops 110 158 [some (.ref 98), some (.int (nI s)), some (.int (nI p)), some (.int (nI g)), none, none] [] (HH n kf F2) Φ → Run n_X7_drops 110 132 [some (.ref 98), some (.int (nI s)), some (.int (nI p)), some (.int (nI g)), some (.int (nI x)), none] [.int (nI E), .int (nI x)] (HH n kf F) Φ) ∧ F2 100 (5 + s) = nI (bNp B s - 1) ∧ (∀ y, A ≤ y → y < E → F2 100 y = f 100 (y + 13)) ∧ (∀ y, y ≠ 5 + s → y < A ∨ E ≤ y → F2 100 y = f 100 y) ∧ ∀ c, c ≠ 100 → F2 c = f c := by
    intro d
    induction d with
    | zero =>
      intro x hx hx2 F k7 k1 k2 k3
      refine ⟨F, fun Φ hΦ => ?_, k7, fun y y1 y2 => k1 y y1 (by omega), fun y y1 y2 => k2 y y1 (by omega), k3⟩
      refine g_cmp hT rfl (fun cq => ?_) (fun cq => ?_)
      · exact v_cv hΦ ⟨rfl, rfl, rfl, rfl, trivial⟩ rfl rfl
      · exact absurd ((cj_ge (by omega) (by omega)).mpr (by omega)) cq
    | succ d ih =>
      intro x hx hx2 F k7 k1 k2 k3
      obtain ⟨F2, g1, g2⟩ := ih (x + 1) (by omega) (by omega) (hset F 100 x (f 100 (x + 13))) (by rw [hs_s, upd_ne (by omega)]; exact k7) (fun y y1 y2 => by
        rw [hs_s]
        by_cases e : y = x
        · subst e; rw [upd_eq]
        · rw [upd_ne e]; exact k1 y y1 (by omega)) (fun y y1 y2 => by rw [hs_s, upd_ne (by omega)]; exact k2 y y1 (by omega)) (fun c hc => by rw [hset_ne hc]; exact k3 c hc)
      refine ⟨F2, fun Φ hΦ => ?_, g2⟩
      refine g_cmp hT rfl (fun cq => ?_) (fun cq => ?_)
      · exact absurd ((cj_ge (by omega) (by omega)).mp cq) (by omega)
      · refine v_p hT rfl rfl ?_
        refine v_getr hT rfl rfl (by omega) rfl ?_
        refine v_p hT rfl rfl ?_
        refine v_getr hT rfl rfl (by omega) rfl ?_
        refine v_p hT rfl rfl ?_
        rw [nI_add]
        refine v_ald hT rfl (by first | assumption | rfl) (by omega) (by decide) (by omega) ?_
        rw [k2 (x + 13) (by omega) (by omega)]
        refine v_ast hT rfl rfl (by omega) (by decide) (by omega) ?_
        refine v_p hT rfl rfl ?_
        refine v_call hT [.int (nI s)] rfl rfl (by first | rfl | assumption) (by omega) rfl rfl (Nat.le_of_ble_eq_true rfl) (Nat.le_of_ble_eq_true rfl) (m_many hs) ?_
        rw [hs_s, upd_ne (show 5 + s ≠ x by omega), k7]
        refine v_scall hT [.int (nI s), .int (nI (bNp B s - 1))] rfl rfl rfl rfl (Nat.le_of_ble_eq_true rfl) (Nat.le_of_ble_eq_true rfl) (m_at s (bNp B s - 1)) ?_
        rw [hE]
        refine v_cv (g1 Φ hΦ) ⟨rfl, rfl, rfl, rfl, ?_, trivial⟩ ?_ rfl
        · rw [nI_add]
        · rw [nI_add]; rfl
  obtain ⟨F1, q1, q2, q3, q4, q5⟩ := lp1 (E - A) A (by omega) (Nat.le_refl _) (hset f 100 (5 + s) (nI (bNp B s - 1))) (by rw [hs_s, upd_eq]) (fun y y1 y2 => by omega) (fun y y1 y2 => by rw [hs_s, upd_ne y1]) (fun c hc => hset_ne hc)
  obtain ⟨F2, r1, r2, r3, r4⟩ := lp2 13 E (by omega) (Nat.le_refl _) F1 q2
  refine ⟨F2, ?_, ?_, by rw [r3, q5 98 (by omega)], fun c x1 x2 => by rw [r4 c x1 x2, q5 c x2]⟩
  · refine v_p hT rfl rfl ?_
    refine v_getr hT rfl rfl (by omega) rfl ?_
    refine v_p hT rfl rfl ?_
    rw [nI_add]
    refine v_ald hT rfl (by first | assumption | rfl) (by omega) (by decide) (by omega) ?_
    rw [h5]
    refine v_p hT rfl rfl ?_
    rw [pk_sub (by omega)]
    refine v_ast hT rfl rfl (by omega) (by decide) (by omega) ?_
    refine v_p hT rfl rfl ?_
    refine v_scall hT [.int (nI s), .int (nI p)] rfl rfl rfl rfl (Nat.le_of_ble_eq_true rfl) (Nat.le_of_ble_eq_true rfl) (m_at s p) ?_
    rw [hA]
    refine v_p hT rfl rfl ?_
    refine v_call hT [.int (nI s)] rfl rfl (by first | rfl | assumption) (by omega) rfl rfl (Nat.le_of_ble_eq_true rfl) (Nat.le_of_ble_eq_true rfl) (m_many hs) ?_
    rw [hs_s, upd_eq]
    refine v_scall hT [.int (nI s), .int (nI (bNp B s - 1))] rfl rfl rfl rfl (Nat.le_of_ble_eq_true rfl) (Nat.le_of_ble_eq_true rfl) (m_at s (bNp B s - 1)) ?_
    rw [hE]
    refine q1 _ ?_
    refine v_p hT rfl rfl ?_
    refine v_call hT [.int (nI s)] rfl rfl (by first | rfl | assumption) (by omega) rfl rfl (Nat.le_of_ble_eq_true rfl) (Nat.le_of_ble_eq_true rfl) (m_many hs) ?_
    rw [q2]
    refine v_scall hT [.int (nI s), .int (nI (bNp B s - 1))] rfl rfl rfl rfl (Nat.le_of_ble_eq_true rfl) (Nat.le_of_ble_eq_true rfl) (m_at s (bNp B s - 1)) ?_
    rw [hE]
    refine v_p hT rfl rfl ?_
    refine v_call hT [.int (nI s)] rfl rfl (by first | rfl | assumption) (by omega) rfl rfl (Nat.le_of_ble_eq_true rfl) (Nat.le_of_ble_eq_true rfl) (m_many hs) ?_
    rw [q2]
    refine v_p hT rfl rfl ?_
    rw [nI_add (bNp B s - 1) 1]
    refine v_scall hT [.int (nI s), .int (nI (bNp B s - 1 + 1))] rfl rfl rfl rfl (Nat.le_of_ble_eq_true rfl) (Nat.le_of_ble_eq_true rfl) (m_at s (bNp B s - 1 + 1)) ?_
    rw [show 8 + 13 * (8 * s + (bNp B s - 1 + 1)) = E + 13 by omega]
    exact r1
  · obtain ⟨a1, a2, a3, a4, a5, a6⟩ := hR
    have old : ∀ y, y ≠ 5 + s → y < A ∨ E + 13 ≤ y → F2 100 y = f 100 y := fun y y1 y2 => by rw [r2 y (by omega), q4 y y1 (by omega)]
    refine ⟨fun z hz => by rw [old _ (by omega) (by omega)]; exact a1 z hz, fun j hj => by rw [old _ (by omega) (by omega)]; exact a2 j hj, fun z hz => ?_, by rw [old _ (by omega) (by omega)]; exact a4, fun z r hz hr => ?_, fun j hj y hy => by rw [old _ (by omega) (by omega)]; exact a6 j hj y hy⟩
    · show _ = nI (if z = s then bNp B s - 1 else bNp B z)
      by_cases e : z = s
      · subst e; rw [if_pos rfl, r2 _ (by omega)]; exact q2
      · rw [if_neg e, old _ (by omega) (by omega)]; exact a3 z hz
    · have hr : r < (if z = s then bNp B s - 1 else bNp B z) := hr
      have hz8 := w1 z hz
      by_cases e : z = s ∧ p ≤ r
      · obtain ⟨e1, e2⟩ := e
        subst e1
        rw [if_pos rfl] at hr
        obtain ⟨b1, b2⟩ := a5 z (r + 1) hz (by omega)
        have hw := w2 z (r + 1) hz (by omega)
        refine ⟨?_, fun k hk => ?_⟩
        · show _ = nI (if z = z ∧ p ≤ r then bNw B z (r + 1) else bNw B z r)
          rw [if_pos ⟨rfl, e2⟩, r2 _ (by omega), q3 _ (by omega) (by omega), ← b1]
          congr 1 <;> omega
        · have hk : k < (if z = z ∧ p ≤ r then bNw B z (r + 1) else bNw B z r) := hk
          rw [if_pos ⟨rfl, e2⟩] at hk
          show _ = nI (if z = z ∧ p ≤ r then bLn B z (r + 1) k else bLn B z r k)
          rw [if_pos ⟨rfl, e2⟩, r2 _ (by omega), q3 _ (by omega) (by omega), ← b2 k hk]
          congr 1 <;> omega
      · have hr2 : r < bNp B z := by
          by_cases e2 : z = s
          · rw [if_pos e2] at hr; subst e2; omega
          · rw [if_neg e2] at hr; exact hr
        have hw := w2 z r hz hr2
        have hloc : 8 + 13 * (8 * z + r) + 13 ≤ A ∨ E + 13 ≤ 8 + 13 * (8 * z + r) := by
          by_cases e2 : z = s
          · subst e2
            have : ¬ p ≤ r := fun q => e ⟨rfl, q⟩
            omega
          · omega
        refine ⟨?_, fun k hk => ?_⟩
        · show _ = nI (if z = s ∧ p ≤ r then bNw B z (r + 1) else bNw B z r)
          rw [if_neg e, old _ (by omega) (by omega)]; exact (a5 z r hz hr2).1
        · have hk : k < (if z = s ∧ p ≤ r then bNw B z (r + 1) else bNw B z r) := hk
          rw [if_neg e] at hk
          show _ = nI (if z = s ∧ p ≤ r then bLn B z (r + 1) k else bLn B z r k)
          rw [if_neg e, old _ (by omega) (by omega)]; exact (a5 z r hz hr2).2 k hk
end
section
/-! THE REFERENCE: its calls that change. -/
def knR (f : Nat → Nat → Int32) (B : BK) : Prop := f 98 6 = nI (keptF B) ∧ (∀ s b, s < 2 → b ≤ totF B s → f 103 (61 * s + b) = bI (lawF B s b)) ∧ f 98 11 = opI (lyP B) ∧ f 98 12 = coI (lyP B) ∧ ∀ k, k < opN (lyP B) → f 107 k = nI ((posF (lyP B) (k + 1)).1 - (posF (lyP B) k).1) ∧ f 108 k = nI ((posF (lyP B) (k + 1)).2 - (posF (lyP B) k).2)
def txM (f : Nat → Nat → Int32) (t : TX) : Prop := f 98 16 = nI t.1 ∧ ∀ k, k < t.1 → f 109 k = nI (t.2 k)
def RepM (f : Nat → Nat → Int32) (S : ST) : Prop := nowR (f 100) S.1 ∧ stM f S.2.1 ∧ txM f S.2.2.1 ∧ (∀ i, i < 3 → f 99 i = S.2.2.2 i) ∧ ∃ kn : Bool, f 98 4 = bI kn ∧ (kn = true → knR f S.1)
def MSp (m : Nat) (as : List Value) (S : ST) (r : Int32 × ST) : Prop := ∀ (n : Nat) (kf : Nat → Nat) (f : Nat → Nat → Int32), RepM f S → ∃ f2, Run m 110 0 (ini m (.ref 98 :: as)) [] (HH n kf f) (Ret (some (.int r.1)) (HH n kf f2)) ∧ RepM f2 r.2 ∧ ∀ c, c < 98 ∨ 110 ≤ c → f2 c = f c
theorem RepM_mk {f F : Nat → Nat → Int32} {S : ST} {B : BK} {H : HS} (h : RepM f S) (h1 : nowR (F 100) B) (h2 : stM F H) (h4 : F 98 4 = nI 0) (h16 : F 98 16 = f 98 16) (h99 : F 99 = f 99) (h109 : F 109 = f 109) : RepM F (B, H, S.2.2.1, S.2.2.2) := by
  obtain ⟨a1, a2, a3, a4, a5⟩ := h
  exact ⟨h1, h2, ⟨by rw [h16]; exact a3.1, fun k hk => by rw [h109]; exact a3.2 k hk⟩, fun i hi => by rw [h99]; exact a4 i hi, false, h4, fun z => (by cases z)⟩
theorem stM_fr {f F : Nat → Nat → Int32} {H : HS} (h : stM f H) (h3 : F 98 3 = f 98 3) (h101 : F 101 = f 101) : stM F H := by
  obtain ⟨a, b⟩ := h
  exact ⟨by rw [h3]; exact a, fun i hi => by rw [h101]; exact b i hi⟩
theorem knR_fr {f F : Nat → Nat → Int32} {B : BK} (h : knR f B) (h98 : ∀ i, i = 6 ∨ i = 11 ∨ i = 12 → F 98 i = f 98 i) (hc : ∀ c, c = 103 ∨ c = 107 ∨ c = 108 → F c = f c) : knR F B := by
  obtain ⟨a1, a2, a3, a4, a5⟩ := h
  exact ⟨by rw [h98 6 (by omega)]; exact a1, fun s b hs hb => by rw [hc 103 (by omega)]; exact a2 s b hs hb, by rw [h98 11 (by omega)]; exact a3, by rw [h98 12 (by omega)]; exact a4, fun k hk => by rw [hc 107 (by omega), hc 108 (by omega)]; exact a5 k hk⟩
theorem RepM_refu {f : Nat → Nat → Int32} {S : ST} {j : Nat} (h : RepM f S) : RepM (hset f 99 j (f 99 j + nI 1)) (refu S j) := by
  obtain ⟨a1, a2, a3, a4, kn, a5, a6⟩ := h
  refine ⟨by rw [hset_ne (by omega)]; exact a1, stM_fr a2 (by rw [hset_ne (by omega)]) (by rw [hset_ne (by omega)]), ⟨by rw [hset_ne (by omega)]; exact a3.1, fun k hk => by rw [hset_ne (by omega)]; exact a3.2 k hk⟩, fun i hi => ?_, kn, by rw [hset_ne (by omega)]; exact a5, fun z => knR_fr (a6 z) (fun i _ => by rw [hset_ne (by omega)]) (fun c _ => hset_ne (by omega))⟩
  rw [hs_s]
  show upd (f 99) j (f 99 j + nI 1) i = (if i = j then S.2.2.2 i + 1 else S.2.2.2 i)
  by_cases e : i = j
  · subst e; rw [upd_eq, if_pos rfl, a4 i hi]; rfl
  · rw [upd_ne e, if_neg e]; exact a4 i hi
theorem m_bad2 {n : Nat} {kf : Nat → Nat} {f : Nat → Nat → Int32} {S : ST} (h : RepM f S) : ∃ f2, Run n_X7_bad 110 0 (ini n_X7_bad [.ref 98]) [] (HH n kf f) (Ret (some (.int (mI 2))) (HH n kf f2)) ∧ RepM f2 (refu S 0) ∧ ∀ c, c < 98 ∨ 110 ≤ c → f2 c = f c := ⟨_, m_bad, RepM_refu h, fun c hc => hset_ne (by omega)⟩
/-- an order that is tried: whether it can be, and what it leaves -/
def canR (can : Int32) (r : Int32 × BK) : Prop := (∃ j, j < 3 ∧ can = mI (2 + j) ∧ r.1 = mI (2 + j)) ∨ can = nI 0
def comR (f F : Nat → Nat → Int32) (r : Int32 × BK) : Prop := (r.1 = mI 4 ∨ ((∃ k, k < 1000 ∧ r.1 = nI k) ∧ nowR (F 100) r.2)) ∧ F 98 = upd (f 98) 4 (nI 0) ∧ ∀ c, c ≠ 98 → c ≠ 100 → F c = f c
theorem tot_other {B : BK} (hV : VB B) {s n : Nat} {l : Nat → Nat} (hs : s < 2) : (60 < totF (bParAdd B s n l) 0 ∨ 60 < totF (bParAdd B s n l) 1) ↔ 60 < totF (bParAdd B s n l) s := by
  have ho : ∀ z, z < 2 → z ≠ s → totF (bParAdd B s n l) z ≤ 60 := by
    intro z hz e
    have h5 : totF (bParAdd B s n l) z = totF B z := by
      unfold totF
      rw [show bNp (bParAdd B s n l) z = bNp B z by show (if z = s then bNp B s + 1 else bNp B z) = bNp B z; rw [if_neg e]]
      exact fstF_add_old _ (fun h => absurd h e)
    rw [h5]
    exact hV.2 z hz
  have h0 := ho 0 (by omega)
  have h1 := ho 1 (by omega)
  rcases (show s = 0 ∨ s = 1 by omega) with e | e
  · subst e
    have := h1 (by omega)
    omega
  · subst e
    have := h0 (by omega)
    omega
theorem tot_otherW {B : BK} (hV : VB B) {s v : Nat} (hs : s < 2) : (60 < totF (bWidTo B s v) 0 ∨ 60 < totF (bWidTo B s v) 1) ↔ 60 < totF (bWidTo B s v) s := by
  have ho : ∀ z, z < 2 → z ≠ s → totF (bWidTo B s v) z ≤ 60 := by
    intro z hz e
    rw [show totF (bWidTo B s v) z = totF B z from totF_cg rfl (fun _ _ => linF_cg (by show (if z = s then v else bWd B z) = bWd B z; rw [if_neg e]) rfl rfl)]
    exact hV.2 z hz
  have h0 := ho 0 (by omega)
  have h1 := ho 1 (by omega)
  rcases (show s = 0 ∨ s = 1 by omega) with e | e
  · subst e
    have := h1 (by omega)
    omega
  · subst e
    have := h0 (by omega)
    omega
theorem canP_nat {B : BK} {s n : Nat} {w : Nat → Int32} (hs : s < 2) (h1 : 1 ≤ n) (h12 : n ≤ 12) : canP B (nI s) (nI n) w = bif pB (∀ k, k < n → nI 1 ≤ w k ∧ w k ≤ nI 9) then (bif decide (8 ≤ bNp B s) then mI 4 else nI 0) else mI 2 := by
  unfold canP
  have c1 : (0 : Int32) ≤ nI s ∧ nI s ≤ 1 := by
    rcases (show s = 0 ∨ s = 1 by omega) with e | e
    · subst e; decide
    · subst e; decide
  have c2 : nI 1 ≤ nI n ∧ nI n ≤ nI 12 := ⟨(cj_le (a := 1) (b := n) (by omega) (by omega)).mpr h1, (cj_le (a := n) (b := 12) (by omega) (by omega)).mpr h12⟩
  rw [decide_eq_true c1, decide_eq_true c2, nI_tn (by omega), nI_tn (by omega)]
  rfl
theorem o_par {m s n : Nat} {kf : Nat → Nat} {f : Nat → Nat → Int32} {B : BK} {ws : Nat → Int32} (hR : nowR (f 100) B) (hV : VB B) (hs : s < 2) (h1 : 1 ≤ n) (h12 : n ≤ 12) (hf : ∀ k, k < n → f 102 k = ws k) :
    canR (canP B (nI s) (nI n) (f 102)) (aPar B s n ws) ∧ (canP B (nI s) (nI n) (f 102) = nI 0 → ∃ F, Run n_X7_paraComes 110 0 (ini n_X7_paraComes [.ref 98, .int (nI s), .int (nI n)]) [] (HH m kf f) (Ret (some (.int (aPar B s n ws).1)) (HH m kf F)) ∧ comR f F (aPar B s n ws)) := by
  rw [canP_nat hs h1 h12, aPar_e1 hf, aPar_X]
  by_cases c1 : ∀ k, k < n → nI 1 ≤ ws k ∧ ws k ≤ nI 9
  · rw [pB_t c1]
    by_cases c2 : 8 ≤ bNp B s
    · rw [decide_eq_true c2]
      exact ⟨Or.inl ⟨2, by omega, rfl, rfl⟩, fun z => absurd z (show ¬ mI 4 = nI 0 by decide)⟩
    · rw [decide_eq_false c2]
      refine ⟨Or.inr rfl, fun _ => ?_⟩
      obtain ⟨F, e1, e2, e3, e4⟩ := m_paraComes (m := m) (kf := kf) (f := f) (l := fun k => (ws k).toNatClampNeg) hR hV.1 hs (by omega) h1 h12 (fun k hk => by
        obtain ⟨j, j1, j2, j3⟩ := in_range (ws k) (by omega) (c1 k hk) (by omega)
        show f 102 k = nI (ws k).toNatClampNeg
        rw [hf k hk, j3, nI_tn (by omega)]) (fun k hk => by
        obtain ⟨j, j1, j2, j3⟩ := in_range (ws k) (by omega) (c1 k hk) (by omega)
        show 1 ≤ (ws k).toNatClampNeg ∧ (ws k).toNatClampNeg ≤ 9
        rw [j3, nI_tn (by omega)]
        exact ⟨j1, j2⟩)
      refine ⟨F, ?_, ?_, e3, e4⟩
      · by_cases c3 : 60 < totF (bParAdd B s n (fun k => (ws k).toNatClampNeg)) s
        · rw [decide_eq_true ((tot_other hV hs).mpr c3)] at e1
          rw [decide_eq_true c3]
          exact e1
        · rw [decide_eq_false (fun z => c3 ((tot_other hV hs).mp z))] at e1
          rw [decide_eq_false c3]
          exact e1
      · by_cases c3 : 60 < totF (bParAdd B s n (fun k => (ws k).toNatClampNeg)) s
        · rw [decide_eq_true c3]
          exact Or.inl rfl
        · rw [decide_eq_false c3]
          exact Or.inr ⟨⟨bNp B s, by omega, rfl⟩, e2⟩
  · rw [pB_f c1]
    exact ⟨Or.inl ⟨0, by omega, rfl, rfl⟩, fun z => absurd z (show ¬ mI 2 = nI 0 by decide)⟩
def canW (s v : Int32) : Int32 := bif decide (0 ≤ s ∧ s ≤ 1) && decide (nI 9 ≤ v ∧ v ≤ nI 40) then nI 0 else mI 2
theorem o_wid {m : Nat} {kf : Nat → Nat} {f : Nat → Nat → Int32} {B : BK} (hR : nowR (f 100) B) (hV : VB B) (s v : Int32) :
    canR (canW s v) (aWid B s v) ∧ (canW s v = nI 0 → ∃ F, Run n_X7_widthBecomes 110 0 (ini n_X7_widthBecomes [.ref 98, .int s, .int v]) [] (HH m kf f) (Ret (some (.int (aWid B s v).1)) (HH m kf F)) ∧ comR f F (aWid B s v)) := by
  unfold canW aWid
  cases hc : (decide (0 ≤ s ∧ s ≤ 1) && decide (nI 9 ≤ v ∧ v ≤ nI 40)) with
  | false => exact ⟨Or.inl ⟨0, by omega, rfl, rfl⟩, fun z => absurd z (show ¬ mI 2 = nI 0 by decide)⟩
  | true =>
    rw [Bool.and_eq_true] at hc
    obtain ⟨k, k1, k2, k3⟩ := in_range v (by omega) (of_decide_eq_true hc.2) (by omega)
    obtain ⟨Z, z1, z2⟩ : ∃ Z, Z < 2 ∧ s = nI Z := by
      rcases int_lo (of_decide_eq_true hc.1) with e | e
      · exact ⟨0, by omega, e⟩
      · exact ⟨1, by omega, e⟩
    subst k3; subst z2
    rw [nI_tn (show Z < 2 ^ 31 by omega), nI_tn (show k < 2 ^ 31 by omega)]
    refine ⟨Or.inr rfl, fun _ => ?_⟩
    have e1 := m_widthBecomes (n := m) (kf := kf) (f := f) hR hV.1 z1 k1 k2
    have hw := (hV.1.2.2.1 Z z1).2
    refine ⟨hset (hset f 100 Z (nI k)) 98 4 (nI 0), ?_, ?_, ?_, ?_⟩
    · by_cases c3 : 60 < totF (bWidTo B Z k) Z
      · rw [decide_eq_true ((tot_otherW hV z1).mpr c3)] at e1
        rw [decide_eq_true c3]
        exact e1
      · rw [decide_eq_false (fun z => c3 ((tot_otherW hV z1).mp z))] at e1
        rw [decide_eq_false c3]
        exact e1
    · by_cases c3 : 60 < totF (bWidTo B Z k) Z
      · rw [decide_eq_true c3]
        exact Or.inl rfl
      · rw [decide_eq_false c3]
        refine Or.inr ⟨⟨bWd B Z, by omega, rfl⟩, ?_⟩
        rw [hset_ne (by omega), hs_s]
        exact nowR_wid hV.1 z1 hR
    · rw [hs_s, hset_ne (by omega)]
    · intro c x1 x2
      rw [hset_ne x1, hset_ne x2]
noncomputable def canS (w v : Int32) : Int32 := bif decide (nI 0 ≤ w ∧ w ≤ nI 2) && decide (nI (seLo w.toNatClampNeg) ≤ v ∧ v ≤ nI (seHi w.toNatClampNeg)) then nI 0 else mI 2
theorem o_set {m : Nat} {kf : Nat → Nat} {f : Nat → Nat → Int32} {B : BK} (hR : nowR (f 100) B) (hV : VB B) (w v : Int32) :
    canR (canS w v) (aSet B w v) ∧ (canS w v = nI 0 → ∃ F, Run n_X7_setBecomes 110 0 (ini n_X7_setBecomes [.ref 98, .int w, .int v]) [] (HH m kf f) (Ret (some (.int (aSet B w v).1)) (HH m kf F)) ∧ comR f F (aSet B w v)) := by
  unfold canS aSet
  cases hc : (decide (nI 0 ≤ w ∧ w ≤ nI 2) && decide (nI (seLo w.toNatClampNeg) ≤ v ∧ v ≤ nI (seHi w.toNatClampNeg))) with
  | false => exact ⟨Or.inl ⟨0, by omega, rfl, rfl⟩, fun z => absurd z (show ¬ mI 2 = nI 0 by decide)⟩
  | true =>
    rw [Bool.and_eq_true] at hc
    have hh := seHi_le w.toNatClampNeg
    obtain ⟨k, k1, k2, k3⟩ := in_range v (by omega) (of_decide_eq_true hc.2) (seLo_hi _)
    obtain ⟨j, j1, j2, j3⟩ := in_range w (by omega) (of_decide_eq_true hc.1) (by omega)
    subst k3; subst j3
    rw [nI_tn (show j < 2 ^ 31 by omega)] at hh k1 k2 ⊢
    rw [nI_tn (show k < 2 ^ 31 by omega)]
    refine ⟨Or.inr rfl, fun _ => ?_⟩
    have hse := hV.1.2.2.2.1
    have hb : bSe B j < 1000 := by
      rcases (show j = 0 ∨ j = 1 ∨ j = 2 by omega) with e | e | e <;> subst e <;> omega
    refine ⟨_, m_setBecomes hR (show j < 3 by omega), Or.inr ⟨⟨bSe B j, hb, rfl⟩, ?_⟩, ?_, ?_⟩
    · rw [hset_ne (by omega), hs_s]
      exact nowR_set (by omega) hR
    · rw [hs_s, hset_ne (by omega)]
    · intro c x1 x2
      rw [hset_ne x1, hset_ne x2]
theorem o_tie {m : Nat} {kf : Nat → Nat} {f : Nat → Nat → Int32} {B : BK} (hR : nowR (f 100) B) (hV : VB B) (p q w : Int32) :
    canR (canT B p q w) (aTie B p q w) ∧ (canT B p q w = nI 0 → ∃ F, Run n_X7_tieComes 110 0 (ini n_X7_tieComes [.ref 98, .int p, .int q, .int w]) [] (HH m kf f) (Ret (some (.int (aTie B p q w).1)) (HH m kf F)) ∧ comR f F (aTie B p q w)) := by
  unfold canT aTie
  cases hc : (isPa B (nI 0) p && isPa B (nI 1) q && decide (nI 1 ≤ w ∧ w ≤ nI 9)) with
  | false => exact ⟨Or.inl ⟨0, by omega, rfl, rfl⟩, fun z => absurd z (show ¬ mI 2 = nI 0 by decide)⟩
  | true =>
    rw [Bool.and_eq_true, Bool.and_eq_true] at hc
    obtain ⟨⟨h1, h2⟩, h3⟩ := hc
    simp only [cond_true]
    cases hd : pB (∃ i, i < bNt B ∧ nI (bTi B 0 i) = p ∧ nI (bTi B 1 i) = q) with
    | true => exact ⟨Or.inl ⟨1, by omega, rfl, rfl⟩, fun z => absurd z (show ¬ mI 3 = nI 0 by decide)⟩
    | false =>
      simp only [cond_false]
      by_cases ht : 10 ≤ bNt B
      · rw [decide_eq_true ht]
        exact ⟨Or.inl ⟨2, by omega, rfl, rfl⟩, fun z => absurd z (show ¬ mI 4 = nI 0 by decide)⟩
      · rw [decide_eq_false ht]
        refine ⟨Or.inr rfl, fun _ => ?_⟩
        obtain ⟨s0, p0, q1, q2, q3, q4⟩ := isPa_of h1
        obtain ⟨s1, p1, y1, y2, y3, y4⟩ := isPa_of h2
        obtain ⟨k, k1, k2, k3⟩ := in_range w (by omega) (of_decide_eq_true h3) (by omega)
        have hn0 := hV.1.1 s0 q1
        have hn1 := hV.1.1 s1 y1
        subst q4; subst y4; subst k3
        rw [nI_tn (show p0 < 2 ^ 31 by omega), nI_tn (show p1 < 2 ^ 31 by omega), nI_tn (show k < 2 ^ 31 by omega)]
        obtain ⟨F, e1, e2, e3, e4⟩ := m_tieComes (n := m) (kf := kf) (p := p0) (q := p1) (w := k) hR hV.1 (by omega)
        exact ⟨F, e1, Or.inr ⟨⟨bNt B, by omega, rfl⟩, e2⟩, e3, e4⟩
end
