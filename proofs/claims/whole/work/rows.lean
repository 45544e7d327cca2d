section
-- ===== PART A: goes FIRST, ahead of the names: the tables' words, and 'selects' of the private methods out of them =====
/-- a private method of a class that the tables say can be made, by its rows of tables_1 -/
def lw_okq (q : MethodName × Nat) : Prop := (q.1.cls ≠ "java/lang/invoke/MethodHandle" ∧ q.1.cls ≠ "java/lang/invoke/VarHandle") ∧ Cond.instantiable q.1.cls q.2 ∈ tables_1 ∧ Cond.privateMethod q.1 ∈ tables_1 ∧ Cond.instanceMethod q.1 ∈ tables_1
theorem lw_p0 : lw_okq (⟨"ApronStrings", "isThere", "(I)Z"⟩, 9) := ⟨⟨by decide +kernel, by decide +kernel⟩, List.mem_of_getElem? (i := 14) (by decide +kernel), List.mem_of_getElem? (i := 264) (by decide +kernel), List.mem_of_getElem? (i := 265) (by decide +kernel)⟩
theorem lw_p1 : lw_okq (⟨"ApronStrings", "refuse", "(I)I"⟩, 9) := ⟨⟨by decide +kernel, by decide +kernel⟩, List.mem_of_getElem? (i := 14) (by decide +kernel), List.mem_of_getElem? (i := 268) (by decide +kernel), List.mem_of_getElem? (i := 269) (by decide +kernel)⟩
theorem lw_p2 : lw_okq (⟨"ApronStrings$Road", "yielding", "(I)I"⟩, 15) := ⟨⟨by decide +kernel, by decide +kernel⟩, List.mem_of_getElem? (i := 51) (by decide +kernel), List.mem_of_getElem? (i := 293) (by decide +kernel), List.mem_of_getElem? (i := 294) (by decide +kernel)⟩
theorem lw_p3 : lw_okq (⟨"ApronStrings$Road", "hasChildren", "(I)Z"⟩, 15) := ⟨⟨by decide +kernel, by decide +kernel⟩, List.mem_of_getElem? (i := 51) (by decide +kernel), List.mem_of_getElem? (i := 297) (by decide +kernel), List.mem_of_getElem? (i := 298) (by decide +kernel)⟩
theorem lw_p4 : lw_okq (⟨"ApronStrings$Road", "steps", "(I)I"⟩, 15) := ⟨⟨by decide +kernel, by decide +kernel⟩, List.mem_of_getElem? (i := 51) (by decide +kernel), List.mem_of_getElem? (i := 321) (by decide +kernel), List.mem_of_getElem? (i := 322) (by decide +kernel)⟩
theorem lw_p5 : lw_okq (⟨"ApronStrings$Reader", "readValue", "(LApronStrings$Row;II)I"⟩, 6) := ⟨⟨by decide +kernel, by decide +kernel⟩, List.mem_of_getElem? (i := 152) (by decide +kernel), List.mem_of_getElem? (i := 378) (by decide +kernel), List.mem_of_getElem? (i := 379) (by decide +kernel)⟩
theorem lw_p6 : lw_okq (⟨"ApronStrings$Reader", "openOne", "(I)I"⟩, 6) := ⟨⟨by decide +kernel, by decide +kernel⟩, List.mem_of_getElem? (i := 152) (by decide +kernel), List.mem_of_getElem? (i := 382) (by decide +kernel), List.mem_of_getElem? (i := 383) (by decide +kernel)⟩
theorem lw_p7 : lw_okq (⟨"ApronStrings$Reader", "await", "(I)V"⟩, 6) := ⟨⟨by decide +kernel, by decide +kernel⟩, List.mem_of_getElem? (i := 152) (by decide +kernel), List.mem_of_getElem? (i := 386) (by decide +kernel), List.mem_of_getElem? (i := 387) (by decide +kernel)⟩
theorem lw_p8 : lw_okq (⟨"ApronStrings$Reader", "write", "(I)V"⟩, 6) := ⟨⟨by decide +kernel, by decide +kernel⟩, List.mem_of_getElem? (i := 152) (by decide +kernel), List.mem_of_getElem? (i := 399) (by decide +kernel), List.mem_of_getElem? (i := 400) (by decide +kernel)⟩
theorem lw_p9 : lw_okq (⟨"ApronStrings$Reader", "endValue", "()V"⟩, 6) := ⟨⟨by decide +kernel, by decide +kernel⟩, List.mem_of_getElem? (i := 152) (by decide +kernel), List.mem_of_getElem? (i := 408) (by decide +kernel), List.mem_of_getElem? (i := 409) (by decide +kernel)⟩
theorem lw_p10 : lw_okq (⟨"ApronStrings$Reader", "readJoin", "(I)I"⟩, 6) := ⟨⟨by decide +kernel, by decide +kernel⟩, List.mem_of_getElem? (i := 152) (by decide +kernel), List.mem_of_getElem? (i := 412) (by decide +kernel), List.mem_of_getElem? (i := 413) (by decide +kernel)⟩
theorem lw_p11 : lw_okq (⟨"ApronStrings$Reader", "closeOne", "()I"⟩, 6) := ⟨⟨by decide +kernel, by decide +kernel⟩, List.mem_of_getElem? (i := 152) (by decide +kernel), List.mem_of_getElem? (i := 416) (by decide +kernel), List.mem_of_getElem? (i := 417) (by decide +kernel)⟩
theorem lw_p12 : lw_okq (⟨"ApronStrings$Reader", "settle", "(I)V"⟩, 6) := ⟨⟨by decide +kernel, by decide +kernel⟩, List.mem_of_getElem? (i := 152) (by decide +kernel), List.mem_of_getElem? (i := 420) (by decide +kernel), List.mem_of_getElem? (i := 421) (by decide +kernel)⟩
theorem lw_p13 : lw_okq (⟨"ApronStrings", "lawOf", "(I)LApronStrings$Law;"⟩, 9) := ⟨⟨by decide +kernel, by decide +kernel⟩, List.mem_of_getElem? (i := 14) (by decide +kernel), List.mem_of_getElem? (i := 427) (by decide +kernel), List.mem_of_getElem? (i := 428) (by decide +kernel)⟩
theorem lw_p14 : lw_okq (⟨"ApronStrings$Road", "step", "(II)Z"⟩, 15) := ⟨⟨by decide +kernel, by decide +kernel⟩, List.mem_of_getElem? (i := 51) (by decide +kernel), List.mem_of_getElem? (i := 457) (by decide +kernel), List.mem_of_getElem? (i := 458) (by decide +kernel)⟩
theorem lw_p15 : lw_okq (⟨"ApronStrings$Road", "keep", "()V"⟩, 15) := ⟨⟨by decide +kernel, by decide +kernel⟩, List.mem_of_getElem? (i := 51) (by decide +kernel), List.mem_of_getElem? (i := 461) (by decide +kernel), List.mem_of_getElem? (i := 462) (by decide +kernel)⟩
def lw_privs_1 : List (MethodName × Nat) := [(⟨"ApronStrings", "isThere", "(I)Z"⟩, 9), (⟨"ApronStrings", "refuse", "(I)I"⟩, 9), (⟨"ApronStrings$Road", "yielding", "(I)I"⟩, 15), (⟨"ApronStrings$Road", "hasChildren", "(I)Z"⟩, 15), (⟨"ApronStrings$Road", "steps", "(I)I"⟩, 15), (⟨"ApronStrings$Reader", "readValue", "(LApronStrings$Row;II)I"⟩, 6), (⟨"ApronStrings$Reader", "openOne", "(I)I"⟩, 6), (⟨"ApronStrings$Reader", "await", "(I)V"⟩, 6), (⟨"ApronStrings$Reader", "write", "(I)V"⟩, 6), (⟨"ApronStrings$Reader", "endValue", "()V"⟩, 6), (⟨"ApronStrings$Reader", "readJoin", "(I)I"⟩, 6), (⟨"ApronStrings$Reader", "closeOne", "()I"⟩, 6), (⟨"ApronStrings$Reader", "settle", "(I)V"⟩, 6), (⟨"ApronStrings", "lawOf", "(I)LApronStrings$Law;"⟩, 9), (⟨"ApronStrings$Road", "step", "(II)Z"⟩, 15), (⟨"ApronStrings$Road", "keep", "()V"⟩, 15)]
theorem lw_r1 : ∀ q ∈ lw_privs_1, lw_okq q := List.forall_mem_cons.mpr ⟨lw_p0, List.forall_mem_cons.mpr ⟨lw_p1, List.forall_mem_cons.mpr ⟨lw_p2, List.forall_mem_cons.mpr ⟨lw_p3, List.forall_mem_cons.mpr ⟨lw_p4, List.forall_mem_cons.mpr ⟨lw_p5, List.forall_mem_cons.mpr ⟨lw_p6, List.forall_mem_cons.mpr ⟨lw_p7, List.forall_mem_cons.mpr ⟨lw_p8, List.forall_mem_cons.mpr ⟨lw_p9, List.forall_mem_cons.mpr ⟨lw_p10, List.forall_mem_cons.mpr ⟨lw_p11, List.forall_mem_cons.mpr ⟨lw_p12, List.forall_mem_cons.mpr ⟨lw_p13, List.forall_mem_cons.mpr ⟨lw_p14, List.forall_mem_cons.mpr ⟨lw_p15, fun _ h => absurd h List.not_mem_nil⟩⟩⟩⟩⟩⟩⟩⟩⟩⟩⟩⟩⟩⟩⟩⟩
theorem lw_p16 : lw_okq (⟨"ApronStrings$Road", "leastTooShort", "()I"⟩, 15) := ⟨⟨by decide +kernel, by decide +kernel⟩, List.mem_of_getElem? (i := 51) (by decide +kernel), List.mem_of_getElem? (i := 468) (by decide +kernel), List.mem_of_getElem? (i := 469) (by decide +kernel)⟩
theorem lw_p17 : lw_okq (⟨"ApronStrings$Road", "letOut", "(II)V"⟩, 15) := ⟨⟨by decide +kernel, by decide +kernel⟩, List.mem_of_getElem? (i := 51) (by decide +kernel), List.mem_of_getElem? (i := 472) (by decide +kernel), List.mem_of_getElem? (i := 473) (by decide +kernel)⟩
theorem lw_p18 : lw_okq (⟨"ApronStrings$Road", "unmovedEnd", "(I)I"⟩, 15) := ⟨⟨by decide +kernel, by decide +kernel⟩, List.mem_of_getElem? (i := 51) (by decide +kernel), List.mem_of_getElem? (i := 476) (by decide +kernel), List.mem_of_getElem? (i := 477) (by decide +kernel)⟩
theorem lw_p19 : lw_okq (⟨"ApronStrings$Road", "putBack", "()V"⟩, 15) := ⟨⟨by decide +kernel, by decide +kernel⟩, List.mem_of_getElem? (i := 51) (by decide +kernel), List.mem_of_getElem? (i := 481) (by decide +kernel), List.mem_of_getElem? (i := 482) (by decide +kernel)⟩
theorem lw_p20 : lw_okq (⟨"ApronStrings$Road", "pull", "(III)V"⟩, 15) := ⟨⟨by decide +kernel, by decide +kernel⟩, List.mem_of_getElem? (i := 51) (by decide +kernel), List.mem_of_getElem? (i := 485) (by decide +kernel), List.mem_of_getElem? (i := 486) (by decide +kernel)⟩
theorem lw_p21 : lw_okq (⟨"ApronStrings$Road", "sever", "(I)V"⟩, 15) := ⟨⟨by decide +kernel, by decide +kernel⟩, List.mem_of_getElem? (i := 51) (by decide +kernel), List.mem_of_getElem? (i := 489) (by decide +kernel), List.mem_of_getElem? (i := 490) (by decide +kernel)⟩
theorem lw_p22 : lw_okq (⟨"ApronStrings$Road", "come", "(II)V"⟩, 15) := ⟨⟨by decide +kernel, by decide +kernel⟩, List.mem_of_getElem? (i := 51) (by decide +kernel), List.mem_of_getElem? (i := 494) (by decide +kernel), List.mem_of_getElem? (i := 495) (by decide +kernel)⟩
theorem lw_p23 : lw_okq (⟨"ApronStrings$Road", "draw", "()I"⟩, 15) := ⟨⟨by decide +kernel, by decide +kernel⟩, List.mem_of_getElem? (i := 51) (by decide +kernel), List.mem_of_getElem? (i := 506) (by decide +kernel), List.mem_of_getElem? (i := 507) (by decide +kernel)⟩
theorem lw_p24 : lw_okq (⟨"ApronStrings$Road", "low", "(I)I"⟩, 15) := ⟨⟨by decide +kernel, by decide +kernel⟩, List.mem_of_getElem? (i := 51) (by decide +kernel), List.mem_of_getElem? (i := 545) (by decide +kernel), List.mem_of_getElem? (i := 546) (by decide +kernel)⟩
theorem lw_p25 : lw_okq (⟨"ApronStrings$Road", "high", "(I)I"⟩, 15) := ⟨⟨by decide +kernel, by decide +kernel⟩, List.mem_of_getElem? (i := 51) (by decide +kernel), List.mem_of_getElem? (i := 550) (by decide +kernel), List.mem_of_getElem? (i := 551) (by decide +kernel)⟩
theorem lw_p26 : lw_okq (⟨"ApronStrings", "staysTied", "(III)Z"⟩, 9) := ⟨⟨by decide +kernel, by decide +kernel⟩, List.mem_of_getElem? (i := 14) (by decide +kernel), List.mem_of_getElem? (i := 596) (by decide +kernel), List.mem_of_getElem? (i := 597) (by decide +kernel)⟩
theorem lw_p27 : lw_okq (⟨"ApronStrings", "cellWithout", "(III)I"⟩, 9) := ⟨⟨by decide +kernel, by decide +kernel⟩, List.mem_of_getElem? (i := 14) (by decide +kernel), List.mem_of_getElem? (i := 604) (by decide +kernel), List.mem_of_getElem? (i := 605) (by decide +kernel)⟩
theorem lw_p28 : lw_okq (⟨"ApronStrings", "wentSo", "(LApronStrings$Sheet;II)Z"⟩, 9) := ⟨⟨by decide +kernel, by decide +kernel⟩, List.mem_of_getElem? (i := 14) (by decide +kernel), List.mem_of_getElem? (i := 623) (by decide +kernel), List.mem_of_getElem? (i := 624) (by decide +kernel)⟩
theorem lw_p29 : lw_okq (⟨"ApronStrings$Voices", "speak", "(IIII)I"⟩, 6) := ⟨⟨by decide +kernel, by decide +kernel⟩, List.mem_of_getElem? (i := 179) (by decide +kernel), List.mem_of_getElem? (i := 635) (by decide +kernel), List.mem_of_getElem? (i := 636) (by decide +kernel)⟩
theorem lw_p30 : lw_okq (⟨"ApronStrings$Voices", "speakMother", "(III)I"⟩, 6) := ⟨⟨by decide +kernel, by decide +kernel⟩, List.mem_of_getElem? (i := 179) (by decide +kernel), List.mem_of_getElem? (i := 644) (by decide +kernel), List.mem_of_getElem? (i := 645) (by decide +kernel)⟩
theorem lw_p31 : lw_okq (⟨"ApronStrings$Voices", "speakOther", "(III)I"⟩, 6) := ⟨⟨by decide +kernel, by decide +kernel⟩, List.mem_of_getElem? (i := 179) (by decide +kernel), List.mem_of_getElem? (i := 648) (by decide +kernel), List.mem_of_getElem? (i := 649) (by decide +kernel)⟩
def lw_privs_2 : List (MethodName × Nat) := [(⟨"ApronStrings$Road", "leastTooShort", "()I"⟩, 15), (⟨"ApronStrings$Road", "letOut", "(II)V"⟩, 15), (⟨"ApronStrings$Road", "unmovedEnd", "(I)I"⟩, 15), (⟨"ApronStrings$Road", "putBack", "()V"⟩, 15), (⟨"ApronStrings$Road", "pull", "(III)V"⟩, 15), (⟨"ApronStrings$Road", "sever", "(I)V"⟩, 15), (⟨"ApronStrings$Road", "come", "(II)V"⟩, 15), (⟨"ApronStrings$Road", "draw", "()I"⟩, 15), (⟨"ApronStrings$Road", "low", "(I)I"⟩, 15), (⟨"ApronStrings$Road", "high", "(I)I"⟩, 15), (⟨"ApronStrings", "staysTied", "(III)Z"⟩, 9), (⟨"ApronStrings", "cellWithout", "(III)I"⟩, 9), (⟨"ApronStrings", "wentSo", "(LApronStrings$Sheet;II)Z"⟩, 9), (⟨"ApronStrings$Voices", "speak", "(IIII)I"⟩, 6), (⟨"ApronStrings$Voices", "speakMother", "(III)I"⟩, 6), (⟨"ApronStrings$Voices", "speakOther", "(III)I"⟩, 6)]
theorem lw_r2 : ∀ q ∈ lw_privs_2, lw_okq q := List.forall_mem_cons.mpr ⟨lw_p16, List.forall_mem_cons.mpr ⟨lw_p17, List.forall_mem_cons.mpr ⟨lw_p18, List.forall_mem_cons.mpr ⟨lw_p19, List.forall_mem_cons.mpr ⟨lw_p20, List.forall_mem_cons.mpr ⟨lw_p21, List.forall_mem_cons.mpr ⟨lw_p22, List.forall_mem_cons.mpr ⟨lw_p23, List.forall_mem_cons.mpr ⟨lw_p24, List.forall_mem_cons.mpr ⟨lw_p25, List.forall_mem_cons.mpr ⟨lw_p26, List.forall_mem_cons.mpr ⟨lw_p27, List.forall_mem_cons.mpr ⟨lw_p28, List.forall_mem_cons.mpr ⟨lw_p29, List.forall_mem_cons.mpr ⟨lw_p30, List.forall_mem_cons.mpr ⟨lw_p31, fun _ h => absurd h List.not_mem_nil⟩⟩⟩⟩⟩⟩⟩⟩⟩⟩⟩⟩⟩⟩⟩⟩
theorem lw_p32 : lw_okq (⟨"ApronStringsModel", "error", "(I)I"⟩, 22) := ⟨⟨by decide +kernel, by decide +kernel⟩, List.mem_of_getElem? (i := 727) (by decide +kernel), List.mem_of_getElem? (i := 807) (by decide +kernel), List.mem_of_getElem? (i := 808) (by decide +kernel)⟩
theorem lw_p33 : lw_okq (⟨"ApronStringsModel", "whole", "()Z"⟩, 22) := ⟨⟨by decide +kernel, by decide +kernel⟩, List.mem_of_getElem? (i := 727) (by decide +kernel), List.mem_of_getElem? (i := 817) (by decide +kernel), List.mem_of_getElem? (i := 818) (by decide +kernel)⟩
theorem lw_p34 : lw_okq (⟨"ApronStringsModel", "both", "()Z"⟩, 22) := ⟨⟨by decide +kernel, by decide +kernel⟩, List.mem_of_getElem? (i := 727) (by decide +kernel), List.mem_of_getElem? (i := 821) (by decide +kernel), List.mem_of_getElem? (i := 822) (by decide +kernel)⟩
theorem lw_p35 : lw_okq (⟨"ApronStringsModel", "compared", "()Z"⟩, 22) := ⟨⟨by decide +kernel, by decide +kernel⟩, List.mem_of_getElem? (i := 727) (by decide +kernel), List.mem_of_getElem? (i := 825) (by decide +kernel), List.mem_of_getElem? (i := 826) (by decide +kernel)⟩
theorem lw_p36 : lw_okq (⟨"ApronStringsModel", "sum", "()Z"⟩, 22) := ⟨⟨by decide +kernel, by decide +kernel⟩, List.mem_of_getElem? (i := 727) (by decide +kernel), List.mem_of_getElem? (i := 829) (by decide +kernel), List.mem_of_getElem? (i := 830) (by decide +kernel)⟩
theorem lw_p37 : lw_okq (⟨"ApronStringsModel", "product", "()Z"⟩, 22) := ⟨⟨by decide +kernel, by decide +kernel⟩, List.mem_of_getElem? (i := 727) (by decide +kernel), List.mem_of_getElem? (i := 833) (by decide +kernel), List.mem_of_getElem? (i := 834) (by decide +kernel)⟩
theorem lw_p38 : lw_okq (⟨"ApronStringsModel", "one", "()Z"⟩, 22) := ⟨⟨by decide +kernel, by decide +kernel⟩, List.mem_of_getElem? (i := 727) (by decide +kernel), List.mem_of_getElem? (i := 837) (by decide +kernel), List.mem_of_getElem? (i := 838) (by decide +kernel)⟩
theorem lw_p39 : lw_okq (⟨"ApronStringsModel", "look", "()I"⟩, 22) := ⟨⟨by decide +kernel, by decide +kernel⟩, List.mem_of_getElem? (i := 727) (by decide +kernel), List.mem_of_getElem? (i := 841) (by decide +kernel), List.mem_of_getElem? (i := 842) (by decide +kernel)⟩
theorem lw_p40 : lw_okq (⟨"ApronStringsModel", "isName", "(I)Z"⟩, 22) := ⟨⟨by decide +kernel, by decide +kernel⟩, List.mem_of_getElem? (i := 727) (by decide +kernel), List.mem_of_getElem? (i := 845) (by decide +kernel), List.mem_of_getElem? (i := 846) (by decide +kernel)⟩
theorem lw_p41 : lw_okq (⟨"ApronStringsModel", "step1", "(II)V"⟩, 22) := ⟨⟨by decide +kernel, by decide +kernel⟩, List.mem_of_getElem? (i := 727) (by decide +kernel), List.mem_of_getElem? (i := 849) (by decide +kernel), List.mem_of_getElem? (i := 850) (by decide +kernel)⟩
theorem lw_p42 : lw_okq (⟨"ApronStringsModel", "opens", "()Z"⟩, 22) := ⟨⟨by decide +kernel, by decide +kernel⟩, List.mem_of_getElem? (i := 727) (by decide +kernel), List.mem_of_getElem? (i := 853) (by decide +kernel), List.mem_of_getElem? (i := 854) (by decide +kernel)⟩
theorem lw_p43 : lw_okq (⟨"ApronStringsModel", "hasText", "(I)Z"⟩, 22) := ⟨⟨by decide +kernel, by decide +kernel⟩, List.mem_of_getElem? (i := 727) (by decide +kernel), List.mem_of_getElem? (i := 861) (by decide +kernel), List.mem_of_getElem? (i := 862) (by decide +kernel)⟩
theorem lw_p44 : lw_okq (⟨"ApronStringsModel", "lays1", "(III)V"⟩, 22) := ⟨⟨by decide +kernel, by decide +kernel⟩, List.mem_of_getElem? (i := 727) (by decide +kernel), List.mem_of_getElem? (i := 875) (by decide +kernel), List.mem_of_getElem? (i := 876) (by decide +kernel)⟩
theorem lw_p45 : lw_okq (⟨"ApronStringsModel", "apartOf", "(I)I"⟩, 22) := ⟨⟨by decide +kernel, by decide +kernel⟩, List.mem_of_getElem? (i := 727) (by decide +kernel), List.mem_of_getElem? (i := 879) (by decide +kernel), List.mem_of_getElem? (i := 880) (by decide +kernel)⟩
theorem lw_p46 : lw_okq (⟨"ApronStringsModel", "isTied", "(I)Z"⟩, 22) := ⟨⟨by decide +kernel, by decide +kernel⟩, List.mem_of_getElem? (i := 727) (by decide +kernel), List.mem_of_getElem? (i := 883) (by decide +kernel), List.mem_of_getElem? (i := 884) (by decide +kernel)⟩
theorem lw_p47 : lw_okq (⟨"ApronStringsModel", "its", "(II)I"⟩, 22) := ⟨⟨by decide +kernel, by decide +kernel⟩, List.mem_of_getElem? (i := 727) (by decide +kernel), List.mem_of_getElem? (i := 887) (by decide +kernel), List.mem_of_getElem? (i := 888) (by decide +kernel)⟩
def lw_privs_3 : List (MethodName × Nat) := [(⟨"ApronStringsModel", "error", "(I)I"⟩, 22), (⟨"ApronStringsModel", "whole", "()Z"⟩, 22), (⟨"ApronStringsModel", "both", "()Z"⟩, 22), (⟨"ApronStringsModel", "compared", "()Z"⟩, 22), (⟨"ApronStringsModel", "sum", "()Z"⟩, 22), (⟨"ApronStringsModel", "product", "()Z"⟩, 22), (⟨"ApronStringsModel", "one", "()Z"⟩, 22), (⟨"ApronStringsModel", "look", "()I"⟩, 22), (⟨"ApronStringsModel", "isName", "(I)Z"⟩, 22), (⟨"ApronStringsModel", "step1", "(II)V"⟩, 22), (⟨"ApronStringsModel", "opens", "()Z"⟩, 22), (⟨"ApronStringsModel", "hasText", "(I)Z"⟩, 22), (⟨"ApronStringsModel", "lays1", "(III)V"⟩, 22), (⟨"ApronStringsModel", "apartOf", "(I)I"⟩, 22), (⟨"ApronStringsModel", "isTied", "(I)Z"⟩, 22), (⟨"ApronStringsModel", "its", "(II)I"⟩, 22)]
theorem lw_r3 : ∀ q ∈ lw_privs_3, lw_okq q := List.forall_mem_cons.mpr ⟨lw_p32, List.forall_mem_cons.mpr ⟨lw_p33, List.forall_mem_cons.mpr ⟨lw_p34, List.forall_mem_cons.mpr ⟨lw_p35, List.forall_mem_cons.mpr ⟨lw_p36, List.forall_mem_cons.mpr ⟨lw_p37, List.forall_mem_cons.mpr ⟨lw_p38, List.forall_mem_cons.mpr ⟨lw_p39, List.forall_mem_cons.mpr ⟨lw_p40, List.forall_mem_cons.mpr ⟨lw_p41, List.forall_mem_cons.mpr ⟨lw_p42, List.forall_mem_cons.mpr ⟨lw_p43, List.forall_mem_cons.mpr ⟨lw_p44, List.forall_mem_cons.mpr ⟨lw_p45, List.forall_mem_cons.mpr ⟨lw_p46, List.forall_mem_cons.mpr ⟨lw_p47, fun _ h => absurd h List.not_mem_nil⟩⟩⟩⟩⟩⟩⟩⟩⟩⟩⟩⟩⟩⟩⟩⟩
theorem lw_p48 : lw_okq (⟨"ApronStringsModel", "isOne", "(I)Z"⟩, 22) := ⟨⟨by decide +kernel, by decide +kernel⟩, List.mem_of_getElem? (i := 727) (by decide +kernel), List.mem_of_getElem? (i := 898) (by decide +kernel), List.mem_of_getElem? (i := 899) (by decide +kernel)⟩
theorem lw_p49 : lw_okq (⟨"ApronStringsModel", "doesNow", "(I)I"⟩, 22) := ⟨⟨by decide +kernel, by decide +kernel⟩, List.mem_of_getElem? (i := 727) (by decide +kernel), List.mem_of_getElem? (i := 902) (by decide +kernel), List.mem_of_getElem? (i := 903) (by decide +kernel)⟩
theorem lw_p50 : lw_okq (⟨"ApronStringsModel", "yieldsOf", "(I)I"⟩, 22) := ⟨⟨by decide +kernel, by decide +kernel⟩, List.mem_of_getElem? (i := 727) (by decide +kernel), List.mem_of_getElem? (i := 906) (by decide +kernel), List.mem_of_getElem? (i := 907) (by decide +kernel)⟩
theorem lw_p51 : lw_okq (⟨"ApronStringsModel", "hasChildren", "(I)Z"⟩, 22) := ⟨⟨by decide +kernel, by decide +kernel⟩, List.mem_of_getElem? (i := 727) (by decide +kernel), List.mem_of_getElem? (i := 910) (by decide +kernel), List.mem_of_getElem? (i := 911) (by decide +kernel)⟩
theorem lw_p52 : lw_okq (⟨"ApronStringsModel", "givenBy", "(IIII)I"⟩, 22) := ⟨⟨by decide +kernel, by decide +kernel⟩, List.mem_of_getElem? (i := 727) (by decide +kernel), List.mem_of_getElem? (i := 914) (by decide +kernel), List.mem_of_getElem? (i := 915) (by decide +kernel)⟩
theorem lw_p53 : lw_okq (⟨"ApronStringsModel", "worked", "(I)I"⟩, 22) := ⟨⟨by decide +kernel, by decide +kernel⟩, List.mem_of_getElem? (i := 727) (by decide +kernel), List.mem_of_getElem? (i := 918) (by decide +kernel), List.mem_of_getElem? (i := 919) (by decide +kernel)⟩
theorem lw_p54 : lw_okq (⟨"ApronStringsModel", "goesNow", "(I)I"⟩, 22) := ⟨⟨by decide +kernel, by decide +kernel⟩, List.mem_of_getElem? (i := 727) (by decide +kernel), List.mem_of_getElem? (i := 931) (by decide +kernel), List.mem_of_getElem? (i := 932) (by decide +kernel)⟩
theorem lw_p55 : lw_okq (⟨"ApronStringsModel", "stepsOf", "(I)I"⟩, 22) := ⟨⟨by decide +kernel, by decide +kernel⟩, List.mem_of_getElem? (i := 727) (by decide +kernel), List.mem_of_getElem? (i := 935) (by decide +kernel), List.mem_of_getElem? (i := 936) (by decide +kernel)⟩
theorem lw_p56 : lw_okq (⟨"ApronStringsModel", "change1", "(II)I"⟩, 22) := ⟨⟨by decide +kernel, by decide +kernel⟩, List.mem_of_getElem? (i := 727) (by decide +kernel), List.mem_of_getElem? (i := 954) (by decide +kernel), List.mem_of_getElem? (i := 955) (by decide +kernel)⟩
theorem lw_p57 : lw_okq (⟨"ApronStringsModel", "unties", "(I)V"⟩, 22) := ⟨⟨by decide +kernel, by decide +kernel⟩, List.mem_of_getElem? (i := 727) (by decide +kernel), List.mem_of_getElem? (i := 962) (by decide +kernel), List.mem_of_getElem? (i := 963) (by decide +kernel)⟩
theorem lw_p58 : lw_okq (⟨"ApronStringsModel", "goesOn", "(I)V"⟩, 22) := ⟨⟨by decide +kernel, by decide +kernel⟩, List.mem_of_getElem? (i := 727) (by decide +kernel), List.mem_of_getElem? (i := 985) (by decide +kernel), List.mem_of_getElem? (i := 986) (by decide +kernel)⟩
theorem lw_p59 : lw_okq (⟨"ApronStringsModel", "day1", "()V"⟩, 22) := ⟨⟨by decide +kernel, by decide +kernel⟩, List.mem_of_getElem? (i := 727) (by decide +kernel), List.mem_of_getElem? (i := 989) (by decide +kernel), List.mem_of_getElem? (i := 990) (by decide +kernel)⟩
theorem lw_p60 : lw_okq (⟨"ApronStringsModel", "oneStep", "(II)Z"⟩, 22) := ⟨⟨by decide +kernel, by decide +kernel⟩, List.mem_of_getElem? (i := 727) (by decide +kernel), List.mem_of_getElem? (i := 993) (by decide +kernel), List.mem_of_getElem? (i := 994) (by decide +kernel)⟩
theorem lw_p61 : lw_okq (⟨"ApronStringsModel", "tooShort", "()I"⟩, 22) := ⟨⟨by decide +kernel, by decide +kernel⟩, List.mem_of_getElem? (i := 727) (by decide +kernel), List.mem_of_getElem? (i := 997) (by decide +kernel), List.mem_of_getElem? (i := 998) (by decide +kernel)⟩
theorem lw_p62 : lw_okq (⟨"ApronStringsModel", "seesTo", "(I)Z"⟩, 22) := ⟨⟨by decide +kernel, by decide +kernel⟩, List.mem_of_getElem? (i := 727) (by decide +kernel), List.mem_of_getElem? (i := 1001) (by decide +kernel), List.mem_of_getElem? (i := 1002) (by decide +kernel)⟩
theorem lw_p63 : lw_okq (⟨"ApronStringsModel", "spares", "(II)V"⟩, 22) := ⟨⟨by decide +kernel, by decide +kernel⟩, List.mem_of_getElem? (i := 727) (by decide +kernel), List.mem_of_getElem? (i := 1005) (by decide +kernel), List.mem_of_getElem? (i := 1006) (by decide +kernel)⟩
def lw_privs_4 : List (MethodName × Nat) := [(⟨"ApronStringsModel", "isOne", "(I)Z"⟩, 22), (⟨"ApronStringsModel", "doesNow", "(I)I"⟩, 22), (⟨"ApronStringsModel", "yieldsOf", "(I)I"⟩, 22), (⟨"ApronStringsModel", "hasChildren", "(I)Z"⟩, 22), (⟨"ApronStringsModel", "givenBy", "(IIII)I"⟩, 22), (⟨"ApronStringsModel", "worked", "(I)I"⟩, 22), (⟨"ApronStringsModel", "goesNow", "(I)I"⟩, 22), (⟨"ApronStringsModel", "stepsOf", "(I)I"⟩, 22), (⟨"ApronStringsModel", "change1", "(II)I"⟩, 22), (⟨"ApronStringsModel", "unties", "(I)V"⟩, 22), (⟨"ApronStringsModel", "goesOn", "(I)V"⟩, 22), (⟨"ApronStringsModel", "day1", "()V"⟩, 22), (⟨"ApronStringsModel", "oneStep", "(II)Z"⟩, 22), (⟨"ApronStringsModel", "tooShort", "()I"⟩, 22), (⟨"ApronStringsModel", "seesTo", "(I)Z"⟩, 22), (⟨"ApronStringsModel", "spares", "(II)V"⟩, 22)]
theorem lw_r4 : ∀ q ∈ lw_privs_4, lw_okq q := List.forall_mem_cons.mpr ⟨lw_p48, List.forall_mem_cons.mpr ⟨lw_p49, List.forall_mem_cons.mpr ⟨lw_p50, List.forall_mem_cons.mpr ⟨lw_p51, List.forall_mem_cons.mpr ⟨lw_p52, List.forall_mem_cons.mpr ⟨lw_p53, List.forall_mem_cons.mpr ⟨lw_p54, List.forall_mem_cons.mpr ⟨lw_p55, List.forall_mem_cons.mpr ⟨lw_p56, List.forall_mem_cons.mpr ⟨lw_p57, List.forall_mem_cons.mpr ⟨lw_p58, List.forall_mem_cons.mpr ⟨lw_p59, List.forall_mem_cons.mpr ⟨lw_p60, List.forall_mem_cons.mpr ⟨lw_p61, List.forall_mem_cons.mpr ⟨lw_p62, List.forall_mem_cons.mpr ⟨lw_p63, fun _ h => absurd h List.not_mem_nil⟩⟩⟩⟩⟩⟩⟩⟩⟩⟩⟩⟩⟩⟩⟩⟩
theorem lw_p64 : lw_okq (⟨"ApronStringsModel", "cutsIt", "(I)V"⟩, 22) := ⟨⟨by decide +kernel, by decide +kernel⟩, List.mem_of_getElem? (i := 727) (by decide +kernel), List.mem_of_getElem? (i := 1009) (by decide +kernel), List.mem_of_getElem? (i := 1010) (by decide +kernel)⟩
theorem lw_p65 : lw_okq (⟨"ApronStringsModel", "comesNearer", "(II)V"⟩, 22) := ⟨⟨by decide +kernel, by decide +kernel⟩, List.mem_of_getElem? (i := 727) (by decide +kernel), List.mem_of_getElem? (i := 1013) (by decide +kernel), List.mem_of_getElem? (i := 1014) (by decide +kernel)⟩
theorem lw_p66 : lw_okq (⟨"ApronStringsModel", "draw", "()I"⟩, 22) := ⟨⟨by decide +kernel, by decide +kernel⟩, List.mem_of_getElem? (i := 727) (by decide +kernel), List.mem_of_getElem? (i := 1021) (by decide +kernel), List.mem_of_getElem? (i := 1022) (by decide +kernel)⟩
theorem lw_p67 : lw_okq (⟨"ApronStringsModel", "lineOf", "(I)I"⟩, 22) := ⟨⟨by decide +kernel, by decide +kernel⟩, List.mem_of_getElem? (i := 727) (by decide +kernel), List.mem_of_getElem? (i := 1038) (by decide +kernel), List.mem_of_getElem? (i := 1039) (by decide +kernel)⟩
theorem lw_p68 : lw_okq (⟨"ApronStringsModel", "outTo", "(II)I"⟩, 22) := ⟨⟨by decide +kernel, by decide +kernel⟩, List.mem_of_getElem? (i := 727) (by decide +kernel), List.mem_of_getElem? (i := 1046) (by decide +kernel), List.mem_of_getElem? (i := 1047) (by decide +kernel)⟩
theorem lw_p69 : lw_okq (⟨"ApronStringsModel", "overAt", "(I)I"⟩, 22) := ⟨⟨by decide +kernel, by decide +kernel⟩, List.mem_of_getElem? (i := 727) (by decide +kernel), List.mem_of_getElem? (i := 1054) (by decide +kernel), List.mem_of_getElem? (i := 1055) (by decide +kernel)⟩
theorem lw_p70 : lw_okq (⟨"ApronStringsModel", "lowEnd", "(I)I"⟩, 22) := ⟨⟨by decide +kernel, by decide +kernel⟩, List.mem_of_getElem? (i := 727) (by decide +kernel), List.mem_of_getElem? (i := 1058) (by decide +kernel), List.mem_of_getElem? (i := 1059) (by decide +kernel)⟩
theorem lw_p71 : lw_okq (⟨"ApronStringsModel", "highEnd", "(I)I"⟩, 22) := ⟨⟨by decide +kernel, by decide +kernel⟩, List.mem_of_getElem? (i := 727) (by decide +kernel), List.mem_of_getElem? (i := 1062) (by decide +kernel), List.mem_of_getElem? (i := 1063) (by decide +kernel)⟩
theorem lw_p72 : lw_okq (⟨"ApronStringsModel", "doCross", "(II)Z"⟩, 22) := ⟨⟨by decide +kernel, by decide +kernel⟩, List.mem_of_getElem? (i := 727) (by decide +kernel), List.mem_of_getElem? (i := 1077) (by decide +kernel), List.mem_of_getElem? (i := 1078) (by decide +kernel)⟩
theorem lw_p73 : lw_okq (⟨"ApronStringsModel", "saves", "()V"⟩, 22) := ⟨⟨by decide +kernel, by decide +kernel⟩, List.mem_of_getElem? (i := 727) (by decide +kernel), List.mem_of_getElem? (i := 1085) (by decide +kernel), List.mem_of_getElem? (i := 1086) (by decide +kernel)⟩
theorem lw_p74 : lw_okq (⟨"ApronStringsModel", "putsBack", "()V"⟩, 22) := ⟨⟨by decide +kernel, by decide +kernel⟩, List.mem_of_getElem? (i := 727) (by decide +kernel), List.mem_of_getElem? (i := 1089) (by decide +kernel), List.mem_of_getElem? (i := 1090) (by decide +kernel)⟩
theorem lw_p75 : lw_okq (⟨"ApronStringsModel", "tiedNow", "()I"⟩, 22) := ⟨⟨by decide +kernel, by decide +kernel⟩, List.mem_of_getElem? (i := 727) (by decide +kernel), List.mem_of_getElem? (i := 1097) (by decide +kernel), List.mem_of_getElem? (i := 1098) (by decide +kernel)⟩
theorem lw_p76 : lw_okq (⟨"ApronStringsModel", "holdsWith", "(III)Z"⟩, 22) := ⟨⟨by decide +kernel, by decide +kernel⟩, List.mem_of_getElem? (i := 727) (by decide +kernel), List.mem_of_getElem? (i := 1109) (by decide +kernel), List.mem_of_getElem? (i := 1110) (by decide +kernel)⟩
theorem lw_p77 : lw_okq (⟨"ApronStringsModel", "staysWithout", "(III)Z"⟩, 22) := ⟨⟨by decide +kernel, by decide +kernel⟩, List.mem_of_getElem? (i := 727) (by decide +kernel), List.mem_of_getElem? (i := 1117) (by decide +kernel), List.mem_of_getElem? (i := 1118) (by decide +kernel)⟩
theorem lw_p78 : lw_okq (⟨"ApronStringsModel", "kindNow", "()I"⟩, 22) := ⟨⟨by decide +kernel, by decide +kernel⟩, List.mem_of_getElem? (i := 727) (by decide +kernel), List.mem_of_getElem? (i := 1139) (by decide +kernel), List.mem_of_getElem? (i := 1140) (by decide +kernel)⟩
theorem lw_p79 : lw_okq (⟨"ApronStringsModel", "tiesAs", "(II)I"⟩, 22) := ⟨⟨by decide +kernel, by decide +kernel⟩, List.mem_of_getElem? (i := 727) (by decide +kernel), List.mem_of_getElem? (i := 1143) (by decide +kernel), List.mem_of_getElem? (i := 1144) (by decide +kernel)⟩
def lw_privs_5 : List (MethodName × Nat) := [(⟨"ApronStringsModel", "cutsIt", "(I)V"⟩, 22), (⟨"ApronStringsModel", "comesNearer", "(II)V"⟩, 22), (⟨"ApronStringsModel", "draw", "()I"⟩, 22), (⟨"ApronStringsModel", "lineOf", "(I)I"⟩, 22), (⟨"ApronStringsModel", "outTo", "(II)I"⟩, 22), (⟨"ApronStringsModel", "overAt", "(I)I"⟩, 22), (⟨"ApronStringsModel", "lowEnd", "(I)I"⟩, 22), (⟨"ApronStringsModel", "highEnd", "(I)I"⟩, 22), (⟨"ApronStringsModel", "doCross", "(II)Z"⟩, 22), (⟨"ApronStringsModel", "saves", "()V"⟩, 22), (⟨"ApronStringsModel", "putsBack", "()V"⟩, 22), (⟨"ApronStringsModel", "tiedNow", "()I"⟩, 22), (⟨"ApronStringsModel", "holdsWith", "(III)Z"⟩, 22), (⟨"ApronStringsModel", "staysWithout", "(III)Z"⟩, 22), (⟨"ApronStringsModel", "kindNow", "()I"⟩, 22), (⟨"ApronStringsModel", "tiesAs", "(II)I"⟩, 22)]
theorem lw_r5 : ∀ q ∈ lw_privs_5, lw_okq q := List.forall_mem_cons.mpr ⟨lw_p64, List.forall_mem_cons.mpr ⟨lw_p65, List.forall_mem_cons.mpr ⟨lw_p66, List.forall_mem_cons.mpr ⟨lw_p67, List.forall_mem_cons.mpr ⟨lw_p68, List.forall_mem_cons.mpr ⟨lw_p69, List.forall_mem_cons.mpr ⟨lw_p70, List.forall_mem_cons.mpr ⟨lw_p71, List.forall_mem_cons.mpr ⟨lw_p72, List.forall_mem_cons.mpr ⟨lw_p73, List.forall_mem_cons.mpr ⟨lw_p74, List.forall_mem_cons.mpr ⟨lw_p75, List.forall_mem_cons.mpr ⟨lw_p76, List.forall_mem_cons.mpr ⟨lw_p77, List.forall_mem_cons.mpr ⟨lw_p78, List.forall_mem_cons.mpr ⟨lw_p79, fun _ h => absurd h List.not_mem_nil⟩⟩⟩⟩⟩⟩⟩⟩⟩⟩⟩⟩⟩⟩⟩⟩
theorem lw_p80 : lw_okq (⟨"ApronStringsModel", "begins", "(I)V"⟩, 22) := ⟨⟨by decide +kernel, by decide +kernel⟩, List.mem_of_getElem? (i := 727) (by decide +kernel), List.mem_of_getElem? (i := 1147) (by decide +kernel), List.mem_of_getElem? (i := 1148) (by decide +kernel)⟩
theorem lw_p81 : lw_okq (⟨"ApronStringsModel", "letsAs", "(II)I"⟩, 22) := ⟨⟨by decide +kernel, by decide +kernel⟩, List.mem_of_getElem? (i := 727) (by decide +kernel), List.mem_of_getElem? (i := 1151) (by decide +kernel), List.mem_of_getElem? (i := 1152) (by decide +kernel)⟩
theorem lw_p82 : lw_okq (⟨"ApronStringsModel", "mNow", "()I"⟩, 22) := ⟨⟨by decide +kernel, by decide +kernel⟩, List.mem_of_getElem? (i := 727) (by decide +kernel), List.mem_of_getElem? (i := 1155) (by decide +kernel), List.mem_of_getElem? (i := 1156) (by decide +kernel)⟩
theorem lw_p83 : lw_okq (⟨"ApronStringsModel", "pullsAs", "(II)I"⟩, 22) := ⟨⟨by decide +kernel, by decide +kernel⟩, List.mem_of_getElem? (i := 727) (by decide +kernel), List.mem_of_getElem? (i := 1159) (by decide +kernel), List.mem_of_getElem? (i := 1160) (by decide +kernel)⟩
theorem lw_p84 : lw_okq (⟨"ApronStringsModel", "partsAs", "(II)I"⟩, 22) := ⟨⟨by decide +kernel, by decide +kernel⟩, List.mem_of_getElem? (i := 727) (by decide +kernel), List.mem_of_getElem? (i := 1163) (by decide +kernel), List.mem_of_getElem? (i := 1164) (by decide +kernel)⟩
theorem lw_p85 : lw_okq (⟨"ApronStringsModel", "lacks", "(I)I"⟩, 22) := ⟨⟨by decide +kernel, by decide +kernel⟩, List.mem_of_getElem? (i := 727) (by decide +kernel), List.mem_of_getElem? (i := 1187) (by decide +kernel), List.mem_of_getElem? (i := 1188) (by decide +kernel)⟩
theorem lw_p86 : lw_okq (⟨"ApronStringsModel", "sumOf", "(I)I"⟩, 22) := ⟨⟨by decide +kernel, by decide +kernel⟩, List.mem_of_getElem? (i := 727) (by decide +kernel), List.mem_of_getElem? (i := 1218) (by decide +kernel), List.mem_of_getElem? (i := 1219) (by decide +kernel)⟩
def lw_privs_6 : List (MethodName × Nat) := [(⟨"ApronStringsModel", "begins", "(I)V"⟩, 22), (⟨"ApronStringsModel", "letsAs", "(II)I"⟩, 22), (⟨"ApronStringsModel", "mNow", "()I"⟩, 22), (⟨"ApronStringsModel", "pullsAs", "(II)I"⟩, 22), (⟨"ApronStringsModel", "partsAs", "(II)I"⟩, 22), (⟨"ApronStringsModel", "lacks", "(I)I"⟩, 22), (⟨"ApronStringsModel", "sumOf", "(I)I"⟩, 22)]
theorem lw_r6 : ∀ q ∈ lw_privs_6, lw_okq q := List.forall_mem_cons.mpr ⟨lw_p80, List.forall_mem_cons.mpr ⟨lw_p81, List.forall_mem_cons.mpr ⟨lw_p82, List.forall_mem_cons.mpr ⟨lw_p83, List.forall_mem_cons.mpr ⟨lw_p84, List.forall_mem_cons.mpr ⟨lw_p85, List.forall_mem_cons.mpr ⟨lw_p86, fun _ h => absurd h List.not_mem_nil⟩⟩⟩⟩⟩⟩⟩
def lw_privs : List (MethodName × Nat) := lw_privs_1 ++ (lw_privs_2 ++ (lw_privs_3 ++ (lw_privs_4 ++ (lw_privs_5 ++ (lw_privs_6)))))
def lw_tbl : List Cond := k2_sels lw_privs ++ tables_1
theorem lw_privs_ok : ∀ q ∈ lw_privs, lw_okq q := by
  show ∀ q ∈ lw_privs_1 ++ (lw_privs_2 ++ (lw_privs_3 ++ (lw_privs_4 ++ (lw_privs_5 ++ (lw_privs_6))))), lw_okq q
  exact List.forall_mem_append.mpr ⟨lw_r1, List.forall_mem_append.mpr ⟨lw_r2, List.forall_mem_append.mpr ⟨lw_r3, List.forall_mem_append.mpr ⟨lw_r4, List.forall_mem_append.mpr ⟨lw_r5, lw_r6⟩⟩⟩⟩⟩
-- ===== end of PART A; then your names; then what follows =====
end
section
def RX0 : String := "ApronStrings$Law"
def TX0 : u_T := fun k => match k with
  | 0 => ("ApronStrings$Law", "parts", "[I", true)
  | 1 => ("ApronStrings$Law", "many", "I", false)
  | 2 => ("ApronStrings$Law", "use", "I", true)
  | _ => ("ApronStrings$Law", "open", "[I", true)
def tyX0 : Nat → FieldType := fun k => match k with
  | 0 => .array .int
  | 1 => .int
  | 2 => .int
  | _ => .array .int
abbrev wsX00 : List Cond := u_ws RX0 TX0 4
theorem nmX0 : ∀ a, a < 4 → ∀ b, b < 4 → a ≠ b → (TX0 a).2.1 ≠ (TX0 b).2.1 := by decide +kernel
theorem tyX0_ok : ∀ k, k < 4 → parseFieldDescriptor (TX0 k).2.2.1 = some (tyX0 k) := by decide +kernel
abbrev cX0_init : ByteArray := prog_2_method_1_code
def yX0_init : MethodName := ⟨RX0, "<init>", "(I)V"⟩
abbrev cX0_take : ByteArray := prog_2_method_2_code
def yX0_take : MethodName := ⟨RX0, "take", "([II)V"⟩
abbrev cX0_gives : ByteArray := prog_2_method_3_code
def yX0_gives : MethodName := ⟨RX0, "gives", "(III)I"⟩
abbrev cX0_joined : ByteArray := prog_2_method_4_code
def yX0_joined : MethodName := ⟨RX0, "joined", "(III)I"⟩
def RX1 : String := "ApronStrings$Reader"
def TX1 : u_T := fun k => match k with
  | 0 => ("ApronStrings$Reader", "parts", "[I", true)
  | 1 => ("ApronStrings$Reader", "many", "I", false)
  | 2 => ("ApronStrings$Reader", "waiting", "[I", true)
  | 3 => ("ApronStrings$Reader", "waits", "I", false)
  | 4 => ("ApronStrings$Reader", "open", "I", false)
  | _ => ("ApronStrings$Reader", "valueIsDue", "Z", false)
def tyX1 : Nat → FieldType := fun k => match k with
  | 0 => .array .int
  | 1 => .int
  | 2 => .array .int
  | 3 => .int
  | 4 => .int
  | _ => .boolean
abbrev wsX10 : List Cond := u_ws RX1 TX1 6
theorem nmX1 : ∀ a, a < 6 → ∀ b, b < 6 → a ≠ b → (TX1 a).2.1 ≠ (TX1 b).2.1 := by decide +kernel
theorem tyX1_ok : ∀ k, k < 6 → parseFieldDescriptor (TX1 k).2.2.1 = some (tyX1 k) := by decide +kernel
abbrev cX1_init : ByteArray := prog_3_method_1_code
def yX1_init : MethodName := ⟨RX1, "<init>", "()V"⟩
abbrev cX1_read : ByteArray := prog_3_method_2_code
def yX1_read : MethodName := ⟨RX1, "read", "(LApronStrings$Row;I)I"⟩
abbrev cX1_readValue : ByteArray := prog_3_method_3_code
def yX1_readValue : MethodName := ⟨RX1, "readValue", "(LApronStrings$Row;II)I"⟩
abbrev cX1_openOne : ByteArray := prog_3_method_4_code
def yX1_openOne : MethodName := ⟨RX1, "openOne", "(I)I"⟩
abbrev cX1_digits : ByteArray := prog_3_method_5_code
def yX1_digits : MethodName := ⟨RX1, "digits", "(LApronStrings$Row;I)I"⟩
abbrev cX1_isDigit : ByteArray := prog_3_method_6_code
def yX1_isDigit : MethodName := ⟨RX1, "isDigit", "(I)Z"⟩
abbrev cX1_number : ByteArray := prog_3_method_7_code
def yX1_number : MethodName := ⟨RX1, "number", "(LApronStrings$Row;II)I"⟩
abbrev cX1_nameOf : ByteArray := prog_3_method_8_code
def yX1_nameOf : MethodName := ⟨RX1, "nameOf", "(II)I"⟩
abbrev cX1_endValue : ByteArray := prog_3_method_9_code
def yX1_endValue : MethodName := ⟨RX1, "endValue", "()V"⟩
abbrev cX1_readJoin : ByteArray := prog_3_method_10_code
def yX1_readJoin : MethodName := ⟨RX1, "readJoin", "(I)I"⟩
abbrev cX1_closeOne : ByteArray := prog_3_method_11_code
def yX1_closeOne : MethodName := ⟨RX1, "closeOne", "()I"⟩
abbrev cX1_settle : ByteArray := prog_3_method_12_code
def yX1_settle : MethodName := ⟨RX1, "settle", "(I)V"⟩
abbrev cX1_rank : ByteArray := prog_3_method_13_code
def yX1_rank : MethodName := ⟨RX1, "rank", "(I)I"⟩
abbrev cX1_await : ByteArray := prog_3_method_14_code
def yX1_await : MethodName := ⟨RX1, "await", "(I)V"⟩
abbrev cX1_write : ByteArray := prog_3_method_15_code
def yX1_write : MethodName := ⟨RX1, "write", "(I)V"⟩
def RX2 : String := "ApronStrings$Road"
def TX2 : u_T := fun k => match k with
  | 0 => ("ApronStrings$Road", "does", "LApronStrings$Law;", true)
  | 1 => ("ApronStrings$Road", "goes", "LApronStrings$Law;", true)
  | 2 => ("ApronStrings$Road", "kind", "[I", true)
  | 3 => ("ApronStrings$Road", "m", "[I", true)
  | 4 => ("ApronStrings$Road", "mother", "[I", true)
  | 5 => ("ApronStrings$Road", "cell", "[I", true)
  | 6 => ("ApronStrings$Road", "out", "[I", true)
  | 7 => ("ApronStrings$Road", "spare", "[I", true)
  | 8 => ("ApronStrings$Road", "places", "[I", true)
  | 9 => ("ApronStrings$Road", "people", "I", false)
  | 10 => ("ApronStrings$Road", "day", "I", false)
  | 11 => ("ApronStrings$Road", "cuts", "I", false)
  | 12 => ("ApronStrings$Road", "z", "I", false)
  | 13 => ("ApronStrings$Road", "ahead", "[I", true)
  | _ => ("ApronStrings$Road", "moved", "I", false)
def tyX2 : Nat → FieldType := fun k => match k with
  | 0 => .object "ApronStrings$Law"
  | 1 => .object "ApronStrings$Law"
  | 2 => .array .int
  | 3 => .array .int
  | 4 => .array .int
  | 5 => .array .int
  | 6 => .array .int
  | 7 => .array .int
  | 8 => .array .int
  | 9 => .int
  | 10 => .int
  | 11 => .int
  | 12 => .int
  | 13 => .array .int
  | _ => .int
abbrev wsX20 : List Cond := u_ws RX2 TX2 15
theorem nmX2 : ∀ a, a < 15 → ∀ b, b < 15 → a ≠ b → (TX2 a).2.1 ≠ (TX2 b).2.1 := by decide +kernel
theorem tyX2_ok : ∀ k, k < 15 → parseFieldDescriptor (TX2 k).2.2.1 = some (tyX2 k) := by decide +kernel
abbrev cX2_init : ByteArray := prog_4_method_1_code
def yX2_init : MethodName := ⟨RX2, "<init>", "(LApronStrings$Law;LApronStrings$Law;)V"⟩
abbrev cX2_copy : ByteArray := prog_4_method_2_code
def yX2_copy : MethodName := ⟨RX2, "copy", "(LApronStrings$Road;)V"⟩
abbrev cX2_add : ByteArray := prog_4_method_3_code
def yX2_add : MethodName := ⟨RX2, "add", "(IIII)I"⟩
abbrev cX2_isTied : ByteArray := prog_4_method_4_code
def yX2_isTied : MethodName := ⟨RX2, "isTied", "(I)Z"⟩
abbrev cX2_tied : ByteArray := prog_4_method_5_code
def yX2_tied : MethodName := ⟨RX2, "tied", "()I"⟩
abbrev cX2_untie : ByteArray := prog_4_method_6_code
def yX2_untie : MethodName := ⟨RX2, "untie", "(I)V"⟩
abbrev cX2_apart : ByteArray := prog_4_method_7_code
def yX2_apart : MethodName := ⟨RX2, "apart", "(I)I"⟩
abbrev cX2_sum : ByteArray := prog_4_method_8_code
def yX2_sum : MethodName := ⟨RX2, "sum", "([I)I"⟩
abbrev cX2_lineOf : ByteArray := prog_4_method_9_code
def yX2_lineOf : MethodName := ⟨RX2, "lineOf", "(I)I"⟩
abbrev cX2_outUpTo : ByteArray := prog_4_method_10_code
def yX2_outUpTo : MethodName := ⟨RX2, "outUpTo", "(II)I"⟩
abbrev cX2_low : ByteArray := prog_4_method_11_code
def yX2_low : MethodName := ⟨RX2, "low", "(I)I"⟩
abbrev cX2_high : ByteArray := prog_4_method_12_code
def yX2_high : MethodName := ⟨RX2, "high", "(I)I"⟩
abbrev cX2_stringsOver : ByteArray := prog_4_method_13_code
def yX2_stringsOver : MethodName := ⟨RX2, "stringsOver", "(I)I"⟩
abbrev cX2_cross : ByteArray := prog_4_method_14_code
def yX2_cross : MethodName := ⟨RX2, "cross", "(II)Z"⟩
abbrev cX2_doesNow : ByteArray := prog_4_method_15_code
def yX2_doesNow : MethodName := ⟨RX2, "doesNow", "(I)I"⟩
abbrev cX2_goesNow : ByteArray := prog_4_method_16_code
def yX2_goesNow : MethodName := ⟨RX2, "goesNow", "(I)I"⟩
abbrev cX2_yielding : ByteArray := prog_4_method_17_code
def yX2_yielding : MethodName := ⟨RX2, "yielding", "(I)I"⟩
abbrev cX2_hasChildren : ByteArray := prog_4_method_18_code
def yX2_hasChildren : MethodName := ⟨RX2, "hasChildren", "(I)Z"⟩
abbrev cX2_steps : ByteArray := prog_4_method_19_code
def yX2_steps : MethodName := ⟨RX2, "steps", "(I)I"⟩
abbrev cX2_pass : ByteArray := prog_4_method_20_code
def yX2_pass : MethodName := ⟨RX2, "pass", "(I)V"⟩
abbrev cX2_passDay : ByteArray := prog_4_method_21_code
def yX2_passDay : MethodName := ⟨RX2, "passDay", "()V"⟩
abbrev cX2_drawPlace : ByteArray := prog_4_method_22_code
def yX2_drawPlace : MethodName := ⟨RX2, "drawPlace", "()V"⟩
abbrev cX2_draw : ByteArray := prog_4_method_23_code
def yX2_draw : MethodName := ⟨RX2, "draw", "()I"⟩
abbrev cX2_step : ByteArray := prog_4_method_24_code
def yX2_step : MethodName := ⟨RX2, "step", "(II)Z"⟩
abbrev cX2_keep : ByteArray := prog_4_method_25_code
def yX2_keep : MethodName := ⟨RX2, "keep", "()V"⟩
abbrev cX2_putBack : ByteArray := prog_4_method_26_code
def yX2_putBack : MethodName := ⟨RX2, "putBack", "()V"⟩
abbrev cX2_leastTooShort : ByteArray := prog_4_method_27_code
def yX2_leastTooShort : MethodName := ⟨RX2, "leastTooShort", "()I"⟩
abbrev cX2_unmovedEnd : ByteArray := prog_4_method_28_code
def yX2_unmovedEnd : MethodName := ⟨RX2, "unmovedEnd", "(I)I"⟩
abbrev cX2_pull : ByteArray := prog_4_method_29_code
def yX2_pull : MethodName := ⟨RX2, "pull", "(III)V"⟩
abbrev cX2_letOut : ByteArray := prog_4_method_30_code
def yX2_letOut : MethodName := ⟨RX2, "letOut", "(II)V"⟩
abbrev cX2_sever : ByteArray := prog_4_method_31_code
def yX2_sever : MethodName := ⟨RX2, "sever", "(I)V"⟩
abbrev cX2_come : ByteArray := prog_4_method_32_code
def yX2_come : MethodName := ⟨RX2, "come", "(II)V"⟩
def RX3 : String := "ApronStrings$Row"
def TX3 : u_T := fun k => match k with
  | 0 => ("ApronStrings$Row", "numbers", "[I", true)
  | _ => ("ApronStrings$Row", "many", "I", false)
def tyX3 : Nat → FieldType := fun k => match k with
  | 0 => .array .int
  | _ => .int
abbrev wsX30 : List Cond := u_ws RX3 TX3 2
theorem nmX3 : ∀ a, a < 2 → ∀ b, b < 2 → a ≠ b → (TX3 a).2.1 ≠ (TX3 b).2.1 := by decide +kernel
theorem tyX3_ok : ∀ k, k < 2 → parseFieldDescriptor (TX3 k).2.2.1 = some (tyX3 k) := by decide +kernel
abbrev cX3_init : ByteArray := prog_5_method_1_code
def yX3_init : MethodName := ⟨RX3, "<init>", "(I)V"⟩
abbrev cX3_add : ByteArray := prog_5_method_2_code
def yX3_add : MethodName := ⟨RX3, "add", "(I)V"⟩
abbrev cX3_copy : ByteArray := prog_5_method_3_code
def yX3_copy : MethodName := ⟨RX3, "copy", "(LApronStrings$Row;)V"⟩
def RX4 : String := "ApronStrings$Sheet"
def TX4 : u_T := fun k => match k with
  | 0 => ("ApronStrings$Sheet", "numbers", "[I", true)
  | 1 => ("ApronStrings$Sheet", "many", "I", false)
  | _ => ("ApronStrings$Sheet", "bits", "I", false)
def tyX4 : Nat → FieldType := fun k => match k with
  | 0 => .array .int
  | 1 => .int
  | _ => .int
abbrev wsX40 : List Cond := u_ws RX4 TX4 3
theorem nmX4 : ∀ a, a < 3 → ∀ b, b < 3 → a ≠ b → (TX4 a).2.1 ≠ (TX4 b).2.1 := by decide +kernel
theorem tyX4_ok : ∀ k, k < 3 → parseFieldDescriptor (TX4 k).2.2.1 = some (tyX4 k) := by decide +kernel
abbrev cX4_init : ByteArray := prog_6_method_1_code
def yX4_init : MethodName := ⟨RX4, "<init>", "()V"⟩
abbrev cX4_isMissing : ByteArray := prog_6_method_2_code
def yX4_isMissing : MethodName := ⟨RX4, "isMissing", "()Z"⟩
abbrev cX4_clear : ByteArray := prog_6_method_3_code
def yX4_clear : MethodName := ⟨RX4, "clear", "(II)V"⟩
abbrev cX4_write : ByteArray := prog_6_method_4_code
def yX4_write : MethodName := ⟨RX4, "write", "(II)V"⟩
abbrev cX4_hasRun : ByteArray := prog_6_method_5_code
def yX4_hasRun : MethodName := ⟨RX4, "hasRun", "(II)Z"⟩
def RX5 : String := "ApronStrings$State"
def TX5 : u_T := fun k => match k with
  | 0 => ("ApronStrings$State", "does", "LApronStrings$Law;", true)
  | 1 => ("ApronStrings$State", "goes", "LApronStrings$Law;", true)
  | 2 => ("ApronStrings$State", "road", "LApronStrings$Road;", true)
  | 3 => ("ApronStrings$State", "tape", "LApronStrings$Row;", true)
  | _ => ("ApronStrings$State", "waiting", "LApronStrings$Row;", true)
def tyX5 : Nat → FieldType := fun k => match k with
  | 0 => .object "ApronStrings$Law"
  | 1 => .object "ApronStrings$Law"
  | 2 => .object "ApronStrings$Road"
  | 3 => .object "ApronStrings$Row"
  | _ => .object "ApronStrings$Row"
abbrev wsX50 : List Cond := u_ws RX5 TX5 5
theorem nmX5 : ∀ a, a < 5 → ∀ b, b < 5 → a ≠ b → (TX5 a).2.1 ≠ (TX5 b).2.1 := by decide +kernel
theorem tyX5_ok : ∀ k, k < 5 → parseFieldDescriptor (TX5 k).2.2.1 = some (tyX5 k) := by decide +kernel
abbrev cX5_init : ByteArray := prog_7_method_1_code
def yX5_init : MethodName := ⟨RX5, "<init>", "()V"⟩
abbrev cX5_copy : ByteArray := prog_7_method_2_code
def yX5_copy : MethodName := ⟨RX5, "copy", "(LApronStrings$State;)V"⟩
def RX6 : String := "ApronStrings$Voices"
def TX6 : u_T := fun k => match k with
  | 0 => ("ApronStrings$Voices", "trace", "[I", true)
  | 1 => ("ApronStrings$Voices", "many", "I", false)
  | 2 => ("ApronStrings$Voices", "parted", "Z", false)
  | 3 => ("ApronStrings$Voices", "kind", "I", false)
  | 4 => ("ApronStrings$Voices", "k", "I", false)
  | _ => ("ApronStrings$Voices", "m", "I", false)
def tyX6 : Nat → FieldType := fun k => match k with
  | 0 => .array .int
  | 1 => .int
  | 2 => .boolean
  | 3 => .int
  | 4 => .int
  | _ => .int
abbrev wsX60 : List Cond := u_ws RX6 TX6 6
theorem nmX6 : ∀ a, a < 6 → ∀ b, b < 6 → a ≠ b → (TX6 a).2.1 ≠ (TX6 b).2.1 := by decide +kernel
theorem tyX6_ok : ∀ k, k < 6 → parseFieldDescriptor (TX6 k).2.2.1 = some (tyX6 k) := by decide +kernel
abbrev cX6_init : ByteArray := prog_8_method_1_code
def yX6_init : MethodName := ⟨RX6, "<init>", "()V"⟩
abbrev cX6_isUnder : ByteArray := prog_8_method_2_code
def yX6_isUnder : MethodName := ⟨RX6, "isUnder", "(II)Z"⟩
abbrev cX6_begin : ByteArray := prog_8_method_3_code
def yX6_begin : MethodName := ⟨RX6, "begin", "(IIIII)I"⟩
abbrev cX6_speak : ByteArray := prog_8_method_4_code
def yX6_speak : MethodName := ⟨RX6, "speak", "(IIII)I"⟩
abbrev cX6_speakMother : ByteArray := prog_8_method_5_code
def yX6_speakMother : MethodName := ⟨RX6, "speakMother", "(III)I"⟩
abbrev cX6_speakOther : ByteArray := prog_8_method_6_code
def yX6_speakOther : MethodName := ⟨RX6, "speakOther", "(III)I"⟩
abbrev cX6_bodyOf : ByteArray := prog_8_method_7_code
def yX6_bodyOf : MethodName := ⟨RX6, "bodyOf", "(II)I"⟩
def RX7 : String := "ApronStrings"
def TX7 : u_T := fun k => match k with
  | 0 => ("ApronStrings", "now", "LApronStrings$State;", true)
  | 1 => ("ApronStrings", "kept", "LApronStrings$State;", true)
  | 2 => ("ApronStrings", "road", "LApronStrings$Road;", true)
  | 3 => ("ApronStrings", "thought", "LApronStrings$Road;", true)
  | 4 => ("ApronStrings", "reader", "LApronStrings$Reader;", true)
  | 5 => ("ApronStrings", "voices", "LApronStrings$Voices;", true)
  | 6 => ("ApronStrings", "sheets", "[LApronStrings$Sheet;", true)
  | 7 => ("ApronStrings", "errors", "[I", true)
  | _ => ("ApronStrings", "images", "I", false)
def tyX7 : Nat → FieldType := fun k => match k with
  | 0 => .object "ApronStrings$State"
  | 1 => .object "ApronStrings$State"
  | 2 => .object "ApronStrings$Road"
  | 3 => .object "ApronStrings$Road"
  | 4 => .object "ApronStrings$Reader"
  | 5 => .object "ApronStrings$Voices"
  | 6 => .array (.object "ApronStrings$Sheet")
  | 7 => .array .int
  | _ => .int
abbrev wsX70 : List Cond := u_ws RX7 TX7 9
theorem nmX7 : ∀ a, a < 9 → ∀ b, b < 9 → a ≠ b → (TX7 a).2.1 ≠ (TX7 b).2.1 := by decide +kernel
theorem tyX7_ok : ∀ k, k < 9 → parseFieldDescriptor (TX7 k).2.2.1 = some (tyX7 k) := by decide +kernel
abbrev cX7_init : ByteArray := prog_1_method_1_code
def yX7_init : MethodName := ⟨RX7, "<init>", "()V"⟩
abbrev cX7_one : ByteArray := prog_1_method_2_code
def yX7_one : MethodName := ⟨RX7, "one", "(IIII)I"⟩
abbrev cX7_oneIs : ByteArray := prog_1_method_3_code
def yX7_oneIs : MethodName := ⟨RX7, "oneIs", "(II)I"⟩
abbrev cX7_become : ByteArray := prog_1_method_4_code
def yX7_become : MethodName := ⟨RX7, "become", "(II)I"⟩
abbrev cX7_as : ByteArray := prog_1_method_5_code
def yX7_as : MethodName := ⟨RX7, "as", "(II)I"⟩
abbrev cX7_reel : ByteArray := prog_1_method_6_code
def yX7_reel : MethodName := ⟨RX7, "reel", "(II)I"⟩
abbrev cX7_cut : ByteArray := prog_1_method_7_code
def yX7_cut : MethodName := ⟨RX7, "cut", "(I)I"⟩
abbrev cX7_list : ByteArray := prog_1_method_8_code
def yX7_list : MethodName := ⟨RX7, "list", "(III)I"⟩
abbrev cX7_listed : ByteArray := prog_1_method_9_code
def yX7_listed : MethodName := ⟨RX7, "listed", "(I)I"⟩
abbrev cX7_feed : ByteArray := prog_1_method_10_code
def yX7_feed : MethodName := ⟨RX7, "feed", "(JI)I"⟩
abbrev cX7_text : ByteArray := prog_1_method_11_code
def yX7_text : MethodName := ⟨RX7, "text", "(I)I"⟩
abbrev cX7_untell : ByteArray := prog_1_method_12_code
def yX7_untell : MethodName := ⟨RX7, "untell", "(I)I"⟩
abbrev cX7_law : ByteArray := prog_1_method_13_code
def yX7_law : MethodName := ⟨RX7, "law", "(IIII)I"⟩
abbrev cX7_days : ByteArray := prog_1_method_14_code
def yX7_days : MethodName := ⟨RX7, "days", "(I)I"⟩
abbrev cX7_loose : ByteArray := prog_1_method_15_code
def yX7_loose : MethodName := ⟨RX7, "loose", "(I)I"⟩
abbrev cX7_day : ByteArray := prog_1_method_16_code
def yX7_day : MethodName := ⟨RX7, "day", "(I)I"⟩
abbrev cX7_seed : ByteArray := prog_1_method_17_code
def yX7_seed : MethodName := ⟨RX7, "seed", "(I)I"⟩
abbrev cX7_line : ByteArray := prog_1_method_18_code
def yX7_line : MethodName := ⟨RX7, "line", "(I)I"⟩
abbrev cX7_between : ByteArray := prog_1_method_19_code
def yX7_between : MethodName := ⟨RX7, "between", "(II)I"⟩
abbrev cX7_over : ByteArray := prog_1_method_20_code
def yX7_over : MethodName := ⟨RX7, "over", "(I)I"⟩
abbrev cX7_knot : ByteArray := prog_1_method_21_code
def yX7_knot : MethodName := ⟨RX7, "knot", "(I)I"⟩
abbrev cX7_crossings : ByteArray := prog_1_method_22_code
def yX7_crossings : MethodName := ⟨RX7, "crossings", "()I"⟩
abbrev cX7_then : ByteArray := prog_1_method_23_code
def yX7_then : MethodName := ⟨RX7, "then", "(II)I"⟩
abbrev cX7_strings : ByteArray := prog_1_method_24_code
def yX7_strings : MethodName := ⟨RX7, "strings", "(I)I"⟩
abbrev cX7_soonest : ByteArray := prog_1_method_25_code
def yX7_soonest : MethodName := ⟨RX7, "soonest", "(II)I"⟩
abbrev cX7_spareFor : ByteArray := prog_1_method_26_code
def yX7_spareFor : MethodName := ⟨RX7, "spareFor", "(II)I"⟩
abbrev cX7_freeFor : ByteArray := prog_1_method_27_code
def yX7_freeFor : MethodName := ⟨RX7, "freeFor", "(II)I"⟩
abbrev cX7_odds : ByteArray := prog_1_method_28_code
def yX7_odds : MethodName := ⟨RX7, "odds", "(III)I"⟩
abbrev cX7_fits : ByteArray := prog_1_method_29_code
def yX7_fits : MethodName := ⟨RX7, "fits", "(III)I"⟩
abbrev cX7_voice : ByteArray := prog_1_method_30_code
def yX7_voice : MethodName := ⟨RX7, "voice", "(III)I"⟩
abbrev cX7_body : ByteArray := prog_1_method_31_code
def yX7_body : MethodName := ⟨RX7, "body", "(I)I"⟩
abbrev cX7_sheet : ByteArray := prog_1_method_32_code
def yX7_sheet : MethodName := ⟨RX7, "sheet", "(III)I"⟩
abbrev cX7_put : ByteArray := prog_1_method_33_code
def yX7_put : MethodName := ⟨RX7, "put", "(III)I"⟩
abbrev cX7_move : ByteArray := prog_1_method_34_code
def yX7_move : MethodName := ⟨RX7, "move", "(IIIII)I"⟩
abbrev cX7_reels : ByteArray := prog_1_method_35_code
def yX7_reels : MethodName := ⟨RX7, "reels", "(I)I"⟩
abbrev cX7_judge : ByteArray := prog_1_method_36_code
def yX7_judge : MethodName := ⟨RX7, "judge", "(I)I"⟩
abbrev cX7_image : ByteArray := prog_1_method_37_code
def yX7_image : MethodName := ⟨RX7, "image", "()I"⟩
abbrev cX7_restore : ByteArray := prog_1_method_38_code
def yX7_restore : MethodName := ⟨RX7, "restore", "()I"⟩
abbrev cX7_tell : ByteArray := prog_1_method_39_code
def yX7_tell : MethodName := ⟨RX7, "tell", "(I)I"⟩
abbrev cX7_check : ByteArray := prog_1_method_40_code
def yX7_check : MethodName := ⟨RX7, "check", "()I"⟩
abbrev cX7_count : ByteArray := prog_1_method_41_code
def yX7_count : MethodName := ⟨RX7, "count", "(I)I"⟩
abbrev cX7_told : ByteArray := prog_1_method_42_code
def yX7_told : MethodName := ⟨RX7, "told", "(I)I"⟩
abbrev cX7_refuse : ByteArray := prog_1_method_43_code
def yX7_refuse : MethodName := ⟨RX7, "refuse", "(I)I"⟩
abbrev cX7_within : ByteArray := prog_1_method_44_code
def yX7_within : MethodName := ⟨RX7, "within", "(II)Z"⟩
abbrev cX7_isThere : ByteArray := prog_1_method_45_code
def yX7_isThere : MethodName := ⟨RX7, "isThere", "(I)Z"⟩
abbrev cX7_isSheet : ByteArray := prog_1_method_46_code
def yX7_isSheet : MethodName := ⟨RX7, "isSheet", "(I)Z"⟩
abbrev cX7_lawOf : ByteArray := prog_1_method_47_code
def yX7_lawOf : MethodName := ⟨RX7, "lawOf", "(I)LApronStrings$Law;"⟩
abbrev cX7_staysTied : ByteArray := prog_1_method_48_code
def yX7_staysTied : MethodName := ⟨RX7, "staysTied", "(III)Z"⟩
abbrev cX7_cellWithout : ByteArray := prog_1_method_49_code
def yX7_cellWithout : MethodName := ⟨RX7, "cellWithout", "(III)I"⟩
abbrev cX7_wentSo : ByteArray := prog_1_method_50_code
def yX7_wentSo : MethodName := ⟨RX7, "wentSo", "(LApronStrings$Sheet;II)Z"⟩
def RX8 : String := "ApronStringsModel"
def TX8 : u_T := fun k => match k with
  | 0 => ("ApronStringsModel", "s", "[I", true)
  | 1 => ("ApronStringsModel", "kept", "[I", true)
  | 2 => ("ApronStringsModel", "beside", "[I", true)
  | 3 => ("ApronStringsModel", "ahead", "[I", true)
  | 4 => ("ApronStringsModel", "images", "I", false)
  | 5 => ("ApronStringsModel", "errors", "[I", true)
  | 6 => ("ApronStringsModel", "at", "I", false)
  | 7 => ("ApronStringsModel", "open", "I", false)
  | 8 => ("ApronStringsModel", "steps", "I", false)
  | 9 => ("ApronStringsModel", "use", "I", false)
  | 10 => ("ApronStringsModel", "step", "[I", true)
  | 11 => ("ApronStringsModel", "named", "[I", true)
  | 12 => ("ApronStringsModel", "pile", "[I", true)
  | 13 => ("ApronStringsModel", "moved", "I", false)
  | 14 => ("ApronStringsModel", "traced", "I", false)
  | 15 => ("ApronStringsModel", "trace", "[I", true)
  | 16 => ("ApronStringsModel", "speaks", "I", false)
  | 17 => ("ApronStringsModel", "isParted", "Z", false)
  | 18 => ("ApronStringsModel", "bits", "[I", true)
  | 19 => ("ApronStringsModel", "sizes", "[I", true)
  | 20 => ("ApronStringsModel", "number", "[I", true)
  | _ => ("ApronStringsModel", "aside", "[I", true)
def tyX8 : Nat → FieldType := fun k => match k with
  | 0 => .array .int
  | 1 => .array .int
  | 2 => .array .int
  | 3 => .array .int
  | 4 => .int
  | 5 => .array .int
  | 6 => .int
  | 7 => .int
  | 8 => .int
  | 9 => .int
  | 10 => .array .int
  | 11 => .array .int
  | 12 => .array .int
  | 13 => .int
  | 14 => .int
  | 15 => .array .int
  | 16 => .int
  | 17 => .boolean
  | 18 => .array .int
  | 19 => .array .int
  | 20 => .array .int
  | _ => .array .int
abbrev wsX80 : List Cond := u_ws RX8 TX8 22
theorem nmX8 : ∀ a, a < 22 → ∀ b, b < 22 → a ≠ b → (TX8 a).2.1 ≠ (TX8 b).2.1 := by decide +kernel
theorem tyX8_ok : ∀ k, k < 22 → parseFieldDescriptor (TX8 k).2.2.1 = some (tyX8 k) := by decide +kernel
abbrev cX8_init : ByteArray := prog_10_method_1_code
def yX8_init : MethodName := ⟨RX8, "<init>", "()V"⟩
abbrev cX8_error : ByteArray := prog_10_method_2_code
def yX8_error : MethodName := ⟨RX8, "error", "(I)I"⟩
abbrev cX8_in : ByteArray := prog_10_method_3_code
def yX8_in : MethodName := ⟨RX8, "in", "(III)Z"⟩
abbrev cX8_held : ByteArray := prog_10_method_4_code
def yX8_held : MethodName := ⟨RX8, "held", "(III)I"⟩
abbrev cX8_copyAll : ByteArray := prog_10_method_5_code
def yX8_copyAll : MethodName := ⟨RX8, "copyAll", "([I[I)V"⟩
abbrev cX8_saves : ByteArray := prog_10_method_6_code
def yX8_saves : MethodName := ⟨RX8, "saves", "()V"⟩
abbrev cX8_putsBack : ByteArray := prog_10_method_7_code
def yX8_putsBack : MethodName := ⟨RX8, "putsBack", "()V"⟩
abbrev cX8_isOne : ByteArray := prog_10_method_8_code
def yX8_isOne : MethodName := ⟨RX8, "isOne", "(I)Z"⟩
abbrev cX8_isCell : ByteArray := prog_10_method_9_code
def yX8_isCell : MethodName := ⟨RX8, "isCell", "(I)Z"⟩
abbrev cX8_its : ByteArray := prog_10_method_10_code
def yX8_its : MethodName := ⟨RX8, "its", "(II)I"⟩
abbrev cX8_lays1 : ByteArray := prog_10_method_11_code
def yX8_lays1 : MethodName := ⟨RX8, "lays1", "(III)V"⟩
abbrev cX8_change1 : ByteArray := prog_10_method_12_code
def yX8_change1 : MethodName := ⟨RX8, "change1", "(II)I"⟩
abbrev cX8_isTied : ByteArray := prog_10_method_13_code
def yX8_isTied : MethodName := ⟨RX8, "isTied", "(I)Z"⟩
abbrev cX8_feed : ByteArray := prog_10_method_14_code
def yX8_feed : MethodName := ⟨RX8, "feed", "(JI)I"⟩
abbrev cX8_look : ByteArray := prog_10_method_15_code
def yX8_look : MethodName := ⟨RX8, "look", "()I"⟩
abbrev cX8_isName : ByteArray := prog_10_method_16_code
def yX8_isName : MethodName := ⟨RX8, "isName", "(I)Z"⟩
abbrev cX8_step1 : ByteArray := prog_10_method_17_code
def yX8_step1 : MethodName := ⟨RX8, "step1", "(II)V"⟩
abbrev cX8_whole : ByteArray := prog_10_method_18_code
def yX8_whole : MethodName := ⟨RX8, "whole", "()Z"⟩
abbrev cX8_both : ByteArray := prog_10_method_19_code
def yX8_both : MethodName := ⟨RX8, "both", "()Z"⟩
abbrev cX8_compared : ByteArray := prog_10_method_20_code
def yX8_compared : MethodName := ⟨RX8, "compared", "()Z"⟩
abbrev cX8_sum : ByteArray := prog_10_method_21_code
def yX8_sum : MethodName := ⟨RX8, "sum", "()Z"⟩
abbrev cX8_product : ByteArray := prog_10_method_22_code
def yX8_product : MethodName := ⟨RX8, "product", "()Z"⟩
abbrev cX8_opens : ByteArray := prog_10_method_23_code
def yX8_opens : MethodName := ⟨RX8, "opens", "()Z"⟩
abbrev cX8_one : ByteArray := prog_10_method_24_code
def yX8_one : MethodName := ⟨RX8, "one", "()Z"⟩
abbrev cX8_hasText : ByteArray := prog_10_method_25_code
def yX8_hasText : MethodName := ⟨RX8, "hasText", "(I)Z"⟩
abbrev cX8_text : ByteArray := prog_10_method_26_code
def yX8_text : MethodName := ⟨RX8, "text", "(I)I"⟩
abbrev cX8_untell : ByteArray := prog_10_method_27_code
def yX8_untell : MethodName := ⟨RX8, "untell", "(I)I"⟩
abbrev cX8_joined : ByteArray := prog_10_method_28_code
def yX8_joined : MethodName := ⟨RX8, "joined", "(III)I"⟩
abbrev cX8_worked : ByteArray := prog_10_method_29_code
def yX8_worked : MethodName := ⟨RX8, "worked", "(I)I"⟩
abbrev cX8_hasChildren : ByteArray := prog_10_method_30_code
def yX8_hasChildren : MethodName := ⟨RX8, "hasChildren", "(I)Z"⟩
abbrev cX8_yieldsOf : ByteArray := prog_10_method_31_code
def yX8_yieldsOf : MethodName := ⟨RX8, "yieldsOf", "(I)I"⟩
abbrev cX8_stepsOf : ByteArray := prog_10_method_32_code
def yX8_stepsOf : MethodName := ⟨RX8, "stepsOf", "(I)I"⟩
abbrev cX8_restOf : ByteArray := prog_10_method_33_code
def yX8_restOf : MethodName := ⟨RX8, "restOf", "(I)I"⟩
abbrev cX8_givenBy : ByteArray := prog_10_method_34_code
def yX8_givenBy : MethodName := ⟨RX8, "givenBy", "(IIII)I"⟩
abbrev cX8_doesNow : ByteArray := prog_10_method_35_code
def yX8_doesNow : MethodName := ⟨RX8, "doesNow", "(I)I"⟩
abbrev cX8_goesNow : ByteArray := prog_10_method_36_code
def yX8_goesNow : MethodName := ⟨RX8, "goesNow", "(I)I"⟩
abbrev cX8_off : ByteArray := prog_10_method_37_code
def yX8_off : MethodName := ⟨RX8, "off", "(II)I"⟩
abbrev cX8_apartOf : ByteArray := prog_10_method_38_code
def yX8_apartOf : MethodName := ⟨RX8, "apartOf", "(I)I"⟩
abbrev cX8_tooShort : ByteArray := prog_10_method_39_code
def yX8_tooShort : MethodName := ⟨RX8, "tooShort", "()I"⟩
abbrev cX8_unties : ByteArray := prog_10_method_40_code
def yX8_unties : MethodName := ⟨RX8, "unties", "(I)V"⟩
abbrev cX8_cutsIt : ByteArray := prog_10_method_41_code
def yX8_cutsIt : MethodName := ⟨RX8, "cutsIt", "(I)V"⟩
abbrev cX8_spares : ByteArray := prog_10_method_42_code
def yX8_spares : MethodName := ⟨RX8, "spares", "(II)V"⟩
abbrev cX8_comesNearer : ByteArray := prog_10_method_43_code
def yX8_comesNearer : MethodName := ⟨RX8, "comesNearer", "(II)V"⟩
abbrev cX8_seesTo : ByteArray := prog_10_method_44_code
def yX8_seesTo : MethodName := ⟨RX8, "seesTo", "(I)Z"⟩
abbrev cX8_oneStep : ByteArray := prog_10_method_45_code
def yX8_oneStep : MethodName := ⟨RX8, "oneStep", "(II)Z"⟩
abbrev cX8_day1 : ByteArray := prog_10_method_46_code
def yX8_day1 : MethodName := ⟨RX8, "day1", "()V"⟩
abbrev cX8_goesOn : ByteArray := prog_10_method_47_code
def yX8_goesOn : MethodName := ⟨RX8, "goesOn", "(I)V"⟩
abbrev cX8_tiedNow : ByteArray := prog_10_method_48_code
def yX8_tiedNow : MethodName := ⟨RX8, "tiedNow", "()I"⟩
abbrev cX8_sumOf : ByteArray := prog_10_method_49_code
def yX8_sumOf : MethodName := ⟨RX8, "sumOf", "(I)I"⟩
abbrev cX8_isKm : ByteArray := prog_10_method_50_code
def yX8_isKm : MethodName := ⟨RX8, "isKm", "(I)Z"⟩
abbrev cX8_one_ : ByteArray := prog_10_method_51_code
def yX8_one_ : MethodName := ⟨RX8, "one", "(IIII)I"⟩
abbrev cX8_oneIs : ByteArray := prog_10_method_52_code
def yX8_oneIs : MethodName := ⟨RX8, "oneIs", "(II)I"⟩
abbrev cX8_become : ByteArray := prog_10_method_53_code
def yX8_become : MethodName := ⟨RX8, "become", "(II)I"⟩
abbrev cX8_as : ByteArray := prog_10_method_54_code
def yX8_as : MethodName := ⟨RX8, "as", "(II)I"⟩
abbrev cX8_reel : ByteArray := prog_10_method_55_code
def yX8_reel : MethodName := ⟨RX8, "reel", "(II)I"⟩
abbrev cX8_cut : ByteArray := prog_10_method_56_code
def yX8_cut : MethodName := ⟨RX8, "cut", "(I)I"⟩
abbrev cX8_isPlace : ByteArray := prog_10_method_57_code
def yX8_isPlace : MethodName := ⟨RX8, "isPlace", "(I)Z"⟩
abbrev cX8_list : ByteArray := prog_10_method_58_code
def yX8_list : MethodName := ⟨RX8, "list", "(III)I"⟩
abbrev cX8_listed : ByteArray := prog_10_method_59_code
def yX8_listed : MethodName := ⟨RX8, "listed", "(I)I"⟩
abbrev cX8_law : ByteArray := prog_10_method_60_code
def yX8_law : MethodName := ⟨RX8, "law", "(IIII)I"⟩
abbrev cX8_days : ByteArray := prog_10_method_61_code
def yX8_days : MethodName := ⟨RX8, "days", "(I)I"⟩
abbrev cX8_draw : ByteArray := prog_10_method_62_code
def yX8_draw : MethodName := ⟨RX8, "draw", "()I"⟩
abbrev cX8_loose : ByteArray := prog_10_method_63_code
def yX8_loose : MethodName := ⟨RX8, "loose", "(I)I"⟩
abbrev cX8_day : ByteArray := prog_10_method_64_code
def yX8_day : MethodName := ⟨RX8, "day", "(I)I"⟩
abbrev cX8_seed : ByteArray := prog_10_method_65_code
def yX8_seed : MethodName := ⟨RX8, "seed", "(I)I"⟩
abbrev cX8_lineOf : ByteArray := prog_10_method_66_code
def yX8_lineOf : MethodName := ⟨RX8, "lineOf", "(I)I"⟩
abbrev cX8_line : ByteArray := prog_10_method_67_code
def yX8_line : MethodName := ⟨RX8, "line", "(I)I"⟩
abbrev cX8_outTo : ByteArray := prog_10_method_68_code
def yX8_outTo : MethodName := ⟨RX8, "outTo", "(II)I"⟩
abbrev cX8_between : ByteArray := prog_10_method_69_code
def yX8_between : MethodName := ⟨RX8, "between", "(II)I"⟩
abbrev cX8_lowEnd : ByteArray := prog_10_method_70_code
def yX8_lowEnd : MethodName := ⟨RX8, "lowEnd", "(I)I"⟩
abbrev cX8_highEnd : ByteArray := prog_10_method_71_code
def yX8_highEnd : MethodName := ⟨RX8, "highEnd", "(I)I"⟩
abbrev cX8_overAt : ByteArray := prog_10_method_72_code
def yX8_overAt : MethodName := ⟨RX8, "overAt", "(I)I"⟩
abbrev cX8_ones : ByteArray := prog_10_method_73_code
def yX8_ones : MethodName := ⟨RX8, "ones", "(I)I"⟩
abbrev cX8_over : ByteArray := prog_10_method_74_code
def yX8_over : MethodName := ⟨RX8, "over", "(I)I"⟩
abbrev cX8_knot : ByteArray := prog_10_method_75_code
def yX8_knot : MethodName := ⟨RX8, "knot", "(I)I"⟩
abbrev cX8_doCross : ByteArray := prog_10_method_76_code
def yX8_doCross : MethodName := ⟨RX8, "doCross", "(II)Z"⟩
abbrev cX8_crossings : ByteArray := prog_10_method_77_code
def yX8_crossings : MethodName := ⟨RX8, "crossings", "()I"⟩
abbrev cX8_then : ByteArray := prog_10_method_78_code
def yX8_then : MethodName := ⟨RX8, "then", "(II)I"⟩
abbrev cX8_strings : ByteArray := prog_10_method_79_code
def yX8_strings : MethodName := ⟨RX8, "strings", "(I)I"⟩
abbrev cX8_soonest : ByteArray := prog_10_method_80_code
def yX8_soonest : MethodName := ⟨RX8, "soonest", "(II)I"⟩
abbrev cX8_holdsWith : ByteArray := prog_10_method_81_code
def yX8_holdsWith : MethodName := ⟨RX8, "holdsWith", "(III)Z"⟩
abbrev cX8_spareFor : ByteArray := prog_10_method_82_code
def yX8_spareFor : MethodName := ⟨RX8, "spareFor", "(II)I"⟩
abbrev cX8_staysWithout : ByteArray := prog_10_method_83_code
def yX8_staysWithout : MethodName := ⟨RX8, "staysWithout", "(III)Z"⟩
abbrev cX8_freeFor : ByteArray := prog_10_method_84_code
def yX8_freeFor : MethodName := ⟨RX8, "freeFor", "(II)I"⟩
abbrev cX8_common : ByteArray := prog_10_method_85_code
def yX8_common : MethodName := ⟨RX8, "common", "(II)I"⟩
abbrev cX8_odds : ByteArray := prog_10_method_86_code
def yX8_odds : MethodName := ⟨RX8, "odds", "(III)I"⟩
abbrev cX8_fits : ByteArray := prog_10_method_87_code
def yX8_fits : MethodName := ⟨RX8, "fits", "(III)I"⟩
abbrev cX8_begins : ByteArray := prog_10_method_88_code
def yX8_begins : MethodName := ⟨RX8, "begins", "(I)V"⟩
abbrev cX8_above : ByteArray := prog_10_method_89_code
def yX8_above : MethodName := ⟨RX8, "above", "(I)I"⟩
abbrev cX8_kindNow : ByteArray := prog_10_method_90_code
def yX8_kindNow : MethodName := ⟨RX8, "kindNow", "()I"⟩
abbrev cX8_mNow : ByteArray := prog_10_method_91_code
def yX8_mNow : MethodName := ⟨RX8, "mNow", "()I"⟩
abbrev cX8_tiesAs : ByteArray := prog_10_method_92_code
def yX8_tiesAs : MethodName := ⟨RX8, "tiesAs", "(II)I"⟩
abbrev cX8_letsAs : ByteArray := prog_10_method_93_code
def yX8_letsAs : MethodName := ⟨RX8, "letsAs", "(II)I"⟩
abbrev cX8_pullsAs : ByteArray := prog_10_method_94_code
def yX8_pullsAs : MethodName := ⟨RX8, "pullsAs", "(II)I"⟩
abbrev cX8_partsAs : ByteArray := prog_10_method_95_code
def yX8_partsAs : MethodName := ⟨RX8, "partsAs", "(II)I"⟩
abbrev cX8_voice : ByteArray := prog_10_method_96_code
def yX8_voice : MethodName := ⟨RX8, "voice", "(III)I"⟩
abbrev cX8_body : ByteArray := prog_10_method_97_code
def yX8_body : MethodName := ⟨RX8, "body", "(I)I"⟩
abbrev cX8_isSheet : ByteArray := prog_10_method_98_code
def yX8_isSheet : MethodName := ⟨RX8, "isSheet", "(I)Z"⟩
abbrev cX8_sheet : ByteArray := prog_10_method_99_code
def yX8_sheet : MethodName := ⟨RX8, "sheet", "(III)I"⟩
abbrev cX8_put : ByteArray := prog_10_method_100_code
def yX8_put : MethodName := ⟨RX8, "put", "(III)I"⟩
abbrev cX8_move : ByteArray := prog_10_method_101_code
def yX8_move : MethodName := ⟨RX8, "move", "(IIIII)I"⟩
abbrev cX8_lacks : ByteArray := prog_10_method_102_code
def yX8_lacks : MethodName := ⟨RX8, "lacks", "(I)I"⟩
abbrev cX8_reels : ByteArray := prog_10_method_103_code
def yX8_reels : MethodName := ⟨RX8, "reels", "(I)I"⟩
abbrev cX8_judge : ByteArray := prog_10_method_104_code
def yX8_judge : MethodName := ⟨RX8, "judge", "(I)I"⟩
abbrev cX8_image : ByteArray := prog_10_method_105_code
def yX8_image : MethodName := ⟨RX8, "image", "()I"⟩
abbrev cX8_restore : ByteArray := prog_10_method_106_code
def yX8_restore : MethodName := ⟨RX8, "restore", "()I"⟩
abbrev cX8_tell : ByteArray := prog_10_method_107_code
def yX8_tell : MethodName := ⟨RX8, "tell", "(I)I"⟩
abbrev cX8_check : ByteArray := prog_10_method_108_code
def yX8_check : MethodName := ⟨RX8, "check", "()I"⟩
abbrev cX8_count : ByteArray := prog_10_method_109_code
def yX8_count : MethodName := ⟨RX8, "count", "(I)I"⟩
abbrev cX8_told : ByteArray := prog_10_method_110_code
def yX8_told : MethodName := ⟨RX8, "told", "(I)I"⟩
def RJ6 : String := "java/lang/Integer"
def TJ6 : u_T := fun k => match k with
  | _ => ("", "", "", false)
def tyJ6 : Nat → FieldType := fun k => match k with
  | _ => .int
abbrev wsJ60 : List Cond := u_ws RJ6 TJ6 0
theorem nmJ6 : ∀ a, a < 0 → ∀ b, b < 0 → a ≠ b → (TJ6 a).2.1 ≠ (TJ6 b).2.1 := by decide +kernel
theorem tyJ6_ok : ∀ k, k < 0 → parseFieldDescriptor (TJ6 k).2.2.1 = some (tyJ6 k) := by decide +kernel
abbrev cJ6_bitCount_0f7a4 : ByteArray := prog_11_method_49_code
def yJ6_bitCount_0f7a4 : MethodName := ⟨RJ6, "bitCount", "(I)I"⟩
def RJ9 : String := "java/lang/Math"
def TJ9 : u_T := fun k => match k with
  | _ => ("", "", "", false)
def tyJ9 : Nat → FieldType := fun k => match k with
  | _ => .int
abbrev wsJ90 : List Cond := u_ws RJ9 TJ9 0
theorem nmJ9 : ∀ a, a < 0 → ∀ b, b < 0 → a ≠ b → (TJ9 a).2.1 ≠ (TJ9 b).2.1 := by decide +kernel
theorem tyJ9_ok : ∀ k, k < 0 → parseFieldDescriptor (TJ9 k).2.2.1 = some (tyJ9 k) := by decide +kernel
abbrev cJ9_floorMod_7cf53 : ByteArray := prog_12_method_50_code
def yJ9_floorMod_7cf53 : MethodName := ⟨RJ9, "floorMod", "(II)I"⟩
abbrev cJ9_abs_0f7a4 : ByteArray := prog_12_method_59_code
def yJ9_abs_0f7a4 : MethodName := ⟨RJ9, "abs", "(I)I"⟩
abbrev cJ9_max_7cf53 : ByteArray := prog_12_method_65_code
def yJ9_max_7cf53 : MethodName := ⟨RJ9, "max", "(II)I"⟩
abbrev cJ9_min_7cf53 : ByteArray := prog_12_method_69_code
def yJ9_min_7cf53 : MethodName := ⟨RJ9, "min", "(II)I"⟩
def RJ10 : String := "java/lang/System"
def TJ10 : u_T := fun k => match k with
  | _ => ("", "", "", false)
def tyJ10 : Nat → FieldType := fun k => match k with
  | _ => .int
abbrev wsJ100 : List Cond := u_ws RJ10 TJ10 0
theorem nmJ10 : ∀ a, a < 0 → ∀ b, b < 0 → a ≠ b → (TJ10 a).2.1 ≠ (TJ10 b).2.1 := by decide +kernel
theorem tyJ10_ok : ∀ k, k < 0 → parseFieldDescriptor (TJ10 k).2.2.1 = some (tyJ10 k) := by decide +kernel
def RL : String := "ApronStringsLaw"
abbrev cL_law : ByteArray := code
def yL_law : MethodName := ⟨RL, "law", "([I)Z"⟩
abbrev vwCl : List vw_C := [(RX0, TX0, 4), (RX1, TX1, 6), (RX2, TX2, 15), (RX3, TX3, 2), (RX4, TX4, 3), (RX5, TX5, 5), (RX6, TX6, 6), (RX7, TX7, 9), (RX8, TX8, 22)]
end
section
/-! cells, fields, methods and calls of the class, the reference and the law, as tables (written by program from the printed names) -/
abbrev zA : Type := Int32 ⊕ (Int64 ⊕ (Nat × Nat))
abbrev zI (x : Int32) : zA := Sum.inl x
abbrev zL (x : Int64) : zA := Sum.inr (Sum.inl x)
abbrev zR (c i : Nat) : zA := Sum.inr (Sum.inr (c, i))
abbrev zS : Type := Nat → Nat → Nat → Int32
abbrev zO : Type := List (Option zA)
def zcnt : Nat → Nat
  | 0 => 4
  | 1 => 1
  | 2 => 3
  | 3 => 4
  | 4 => 4
  | 5 => 2
  | 6 => 1
  | 7 => 1
  | 8 => 1
  | 10 => 4
  | 11 => 4
  | 12 => 1
  | 13 => 1
  | 14 => 3
  | 15 => 3
  | 16 => 3
  | 17 => 3
  | 18 => 3
  | 19 => 3
  | 20 => 3
  | 21 => 3
  | 22 => 4
  | 23 => 4
  | 24 => 1
  | 25 => 1
  | 26 => 1
  | 30 => 1
  | 31 => 1
  | 32 => 1
  | 33 => 1
  | 34 => 1
  | 35 => 1
  | 36 => 1
  | 37 => 1
  | 38 => 1
  | 39 => 1
  | 40 => 1
  | 41 => 1
  | 42 => 1
  | _ => 0
def zpls : List (Nat × Nat) := [(0, 0), (0, 1), (0, 2), (0, 3), (1, 0), (2, 0), (2, 1), (2, 2), (3, 0), (3, 1), (3, 2), (3, 3), (4, 0), (4, 1), (4, 2), (4, 3), (5, 0), (5, 1), (6, 0), (7, 0), (8, 0), (10, 0), (10, 1), (10, 2), (10, 3), (11, 0), (11, 1), (11, 2), (11, 3), (12, 0), (13, 0), (14, 0), (14, 1), (14, 2), (15, 0), (15, 1), (15, 2), (16, 0), (16, 1), (16, 2), (17, 0), (17, 1), (17, 2), (18, 0), (18, 1), (18, 2), (19, 0), (19, 1), (19, 2), (20, 0), (20, 1), (20, 2), (21, 0), (21, 1), (21, 2), (22, 0), (22, 1), (22, 2), (22, 3), (23, 0), (23, 1), (23, 2), (23, 3), (24, 0), (25, 0), (26, 0), (30, 0), (31, 0), (32, 0), (33, 0), (34, 0), (35, 0), (36, 0), (37, 0), (38, 0), (39, 0), (40, 0), (41, 0), (42, 0)]
def znf : Nat → Nat
  | 0 => 4
  | 1 => 6
  | 2 => 15
  | 3 => 2
  | 4 => 3
  | 5 => 5
  | 6 => 6
  | 7 => 9
  | 8 => 22
  | _ => 0
/-- the cell that a field of references holds -/
def zfr : Nat → Nat → Nat → Option (Nat × Nat)
  | 0, 0, i => some (10, i)
  | 0, 3, i => some (11, i)
  | 1, 0, i => some (12, i)
  | 1, 2, i => some (13, i)
  | 2, 0, i => some (0, if i = 2 then 0 else 2 * i)
  | 2, 1, i => some (0, if i = 2 then 1 else 2 * i + 1)
  | 2, 2, i => some (14, i)
  | 2, 3, i => some (15, i)
  | 2, 4, i => some (16, i)
  | 2, 5, i => some (17, i)
  | 2, 6, i => some (18, i)
  | 2, 7, i => some (19, i)
  | 2, 8, i => some (20, i)
  | 2, 13, i => some (21, i)
  | 3, 0, i => some (22, i)
  | 4, 0, i => some (23, i)
  | 5, 0, i => some (0, 2 * i)
  | 5, 1, i => some (0, 2 * i + 1)
  | 5, 2, i => some (2, i)
  | 5, 3, i => some (3, 2 * i)
  | 5, 4, i => some (3, 2 * i + 1)
  | 6, 0, i => some (24, i)
  | 7, 0, i => some (5, 0)
  | 7, 1, i => some (5, 1)
  | 7, 2, i => some (2, 0)
  | 7, 3, i => some (2, 2)
  | 7, 4, i => some (1, 0)
  | 7, 5, i => some (6, 0)
  | 7, 6, i => some (25, i)
  | 7, 7, i => some (26, i)
  | 8, 0, i => some (30, i)
  | 8, 1, i => some (31, i)
  | 8, 2, i => some (32, i)
  | 8, 3, i => some (33, i)
  | 8, 5, i => some (34, i)
  | 8, 10, i => some (35, i)
  | 8, 11, i => some (36, i)
  | 8, 12, i => some (37, i)
  | 8, 15, i => some (38, i)
  | 8, 18, i => some (39, i)
  | 8, 19, i => some (40, i)
  | 8, 20, i => some (41, i)
  | 8, 21, i => some (42, i)
  | _, _, _ => none
def zfb : Nat → Nat → Bool
  | 1, 5 => true
  | 6, 2 => true
  | 8, 17 => true
  | _, _ => false
/-- how many numbers an array has (22: the rows of the tape and of what waits) -/
def zlen : Nat → Nat → Nat
  | 10, _ => 60
  | 11, _ => 61
  | 12, _ => 60
  | 13, _ => 60
  | 14, _ => 8
  | 15, _ => 8
  | 16, _ => 8
  | 17, _ => 8
  | 18, _ => 8
  | 19, _ => 8
  | 20, _ => 6
  | 21, _ => 33
  | 23, _ => 24
  | 24, _ => 30
  | 25, _ => 4
  | 26, _ => 7
  | 30, _ => 394
  | 31, _ => 394
  | 32, _ => 60
  | 33, _ => 60
  | 34, _ => 7
  | 35, _ => 124
  | 36, _ => 128
  | 37, _ => 64
  | 38, _ => 30
  | 39, _ => 4
  | 40, _ => 4
  | 41, _ => 96
  | 42, _ => 24
  | 22, i => if i % 2 = 0 then 60 else 24
  | _, _ => 0
def zC : Nat → String
  | 0 => RX0
  | 1 => RX1
  | 2 => RX2
  | 3 => RX3
  | 4 => RX4
  | 5 => RX5
  | 6 => RX6
  | 7 => RX7
  | 8 => RX8
  | 9 => RL
  | 10 => RJ6
  | 11 => RJ9
  | _ => RJ10
def zT : Nat → u_T
  | 0 => TX0
  | 1 => TX1
  | 2 => TX2
  | 3 => TX3
  | 4 => TX4
  | 5 => TX5
  | 6 => TX6
  | 7 => TX7
  | _ => TX8
def zty : Nat → Nat → FieldType
  | 0 => tyX0
  | 1 => tyX1
  | 2 => tyX2
  | 3 => tyX3
  | 4 => tyX4
  | 5 => tyX5
  | 6 => tyX6
  | 7 => tyX7
  | _ => tyX8
def zo : Nat → Nat
  | 0 => 0
  | 1 => 0
  | 2 => 0
  | 3 => 1
  | 4 => 1
  | 5 => 1
  | 6 => 1
  | 7 => 1
  | 8 => 1
  | 9 => 1
  | 10 => 1
  | 11 => 1
  | 12 => 1
  | 13 => 1
  | 14 => 1
  | 15 => 1
  | 16 => 1
  | 17 => 2
  | 18 => 2
  | 19 => 2
  | 20 => 2
  | 21 => 2
  | 22 => 2
  | 23 => 2
  | 24 => 2
  | 25 => 2
  | 26 => 2
  | 27 => 2
  | 28 => 2
  | 29 => 2
  | 30 => 2
  | 31 => 2
  | 32 => 2
  | 33 => 2
  | 34 => 2
  | 35 => 2
  | 36 => 2
  | 37 => 2
  | 38 => 2
  | 39 => 2
  | 40 => 2
  | 41 => 2
  | 42 => 2
  | 43 => 2
  | 44 => 2
  | 45 => 2
  | 46 => 2
  | 47 => 2
  | 48 => 3
  | 49 => 3
  | 50 => 4
  | 51 => 4
  | 52 => 4
  | 53 => 4
  | 54 => 5
  | 55 => 6
  | 56 => 6
  | 57 => 6
  | 58 => 6
  | 59 => 6
  | 60 => 6
  | 61 => 7
  | 62 => 7
  | 63 => 7
  | 64 => 7
  | 65 => 7
  | 66 => 7
  | 67 => 7
  | 68 => 7
  | 69 => 7
  | 70 => 7
  | 71 => 7
  | 72 => 7
  | 73 => 7
  | 74 => 7
  | 75 => 7
  | 76 => 7
  | 77 => 7
  | 78 => 7
  | 79 => 7
  | 80 => 7
  | 81 => 7
  | 82 => 7
  | 83 => 7
  | 84 => 7
  | 85 => 7
  | 86 => 7
  | 87 => 7
  | 88 => 7
  | 89 => 7
  | 90 => 7
  | 91 => 7
  | 92 => 7
  | 93 => 7
  | 94 => 7
  | 95 => 7
  | 96 => 7
  | 97 => 7
  | 98 => 7
  | 99 => 7
  | 100 => 7
  | 101 => 7
  | 102 => 7
  | 103 => 7
  | 104 => 7
  | 105 => 7
  | 106 => 7
  | 107 => 7
  | 108 => 7
  | 109 => 7
  | 110 => 8
  | 111 => 8
  | 112 => 8
  | 113 => 8
  | 114 => 8
  | 115 => 8
  | 116 => 8
  | 117 => 8
  | 118 => 8
  | 119 => 8
  | 120 => 8
  | 121 => 8
  | 122 => 8
  | 123 => 8
  | 124 => 8
  | 125 => 8
  | 126 => 8
  | 127 => 8
  | 128 => 8
  | 129 => 8
  | 130 => 8
  | 131 => 8
  | 132 => 8
  | 133 => 8
  | 134 => 8
  | 135 => 8
  | 136 => 8
  | 137 => 8
  | 138 => 8
  | 139 => 8
  | 140 => 8
  | 141 => 8
  | 142 => 8
  | 143 => 8
  | 144 => 8
  | 145 => 8
  | 146 => 8
  | 147 => 8
  | 148 => 8
  | 149 => 8
  | 150 => 8
  | 151 => 8
  | 152 => 8
  | 153 => 8
  | 154 => 8
  | 155 => 8
  | 156 => 8
  | 157 => 8
  | 158 => 8
  | 159 => 8
  | 160 => 8
  | 161 => 8
  | 162 => 8
  | 163 => 8
  | 164 => 8
  | 165 => 8
  | 166 => 8
  | 167 => 8
  | 168 => 8
  | 169 => 8
  | 170 => 8
  | 171 => 8
  | 172 => 8
  | 173 => 8
  | 174 => 8
  | 175 => 8
  | 176 => 8
  | 177 => 8
  | 178 => 8
  | 179 => 8
  | 180 => 8
  | 181 => 8
  | 182 => 8
  | 183 => 8
  | 184 => 8
  | 185 => 8
  | 186 => 8
  | 187 => 8
  | 188 => 8
  | 189 => 8
  | 190 => 8
  | 191 => 8
  | 192 => 8
  | 193 => 8
  | 194 => 8
  | 195 => 8
  | 196 => 8
  | 197 => 8
  | 198 => 8
  | 199 => 8
  | 200 => 8
  | 201 => 8
  | 202 => 8
  | 203 => 8
  | 204 => 8
  | 205 => 8
  | 206 => 8
  | 207 => 8
  | 208 => 8
  | 209 => 8
  | 210 => 8
  | 211 => 8
  | 212 => 8
  | 213 => 8
  | 214 => 8
  | 215 => 8
  | 216 => 8
  | 217 => 8
  | 218 => 8
  | 219 => 10
  | 220 => 11
  | 221 => 11
  | 222 => 11
  | 223 => 11
  | 224 => 9
  | _ => 12
def zy : Nat → MethodName
  | 0 => yX0_take
  | 1 => yX0_gives
  | 2 => yX0_joined
  | 3 => yX1_read
  | 4 => yX1_readValue
  | 5 => yX1_openOne
  | 6 => yX1_digits
  | 7 => yX1_isDigit
  | 8 => yX1_number
  | 9 => yX1_nameOf
  | 10 => yX1_endValue
  | 11 => yX1_readJoin
  | 12 => yX1_closeOne
  | 13 => yX1_settle
  | 14 => yX1_rank
  | 15 => yX1_await
  | 16 => yX1_write
  | 17 => yX2_copy
  | 18 => yX2_add
  | 19 => yX2_isTied
  | 20 => yX2_tied
  | 21 => yX2_untie
  | 22 => yX2_apart
  | 23 => yX2_sum
  | 24 => yX2_lineOf
  | 25 => yX2_outUpTo
  | 26 => yX2_low
  | 27 => yX2_high
  | 28 => yX2_stringsOver
  | 29 => yX2_cross
  | 30 => yX2_doesNow
  | 31 => yX2_goesNow
  | 32 => yX2_yielding
  | 33 => yX2_hasChildren
  | 34 => yX2_steps
  | 35 => yX2_pass
  | 36 => yX2_passDay
  | 37 => yX2_drawPlace
  | 38 => yX2_draw
  | 39 => yX2_step
  | 40 => yX2_keep
  | 41 => yX2_putBack
  | 42 => yX2_leastTooShort
  | 43 => yX2_unmovedEnd
  | 44 => yX2_pull
  | 45 => yX2_letOut
  | 46 => yX2_sever
  | 47 => yX2_come
  | 48 => yX3_add
  | 49 => yX3_copy
  | 50 => yX4_isMissing
  | 51 => yX4_clear
  | 52 => yX4_write
  | 53 => yX4_hasRun
  | 54 => yX5_copy
  | 55 => yX6_isUnder
  | 56 => yX6_begin
  | 57 => yX6_speak
  | 58 => yX6_speakMother
  | 59 => yX6_speakOther
  | 60 => yX6_bodyOf
  | 61 => yX7_one
  | 62 => yX7_oneIs
  | 63 => yX7_become
  | 64 => yX7_as
  | 65 => yX7_reel
  | 66 => yX7_cut
  | 67 => yX7_list
  | 68 => yX7_listed
  | 69 => yX7_feed
  | 70 => yX7_text
  | 71 => yX7_untell
  | 72 => yX7_law
  | 73 => yX7_days
  | 74 => yX7_loose
  | 75 => yX7_day
  | 76 => yX7_seed
  | 77 => yX7_line
  | 78 => yX7_between
  | 79 => yX7_over
  | 80 => yX7_knot
  | 81 => yX7_crossings
  | 82 => yX7_then
  | 83 => yX7_strings
  | 84 => yX7_soonest
  | 85 => yX7_spareFor
  | 86 => yX7_freeFor
  | 87 => yX7_odds
  | 88 => yX7_fits
  | 89 => yX7_voice
  | 90 => yX7_body
  | 91 => yX7_sheet
  | 92 => yX7_put
  | 93 => yX7_move
  | 94 => yX7_reels
  | 95 => yX7_judge
  | 96 => yX7_image
  | 97 => yX7_restore
  | 98 => yX7_tell
  | 99 => yX7_check
  | 100 => yX7_count
  | 101 => yX7_told
  | 102 => yX7_refuse
  | 103 => yX7_within
  | 104 => yX7_isThere
  | 105 => yX7_isSheet
  | 106 => yX7_lawOf
  | 107 => yX7_staysTied
  | 108 => yX7_cellWithout
  | 109 => yX7_wentSo
  | 110 => yX8_error
  | 111 => yX8_in
  | 112 => yX8_held
  | 113 => yX8_copyAll
  | 114 => yX8_saves
  | 115 => yX8_putsBack
  | 116 => yX8_isOne
  | 117 => yX8_isCell
  | 118 => yX8_its
  | 119 => yX8_lays1
  | 120 => yX8_change1
  | 121 => yX8_isTied
  | 122 => yX8_feed
  | 123 => yX8_look
  | 124 => yX8_isName
  | 125 => yX8_step1
  | 126 => yX8_whole
  | 127 => yX8_both
  | 128 => yX8_compared
  | 129 => yX8_sum
  | 130 => yX8_product
  | 131 => yX8_opens
  | 132 => yX8_one
  | 133 => yX8_hasText
  | 134 => yX8_text
  | 135 => yX8_untell
  | 136 => yX8_joined
  | 137 => yX8_worked
  | 138 => yX8_hasChildren
  | 139 => yX8_yieldsOf
  | 140 => yX8_stepsOf
  | 141 => yX8_restOf
  | 142 => yX8_givenBy
  | 143 => yX8_doesNow
  | 144 => yX8_goesNow
  | 145 => yX8_off
  | 146 => yX8_apartOf
  | 147 => yX8_tooShort
  | 148 => yX8_unties
  | 149 => yX8_cutsIt
  | 150 => yX8_spares
  | 151 => yX8_comesNearer
  | 152 => yX8_seesTo
  | 153 => yX8_oneStep
  | 154 => yX8_day1
  | 155 => yX8_goesOn
  | 156 => yX8_tiedNow
  | 157 => yX8_sumOf
  | 158 => yX8_isKm
  | 159 => yX8_one_
  | 160 => yX8_oneIs
  | 161 => yX8_become
  | 162 => yX8_as
  | 163 => yX8_reel
  | 164 => yX8_cut
  | 165 => yX8_isPlace
  | 166 => yX8_list
  | 167 => yX8_listed
  | 168 => yX8_law
  | 169 => yX8_days
  | 170 => yX8_draw
  | 171 => yX8_loose
  | 172 => yX8_day
  | 173 => yX8_seed
  | 174 => yX8_lineOf
  | 175 => yX8_line
  | 176 => yX8_outTo
  | 177 => yX8_between
  | 178 => yX8_lowEnd
  | 179 => yX8_highEnd
  | 180 => yX8_overAt
  | 181 => yX8_ones
  | 182 => yX8_over
  | 183 => yX8_knot
  | 184 => yX8_doCross
  | 185 => yX8_crossings
  | 186 => yX8_then
  | 187 => yX8_strings
  | 188 => yX8_soonest
  | 189 => yX8_holdsWith
  | 190 => yX8_spareFor
  | 191 => yX8_staysWithout
  | 192 => yX8_freeFor
  | 193 => yX8_common
  | 194 => yX8_odds
  | 195 => yX8_fits
  | 196 => yX8_begins
  | 197 => yX8_above
  | 198 => yX8_kindNow
  | 199 => yX8_mNow
  | 200 => yX8_tiesAs
  | 201 => yX8_letsAs
  | 202 => yX8_pullsAs
  | 203 => yX8_partsAs
  | 204 => yX8_voice
  | 205 => yX8_body
  | 206 => yX8_isSheet
  | 207 => yX8_sheet
  | 208 => yX8_put
  | 209 => yX8_move
  | 210 => yX8_lacks
  | 211 => yX8_reels
  | 212 => yX8_judge
  | 213 => yX8_image
  | 214 => yX8_restore
  | 215 => yX8_tell
  | 216 => yX8_check
  | 217 => yX8_count
  | 218 => yX8_told
  | 219 => yJ6_bitCount_0f7a4
  | 220 => yJ9_floorMod_7cf53
  | 221 => yJ9_abs_0f7a4
  | 222 => yJ9_max_7cf53
  | 223 => yJ9_min_7cf53
  | 224 => yL_law
  | _ => yL_law
def zb : Nat → ByteArray
  | 0 => cX0_take
  | 1 => cX0_gives
  | 2 => cX0_joined
  | 3 => cX1_read
  | 4 => cX1_readValue
  | 5 => cX1_openOne
  | 6 => cX1_digits
  | 7 => cX1_isDigit
  | 8 => cX1_number
  | 9 => cX1_nameOf
  | 10 => cX1_endValue
  | 11 => cX1_readJoin
  | 12 => cX1_closeOne
  | 13 => cX1_settle
  | 14 => cX1_rank
  | 15 => cX1_await
  | 16 => cX1_write
  | 17 => cX2_copy
  | 18 => cX2_add
  | 19 => cX2_isTied
  | 20 => cX2_tied
  | 21 => cX2_untie
  | 22 => cX2_apart
  | 23 => cX2_sum
  | 24 => cX2_lineOf
  | 25 => cX2_outUpTo
  | 26 => cX2_low
  | 27 => cX2_high
  | 28 => cX2_stringsOver
  | 29 => cX2_cross
  | 30 => cX2_doesNow
  | 31 => cX2_goesNow
  | 32 => cX2_yielding
  | 33 => cX2_hasChildren
  | 34 => cX2_steps
  | 35 => cX2_pass
  | 36 => cX2_passDay
  | 37 => cX2_drawPlace
  | 38 => cX2_draw
  | 39 => cX2_step
  | 40 => cX2_keep
  | 41 => cX2_putBack
  | 42 => cX2_leastTooShort
  | 43 => cX2_unmovedEnd
  | 44 => cX2_pull
  | 45 => cX2_letOut
  | 46 => cX2_sever
  | 47 => cX2_come
  | 48 => cX3_add
  | 49 => cX3_copy
  | 50 => cX4_isMissing
  | 51 => cX4_clear
  | 52 => cX4_write
  | 53 => cX4_hasRun
  | 54 => cX5_copy
  | 55 => cX6_isUnder
  | 56 => cX6_begin
  | 57 => cX6_speak
  | 58 => cX6_speakMother
  | 59 => cX6_speakOther
  | 60 => cX6_bodyOf
  | 61 => cX7_one
  | 62 => cX7_oneIs
  | 63 => cX7_become
  | 64 => cX7_as
  | 65 => cX7_reel
  | 66 => cX7_cut
  | 67 => cX7_list
  | 68 => cX7_listed
  | 69 => cX7_feed
  | 70 => cX7_text
  | 71 => cX7_untell
  | 72 => cX7_law
  | 73 => cX7_days
  | 74 => cX7_loose
  | 75 => cX7_day
  | 76 => cX7_seed
  | 77 => cX7_line
  | 78 => cX7_between
  | 79 => cX7_over
  | 80 => cX7_knot
  | 81 => cX7_crossings
  | 82 => cX7_then
  | 83 => cX7_strings
  | 84 => cX7_soonest
  | 85 => cX7_spareFor
  | 86 => cX7_freeFor
  | 87 => cX7_odds
  | 88 => cX7_fits
  | 89 => cX7_voice
  | 90 => cX7_body
  | 91 => cX7_sheet
  | 92 => cX7_put
  | 93 => cX7_move
  | 94 => cX7_reels
  | 95 => cX7_judge
  | 96 => cX7_image
  | 97 => cX7_restore
  | 98 => cX7_tell
  | 99 => cX7_check
  | 100 => cX7_count
  | 101 => cX7_told
  | 102 => cX7_refuse
  | 103 => cX7_within
  | 104 => cX7_isThere
  | 105 => cX7_isSheet
  | 106 => cX7_lawOf
  | 107 => cX7_staysTied
  | 108 => cX7_cellWithout
  | 109 => cX7_wentSo
  | 110 => cX8_error
  | 111 => cX8_in
  | 112 => cX8_held
  | 113 => cX8_copyAll
  | 114 => cX8_saves
  | 115 => cX8_putsBack
  | 116 => cX8_isOne
  | 117 => cX8_isCell
  | 118 => cX8_its
  | 119 => cX8_lays1
  | 120 => cX8_change1
  | 121 => cX8_isTied
  | 122 => cX8_feed
  | 123 => cX8_look
  | 124 => cX8_isName
  | 125 => cX8_step1
  | 126 => cX8_whole
  | 127 => cX8_both
  | 128 => cX8_compared
  | 129 => cX8_sum
  | 130 => cX8_product
  | 131 => cX8_opens
  | 132 => cX8_one
  | 133 => cX8_hasText
  | 134 => cX8_text
  | 135 => cX8_untell
  | 136 => cX8_joined
  | 137 => cX8_worked
  | 138 => cX8_hasChildren
  | 139 => cX8_yieldsOf
  | 140 => cX8_stepsOf
  | 141 => cX8_restOf
  | 142 => cX8_givenBy
  | 143 => cX8_doesNow
  | 144 => cX8_goesNow
  | 145 => cX8_off
  | 146 => cX8_apartOf
  | 147 => cX8_tooShort
  | 148 => cX8_unties
  | 149 => cX8_cutsIt
  | 150 => cX8_spares
  | 151 => cX8_comesNearer
  | 152 => cX8_seesTo
  | 153 => cX8_oneStep
  | 154 => cX8_day1
  | 155 => cX8_goesOn
  | 156 => cX8_tiedNow
  | 157 => cX8_sumOf
  | 158 => cX8_isKm
  | 159 => cX8_one_
  | 160 => cX8_oneIs
  | 161 => cX8_become
  | 162 => cX8_as
  | 163 => cX8_reel
  | 164 => cX8_cut
  | 165 => cX8_isPlace
  | 166 => cX8_list
  | 167 => cX8_listed
  | 168 => cX8_law
  | 169 => cX8_days
  | 170 => cX8_draw
  | 171 => cX8_loose
  | 172 => cX8_day
  | 173 => cX8_seed
  | 174 => cX8_lineOf
  | 175 => cX8_line
  | 176 => cX8_outTo
  | 177 => cX8_between
  | 178 => cX8_lowEnd
  | 179 => cX8_highEnd
  | 180 => cX8_overAt
  | 181 => cX8_ones
  | 182 => cX8_over
  | 183 => cX8_knot
  | 184 => cX8_doCross
  | 185 => cX8_crossings
  | 186 => cX8_then
  | 187 => cX8_strings
  | 188 => cX8_soonest
  | 189 => cX8_holdsWith
  | 190 => cX8_spareFor
  | 191 => cX8_staysWithout
  | 192 => cX8_freeFor
  | 193 => cX8_common
  | 194 => cX8_odds
  | 195 => cX8_fits
  | 196 => cX8_begins
  | 197 => cX8_above
  | 198 => cX8_kindNow
  | 199 => cX8_mNow
  | 200 => cX8_tiesAs
  | 201 => cX8_letsAs
  | 202 => cX8_pullsAs
  | 203 => cX8_partsAs
  | 204 => cX8_voice
  | 205 => cX8_body
  | 206 => cX8_isSheet
  | 207 => cX8_sheet
  | 208 => cX8_put
  | 209 => cX8_move
  | 210 => cX8_lacks
  | 211 => cX8_reels
  | 212 => cX8_judge
  | 213 => cX8_image
  | 214 => cX8_restore
  | 215 => cX8_tell
  | 216 => cX8_check
  | 217 => cX8_count
  | 218 => cX8_told
  | 219 => cJ6_bitCount_0f7a4
  | 220 => cJ9_floorMod_7cf53
  | 221 => cJ9_abs_0f7a4
  | 222 => cJ9_max_7cf53
  | 223 => cJ9_min_7cf53
  | 224 => cL_law
  | _ => cL_law
def zn : Nat → Nat
  | 0 => 4
  | 1 => 7
  | 2 => 3
  | 3 => 6
  | 4 => 7
  | 5 => 2
  | 6 => 4
  | 7 => 1
  | 8 => 5
  | 9 => 3
  | 10 => 2
  | 11 => 3
  | 12 => 1
  | 13 => 3
  | 14 => 1
  | 15 => 2
  | 16 => 2
  | 17 => 2
  | 18 => 6
  | 19 => 2
  | 20 => 3
  | 21 => 2
  | 22 => 3
  | 23 => 4
  | 24 => 5
  | 25 => 6
  | 26 => 3
  | 27 => 2
  | 28 => 4
  | 29 => 5
  | 30 => 2
  | 31 => 2
  | 32 => 2
  | 33 => 3
  | 34 => 2
  | 35 => 3
  | 36 => 6
  | 37 => 3
  | 38 => 1
  | 39 => 8
  | 40 => 1
  | 41 => 1
  | 42 => 3
  | 43 => 3
  | 44 => 4
  | 45 => 3
  | 46 => 2
  | 47 => 3
  | 48 => 2
  | 49 => 3
  | 50 => 1
  | 51 => 4
  | 52 => 3
  | 53 => 3
  | 54 => 2
  | 55 => 4
  | 56 => 6
  | 57 => 6
  | 58 => 4
  | 59 => 6
  | 60 => 5
  | 61 => 6
  | 62 => 3
  | 63 => 4
  | 64 => 3
  | 65 => 4
  | 66 => 3
  | 67 => 5
  | 68 => 2
  | 69 => 5
  | 70 => 3
  | 71 => 3
  | 72 => 5
  | 73 => 2
  | 74 => 3
  | 75 => 3
  | 76 => 3
  | 77 => 2
  | 78 => 4
  | 79 => 2
  | 80 => 6
  | 81 => 4
  | 82 => 3
  | 83 => 2
  | 84 => 4
  | 85 => 4
  | 86 => 7
  | 87 => 7
  | 88 => 6
  | 89 => 5
  | 90 => 2
  | 91 => 4
  | 92 => 4
  | 93 => 8
  | 94 => 5
  | 95 => 5
  | 96 => 1
  | 97 => 1
  | 98 => 2
  | 99 => 3
  | 100 => 2
  | 101 => 2
  | 102 => 2
  | 103 => 2
  | 104 => 2
  | 105 => 1
  | 106 => 2
  | 107 => 5
  | 108 => 5
  | 109 => 5
  | 110 => 2
  | 111 => 3
  | 112 => 3
  | 113 => 3
  | 114 => 2
  | 115 => 2
  | 116 => 2
  | 117 => 1
  | 118 => 3
  | 119 => 4
  | 120 => 4
  | 121 => 2
  | 122 => 5
  | 123 => 1
  | 124 => 2
  | 125 => 3
  | 126 => 1
  | 127 => 1
  | 128 => 2
  | 129 => 2
  | 130 => 2
  | 131 => 1
  | 132 => 4
  | 133 => 2
  | 134 => 5
  | 135 => 3
  | 136 => 3
  | 137 => 7
  | 138 => 4
  | 139 => 4
  | 140 => 4
  | 141 => 2
  | 142 => 6
  | 143 => 2
  | 144 => 2
  | 145 => 2
  | 146 => 2
  | 147 => 2
  | 148 => 2
  | 149 => 2
  | 150 => 3
  | 151 => 3
  | 152 => 7
  | 153 => 6
  | 154 => 6
  | 155 => 3
  | 156 => 3
  | 157 => 4
  | 158 => 1
  | 159 => 6
  | 160 => 3
  | 161 => 4
  | 162 => 5
  | 163 => 3
  | 164 => 3
  | 165 => 1
  | 166 => 4
  | 167 => 2
  | 168 => 5
  | 169 => 2
  | 170 => 1
  | 171 => 4
  | 172 => 2
  | 173 => 2
  | 174 => 4
  | 175 => 2
  | 176 => 5
  | 177 => 4
  | 178 => 4
  | 179 => 2
  | 180 => 4
  | 181 => 3
  | 182 => 2
  | 183 => 6
  | 184 => 3
  | 185 => 4
  | 186 => 4
  | 187 => 3
  | 188 => 4
  | 189 => 5
  | 190 => 4
  | 191 => 6
  | 192 => 7
  | 193 => 5
  | 194 => 6
  | 195 => 8
  | 196 => 2
  | 197 => 1
  | 198 => 1
  | 199 => 1
  | 200 => 3
  | 201 => 3
  | 202 => 3
  | 203 => 5
  | 204 => 6
  | 205 => 2
  | 206 => 1
  | 207 => 5
  | 208 => 5
  | 209 => 7
  | 210 => 2
  | 211 => 4
  | 212 => 4
  | 213 => 1
  | 214 => 1
  | 215 => 2
  | 216 => 3
  | 217 => 2
  | 218 => 2
  | 219 => 1
  | 220 => 3
  | 221 => 1
  | 222 => 2
  | 223 => 2
  | 224 => 4
  | _ => 0
def zr : Nat → Option FieldType
  | 0 => none
  | 1 => some .int
  | 2 => some .int
  | 3 => some .int
  | 4 => some .int
  | 5 => some .int
  | 6 => some .int
  | 7 => some .boolean
  | 8 => some .int
  | 9 => some .int
  | 10 => none
  | 11 => some .int
  | 12 => some .int
  | 13 => none
  | 14 => some .int
  | 15 => none
  | 16 => none
  | 17 => none
  | 18 => some .int
  | 19 => some .boolean
  | 20 => some .int
  | 21 => none
  | 22 => some .int
  | 23 => some .int
  | 24 => some .int
  | 25 => some .int
  | 26 => some .int
  | 27 => some .int
  | 28 => some .int
  | 29 => some .boolean
  | 30 => some .int
  | 31 => some .int
  | 32 => some .int
  | 33 => some .boolean
  | 34 => some .int
  | 35 => none
  | 36 => none
  | 37 => none
  | 38 => some .int
  | 39 => some .boolean
  | 40 => none
  | 41 => none
  | 42 => some .int
  | 43 => some .int
  | 44 => none
  | 45 => none
  | 46 => none
  | 47 => none
  | 48 => none
  | 49 => none
  | 50 => some .boolean
  | 51 => none
  | 52 => none
  | 53 => some .boolean
  | 54 => none
  | 55 => some .boolean
  | 56 => some .int
  | 57 => some .int
  | 58 => some .int
  | 59 => some .int
  | 60 => some .int
  | 61 => some .int
  | 62 => some .int
  | 63 => some .int
  | 64 => some .int
  | 65 => some .int
  | 66 => some .int
  | 67 => some .int
  | 68 => some .int
  | 69 => some .int
  | 70 => some .int
  | 71 => some .int
  | 72 => some .int
  | 73 => some .int
  | 74 => some .int
  | 75 => some .int
  | 76 => some .int
  | 77 => some .int
  | 78 => some .int
  | 79 => some .int
  | 80 => some .int
  | 81 => some .int
  | 82 => some .int
  | 83 => some .int
  | 84 => some .int
  | 85 => some .int
  | 86 => some .int
  | 87 => some .int
  | 88 => some .int
  | 89 => some .int
  | 90 => some .int
  | 91 => some .int
  | 92 => some .int
  | 93 => some .int
  | 94 => some .int
  | 95 => some .int
  | 96 => some .int
  | 97 => some .int
  | 98 => some .int
  | 99 => some .int
  | 100 => some .int
  | 101 => some .int
  | 102 => some .int
  | 103 => some .boolean
  | 104 => some .boolean
  | 105 => some .boolean
  | 106 => (some (.object "ApronStrings$Law"))
  | 107 => some .boolean
  | 108 => some .int
  | 109 => some .boolean
  | 110 => some .int
  | 111 => some .boolean
  | 112 => some .int
  | 113 => none
  | 114 => none
  | 115 => none
  | 116 => some .boolean
  | 117 => some .boolean
  | 118 => some .int
  | 119 => none
  | 120 => some .int
  | 121 => some .boolean
  | 122 => some .int
  | 123 => some .int
  | 124 => some .boolean
  | 125 => none
  | 126 => some .boolean
  | 127 => some .boolean
  | 128 => some .boolean
  | 129 => some .boolean
  | 130 => some .boolean
  | 131 => some .boolean
  | 132 => some .boolean
  | 133 => some .boolean
  | 134 => some .int
  | 135 => some .int
  | 136 => some .int
  | 137 => some .int
  | 138 => some .boolean
  | 139 => some .int
  | 140 => some .int
  | 141 => some .int
  | 142 => some .int
  | 143 => some .int
  | 144 => some .int
  | 145 => some .int
  | 146 => some .int
  | 147 => some .int
  | 148 => none
  | 149 => none
  | 150 => none
  | 151 => none
  | 152 => some .boolean
  | 153 => some .boolean
  | 154 => none
  | 155 => none
  | 156 => some .int
  | 157 => some .int
  | 158 => some .boolean
  | 159 => some .int
  | 160 => some .int
  | 161 => some .int
  | 162 => some .int
  | 163 => some .int
  | 164 => some .int
  | 165 => some .boolean
  | 166 => some .int
  | 167 => some .int
  | 168 => some .int
  | 169 => some .int
  | 170 => some .int
  | 171 => some .int
  | 172 => some .int
  | 173 => some .int
  | 174 => some .int
  | 175 => some .int
  | 176 => some .int
  | 177 => some .int
  | 178 => some .int
  | 179 => some .int
  | 180 => some .int
  | 181 => some .int
  | 182 => some .int
  | 183 => some .int
  | 184 => some .boolean
  | 185 => some .int
  | 186 => some .int
  | 187 => some .int
  | 188 => some .int
  | 189 => some .boolean
  | 190 => some .int
  | 191 => some .boolean
  | 192 => some .int
  | 193 => some .int
  | 194 => some .int
  | 195 => some .int
  | 196 => none
  | 197 => some .int
  | 198 => some .int
  | 199 => some .int
  | 200 => some .int
  | 201 => some .int
  | 202 => some .int
  | 203 => some .int
  | 204 => some .int
  | 205 => some .int
  | 206 => some .boolean
  | 207 => some .int
  | 208 => some .int
  | 209 => some .int
  | 210 => some .int
  | 211 => some .int
  | 212 => some .int
  | 213 => some .int
  | 214 => some .int
  | 215 => some .int
  | 216 => some .int
  | 217 => some .int
  | 218 => some .int
  | 219 => some .int
  | 220 => some .int
  | 221 => some .int
  | 222 => some .int
  | 223 => some .int
  | 224 => some .boolean
  | _ => none
def zMN : Nat := 225
/-- own class, entry: whose field, which; the word that says so -/
def zfT : List (Nat × Nat × Nat × Nat × Nat) := [(0, 9, 0, 0, 120), (5, 42, 0, 0, 121), (5, 46, 0, 1, 122), (0, 22, 0, 1, 123), (7, 153, 0, 1, 124), (0, 18, 0, 2, 125), (0, 15, 0, 3, 126), (2, 40, 2, 0, 143), (2, 44, 2, 1, 144), (2, 9, 2, 2, 145), (7, 84, 2, 2, 146), (2, 15, 2, 3, 147), (7, 87, 2, 3, 148), (2, 18, 2, 4, 149), (7, 90, 2, 4, 150), (2, 21, 2, 5, 151), (7, 93, 2, 5, 152), (2, 24, 2, 6, 153), (7, 96, 2, 6, 154), (2, 27, 2, 7, 155), (7, 99, 2, 7, 156), (2, 30, 2, 8, 157), (7, 121, 2, 8, 158), (7, 76, 2, 9, 159), (2, 53, 2, 9, 160), (2, 56, 2, 10, 161), (7, 158, 2, 10, 162), (2, 59, 2, 11, 163), (7, 164, 2, 11, 164), (2, 33, 2, 12, 165), (7, 173, 2, 12, 166), (2, 37, 2, 13, 167), (2, 118, 2, 14, 168), (3, 7, 3, 0, 206), (1, 39, 3, 0, 207), (7, 264, 3, 0, 208), (3, 13, 3, 1, 209), (1, 32, 3, 1, 210), (7, 128, 3, 1, 211), (5, 14, 5, 0, 217), (7, 50, 5, 0, 218), (5, 20, 5, 1, 219), (7, 54, 5, 1, 220), (5, 28, 5, 2, 221), (7, 43, 5, 2, 222), (5, 35, 5, 3, 223), (7, 124, 5, 3, 224), (5, 39, 5, 4, 225), (7, 261, 5, 4, 226), (1, 9, 1, 0, 244), (7, 143, 1, 0, 245), (1, 18, 1, 1, 246), (7, 146, 1, 1, 247), (1, 15, 1, 2, 248), (1, 22, 1, 3, 249), (1, 25, 1, 4, 250), (1, 28, 1, 5, 251), (6, 11, 6, 0, 271), (7, 229, 6, 0, 272), (6, 32, 6, 1, 273), (7, 228, 6, 1, 274), (6, 28, 6, 2, 275), (7, 224, 6, 2, 276), (6, 18, 6, 3, 277), (6, 22, 6, 4, 278), (6, 25, 6, 5, 279), (4, 9, 4, 0, 302), (7, 246, 4, 0, 303), (4, 19, 4, 1, 304), (7, 236, 4, 1, 305), (4, 15, 4, 2, 306), (7, 240, 4, 2, 307), (7, 10, 7, 0, 315), (7, 16, 7, 1, 316), (7, 47, 7, 2, 317), (7, 60, 7, 3, 318), (7, 22, 7, 4, 319), (7, 29, 7, 5, 320), (7, 35, 7, 6, 321), (7, 39, 7, 7, 322), (7, 258, 7, 8, 323), (8, 7, 8, 0, 819), (8, 13, 8, 1, 820), (8, 16, 8, 2, 821), (8, 19, 8, 3, 822), (8, 293, 8, 4, 823), (8, 22, 8, 5, 824), (8, 64, 8, 6, 825), (8, 98, 8, 7, 826), (8, 71, 8, 8, 827), (8, 68, 8, 9, 828), (8, 25, 8, 10, 829), (8, 28, 8, 11, 830), (8, 31, 8, 12, 831), (8, 157, 8, 13, 832), (8, 255, 8, 14, 833), (8, 34, 8, 15, 834), (8, 258, 8, 16, 835), (8, 279, 8, 17, 836), (8, 37, 8, 18, 837), (8, 40, 8, 19, 838), (8, 43, 8, 20, 839), (8, 46, 8, 21, 840)]
def zf (o x : Nat) : Option (Nat × Nat) := (zfT.find? (fun q => q.1 == o && q.2.1 == x)).map (fun q => (q.2.2.1, q.2.2.2.1))
def zgT : List (Nat × Nat × Nat × Nat) := [(6, 15, 52, 422), (1, 79, 51, 492), (6, 50, 53, 728)]
def zg (o x : Nat) : Option Nat := (zgT.find? (fun q => q.1 == o && q.2.1 == x)).map (fun q => q.2.2.1)
def zkT : List (Nat × Nat × Int32 × Nat) := [(7, 269, -1000000000, 358), (2, 114, 1103515245, 596), (10, 265, 1431655765, 647), (10, 266, 858993459, 648), (10, 267, 252645135, 649), (8, 49, -1000000000, 897), (8, 209, 1103515245, 1111)]
def zk (o x : Nat) : Option Int32 := (zkT.find? (fun q => q.1 == o && q.2.1 == x)).map (fun q => q.2.2.1)
def zkLT : List (Nat × Nat × Int64 × Nat) := [(8, 62, 255, 898), (9, 49, 4294967295, 1312)]
def zkL (o x : Nat) : Option Int64 := (zkLT.find? (fun q => q.1 == o && q.2.1 == x)).map (fun q => q.2.2.1)
/-- own class, entry: the method called, the word of the link -/
def zcT : List (Nat × Nat × Nat × Nat) := [(9, 13, 61, 343), (7, 64, 103, 347), (7, 68, 104, 350), (7, 72, 102, 354), (7, 80, 18, 359), (2, 62, 22, 363), (2, 70, 221, 367), (9, 18, 62, 370), (7, 102, 22, 374), (7, 105, 30, 375), (2, 85, 32, 379), (2, 97, 33, 383), (2, 88, 1, 387), (0, 25, 2, 391), (0, 29, 220, 394), (0, 35, 223, 397), (0, 38, 222, 400), (7, 108, 31, 403), (2, 94, 34, 407), (9, 23, 63, 411), (9, 27, 64, 415), (7, 111, 55, 419), (9, 31, 65, 424), (7, 114, 19, 428), (9, 35, 66, 432), (7, 117, 21, 436), (9, 40, 67, 440), (9, 45, 68, 444), (9, 51, 69, 448), (7, 133, 48, 452), (9, 56, 70, 456), (7, 135, 3, 460), (1, 35, 4, 464), (1, 50, 5, 468), (1, 72, 15, 472), (1, 53, 6, 476), (1, 75, 7, 479), (1, 57, 8, 482), (1, 60, 16, 485), (1, 63, 9, 489), (1, 69, 10, 494), (1, 42, 11, 498), (1, 83, 12, 502), (1, 46, 13, 506), (1, 87, 14, 510), (7, 139, 106, 513), (7, 147, 0, 517), (9, 60, 71, 521), (9, 64, 72, 525), (7, 154, 1, 529), (9, 68, 73, 530), (7, 161, 35, 534), (2, 100, 36, 538), (2, 103, 31, 542), (2, 106, 39, 543), (2, 115, 40, 547), (2, 121, 42, 554), (2, 124, 45, 558), (2, 128, 43, 562), (2, 131, 30, 566), (2, 134, 41, 567), (2, 137, 44, 571), (2, 141, 46, 575), (2, 148, 21, 579), (2, 145, 47, 580), (9, 72, 74, 584), (7, 167, 37, 588), (2, 110, 38, 592), (7, 170, 36, 597), (9, 76, 75, 598), (9, 80, 76, 602), (9, 84, 77, 606), (7, 176, 24, 610), (9, 88, 78, 614), (7, 179, 25, 618), (9, 92, 79, 622), (7, 183, 28, 626), (2, 66, 19, 630), (2, 79, 26, 631), (2, 75, 223, 635), (2, 82, 27, 636), (9, 96, 80, 640), (7, 186, 219, 644), (9, 100, 81, 650), (7, 191, 29, 654), (9, 105, 82, 658), (7, 194, 17, 662), (9, 109, 83, 666), (7, 198, 20, 670), (9, 113, 84, 674), (9, 117, 85, 678), (7, 202, 107, 682), (9, 121, 86, 686), (7, 206, 108, 690), (9, 125, 87, 694), (9, 129, 88, 698), (7, 209, 105, 702), (7, 212, 50, 705), (7, 216, 109, 709), (9, 133, 89, 713), (7, 220, 56, 717), (6, 35, 57, 721), (6, 39, 60, 725), (6, 43, 58, 730), (6, 47, 59, 734), (9, 137, 90, 738), (9, 141, 91, 742), (7, 232, 51, 746), (9, 145, 92, 750), (7, 237, 52, 754), (9, 149, 93, 758), (7, 243, 53, 762), (9, 154, 94, 767), (9, 158, 95, 771), (9, 162, 96, 775), (7, 255, 54, 779), (5, 50, 0, 783), (5, 54, 17, 784), (5, 58, 49, 785), (9, 166, 97, 789), (9, 170, 98, 793), (9, 174, 99, 797), (9, 178, 100, 801), (7, 265, 23, 805), (9, 182, 101, 809), (9, 55, 122, 886), (8, 50, 111, 890), (8, 58, 110, 893), (9, 59, 134, 899), (8, 108, 126, 903), (8, 74, 127, 907), (8, 86, 128, 911), (8, 89, 129, 915), (8, 92, 130, 919), (8, 95, 132, 923), (8, 78, 123, 927), (8, 101, 124, 931), (8, 82, 125, 935), (8, 105, 131, 939), (9, 63, 135, 943), (8, 111, 133, 947), (9, 17, 159, 951), (8, 191, 158, 955), (8, 172, 117, 958), (8, 149, 119, 961), (8, 146, 146, 965), (8, 140, 121, 969), (8, 54, 118, 973), (8, 143, 145, 977), (9, 22, 160, 980), (8, 194, 116, 984), (8, 166, 143, 988), (8, 130, 139, 992), (8, 118, 138, 996), (8, 133, 142, 1000), (8, 121, 137, 1004), (8, 114, 136, 1008), (8, 124, 141, 1011), (8, 127, 112, 1014), (8, 181, 144, 1017), (8, 137, 140, 1021), (9, 26, 161, 1025), (9, 30, 162, 1029), (8, 197, 197, 1033), (9, 34, 163, 1036), (8, 200, 120, 1040), (9, 39, 164, 1044), (8, 153, 148, 1048), (9, 44, 166, 1052), (8, 203, 165, 1056), (9, 48, 167, 1059), (9, 67, 168, 1063), (9, 71, 169, 1067), (8, 206, 155, 1071), (8, 188, 154, 1075), (8, 184, 153, 1079), (8, 175, 147, 1083), (8, 178, 152, 1087), (8, 160, 150, 1091), (8, 163, 149, 1095), (8, 169, 151, 1099), (9, 75, 171, 1103), (8, 210, 170, 1107), (9, 79, 172, 1112), (9, 83, 173, 1116), (9, 87, 175, 1120), (8, 213, 174, 1124), (9, 91, 177, 1128), (8, 216, 176, 1132), (9, 95, 182, 1136), (8, 225, 180, 1140), (8, 219, 178, 1144), (8, 222, 179, 1148), (9, 99, 183, 1152), (8, 228, 181, 1156), (9, 104, 185, 1159), (8, 231, 184, 1163), (9, 108, 186, 1167), (8, 234, 114, 1171), (8, 237, 115, 1175), (9, 112, 187, 1179), (8, 240, 156, 1183), (9, 116, 188, 1187), (9, 120, 190, 1191), (8, 243, 189, 1195), (9, 124, 192, 1199), (8, 246, 191, 1203), (9, 128, 194, 1207), (8, 249, 193, 1211), (9, 132, 195, 1214), (8, 252, 206, 1218), (9, 136, 204, 1221), (8, 267, 198, 1225), (8, 264, 200, 1229), (8, 261, 196, 1233), (8, 270, 201, 1237), (8, 273, 199, 1241), (8, 276, 202, 1245), (8, 283, 203, 1249), (9, 140, 205, 1253), (9, 144, 207, 1257), (9, 148, 208, 1261), (9, 153, 209, 1265), (9, 157, 211, 1269), (8, 286, 210, 1273), (9, 161, 212, 1277), (9, 165, 213, 1281), (8, 289, 113, 1285), (9, 169, 214, 1288), (9, 173, 215, 1292), (9, 177, 216, 1296), (9, 181, 217, 1300), (8, 296, 157, 1304), (9, 185, 218, 1308)]
def zc (o x : Nat) : Option Nat := (zcT.find? (fun q => q.1 == o && q.2.1 == x)).map (fun q => q.2.2.1)
def zaT : List (Nat × Nat × Nat) := [(2, 47, 551), (7, 249, 766)]
/-- is this entry System.arraycopy -/
def za (o x : Nat) : Bool := (zaT.find? (fun q => q.1 == o && q.2.1 == x)).isSome
/-- a method: static or not, how many go in (the receiver counts), the words of its code, of its class made, of static or instance, of selects -/
def zmT : List (Nat × Bool × Nat × Nat × Nat × Nat × Nat) := [(0, false, 3, 520, 90, 518, 519), (1, false, 4, 390, 90, 388, 389), (2, true, 3, 393, 90, 392, 0), (3, false, 3, 463, 93, 461, 462), (4, false, 4, 467, 93, 466, 5), (5, false, 2, 471, 93, 470, 6), (6, true, 2, 478, 93, 477, 0), (7, true, 1, 481, 93, 480, 0), (8, true, 3, 484, 93, 483, 0), (9, true, 2, 491, 93, 490, 0), (10, false, 1, 497, 93, 496, 9), (11, false, 2, 501, 93, 500, 10), (12, false, 1, 505, 93, 504, 11), (13, false, 2, 509, 93, 508, 12), (14, true, 1, 512, 93, 511, 0), (15, false, 2, 475, 93, 474, 7), (16, false, 2, 488, 93, 487, 8), (17, false, 2, 665, 91, 663, 664), (18, false, 5, 362, 91, 360, 361), (19, false, 2, 431, 91, 429, 430), (20, false, 1, 673, 91, 671, 672), (21, false, 2, 439, 91, 437, 438), (22, false, 2, 366, 91, 364, 365), (23, false, 2, 808, 91, 806, 807), (24, false, 2, 613, 91, 611, 612), (25, false, 3, 621, 91, 619, 620), (26, false, 2, 634, 91, 633, 24), (27, false, 2, 639, 91, 638, 25), (28, false, 2, 629, 91, 627, 628), (29, false, 3, 657, 91, 655, 656), (30, false, 2, 378, 91, 376, 377), (31, false, 2, 406, 91, 404, 405), (32, false, 2, 382, 91, 381, 2), (33, false, 2, 386, 91, 385, 3), (34, false, 2, 410, 91, 409, 4), (35, false, 2, 537, 91, 535, 536), (36, false, 1, 541, 91, 539, 540), (37, false, 1, 591, 91, 589, 590), (38, false, 1, 595, 91, 594, 23), (39, false, 3, 546, 91, 545, 14), (40, false, 1, 550, 91, 549, 15), (41, false, 1, 570, 91, 569, 19), (42, false, 1, 557, 91, 556, 16), (43, false, 2, 565, 91, 564, 18), (44, false, 4, 574, 91, 573, 20), (45, false, 3, 561, 91, 560, 17), (46, false, 2, 578, 91, 577, 21), (47, false, 3, 583, 91, 582, 22), (48, false, 2, 455, 92, 453, 454), (49, false, 2, 788, 92, 786, 787), (50, false, 1, 708, 95, 706, 707), (51, false, 3, 749, 95, 747, 748), (52, false, 3, 757, 95, 755, 756), (53, false, 3, 765, 95, 763, 764), (54, false, 2, 782, 89, 780, 781), (55, true, 2, 421, 94, 420, 0), (56, false, 6, 720, 94, 718, 719), (57, false, 5, 724, 94, 723, 29), (58, false, 4, 733, 94, 732, 30), (59, false, 4, 737, 94, 736, 31), (60, true, 2, 727, 94, 726, 0), (61, false, 5, 346, 88, 344, 345), (62, false, 3, 373, 88, 371, 372), (63, false, 3, 414, 88, 412, 413), (64, false, 3, 418, 88, 416, 417), (65, false, 3, 427, 88, 425, 426), (66, false, 2, 435, 88, 433, 434), (67, false, 4, 443, 88, 441, 442), (68, false, 2, 447, 88, 445, 446), (69, false, 3, 451, 88, 449, 450), (70, false, 2, 459, 88, 457, 458), (71, false, 2, 524, 88, 522, 523), (72, false, 5, 528, 88, 526, 527), (73, false, 2, 533, 88, 531, 532), (74, false, 2, 587, 88, 585, 586), (75, false, 2, 601, 88, 599, 600), (76, false, 2, 605, 88, 603, 604), (77, false, 2, 609, 88, 607, 608), (78, false, 3, 617, 88, 615, 616), (79, false, 2, 625, 88, 623, 624), (80, false, 2, 643, 88, 641, 642), (81, false, 1, 653, 88, 651, 652), (82, false, 3, 661, 88, 659, 660), (83, false, 2, 669, 88, 667, 668), (84, false, 3, 677, 88, 675, 676), (85, false, 3, 681, 88, 679, 680), (86, false, 3, 689, 88, 687, 688), (87, false, 4, 697, 88, 695, 696), (88, false, 4, 701, 88, 699, 700), (89, false, 4, 716, 88, 714, 715), (90, false, 2, 741, 88, 739, 740), (91, false, 4, 745, 88, 743, 744), (92, false, 4, 753, 88, 751, 752), (93, false, 6, 761, 88, 759, 760), (94, false, 2, 770, 88, 768, 769), (95, false, 2, 774, 88, 772, 773), (96, false, 1, 778, 88, 776, 777), (97, false, 1, 792, 88, 790, 791), (98, false, 2, 796, 88, 794, 795), (99, false, 1, 800, 88, 798, 799), (100, false, 2, 804, 88, 802, 803), (101, false, 2, 812, 88, 810, 811), (102, false, 2, 357, 88, 356, 1), (103, true, 2, 349, 88, 348, 0), (104, false, 2, 353, 88, 352, 0), (105, true, 1, 704, 88, 703, 0), (106, false, 2, 516, 88, 515, 13), (107, false, 4, 685, 88, 684, 26), (108, false, 4, 693, 88, 692, 27), (109, false, 4, 712, 88, 711, 28), (110, false, 2, 896, 96, 895, 32), (111, true, 3, 892, 96, 891, 0), (112, true, 3, 1016, 96, 1015, 0), (113, true, 2, 1287, 96, 1286, 0), (114, false, 1, 1174, 96, 1173, 73), (115, false, 1, 1178, 96, 1177, 74), (116, false, 2, 987, 96, 986, 48), (117, true, 1, 960, 96, 959, 0), (118, false, 3, 976, 96, 975, 47), (119, false, 4, 964, 96, 963, 44), (120, false, 3, 1043, 96, 1042, 56), (121, false, 2, 972, 96, 971, 46), (122, false, 3, 889, 96, 887, 888), (123, false, 1, 930, 96, 929, 39), (124, false, 2, 934, 96, 933, 40), (125, false, 3, 938, 96, 937, 41), (126, false, 1, 906, 96, 905, 33), (127, false, 1, 910, 96, 909, 34), (128, false, 1, 914, 96, 913, 35), (129, false, 1, 918, 96, 917, 36), (130, false, 1, 922, 96, 921, 37), (131, false, 1, 942, 96, 941, 42), (132, false, 1, 926, 96, 925, 38), (133, false, 2, 950, 96, 949, 43), (134, false, 2, 902, 96, 900, 901), (135, false, 2, 946, 96, 944, 945), (136, true, 3, 1010, 96, 1009, 0), (137, false, 2, 1007, 96, 1006, 53), (138, false, 2, 999, 96, 998, 51), (139, false, 2, 995, 96, 994, 50), (140, false, 2, 1024, 96, 1023, 55), (141, true, 1, 1013, 96, 1012, 0), (142, false, 5, 1003, 96, 1002, 52), (143, false, 2, 991, 96, 990, 49), (144, false, 2, 1020, 96, 1019, 54), (145, true, 2, 979, 96, 978, 0), (146, false, 2, 968, 96, 967, 45), (147, false, 1, 1086, 96, 1085, 61), (148, false, 2, 1051, 96, 1050, 57), (149, false, 2, 1098, 96, 1097, 64), (150, false, 3, 1094, 96, 1093, 63), (151, false, 3, 1102, 96, 1101, 65), (152, false, 2, 1090, 96, 1089, 62), (153, false, 3, 1082, 96, 1081, 60), (154, false, 1, 1078, 96, 1077, 59), (155, false, 2, 1074, 96, 1073, 58), (156, false, 1, 1186, 96, 1185, 75), (157, false, 2, 1307, 96, 1306, 86), (158, true, 1, 957, 96, 956, 0), (159, false, 5, 954, 96, 952, 953), (160, false, 3, 983, 96, 981, 982), (161, false, 3, 1028, 96, 1026, 1027), (162, false, 3, 1032, 96, 1030, 1031), (163, false, 3, 1039, 96, 1037, 1038), (164, false, 2, 1047, 96, 1045, 1046), (165, true, 1, 1058, 96, 1057, 0), (166, false, 4, 1055, 96, 1053, 1054), (167, false, 2, 1062, 96, 1060, 1061), (168, false, 5, 1066, 96, 1064, 1065), (169, false, 2, 1070, 96, 1068, 1069), (170, false, 1, 1110, 96, 1109, 66), (171, false, 2, 1106, 96, 1104, 1105), (172, false, 2, 1115, 96, 1113, 1114), (173, false, 2, 1119, 96, 1117, 1118), (174, false, 2, 1127, 96, 1126, 67), (175, false, 2, 1123, 96, 1121, 1122), (176, false, 3, 1135, 96, 1134, 68), (177, false, 3, 1131, 96, 1129, 1130), (178, false, 2, 1147, 96, 1146, 70), (179, false, 2, 1151, 96, 1150, 71), (180, false, 2, 1143, 96, 1142, 69), (181, true, 1, 1158, 96, 1157, 0), (182, false, 2, 1139, 96, 1137, 1138), (183, false, 2, 1155, 96, 1153, 1154), (184, false, 3, 1166, 96, 1165, 72), (185, false, 1, 1162, 96, 1160, 1161), (186, false, 3, 1170, 96, 1168, 1169), (187, false, 2, 1182, 96, 1180, 1181), (188, false, 3, 1190, 96, 1188, 1189), (189, false, 4, 1198, 96, 1197, 76), (190, false, 3, 1194, 96, 1192, 1193), (191, false, 4, 1206, 96, 1205, 77), (192, false, 3, 1202, 96, 1200, 1201), (193, true, 2, 1213, 96, 1212, 0), (194, false, 4, 1210, 96, 1208, 1209), (195, false, 4, 1217, 96, 1215, 1216), (196, false, 2, 1236, 96, 1235, 80), (197, true, 1, 1035, 96, 1034, 0), (198, false, 1, 1228, 96, 1227, 78), (199, false, 1, 1244, 96, 1243, 82), (200, false, 3, 1232, 96, 1231, 79), (201, false, 3, 1240, 96, 1239, 81), (202, false, 3, 1248, 96, 1247, 83), (203, false, 3, 1252, 96, 1251, 84), (204, false, 4, 1224, 96, 1222, 1223), (205, false, 2, 1256, 96, 1254, 1255), (206, true, 1, 1220, 96, 1219, 0), (207, false, 4, 1260, 96, 1258, 1259), (208, false, 4, 1264, 96, 1262, 1263), (209, false, 6, 1268, 96, 1266, 1267), (210, false, 2, 1276, 96, 1275, 85), (211, false, 2, 1272, 96, 1270, 1271), (212, false, 2, 1280, 96, 1278, 1279), (213, false, 1, 1284, 96, 1282, 1283), (214, false, 1, 1291, 96, 1289, 1290), (215, false, 2, 1295, 96, 1293, 1294), (216, false, 1, 1299, 96, 1297, 1298), (217, false, 2, 1303, 96, 1301, 1302), (218, false, 2, 1311, 96, 1309, 1310), (219, true, 1, 646, 99, 645, 0), (220, true, 2, 396, 97, 395, 0), (221, true, 1, 369, 97, 368, 0), (222, true, 2, 402, 97, 401, 0), (223, true, 2, 399, 97, 398, 0)]
def zst : Nat → Bool
  | 2 => true
  | 6 => true
  | 7 => true
  | 8 => true
  | 9 => true
  | 14 => true
  | 55 => true
  | 60 => true
  | 103 => true
  | 105 => true
  | 111 => true
  | 112 => true
  | 113 => true
  | 117 => true
  | 136 => true
  | 141 => true
  | 145 => true
  | 158 => true
  | 165 => true
  | 181 => true
  | 193 => true
  | 197 => true
  | 206 => true
  | 219 => true
  | 220 => true
  | 221 => true
  | 222 => true
  | 223 => true
  | 224 => true
  | _ => false
def zna : Nat → Nat
  | 0 => 3
  | 1 => 4
  | 2 => 3
  | 3 => 3
  | 4 => 4
  | 5 => 2
  | 6 => 2
  | 7 => 1
  | 8 => 3
  | 9 => 2
  | 10 => 1
  | 11 => 2
  | 12 => 1
  | 13 => 2
  | 14 => 1
  | 15 => 2
  | 16 => 2
  | 17 => 2
  | 18 => 5
  | 19 => 2
  | 20 => 1
  | 21 => 2
  | 22 => 2
  | 23 => 2
  | 24 => 2
  | 25 => 3
  | 26 => 2
  | 27 => 2
  | 28 => 2
  | 29 => 3
  | 30 => 2
  | 31 => 2
  | 32 => 2
  | 33 => 2
  | 34 => 2
  | 35 => 2
  | 36 => 1
  | 37 => 1
  | 38 => 1
  | 39 => 3
  | 40 => 1
  | 41 => 1
  | 42 => 1
  | 43 => 2
  | 44 => 4
  | 45 => 3
  | 46 => 2
  | 47 => 3
  | 48 => 2
  | 49 => 2
  | 50 => 1
  | 51 => 3
  | 52 => 3
  | 53 => 3
  | 54 => 2
  | 55 => 2
  | 56 => 6
  | 57 => 5
  | 58 => 4
  | 59 => 4
  | 60 => 2
  | 61 => 5
  | 62 => 3
  | 63 => 3
  | 64 => 3
  | 65 => 3
  | 66 => 2
  | 67 => 4
  | 68 => 2
  | 69 => 3
  | 70 => 2
  | 71 => 2
  | 72 => 5
  | 73 => 2
  | 74 => 2
  | 75 => 2
  | 76 => 2
  | 77 => 2
  | 78 => 3
  | 79 => 2
  | 80 => 2
  | 81 => 1
  | 82 => 3
  | 83 => 2
  | 84 => 3
  | 85 => 3
  | 86 => 3
  | 87 => 4
  | 88 => 4
  | 89 => 4
  | 90 => 2
  | 91 => 4
  | 92 => 4
  | 93 => 6
  | 94 => 2
  | 95 => 2
  | 96 => 1
  | 97 => 1
  | 98 => 2
  | 99 => 1
  | 100 => 2
  | 101 => 2
  | 102 => 2
  | 103 => 2
  | 104 => 2
  | 105 => 1
  | 106 => 2
  | 107 => 4
  | 108 => 4
  | 109 => 4
  | 110 => 2
  | 111 => 3
  | 112 => 3
  | 113 => 2
  | 114 => 1
  | 115 => 1
  | 116 => 2
  | 117 => 1
  | 118 => 3
  | 119 => 4
  | 120 => 3
  | 121 => 2
  | 122 => 3
  | 123 => 1
  | 124 => 2
  | 125 => 3
  | 126 => 1
  | 127 => 1
  | 128 => 1
  | 129 => 1
  | 130 => 1
  | 131 => 1
  | 132 => 1
  | 133 => 2
  | 134 => 2
  | 135 => 2
  | 136 => 3
  | 137 => 2
  | 138 => 2
  | 139 => 2
  | 140 => 2
  | 141 => 1
  | 142 => 5
  | 143 => 2
  | 144 => 2
  | 145 => 2
  | 146 => 2
  | 147 => 1
  | 148 => 2
  | 149 => 2
  | 150 => 3
  | 151 => 3
  | 152 => 2
  | 153 => 3
  | 154 => 1
  | 155 => 2
  | 156 => 1
  | 157 => 2
  | 158 => 1
  | 159 => 5
  | 160 => 3
  | 161 => 3
  | 162 => 3
  | 163 => 3
  | 164 => 2
  | 165 => 1
  | 166 => 4
  | 167 => 2
  | 168 => 5
  | 169 => 2
  | 170 => 1
  | 171 => 2
  | 172 => 2
  | 173 => 2
  | 174 => 2
  | 175 => 2
  | 176 => 3
  | 177 => 3
  | 178 => 2
  | 179 => 2
  | 180 => 2
  | 181 => 1
  | 182 => 2
  | 183 => 2
  | 184 => 3
  | 185 => 1
  | 186 => 3
  | 187 => 2
  | 188 => 3
  | 189 => 4
  | 190 => 3
  | 191 => 4
  | 192 => 3
  | 193 => 2
  | 194 => 4
  | 195 => 4
  | 196 => 2
  | 197 => 1
  | 198 => 1
  | 199 => 1
  | 200 => 3
  | 201 => 3
  | 202 => 3
  | 203 => 3
  | 204 => 4
  | 205 => 2
  | 206 => 1
  | 207 => 4
  | 208 => 4
  | 209 => 6
  | 210 => 2
  | 211 => 2
  | 212 => 2
  | 213 => 1
  | 214 => 1
  | 215 => 2
  | 216 => 1
  | 217 => 2
  | 218 => 2
  | 219 => 1
  | 220 => 2
  | 221 => 1
  | 222 => 2
  | 223 => 2
  | 224 => 1
  | _ => 0
def zTb : List Cond := lw_tbl.filter goodWord
end
section
/-! A small machine over tables of numbers: what one method does with the cells, as a function. -/
def zup (σ : zS) (c i k : Nat) (v : Int32) : zS := fun c' i' k' => if c' = c ∧ i' = i ∧ k' = k then v else σ c' i' k'
def zcp (σ : zS) (c i c2 i2 sp dp n : Nat) : zS := fun c' i' k => if c' = c2 ∧ i' = i2 then va_cpy (σ c i) (σ c2 i2) sp dp n k else σ c' i' k
def zget (ls : zO) (k : Nat) : Option zA := match ls[k]? with
  | some (some v) => some v
  | _ => none
def zlong : zA → Bool
  | .inr (.inl _) => true
  | _ => false
def zset (ls : zO) (k : Nat) (v : zA) : Option zO :=
  if k < ls.length then
    (match k with
    | 0 => some (ls.set 0 (some v))
    | j + 1 => match ls[j]? with
      | some (some w) => if zlong w then none else some (ls.set (j + 1) (some v))
      | _ => some (ls.set (j + 1) (some v)))
  else none
/-- how many numbers a cell of numbers has; that of the script (50) stands beside it -/
def zln (σ : zS) (c i : Nat) : Nat := match c with
  | 50 => (σ 50 1 0).toNatClampNeg
  | 51 => 6
  | 52 => 7
  | 53 => 28
  | c => zlen c i
/-- cells of ints that may be written -/
def zia (c : Nat) : Bool := 10 ≤ c && c < 43 && c != 25
def zfv (σ : zS) (c i k : Nat) : zA := match zfr c k i with
  | some q => zR q.1 q.2
  | none => zI (σ c i k)
def zsw (x : Int32) : Int → List Int → Int → Int
  | _, [], d => d
  | lo, o :: r, d => if x.toInt = lo then o else zsw x (lo + 1) r d
def zlk (x : Int32) : List (Int × Int) → Int → Int
  | [], d => d
  | q :: r, d => if x.toInt = q.1 then q.2 else zlk x r d
def ztg (pc : Nat) (off : Int) : Option Nat := if 0 ≤ (pc : Int) + off then some ((pc : Int) + off).toNat else none
def zcat : zA → Nat
  | .inr (.inl _) => 2
  | _ => 1
def zbin (f : Int32 → Int32 → Int32) (pc : Nat) (ls : zO) (st : List zA) (σ : zS) : Option (Nat × zO × List zA × zS) := match st with
  | .inl y :: .inl x :: r => some (pc + 1, ls, zI (f x y) :: r, σ)
  | _ => none
def zbr1 (c : Int32 → Bool) (off : Int) (pc : Nat) (ls : zO) (st : List zA) (σ : zS) : Option (Nat × zO × List zA × zS) := match st with
  | .inl x :: r => (match ztg pc off with
    | some t => some (if c x then t else pc + 3, ls, r, σ)
    | none => none)
  | _ => none
def zbr2 (c : Int32 → Int32 → Bool) (off : Int) (pc : Nat) (ls : zO) (st : List zA) (σ : zS) : Option (Nat × zO × List zA × zS) := match st with
  | .inl y :: .inl x :: r => (match ztg pc off with
    | some t => some (if c x y then t else pc + 3, ls, r, σ)
    | none => none)
  | _ => none
def zpush (v : zA) (ln pc : Nat) (ls : zO) (st : List zA) (σ : zS) : Option (Nat × zO × List zA × zS) := some (pc + ln, ls, v :: st, σ)
def zldi (k ln pc : Nat) (ls : zO) (st : List zA) (σ : zS) : Option (Nat × zO × List zA × zS) := match zget ls k with
  | some (.inl x) => some (pc + ln, ls, zI x :: st, σ)
  | _ => none
def zlda (k ln pc : Nat) (ls : zO) (st : List zA) (σ : zS) : Option (Nat × zO × List zA × zS) := match zget ls k with
  | some (.inr (.inr q)) => some (pc + ln, ls, zR q.1 q.2 :: st, σ)
  | _ => none
def zsti (k ln pc : Nat) (ls : zO) (st : List zA) (σ : zS) : Option (Nat × zO × List zA × zS) := match st with
  | .inl x :: r => (match zset ls k (zI x) with
    | some ls' => some (pc + ln, ls', r, σ)
    | none => none)
  | _ => none
def zsta (k ln pc : Nat) (ls : zO) (st : List zA) (σ : zS) : Option (Nat × zO × List zA × zS) := match st with
  | .inr (.inr q) :: r => (match zset ls k (zR q.1 q.2) with
    | some ls' => some (pc + ln, ls', r, σ)
    | none => none)
  | _ => none
abbrev zin (i : Int32) (n : Nat) : Prop := ¬ (i < 0 ∨ n ≤ i.toNatClampNeg)
def zstep (o : Nat) (i : Instr) (ln pc : Nat) (ls : zO) (st : List zA) (σ : zS) : Option (Nat × zO × List zA × zS) := match i with
  | .iconst n => zpush (zI (Int32.ofInt n)) 1 pc ls st σ
  | .bipush n => zpush (zI (Int8.ofInt n).toInt32) 2 pc ls st σ
  | .sipush n => zpush (zI (Int16.ofInt n).toInt32) 3 pc ls st σ
  | .ldc x => (match zk o x with
    | some v => zpush (zI v) 2 pc ls st σ
    | none => none)
  | .ldc_w x => (match zk o x with
    | some v => zpush (zI v) 3 pc ls st σ
    | none => none)
  | .ldc2_w x => (match zkL o x with
    | some v => zpush (zL v) 3 pc ls st σ
    | none => none)
  | .iload k => zldi k 2 pc ls st σ
  | .iload_n k => zldi k 1 pc ls st σ
  | .lload_n k => (match zget ls k with
    | some (.inr (.inl x)) => some (pc + 1, ls, zL x :: st, σ)
    | _ => none)
  | .aload k => zlda k 2 pc ls st σ
  | .aload_n k => zlda k 1 pc ls st σ
  | .istore k => zsti k 2 pc ls st σ
  | .istore_n k => zsti k 1 pc ls st σ
  | .astore k => zsta k 2 pc ls st σ
  | .astore_n k => zsta k 1 pc ls st σ
  | .iinc k n => if ln = 3 then (match zget ls k with
    | some (.inl x) => (match zset ls k (zI (x + Int32.ofInt n)) with
      | some ls' => some (pc + 3, ls', st, σ)
      | none => none)
    | _ => none) else none
  | .iadd => zbin (fun x y => x + y) pc ls st σ
  | .isub => zbin (fun x y => x - y) pc ls st σ
  | .imul => zbin (fun x y => x * y) pc ls st σ
  | .iand => zbin (fun x y => x &&& y) pc ls st σ
  | .ior => zbin (fun x y => x ||| y) pc ls st σ
  | .ixor => zbin (fun x y => x ^^^ y) pc ls st σ
  | .ishl => zbin (fun x y => x <<< (y &&& 31)) pc ls st σ
  | .ishr => zbin (fun x y => x >>> (y &&& 31)) pc ls st σ
  | .iushr => zbin (fun x y => (x.toUInt32 >>> (y.toUInt32 &&& Int32.toUInt32 31)).toInt32) pc ls st σ
  | .idiv => (match st with
    | .inl y :: .inl x :: r => if y = 0 then none else some (pc + 1, ls, zI (x / y) :: r, σ)
    | _ => none)
  | .irem => (match st with
    | .inl y :: .inl x :: r => if y = 0 then none else some (pc + 1, ls, zI (x - x / y * y) :: r, σ)
    | _ => none)
  | .ineg => (match st with
    | .inl x :: r => some (pc + 1, ls, zI (-x) :: r, σ)
    | _ => none)
  | .i2l => (match st with
    | .inl x :: r => some (pc + 1, ls, zL x.toInt64 :: r, σ)
    | _ => none)
  | .l2i => (match st with
    | .inr (.inl x) :: r => some (pc + 1, ls, zI x.toInt32 :: r, σ)
    | _ => none)
  | .land => (match st with
    | .inr (.inl y) :: .inr (.inl x) :: r => some (pc + 1, ls, zL (x &&& y) :: r, σ)
    | _ => none)
  | .lor => (match st with
    | .inr (.inl y) :: .inr (.inl x) :: r => some (pc + 1, ls, zL (x ||| y) :: r, σ)
    | _ => none)
  | .lshl => (match st with
    | .inl y :: .inr (.inl x) :: r => some (pc + 1, ls, zL (x <<< (y.toInt64 &&& 63)) :: r, σ)
    | _ => none)
  | .lshr => (match st with
    | .inl y :: .inr (.inl x) :: r => some (pc + 1, ls, zL (x >>> (y.toInt64 &&& 63)) :: r, σ)
    | _ => none)
  | .lushr => (match st with
    | .inl y :: .inr (.inl x) :: r => some (pc + 1, ls, zL ((x.toUInt64 >>> (y.toInt64.toUInt64 &&& Int64.toUInt64 63)).toInt64) :: r, σ)
    | _ => none)
  | .dup => (match st with
    | v :: r => if zlong v then none else some (pc + 1, ls, v :: v :: r, σ)
    | _ => none)
  | .dup2 => (match st with
    | v :: w :: r => if zlong v || zlong w then none else some (pc + 1, ls, v :: w :: v :: w :: r, σ)
    | _ => none)
  | .getfield x => (match st with
    | .inr (.inr q) :: r => (match zf o x with
      | some (c, k) => if q.1 = c then some (pc + 3, ls, zfv σ c q.2 k :: r, σ) else none
      | none => none)
    | _ => none)
  | .putfield x => (match st with
    | .inl v :: .inr (.inr q) :: r => (match zf o x with
      | some (c, k) => if q.1 = c ∧ zfr c k q.2 = none ∧ (zT c k).2.2.2 = false ∧ (zfb c k = true → v = 0 ∨ v = 1) then some (pc + 3, ls, r, zup σ c q.2 k v) else none
      | none => none)
    | _ => none)
  | .getstatic x => (match zg o x with
    | some t => some (pc + 3, ls, zR t 0 :: st, σ)
    | none => none)
  | .iaload => (match st with
    | .inl j :: .inr (.inr q) :: r => if (zia q.1 = true ∨ q.1 = 50 ∨ q.1 = 52 ∨ q.1 = 53) ∧ zin j (zln σ q.1 q.2) then some (pc + 1, ls, zI (σ q.1 q.2 j.toNatClampNeg) :: r, σ) else none
    | _ => none)
  | .caload => (match st with
    | .inl j :: .inr (.inr q) :: r => if q.1 = 51 ∧ zin j (zln σ q.1 q.2) then some (pc + 1, ls, zI (σ q.1 q.2 j.toNatClampNeg) :: r, σ) else none
    | _ => none)
  | .aaload => (match st with
    | .inl j :: .inr (.inr q) :: r => if q.1 = 25 ∧ zin j 4 then some (pc + 1, ls, zR 4 j.toNatClampNeg :: r, σ) else none
    | _ => none)
  | .iastore => (match st with
    | .inl v :: .inl j :: .inr (.inr q) :: r => if zia q.1 = true ∧ zin j (zln σ q.1 q.2) then some (pc + 1, ls, r, zup σ q.1 q.2 j.toNatClampNeg v) else none
    | _ => none)
  | .arraylength => (match st with
    | .inr (.inr q) :: r => if zia q.1 = true ∨ q.1 = 50 ∨ q.1 = 52 ∨ q.1 = 53 ∨ q.1 = 51 then some (pc + 1, ls, zI (Int32.ofNat (zln σ q.1 q.2)) :: r, σ) else none
    | _ => none)
  | .ifCond .eq off => zbr1 (fun x => decide (x = 0)) off pc ls st σ
  | .ifCond .ne off => zbr1 (fun x => decide (¬ x = 0)) off pc ls st σ
  | .ifCond .lt off => zbr1 (fun x => decide (x < 0)) off pc ls st σ
  | .ifCond .ge off => zbr1 (fun x => decide (0 ≤ x)) off pc ls st σ
  | .ifCond .gt off => zbr1 (fun x => decide (0 < x)) off pc ls st σ
  | .ifCond .le off => zbr1 (fun x => decide (x ≤ 0)) off pc ls st σ
  | .if_icmp .eq off => zbr2 (fun x y => decide (x = y)) off pc ls st σ
  | .if_icmp .ne off => zbr2 (fun x y => decide (¬ x = y)) off pc ls st σ
  | .if_icmp .lt off => zbr2 (fun x y => decide (x < y)) off pc ls st σ
  | .if_icmp .ge off => zbr2 (fun x y => decide (y ≤ x)) off pc ls st σ
  | .if_icmp .gt off => zbr2 (fun x y => decide (y < x)) off pc ls st σ
  | .if_icmp .le off => zbr2 (fun x y => decide (x ≤ y)) off pc ls st σ
  | .goto off => (match ztg pc off with
    | some t => some (t, ls, st, σ)
    | none => none)
  | .tableswitch d lo hi offs => (match st with
    | .inl x :: r => if hi + 1 = lo + offs.size then (match ztg pc (zsw x lo offs.toList d) with
      | some t => some (t, ls, r, σ)
      | none => none) else none
    | _ => none)
  | .lookupswitch d ps => (match st with
    | .inl x :: r => if (ps.toList.zip (ps.toList.drop 1)).all (fun (a, next) => a.1 < next.1) = true then (match ztg pc (zlk x ps.toList d) with
      | some t => some (t, ls, r, σ)
      | none => none) else none
    | _ => none)
  | .invokestatic x => if za o x = true then (match st with
    | .inl n :: .inl dp :: .inr (.inr q2) :: .inl sp :: .inr (.inr q1) :: r =>
      if zia q1.1 = true ∧ zia q2.1 = true ∧ ¬ sp < 0 ∧ ¬ dp < 0 ∧ ¬ n < 0 ∧ sp.toNatClampNeg + n.toNatClampNeg ≤ zln σ q1.1 q1.2 ∧ dp.toNatClampNeg + n.toNatClampNeg ≤ zln σ q2.1 q2.2 ∧ (r.map zcat).sum ≤ 8 then
        some (pc + 3, ls, r, zcp σ q1.1 q1.2 q2.1 q2.2 sp.toNatClampNeg dp.toNatClampNeg n.toNatClampNeg) else none
    | _ => none) else none
  | _ => none
def zret (mi : Nat) (i : Instr) (st : List zA) : Option (Option zA) := match i with
  | .ireturn => (match st with
    | [.inl x] => (match zr mi with
      | some .int => some (some (zI x))
      | some .boolean => if x = 0 ∨ x = 1 then some (some (zI x)) else none
      | _ => none)
    | _ => none)
  | .areturn => (match st with
    | [.inr (.inr q)] => (match zr mi with
      | some (.object _) => some (some (zR q.1 q.2))
      | _ => none)
    | _ => none)
  | .return_ => (match st with
    | [] => (match zr mi with
      | none => some none
      | _ => none)
    | _ => none)
  | _ => none
def zel (as : List zA) : zO := as.flatMap (fun a => if zlong a then [some a, none] else [some a])
def zent (as : List zA) (nL : Nat) : zO := zel as ++ List.replicate (nL - (zel as).length) none
def zrcv (mj : Nat) (as : List zA) : Bool := match as with
  | .inr (.inr q) :: _ => q.1 == zo mj
  | _ => false
/-- a call: the method, what goes in, what stays below -/
def zcall (o : Nat) (i : Instr) (st : List zA) : Option (Nat × List zA × List zA) := match i with
  | .invokestatic x => (match zc o x with
    | some mj => if zst mj = true ∧ zna mj ≤ st.length ∧ ((st.drop (zna mj)).map zcat).sum ≤ 8 ∧ (zel (st.take (zna mj)).reverse).length ≤ zn mj then some (mj, (st.take (zna mj)).reverse, st.drop (zna mj)) else none
    | none => none)
  | .invokevirtual x => (match zc o x with
    | some mj => if zst mj = false ∧ zna mj ≤ st.length ∧ ((st.drop (zna mj)).map zcat).sum ≤ 8 ∧ (zel (st.take (zna mj)).reverse).length ≤ zn mj ∧ zrcv mj (st.take (zna mj)).reverse = true then some (mj, (st.take (zna mj)).reverse, st.drop (zna mj)) else none
    | none => none)
  | _ => none
/-- how long an instruction must be here -/
def zlo (i : Instr) (ln : Nat) : Bool := match i with
  | .bipush _ | .ldc _ | .iload _ | .aload _ | .istore _ | .astore _ => ln == 2
  | .sipush _ | .ldc_w _ | .ldc2_w _ | .iinc _ _ | .getfield _ | .putfield _ | .getstatic _ | .ifCond _ _ | .if_icmp _ _ | .goto _ | .invokestatic _ | .invokevirtual _ => ln == 3
  | .tableswitch _ _ _ _ | .lookupswitch _ _ => true
  | _ => ln == 1
def zrun : Nat → Nat → Nat → Nat → zO → List zA → zS → Option (Option zA × zS)
  | 0, _, _, _, _, _, _ => none
  | n + 1, d, mi, pc, ls, st, σ =>
    match decode (zb mi) pc with
    | .error _ => none
    | .ok (i, ln) =>
      if zlo i ln = false then none else
      match zstep (zo mi) i ln pc ls st σ with
      | some (pc', ls', st', σ') => zrun n d mi pc' ls' st' σ'
      | none =>
        match zret mi i st with
        | some r => some (r, σ)
        | none =>
          match zcall (zo mi) i st with
          | none => none
          | some (mj, as, rest) =>
            match d with
            | 0 => none
            | d' + 1 =>
              match zrun n d' mj 0 (zent as (zn mj)) [] σ with
              | none => none
              | some (r, σ') => zrun n (d' + 1) mi (pc + 3) ls (r.toList ++ rest) σ'
end
section
/-! The machine's world as cells of the heap. -/
def zcell (cI cS : ClassId) (ad : Nat → Nat → Nat) (σ : zS) (c i : Nat) : va_E :=
  if c < 9 then .inr (c, (List.range (znf c)).map (fun k => match zfr c k i with
    | some q => Value.ref (ad q.1 q.2)
    | none => Value.int (σ c i k)))
  else if c = 25 then .inl (cS, 4, .inr (.inr (.inr (.inr (fun k => some (ad 4 k))))))
  else .inl (cI, zlen c i, .inl (σ c i))
def zwl (cI cS : ClassId) (ad : Nat → Nat → Nat) (σ : zS) : va_W := zpls.map (fun q => (ad q.1 q.2, zcell cI cS ad σ q.1 q.2))
def zenc (ad : Nat → Nat → Nat) : zA → Value
  | .inl x => .int x
  | .inr (.inl x) => .long x
  | .inr (.inr q) => .ref (ad q.1 q.2)
def zokp (c i : Nat) : Prop := i < zcnt c ∨ (50 ≤ c ∧ c < 54 ∧ i = 0)
def zok : zA → Prop
  | .inr (.inr q) => zokp q.1 q.2
  | _ => True
theorem zcat_enc (ad : Nat → Nat → Nat) (v : zA) : (zenc ad v).category = zcat v := by
  rcases v with x | x | q <;> rfl
theorem zcat_sum (ad : Nat → Nat → Nat) (r : List zA) : ((r.map (zenc ad)).map fun v => v.category).sum = (r.map zcat).sum := by
  rw [List.map_map]
  congr 1
  exact List.map_congr_left (fun v _ => zcat_enc ad v)
theorem zlong_cat {ad : Nat → Nat → Nat} {v : zA} (h : zlong v = false) : (zenc ad v).category = 1 := by
  rcases v with x | x | q
  · rfl
  · simp [zlong] at h
  · rfl
theorem zcnt_le : ∀ c, c < 43 → zcnt c ≤ 4 := by decide +kernel
theorem zcnt_big {c i : Nat} (h : i < zcnt c) : c < 43 ∧ i < 4 := by
  rcases Nat.lt_or_ge c 43 with hc | hc
  · exact ⟨hc, Nat.lt_of_lt_of_le h (zcnt_le c hc)⟩
  · exfalso
    unfold zcnt at h
    split at h <;> omega
theorem zmem0 : ∀ c, c < 43 → ∀ i, i < zcnt c → (c, i) ∈ zpls := by decide +kernel
theorem zpl_at {c i : Nat} (h : i < zcnt c) : ∃ k : Nat, zpls[k]? = some (c, i) := List.getElem?_of_mem (zmem0 c (zcnt_big h).1 i h)
theorem zpl_nd : zpls.Nodup := by decide +kernel
theorem zpl_ok : ∀ q ∈ zpls, q.2 < zcnt q.1 := by decide +kernel
theorem zwl_at {cI cS : ClassId} {ad : Nat → Nat → Nat} {σ : zS} {k c i : Nat} (h : zpls[k]? = some (c, i)) : (zwl cI cS ad σ)[k]? = some (ad c i, zcell cI cS ad σ c i) := by
  simp [zwl, h]
theorem zcell_congr {cI cS : ClassId} {ad : Nat → Nat → Nat} {σ σ' : zS} {c i : Nat} (h : σ c i = σ' c i) : zcell cI cS ad σ c i = zcell cI cS ad σ' c i := by
  unfold zcell
  rw [h]
theorem zwl_set {cI cS : ClassId} {ad : Nat → Nat → Nat} {σ σ' : zS} {k c i : Nat} (h : zpls[k]? = some (c, i)) (hn : ∀ c' i', (c', i') ≠ (c, i) → σ' c' i' = σ c' i') : (zwl cI cS ad σ).set k (ad c i, zcell cI cS ad σ' c i) = zwl cI cS ad σ' := by
  apply List.ext_getElem?
  intro n
  have hk : k < zpls.length := (List.getElem?_eq_some_iff.mp h).1
  by_cases hnk : k = n
  · subst hnk
    rw [List.getElem?_set_self (by simpa [zwl] using hk), zwl_at h]
  · rw [List.getElem?_set_ne hnk]
    cases hq : zpls[n]? with
    | none => simp [zwl, hq]
    | some q =>
      have hne : q ≠ (c, i) := by
        rintro rfl
        exact hnk ((List.getElem?_inj hk zpl_nd).mp (h.trans hq.symm))
      rw [zwl_at (c := q.1) (i := q.2) hq, zwl_at (c := q.1) (i := q.2) hq, zcell_congr (hn q.1 q.2 hne)]
theorem zup_ne {σ : zS} {c i k : Nat} {v : Int32} {c' i' : Nat} (h : (c', i') ≠ (c, i)) : zup σ c i k v c' i' = σ c' i' := by
  funext j
  unfold zup
  rw [if_neg]
  rintro ⟨h1, h2, -⟩
  exact h (by rw [h1, h2])
theorem zup_self {σ : zS} {c i k : Nat} {v : Int32} : zup σ c i k v c i = upd (σ c i) k v := by
  funext j
  simp [zup, upd]
theorem zcp_ne {σ : zS} {c i c2 i2 sp dp n : Nat} {c' i' : Nat} (h : (c', i') ≠ (c2, i2)) : zcp σ c i c2 i2 sp dp n c' i' = σ c' i' := by
  funext j
  unfold zcp
  rw [if_neg]
  rintro ⟨h1, h2⟩
  exact h (by rw [h1, h2])
theorem zcp_self {σ : zS} {c i c2 i2 sp dp n : Nat} : zcp σ c i c2 i2 sp dp n c2 i2 = va_cpy (σ c i) (σ c2 i2) sp dp n := by
  funext j
  simp [zcp]
/-- the list of the locals that are known -/
def zpr (ad : Nat → Nat → Nat) : Nat → zO → List (Nat × Value)
  | _, [] => []
  | i, none :: r => zpr ad (i + 1) r
  | i, some v :: r => (i, zenc ad v) :: zpr ad (i + 1) r
theorem zpr_mem {ad : Nat → Nat → Nat} (ls : zO) : ∀ (n j : Nat) (w : Value), (j, w) ∈ zpr ad n ls ↔ ∃ (k : Nat) (v : zA), j = n + k ∧ ls[k]? = some (some v) ∧ w = zenc ad v := by
  induction ls with
  | nil => intro n j w; simp [zpr]
  | cons a r ih =>
    intro n j w
    cases a with
    | none =>
      simp only [zpr, ih]
      constructor
      · rintro ⟨k, v, h1, h2, h3⟩
        exact ⟨k + 1, v, by omega, by simpa using h2, h3⟩
      · rintro ⟨k, v, h1, h2, h3⟩
        cases k with
        | zero => simp at h2
        | succ k => exact ⟨k, v, by omega, by simpa using h2, h3⟩
    | some x =>
      simp only [zpr, List.mem_cons, ih, Prod.mk.injEq]
      constructor
      · rintro (⟨h1, h2⟩ | ⟨k, v, h1, h2, h3⟩)
        · exact ⟨0, x, by omega, by simp, h2⟩
        · exact ⟨k + 1, v, by omega, by simpa using h2, h3⟩
      · rintro ⟨k, v, h1, h2, h3⟩
        cases k with
        | zero =>
          left
          simp at h2
          subst h2
          exact ⟨by omega, h3⟩
        | succ k => right; exact ⟨k, v, by omega, by simpa using h2, h3⟩
theorem zget_some {ls : zO} {k : Nat} {v : zA} (h : zget ls k = some v) : ls[k]? = some (some v) := by
  unfold zget at h
  split at h
  · rename_i w hw
    cases h
    exact hw
  · cases h
theorem zls_get {ad : Nat → Nat → Nat} {lsA : Array Slot} {nL : Nat} {ls : zO} (h : lv_has lsA nL (zpr ad 0 ls)) {k : Nat} {v : zA} (hk : zget ls k = some v) : lsA[k]? = some (.val (zenc ad v)) :=
  h.2.2 (k, zenc ad v) ((zpr_mem ls 0 k _).mpr ⟨k, v, by omega, zget_some hk, rfl⟩)
theorem zset_some {ls ls' : zO} {k : Nat} {v : zA} (h : zset ls k v = some ls') : k < ls.length ∧ ls' = ls.set k (some v) ∧ ∀ j w, k = j + 1 → ls[j]? = some (some w) → zlong w = false := by
  unfold zset at h
  split at h
  · rename_i hk
    refine ⟨hk, ?_⟩
    split at h
    · cases h
      exact ⟨rfl, fun j w h1 => by omega⟩
    · split at h
      · rename_i j h0 w hw
        split at h
        · cases h
        · cases h
          rename_i hl
          refine ⟨rfl, fun j2 w2 h1 h2 => ?_⟩
          cases h1
          rw [hw] at h2
          cases h2
          simpa using hl
      · rename_i j hj
        cases h
        refine ⟨rfl, fun j2 w2 h1 h2 => ?_⟩
        cases h1
        exact absurd h2 (hj w2)
  · cases h
theorem zls_set {ad : Nat → Nat → Nat} {lsB : Array Slot} {nL : Nat} {ls ls' : zO} {k : Nat} {v : zA} (hs : zset ls k v = some ls') (h : lv_has lsB nL ((k, zenc ad v) :: (zpr ad 0 ls).filter (fun q => !(q.1 == k) && !(q.1 + 1 == k && q.2.category == 2)))) : lv_has lsB nL (zpr ad 0 ls') := by
  obtain ⟨h1, h2, h3⟩ := zset_some hs
  refine ⟨h.1, h.2.1, ?_⟩
  rintro ⟨j, w⟩ hq
  obtain ⟨n, x, rfl, hn, rfl⟩ := (zpr_mem ls' 0 j w).mp hq
  apply h.2.2
  rw [Nat.zero_add]
  subst h2
  by_cases hkn : k = n
  · subst hkn
    rw [List.getElem?_set_self h1] at hn
    cases hn
    exact List.mem_cons_self
  · rw [List.getElem?_set_ne hkn] at hn
    refine List.mem_cons_of_mem _ (List.mem_filter.mpr ⟨(zpr_mem ls 0 n _).mpr ⟨n, x, by omega, hn, rfl⟩, ?_⟩)
    have e1 : (n == k) = false := by simpa using fun q => hkn q.symm
    have e2 : (n + 1 == k && (zenc ad x).category == 2) = false := by
      by_cases hq : n + 1 = k
      · have := zlong_cat (ad := ad) (h3 n x hq.symm hn)
        rw [this]
        simp
      · simp [hq]
    simp only [e1, e2]
    rfl
theorem zset_len {ls ls' : zO} {k : Nat} {v : zA} (hs : zset ls k v = some ls') : ls'.length = ls.length := by
  rw [(zset_some hs).2.1, List.length_set]
theorem zset_mem {ls ls' : zO} {k : Nat} {v : zA} (hs : zset ls k v = some ls') {w : zA} (h : some w ∈ ls') : w = v ∨ some w ∈ ls := by
  rw [(zset_some hs).2.1] at h
  rcases List.mem_or_eq_of_mem_set h with h | h
  · exact Or.inr h
  · exact Or.inl (Option.some.inj h)
theorem zel_len_sl (ad : Nat → Nat → Nat) (as : List zA) : (lg_sl (as.map (zenc ad))).length = (zel as).length := by
  induction as with
  | nil => rfl
  | cons a r ih =>
    simp only [lg_sl, zel, List.map_cons, List.flatMap_cons, List.length_append] at ih ⊢
    rw [ih]
    rcases a with x | x | q <;> simp [zenc, zlong, Value.category]
theorem zel_args {ad : Nat → Nat → Nat} (as : List zA) : ∀ (n k : Nat) (v : zA), (zel as)[k]? = some (some v) → (n + k, zenc ad v) ∈ lv_args n (as.map (zenc ad)) := by
  induction as with
  | nil => intro n k v h; simp [zel] at h
  | cons a r ih =>
    intro n k v h
    have hc : (zel (a :: r)) = (if zlong a then [some a, none] else [some a]) ++ zel r := by simp [zel]
    rw [hc] at h
    by_cases hl : zlong a = true
    · have h2 : (zenc ad a).category = 2 := by
        rcases a with x | x | q
        · simp [zlong] at hl
        · rfl
        · simp [zlong] at hl
      simp only [hl, if_true] at h
      simp only [List.map_cons, lv_args, h2, if_true]
      match k, h with
      | 0, h =>
        simp at h
        subst h
        exact List.mem_cons_self
      | 1, h => simp at h
      | k + 2, h =>
        refine List.mem_cons_of_mem _ ?_
        have := ih (n + 2) k v (by simpa using h)
        rwa [show n + (k + 2) = n + 2 + k by omega]
    · have hl2 : zlong a = false := by simpa using hl
      have h2 : ¬ (zenc ad a).category = 2 := by rw [zlong_cat hl2]; decide
      simp only [hl2] at h
      simp only [List.map_cons, lv_args, if_neg h2]
      match k, h with
      | 0, h =>
        simp at h
        subst h
        exact List.mem_cons_self
      | k + 1, h =>
        refine List.mem_cons_of_mem _ ?_
        have := ih (n + 1) k v (by simpa using h)
        rwa [show n + (k + 1) = n + 1 + k by omega]
theorem zent_get {as : List zA} {nL k : Nat} {v : zA} (h : (zent as nL)[k]? = some (some v)) : (zel as)[k]? = some (some v) := by
  unfold zent at h
  rcases Nat.lt_or_ge k (zel as).length with hk | hk
  · rwa [List.getElem?_append_left hk] at h
  · rw [List.getElem?_append_right hk, List.getElem?_replicate] at h
    split at h <;> cases h
theorem zent_has {ad : Nat → Nat → Nat} {as : List zA} {nL : Nat} (h : (zel as).length ≤ nL) : lv_has ((lg_sl (as.map (zenc ad)) ++ List.replicate (nL - (lg_sl (as.map (zenc ad))).length) Slot.unset).toArray) nL (zpr ad 0 (zent as nL)) := by
  have h0 := lv_entry (as.map (zenc ad)) (n := nL) (by rw [zel_len_sl]; exact h)
  refine ⟨h0.1, h0.2.1, ?_⟩
  rintro ⟨j, w⟩ hq
  obtain ⟨n, x, rfl, hn, rfl⟩ := (zpr_mem _ 0 j w).mp hq
  exact h0.2.2 _ (zel_args as 0 n x (zent_get hn))
theorem zent_len {as : List zA} {nL : Nat} (h : (zel as).length ≤ nL) : (zent as nL).length = nL := by
  simp [zent]
  omega
theorem zel_mem {as : List zA} {v : zA} (h : some v ∈ zel as) : v ∈ as := by
  obtain ⟨a, h1, h2⟩ := List.mem_flatMap.mp h
  split at h2
  · simp at h2
    rw [h2]
    exact h1
  · simp at h2
    rw [h2]
    exact h1
theorem zent_mem {as : List zA} {nL : Nat} {v : zA} (h : some v ∈ zent as nL) : v ∈ as := by
  rcases List.mem_append.mp h with h | h
  · exact zel_mem h
  · have := (List.mem_replicate.mp h).2
    cases this
end
section
/-! What the tables say of the Statement's words. -/
theorem zTb_of {i : Nat} {w : Cond} (h : lw_tbl[i]? = some w) (hg : goodWord w = true) : w ∈ zTb := List.mem_filter.mpr ⟨List.mem_of_getElem? h, hg⟩
theorem zTb_good : GoodIn zTb zTb := fun w hw => ⟨hw, good_of_word (List.mem_filter.mp hw).2⟩
theorem z9 {c : Nat} {P : Nat → Prop} (hc : c < 9) (h0 : P 0) (h1 : P 1) (h2 : P 2) (h3 : P 3) (h4 : P 4) (h5 : P 5) (h6 : P 6) (h7 : P 7) (h8 : P 8) : P c := by
  have : c = 0 ∨ c = 1 ∨ c = 2 ∨ c = 3 ∨ c = 4 ∨ c = 5 ∨ c = 6 ∨ c = 7 ∨ c = 8 := by omega
  rcases this with rfl | rfl | rfl | rfl | rfl | rfl | rfl | rfl | rfl <;> assumption
theorem zcl_at {c : Nat} (hc : c < 9) : vwCl[c]? = some (zC c, zT c, znf c) := z9 (P := fun c => vwCl[c]? = some (zC c, zT c, znf c)) hc rfl rfl rfl rfl rfl rfl rfl rfl rfl
theorem zlay0 (f : Nat → Bool) : True := trivial
theorem zlay {c : Nat} (hc : c < 9) : ∀ w ∈ u_ws (zC c) (zT c) (znf c), w ∈ zTb := z9 (P := fun c => ∀ w ∈ u_ws (zC c) (zT c) (znf c), w ∈ zTb) hc (by decide +kernel) (by decide +kernel) (by decide +kernel) (by decide +kernel) (by decide +kernel) (by decide +kernel) (by decide +kernel) (by decide +kernel) (by decide +kernel)
theorem zty_ok {c : Nat} (hc : c < 9) : ∀ k, k < znf c → parseFieldDescriptor (zT c k).2.2.1 = some (zty c k) := z9 (P := fun c => ∀ k, k < znf c → parseFieldDescriptor (zT c k).2.2.1 = some (zty c k)) hc tyX0_ok tyX1_ok tyX2_ok tyX3_ok tyX4_ok tyX5_ok tyX6_ok tyX7_ok tyX8_ok
theorem znm_ok {c : Nat} (hc : c < 9) : ∀ a, a < znf c → ∀ b, b < znf c → a ≠ b → (zT c a).2.1 ≠ (zT c b).2.1 := z9 (P := fun c => ∀ a, a < znf c → ∀ b, b < znf c → a ≠ b → (zT c a).2.1 ≠ (zT c b).2.1) hc nmX0 nmX1 nmX2 nmX3 nmX4 nmX5 nmX6 nmX7 nmX8
/-- what the type of a field of numbers is -/
theorem zty_i {c : Nat} (hc : c < 9) : ∀ k, k < znf c → ∀ i, i < 4 → zfr c k i = none → zty c k = if zfb c k then .boolean else .int := z9 (P := fun c => ∀ k, k < znf c → ∀ i, i < 4 → zfr c k i = none → zty c k = if zfb c k then .boolean else .int) hc (by decide +kernel) (by decide +kernel) (by decide +kernel) (by decide +kernel) (by decide +kernel) (by decide +kernel) (by decide +kernel) (by decide +kernel) (by decide +kernel)
theorem zfr_ok {c : Nat} (hc : c < 9) : ∀ k, k < znf c → ∀ i, i < zcnt c → ∀ q ∈ zfr c k i, q.2 < zcnt q.1 := z9 (P := fun c => ∀ k, k < znf c → ∀ i, i < zcnt c → ∀ q ∈ zfr c k i, q.2 < zcnt q.1) hc (by decide +kernel) (by decide +kernel) (by decide +kernel) (by decide +kernel) (by decide +kernel) (by decide +kernel) (by decide +kernel) (by decide +kernel) (by decide +kernel)
theorem zfT_ok : ∀ q ∈ zfT, (q.2.2.1 < 9 ∧ q.2.2.2.1 < znf q.2.2.1 ∧ (zT q.2.2.1 q.2.2.2.1).1 = zC q.2.2.1) ∧ lw_tbl[q.2.2.2.2]? = some (.fieldLink (zC q.1) q.2.1 (zC q.2.2.1) (zT q.2.2.1 q.2.2.2.1).2.1 (zT q.2.2.1 q.2.2.2.1).2.2.1) ∧ goodWord (.fieldLink (zC q.1) q.2.1 (zC q.2.2.1) (zT q.2.2.1 q.2.2.2.1).2.1 (zT q.2.2.1 q.2.2.2.1).2.2.1) = true := by decide +kernel
theorem zf_ok {o x c k : Nat} (h : zf o x = some (c, k)) : (c < 9 ∧ k < znf c ∧ (zT c k).1 = zC c) ∧ .fieldLink (zC o) x (zC c) (zT c k).2.1 (zT c k).2.2.1 ∈ zTb := by
  unfold zf at h
  obtain ⟨q, hq, he⟩ := Option.map_eq_some_iff.mp h
  have h1 := List.find?_some hq
  have h2 := zfT_ok q (List.mem_of_find?_eq_some hq)
  obtain ⟨a, b, c', k', w⟩ := q
  simp only [Bool.and_eq_true, beq_iff_eq] at h1
  obtain ⟨rfl, rfl⟩ := h1
  simp only [Prod.mk.injEq] at he
  obtain ⟨rfl, rfl⟩ := he
  exact ⟨h2.1, zTb_of h2.2.1 h2.2.2⟩
def zsC : Nat → String × String × String
  | 51 => ("ApronStrings$Reader", "NAMES", "[C")
  | 52 => ("ApronStrings$Voices", "ABOVE", "[I")
  | _ => ("ApronStrings$Voices", "BODIES", "[I")
theorem zgT_ok : ∀ q ∈ zgT, (51 ≤ q.2.2.1 ∧ q.2.2.1 < 54) ∧ lw_tbl[q.2.2.2]? = some (.fieldLink (zC q.1) q.2.1 (zsC q.2.2.1).1 (zsC q.2.2.1).2.1 (zsC q.2.2.1).2.2) ∧ goodWord (.fieldLink (zC q.1) q.2.1 (zsC q.2.2.1).1 (zsC q.2.2.1).2.1 (zsC q.2.2.1).2.2) = true := by decide +kernel
theorem zg_ok {o x t : Nat} (h : zg o x = some t) : (51 ≤ t ∧ t < 54) ∧ .fieldLink (zC o) x (zsC t).1 (zsC t).2.1 (zsC t).2.2 ∈ zTb := by
  unfold zg at h
  obtain ⟨q, hq, he⟩ := Option.map_eq_some_iff.mp h
  have h1 := List.find?_some hq
  have h2 := zgT_ok q (List.mem_of_find?_eq_some hq)
  obtain ⟨a, b, c', w⟩ := q
  simp only [Bool.and_eq_true, beq_iff_eq] at h1
  obtain ⟨rfl, rfl⟩ := h1
  simp only at he
  subst he
  exact ⟨h2.1, zTb_of h2.2.1 h2.2.2⟩
theorem zkT_ok : ∀ q ∈ zkT, lw_tbl[q.2.2.2]? = some (.constant (zC q.1) q.2.1 q.2.2.1) ∧ goodWord (.constant (zC q.1) q.2.1 q.2.2.1) = true := by decide +kernel
theorem zk_ok {o x : Nat} {v : Int32} (h : zk o x = some v) : .constant (zC o) x v ∈ zTb := by
  unfold zk at h
  obtain ⟨q, hq, he⟩ := Option.map_eq_some_iff.mp h
  have h1 := List.find?_some hq
  have h2 := zkT_ok q (List.mem_of_find?_eq_some hq)
  obtain ⟨a, b, c', w⟩ := q
  simp only [Bool.and_eq_true, beq_iff_eq] at h1
  obtain ⟨rfl, rfl⟩ := h1
  simp only at he
  subst he
  exact zTb_of h2.1 h2.2
theorem zkLT_ok : ∀ q ∈ zkLT, lw_tbl[q.2.2.2]? = some (.constantLong (zC q.1) q.2.1 q.2.2.1) ∧ goodWord (.constantLong (zC q.1) q.2.1 q.2.2.1) = true := by decide +kernel
theorem zkL_ok {o x : Nat} {v : Int64} (h : zkL o x = some v) : .constantLong (zC o) x v ∈ zTb := by
  unfold zkL at h
  obtain ⟨q, hq, he⟩ := Option.map_eq_some_iff.mp h
  have h1 := List.find?_some hq
  have h2 := zkLT_ok q (List.mem_of_find?_eq_some hq)
  obtain ⟨a, b, c', w⟩ := q
  simp only [Bool.and_eq_true, beq_iff_eq] at h1
  obtain ⟨rfl, rfl⟩ := h1
  simp only at he
  subst he
  exact zTb_of h2.1 h2.2
theorem zaT_ok : ∀ q ∈ zaT, lw_tbl[q.2.2]? = some (.methodLink (zC q.1) q.2.1 arraycopyName) ∧ goodWord (.methodLink (zC q.1) q.2.1 arraycopyName) = true := by decide +kernel
theorem za_ok {o x : Nat} (h : za o x = true) : .methodLink (zC o) x arraycopyName ∈ zTb := by
  unfold za at h
  obtain ⟨q, hq⟩ := Option.isSome_iff_exists.mp h
  have h1 := List.find?_some hq
  have h2 := zaT_ok q (List.mem_of_find?_eq_some hq)
  obtain ⟨a, b, w⟩ := q
  simp only [Bool.and_eq_true, beq_iff_eq] at h1
  obtain ⟨rfl, rfl⟩ := h1
  exact zTb_of h2.1 h2.2
theorem zcopy_words : Cond.native arraycopyName ∈ zTb ∧ Cond.static arraycopyName ∈ zTb ∧ Cond.initialized "java/lang/System" ∈ zTb := ⟨zTb_of (i := 553) (by decide +kernel) (by decide +kernel), zTb_of (i := 552) (by decide +kernel) (by decide +kernel), zTb_of (i := 98) (by decide +kernel) (by decide +kernel)⟩
theorem zcT_ok : ∀ q ∈ zcT, q.2.2.1 < zMN ∧ zo q.2.2.1 ≠ 9 ∧ lw_tbl[q.2.2.2]? = some (.methodLink (zC q.1) q.2.1 (zy q.2.2.1)) ∧ goodWord (.methodLink (zC q.1) q.2.1 (zy q.2.2.1)) = true := by decide +kernel
theorem zc_ok {o x mj : Nat} (h : zc o x = some mj) : mj < zMN ∧ zo mj ≠ 9 ∧ .methodLink (zC o) x (zy mj) ∈ zTb := by
  unfold zc at h
  obtain ⟨q, hq, he⟩ := Option.map_eq_some_iff.mp h
  have h1 := List.find?_some hq
  have h2 := zcT_ok q (List.mem_of_find?_eq_some hq)
  obtain ⟨a, b, c', w⟩ := q
  simp only [Bool.and_eq_true, beq_iff_eq] at h1
  obtain ⟨rfl, rfl⟩ := h1
  simp only at he
  subst he
  exact ⟨h2.1, h2.2.1, zTb_of h2.2.2.1 h2.2.2.2⟩
end
section
/-! The words of the methods. -/
def zTb_has (w : Cond) : Prop := w ∈ lw_tbl ∧ goodWord w = true
theorem zTb_has_in {w : Cond} (h : zTb_has w) : w ∈ zTb := List.mem_filter.mpr h
set_option maxRecDepth 100000 in
theorem zmc_0 : zTb_has (.code (zy 0) (zb 0) (zn 0) (zr 0)) := ⟨List.mem_of_getElem? (i := 520) rfl, rfl⟩
set_option maxRecDepth 100000 in
theorem zmc_1 : zTb_has (.code (zy 1) (zb 1) (zn 1) (zr 1)) := ⟨List.mem_of_getElem? (i := 390) rfl, rfl⟩
set_option maxRecDepth 100000 in
theorem zmc_2 : zTb_has (.code (zy 2) (zb 2) (zn 2) (zr 2)) := ⟨List.mem_of_getElem? (i := 393) rfl, rfl⟩
set_option maxRecDepth 100000 in
theorem zmc_3 : zTb_has (.code (zy 3) (zb 3) (zn 3) (zr 3)) := ⟨List.mem_of_getElem? (i := 463) rfl, rfl⟩
set_option maxRecDepth 100000 in
theorem zmc_4 : zTb_has (.code (zy 4) (zb 4) (zn 4) (zr 4)) := ⟨List.mem_of_getElem? (i := 467) rfl, rfl⟩
set_option maxRecDepth 100000 in
theorem zmc_5 : zTb_has (.code (zy 5) (zb 5) (zn 5) (zr 5)) := ⟨List.mem_of_getElem? (i := 471) rfl, rfl⟩
set_option maxRecDepth 100000 in
theorem zmc_6 : zTb_has (.code (zy 6) (zb 6) (zn 6) (zr 6)) := ⟨List.mem_of_getElem? (i := 478) rfl, rfl⟩
set_option maxRecDepth 100000 in
theorem zmc_7 : zTb_has (.code (zy 7) (zb 7) (zn 7) (zr 7)) := ⟨List.mem_of_getElem? (i := 481) rfl, rfl⟩
set_option maxRecDepth 100000 in
theorem zmc_8 : zTb_has (.code (zy 8) (zb 8) (zn 8) (zr 8)) := ⟨List.mem_of_getElem? (i := 484) rfl, rfl⟩
set_option maxRecDepth 100000 in
theorem zmc_9 : zTb_has (.code (zy 9) (zb 9) (zn 9) (zr 9)) := ⟨List.mem_of_getElem? (i := 491) rfl, rfl⟩
set_option maxRecDepth 100000 in
theorem zmc_10 : zTb_has (.code (zy 10) (zb 10) (zn 10) (zr 10)) := ⟨List.mem_of_getElem? (i := 497) rfl, rfl⟩
set_option maxRecDepth 100000 in
theorem zmc_11 : zTb_has (.code (zy 11) (zb 11) (zn 11) (zr 11)) := ⟨List.mem_of_getElem? (i := 501) rfl, rfl⟩
set_option maxRecDepth 100000 in
theorem zmc_12 : zTb_has (.code (zy 12) (zb 12) (zn 12) (zr 12)) := ⟨List.mem_of_getElem? (i := 505) rfl, rfl⟩
set_option maxRecDepth 100000 in
theorem zmc_13 : zTb_has (.code (zy 13) (zb 13) (zn 13) (zr 13)) := ⟨List.mem_of_getElem? (i := 509) rfl, rfl⟩
set_option maxRecDepth 100000 in
theorem zmc_14 : zTb_has (.code (zy 14) (zb 14) (zn 14) (zr 14)) := ⟨List.mem_of_getElem? (i := 512) rfl, rfl⟩
set_option maxRecDepth 100000 in
theorem zmc_15 : zTb_has (.code (zy 15) (zb 15) (zn 15) (zr 15)) := ⟨List.mem_of_getElem? (i := 475) rfl, rfl⟩
set_option maxRecDepth 100000 in
theorem zmc_16 : zTb_has (.code (zy 16) (zb 16) (zn 16) (zr 16)) := ⟨List.mem_of_getElem? (i := 488) rfl, rfl⟩
set_option maxRecDepth 100000 in
theorem zmc_17 : zTb_has (.code (zy 17) (zb 17) (zn 17) (zr 17)) := ⟨List.mem_of_getElem? (i := 665) rfl, rfl⟩
set_option maxRecDepth 100000 in
theorem zmc_18 : zTb_has (.code (zy 18) (zb 18) (zn 18) (zr 18)) := ⟨List.mem_of_getElem? (i := 362) rfl, rfl⟩
set_option maxRecDepth 100000 in
theorem zmc_19 : zTb_has (.code (zy 19) (zb 19) (zn 19) (zr 19)) := ⟨List.mem_of_getElem? (i := 431) rfl, rfl⟩
set_option maxRecDepth 100000 in
theorem zmc_20 : zTb_has (.code (zy 20) (zb 20) (zn 20) (zr 20)) := ⟨List.mem_of_getElem? (i := 673) rfl, rfl⟩
set_option maxRecDepth 100000 in
theorem zmc_21 : zTb_has (.code (zy 21) (zb 21) (zn 21) (zr 21)) := ⟨List.mem_of_getElem? (i := 439) rfl, rfl⟩
set_option maxRecDepth 100000 in
theorem zmc_22 : zTb_has (.code (zy 22) (zb 22) (zn 22) (zr 22)) := ⟨List.mem_of_getElem? (i := 366) rfl, rfl⟩
set_option maxRecDepth 100000 in
theorem zmc_23 : zTb_has (.code (zy 23) (zb 23) (zn 23) (zr 23)) := ⟨List.mem_of_getElem? (i := 808) rfl, rfl⟩
set_option maxRecDepth 100000 in
theorem zmc_24 : zTb_has (.code (zy 24) (zb 24) (zn 24) (zr 24)) := ⟨List.mem_of_getElem? (i := 613) rfl, rfl⟩
set_option maxRecDepth 100000 in
theorem zmc_25 : zTb_has (.code (zy 25) (zb 25) (zn 25) (zr 25)) := ⟨List.mem_of_getElem? (i := 621) rfl, rfl⟩
set_option maxRecDepth 100000 in
theorem zmc_26 : zTb_has (.code (zy 26) (zb 26) (zn 26) (zr 26)) := ⟨List.mem_of_getElem? (i := 634) rfl, rfl⟩
set_option maxRecDepth 100000 in
theorem zmc_27 : zTb_has (.code (zy 27) (zb 27) (zn 27) (zr 27)) := ⟨List.mem_of_getElem? (i := 639) rfl, rfl⟩
set_option maxRecDepth 100000 in
theorem zmc_28 : zTb_has (.code (zy 28) (zb 28) (zn 28) (zr 28)) := ⟨List.mem_of_getElem? (i := 629) rfl, rfl⟩
set_option maxRecDepth 100000 in
theorem zmc_29 : zTb_has (.code (zy 29) (zb 29) (zn 29) (zr 29)) := ⟨List.mem_of_getElem? (i := 657) rfl, rfl⟩
set_option maxRecDepth 100000 in
theorem zmc_30 : zTb_has (.code (zy 30) (zb 30) (zn 30) (zr 30)) := ⟨List.mem_of_getElem? (i := 378) rfl, rfl⟩
set_option maxRecDepth 100000 in
theorem zmc_31 : zTb_has (.code (zy 31) (zb 31) (zn 31) (zr 31)) := ⟨List.mem_of_getElem? (i := 406) rfl, rfl⟩
set_option maxRecDepth 100000 in
theorem zmc_32 : zTb_has (.code (zy 32) (zb 32) (zn 32) (zr 32)) := ⟨List.mem_of_getElem? (i := 382) rfl, rfl⟩
set_option maxRecDepth 100000 in
theorem zmc_33 : zTb_has (.code (zy 33) (zb 33) (zn 33) (zr 33)) := ⟨List.mem_of_getElem? (i := 386) rfl, rfl⟩
set_option maxRecDepth 100000 in
theorem zmc_34 : zTb_has (.code (zy 34) (zb 34) (zn 34) (zr 34)) := ⟨List.mem_of_getElem? (i := 410) rfl, rfl⟩
set_option maxRecDepth 100000 in
theorem zmc_35 : zTb_has (.code (zy 35) (zb 35) (zn 35) (zr 35)) := ⟨List.mem_of_getElem? (i := 537) rfl, rfl⟩
set_option maxRecDepth 100000 in
theorem zmc_36 : zTb_has (.code (zy 36) (zb 36) (zn 36) (zr 36)) := ⟨List.mem_of_getElem? (i := 541) rfl, rfl⟩
set_option maxRecDepth 100000 in
theorem zmc_37 : zTb_has (.code (zy 37) (zb 37) (zn 37) (zr 37)) := ⟨List.mem_of_getElem? (i := 591) rfl, rfl⟩
set_option maxRecDepth 100000 in
theorem zmc_38 : zTb_has (.code (zy 38) (zb 38) (zn 38) (zr 38)) := ⟨List.mem_of_getElem? (i := 595) rfl, rfl⟩
set_option maxRecDepth 100000 in
theorem zmc_39 : zTb_has (.code (zy 39) (zb 39) (zn 39) (zr 39)) := ⟨List.mem_of_getElem? (i := 546) rfl, rfl⟩
set_option maxRecDepth 100000 in
theorem zmc_40 : zTb_has (.code (zy 40) (zb 40) (zn 40) (zr 40)) := ⟨List.mem_of_getElem? (i := 550) rfl, rfl⟩
set_option maxRecDepth 100000 in
theorem zmc_41 : zTb_has (.code (zy 41) (zb 41) (zn 41) (zr 41)) := ⟨List.mem_of_getElem? (i := 570) rfl, rfl⟩
set_option maxRecDepth 100000 in
theorem zmc_42 : zTb_has (.code (zy 42) (zb 42) (zn 42) (zr 42)) := ⟨List.mem_of_getElem? (i := 557) rfl, rfl⟩
set_option maxRecDepth 100000 in
theorem zmc_43 : zTb_has (.code (zy 43) (zb 43) (zn 43) (zr 43)) := ⟨List.mem_of_getElem? (i := 565) rfl, rfl⟩
set_option maxRecDepth 100000 in
theorem zmc_44 : zTb_has (.code (zy 44) (zb 44) (zn 44) (zr 44)) := ⟨List.mem_of_getElem? (i := 574) rfl, rfl⟩
set_option maxRecDepth 100000 in
theorem zmc_45 : zTb_has (.code (zy 45) (zb 45) (zn 45) (zr 45)) := ⟨List.mem_of_getElem? (i := 561) rfl, rfl⟩
set_option maxRecDepth 100000 in
theorem zmc_46 : zTb_has (.code (zy 46) (zb 46) (zn 46) (zr 46)) := ⟨List.mem_of_getElem? (i := 578) rfl, rfl⟩
set_option maxRecDepth 100000 in
theorem zmc_47 : zTb_has (.code (zy 47) (zb 47) (zn 47) (zr 47)) := ⟨List.mem_of_getElem? (i := 583) rfl, rfl⟩
set_option maxRecDepth 100000 in
theorem zmc_48 : zTb_has (.code (zy 48) (zb 48) (zn 48) (zr 48)) := ⟨List.mem_of_getElem? (i := 455) rfl, rfl⟩
set_option maxRecDepth 100000 in
theorem zmc_49 : zTb_has (.code (zy 49) (zb 49) (zn 49) (zr 49)) := ⟨List.mem_of_getElem? (i := 788) rfl, rfl⟩
set_option maxRecDepth 100000 in
theorem zmc_50 : zTb_has (.code (zy 50) (zb 50) (zn 50) (zr 50)) := ⟨List.mem_of_getElem? (i := 708) rfl, rfl⟩
set_option maxRecDepth 100000 in
theorem zmc_51 : zTb_has (.code (zy 51) (zb 51) (zn 51) (zr 51)) := ⟨List.mem_of_getElem? (i := 749) rfl, rfl⟩
set_option maxRecDepth 100000 in
theorem zmc_52 : zTb_has (.code (zy 52) (zb 52) (zn 52) (zr 52)) := ⟨List.mem_of_getElem? (i := 757) rfl, rfl⟩
set_option maxRecDepth 100000 in
theorem zmc_53 : zTb_has (.code (zy 53) (zb 53) (zn 53) (zr 53)) := ⟨List.mem_of_getElem? (i := 765) rfl, rfl⟩
set_option maxRecDepth 100000 in
theorem zmc_54 : zTb_has (.code (zy 54) (zb 54) (zn 54) (zr 54)) := ⟨List.mem_of_getElem? (i := 782) rfl, rfl⟩
set_option maxRecDepth 100000 in
theorem zmc_55 : zTb_has (.code (zy 55) (zb 55) (zn 55) (zr 55)) := ⟨List.mem_of_getElem? (i := 421) rfl, rfl⟩
set_option maxRecDepth 100000 in
theorem zmc_56 : zTb_has (.code (zy 56) (zb 56) (zn 56) (zr 56)) := ⟨List.mem_of_getElem? (i := 720) rfl, rfl⟩
set_option maxRecDepth 100000 in
theorem zmc_57 : zTb_has (.code (zy 57) (zb 57) (zn 57) (zr 57)) := ⟨List.mem_of_getElem? (i := 724) rfl, rfl⟩
set_option maxRecDepth 100000 in
theorem zmc_58 : zTb_has (.code (zy 58) (zb 58) (zn 58) (zr 58)) := ⟨List.mem_of_getElem? (i := 733) rfl, rfl⟩
set_option maxRecDepth 100000 in
theorem zmc_59 : zTb_has (.code (zy 59) (zb 59) (zn 59) (zr 59)) := ⟨List.mem_of_getElem? (i := 737) rfl, rfl⟩
set_option maxRecDepth 100000 in
theorem zmc_60 : zTb_has (.code (zy 60) (zb 60) (zn 60) (zr 60)) := ⟨List.mem_of_getElem? (i := 727) rfl, rfl⟩
set_option maxRecDepth 100000 in
theorem zmc_61 : zTb_has (.code (zy 61) (zb 61) (zn 61) (zr 61)) := ⟨List.mem_of_getElem? (i := 346) rfl, rfl⟩
set_option maxRecDepth 100000 in
theorem zmc_62 : zTb_has (.code (zy 62) (zb 62) (zn 62) (zr 62)) := ⟨List.mem_of_getElem? (i := 373) rfl, rfl⟩
set_option maxRecDepth 100000 in
theorem zmc_63 : zTb_has (.code (zy 63) (zb 63) (zn 63) (zr 63)) := ⟨List.mem_of_getElem? (i := 414) rfl, rfl⟩
set_option maxRecDepth 100000 in
theorem zmc_64 : zTb_has (.code (zy 64) (zb 64) (zn 64) (zr 64)) := ⟨List.mem_of_getElem? (i := 418) rfl, rfl⟩
set_option maxRecDepth 100000 in
theorem zmc_65 : zTb_has (.code (zy 65) (zb 65) (zn 65) (zr 65)) := ⟨List.mem_of_getElem? (i := 427) rfl, rfl⟩
set_option maxRecDepth 100000 in
theorem zmc_66 : zTb_has (.code (zy 66) (zb 66) (zn 66) (zr 66)) := ⟨List.mem_of_getElem? (i := 435) rfl, rfl⟩
set_option maxRecDepth 100000 in
theorem zmc_67 : zTb_has (.code (zy 67) (zb 67) (zn 67) (zr 67)) := ⟨List.mem_of_getElem? (i := 443) rfl, rfl⟩
set_option maxRecDepth 100000 in
theorem zmc_68 : zTb_has (.code (zy 68) (zb 68) (zn 68) (zr 68)) := ⟨List.mem_of_getElem? (i := 447) rfl, rfl⟩
set_option maxRecDepth 100000 in
theorem zmc_69 : zTb_has (.code (zy 69) (zb 69) (zn 69) (zr 69)) := ⟨List.mem_of_getElem? (i := 451) rfl, rfl⟩
set_option maxRecDepth 100000 in
theorem zmc_70 : zTb_has (.code (zy 70) (zb 70) (zn 70) (zr 70)) := ⟨List.mem_of_getElem? (i := 459) rfl, rfl⟩
set_option maxRecDepth 100000 in
theorem zmc_71 : zTb_has (.code (zy 71) (zb 71) (zn 71) (zr 71)) := ⟨List.mem_of_getElem? (i := 524) rfl, rfl⟩
set_option maxRecDepth 100000 in
theorem zmc_72 : zTb_has (.code (zy 72) (zb 72) (zn 72) (zr 72)) := ⟨List.mem_of_getElem? (i := 528) rfl, rfl⟩
set_option maxRecDepth 100000 in
theorem zmc_73 : zTb_has (.code (zy 73) (zb 73) (zn 73) (zr 73)) := ⟨List.mem_of_getElem? (i := 533) rfl, rfl⟩
set_option maxRecDepth 100000 in
theorem zmc_74 : zTb_has (.code (zy 74) (zb 74) (zn 74) (zr 74)) := ⟨List.mem_of_getElem? (i := 587) rfl, rfl⟩
set_option maxRecDepth 100000 in
theorem zmc_75 : zTb_has (.code (zy 75) (zb 75) (zn 75) (zr 75)) := ⟨List.mem_of_getElem? (i := 601) rfl, rfl⟩
set_option maxRecDepth 100000 in
theorem zmc_76 : zTb_has (.code (zy 76) (zb 76) (zn 76) (zr 76)) := ⟨List.mem_of_getElem? (i := 605) rfl, rfl⟩
set_option maxRecDepth 100000 in
theorem zmc_77 : zTb_has (.code (zy 77) (zb 77) (zn 77) (zr 77)) := ⟨List.mem_of_getElem? (i := 609) rfl, rfl⟩
set_option maxRecDepth 100000 in
theorem zmc_78 : zTb_has (.code (zy 78) (zb 78) (zn 78) (zr 78)) := ⟨List.mem_of_getElem? (i := 617) rfl, rfl⟩
set_option maxRecDepth 100000 in
theorem zmc_79 : zTb_has (.code (zy 79) (zb 79) (zn 79) (zr 79)) := ⟨List.mem_of_getElem? (i := 625) rfl, rfl⟩
set_option maxRecDepth 100000 in
theorem zmc_80 : zTb_has (.code (zy 80) (zb 80) (zn 80) (zr 80)) := ⟨List.mem_of_getElem? (i := 643) rfl, rfl⟩
set_option maxRecDepth 100000 in
theorem zmc_81 : zTb_has (.code (zy 81) (zb 81) (zn 81) (zr 81)) := ⟨List.mem_of_getElem? (i := 653) rfl, rfl⟩
set_option maxRecDepth 100000 in
theorem zmc_82 : zTb_has (.code (zy 82) (zb 82) (zn 82) (zr 82)) := ⟨List.mem_of_getElem? (i := 661) rfl, rfl⟩
set_option maxRecDepth 100000 in
theorem zmc_83 : zTb_has (.code (zy 83) (zb 83) (zn 83) (zr 83)) := ⟨List.mem_of_getElem? (i := 669) rfl, rfl⟩
set_option maxRecDepth 100000 in
theorem zmc_84 : zTb_has (.code (zy 84) (zb 84) (zn 84) (zr 84)) := ⟨List.mem_of_getElem? (i := 677) rfl, rfl⟩
set_option maxRecDepth 100000 in
theorem zmc_85 : zTb_has (.code (zy 85) (zb 85) (zn 85) (zr 85)) := ⟨List.mem_of_getElem? (i := 681) rfl, rfl⟩
set_option maxRecDepth 100000 in
theorem zmc_86 : zTb_has (.code (zy 86) (zb 86) (zn 86) (zr 86)) := ⟨List.mem_of_getElem? (i := 689) rfl, rfl⟩
set_option maxRecDepth 100000 in
theorem zmc_87 : zTb_has (.code (zy 87) (zb 87) (zn 87) (zr 87)) := ⟨List.mem_of_getElem? (i := 697) rfl, rfl⟩
set_option maxRecDepth 100000 in
theorem zmc_88 : zTb_has (.code (zy 88) (zb 88) (zn 88) (zr 88)) := ⟨List.mem_of_getElem? (i := 701) rfl, rfl⟩
set_option maxRecDepth 100000 in
theorem zmc_89 : zTb_has (.code (zy 89) (zb 89) (zn 89) (zr 89)) := ⟨List.mem_of_getElem? (i := 716) rfl, rfl⟩
set_option maxRecDepth 100000 in
theorem zmc_90 : zTb_has (.code (zy 90) (zb 90) (zn 90) (zr 90)) := ⟨List.mem_of_getElem? (i := 741) rfl, rfl⟩
set_option maxRecDepth 100000 in
theorem zmc_91 : zTb_has (.code (zy 91) (zb 91) (zn 91) (zr 91)) := ⟨List.mem_of_getElem? (i := 745) rfl, rfl⟩
set_option maxRecDepth 100000 in
theorem zmc_92 : zTb_has (.code (zy 92) (zb 92) (zn 92) (zr 92)) := ⟨List.mem_of_getElem? (i := 753) rfl, rfl⟩
set_option maxRecDepth 100000 in
theorem zmc_93 : zTb_has (.code (zy 93) (zb 93) (zn 93) (zr 93)) := ⟨List.mem_of_getElem? (i := 761) rfl, rfl⟩
set_option maxRecDepth 100000 in
theorem zmc_94 : zTb_has (.code (zy 94) (zb 94) (zn 94) (zr 94)) := ⟨List.mem_of_getElem? (i := 770) rfl, rfl⟩
set_option maxRecDepth 100000 in
theorem zmc_95 : zTb_has (.code (zy 95) (zb 95) (zn 95) (zr 95)) := ⟨List.mem_of_getElem? (i := 774) rfl, rfl⟩
set_option maxRecDepth 100000 in
theorem zmc_96 : zTb_has (.code (zy 96) (zb 96) (zn 96) (zr 96)) := ⟨List.mem_of_getElem? (i := 778) rfl, rfl⟩
set_option maxRecDepth 100000 in
theorem zmc_97 : zTb_has (.code (zy 97) (zb 97) (zn 97) (zr 97)) := ⟨List.mem_of_getElem? (i := 792) rfl, rfl⟩
set_option maxRecDepth 100000 in
theorem zmc_98 : zTb_has (.code (zy 98) (zb 98) (zn 98) (zr 98)) := ⟨List.mem_of_getElem? (i := 796) rfl, rfl⟩
set_option maxRecDepth 100000 in
theorem zmc_99 : zTb_has (.code (zy 99) (zb 99) (zn 99) (zr 99)) := ⟨List.mem_of_getElem? (i := 800) rfl, rfl⟩
set_option maxRecDepth 100000 in
theorem zmc_100 : zTb_has (.code (zy 100) (zb 100) (zn 100) (zr 100)) := ⟨List.mem_of_getElem? (i := 804) rfl, rfl⟩
set_option maxRecDepth 100000 in
theorem zmc_101 : zTb_has (.code (zy 101) (zb 101) (zn 101) (zr 101)) := ⟨List.mem_of_getElem? (i := 812) rfl, rfl⟩
set_option maxRecDepth 100000 in
theorem zmc_102 : zTb_has (.code (zy 102) (zb 102) (zn 102) (zr 102)) := ⟨List.mem_of_getElem? (i := 357) rfl, rfl⟩
set_option maxRecDepth 100000 in
theorem zmc_103 : zTb_has (.code (zy 103) (zb 103) (zn 103) (zr 103)) := ⟨List.mem_of_getElem? (i := 349) rfl, rfl⟩
set_option maxRecDepth 100000 in
theorem zmc_104 : zTb_has (.code (zy 104) (zb 104) (zn 104) (zr 104)) := ⟨List.mem_of_getElem? (i := 353) rfl, rfl⟩
set_option maxRecDepth 100000 in
theorem zmc_105 : zTb_has (.code (zy 105) (zb 105) (zn 105) (zr 105)) := ⟨List.mem_of_getElem? (i := 704) rfl, rfl⟩
set_option maxRecDepth 100000 in
theorem zmc_106 : zTb_has (.code (zy 106) (zb 106) (zn 106) (zr 106)) := ⟨List.mem_of_getElem? (i := 516) rfl, rfl⟩
set_option maxRecDepth 100000 in
theorem zmc_107 : zTb_has (.code (zy 107) (zb 107) (zn 107) (zr 107)) := ⟨List.mem_of_getElem? (i := 685) rfl, rfl⟩
set_option maxRecDepth 100000 in
theorem zmc_108 : zTb_has (.code (zy 108) (zb 108) (zn 108) (zr 108)) := ⟨List.mem_of_getElem? (i := 693) rfl, rfl⟩
set_option maxRecDepth 100000 in
theorem zmc_109 : zTb_has (.code (zy 109) (zb 109) (zn 109) (zr 109)) := ⟨List.mem_of_getElem? (i := 712) rfl, rfl⟩
set_option maxRecDepth 100000 in
theorem zmc_110 : zTb_has (.code (zy 110) (zb 110) (zn 110) (zr 110)) := ⟨List.mem_of_getElem? (i := 896) rfl, rfl⟩
set_option maxRecDepth 100000 in
theorem zmc_111 : zTb_has (.code (zy 111) (zb 111) (zn 111) (zr 111)) := ⟨List.mem_of_getElem? (i := 892) rfl, rfl⟩
set_option maxRecDepth 100000 in
theorem zmc_112 : zTb_has (.code (zy 112) (zb 112) (zn 112) (zr 112)) := ⟨List.mem_of_getElem? (i := 1016) rfl, rfl⟩
set_option maxRecDepth 100000 in
theorem zmc_113 : zTb_has (.code (zy 113) (zb 113) (zn 113) (zr 113)) := ⟨List.mem_of_getElem? (i := 1287) rfl, rfl⟩
set_option maxRecDepth 100000 in
theorem zmc_114 : zTb_has (.code (zy 114) (zb 114) (zn 114) (zr 114)) := ⟨List.mem_of_getElem? (i := 1174) rfl, rfl⟩
set_option maxRecDepth 100000 in
theorem zmc_115 : zTb_has (.code (zy 115) (zb 115) (zn 115) (zr 115)) := ⟨List.mem_of_getElem? (i := 1178) rfl, rfl⟩
set_option maxRecDepth 100000 in
theorem zmc_116 : zTb_has (.code (zy 116) (zb 116) (zn 116) (zr 116)) := ⟨List.mem_of_getElem? (i := 987) rfl, rfl⟩
set_option maxRecDepth 100000 in
theorem zmc_117 : zTb_has (.code (zy 117) (zb 117) (zn 117) (zr 117)) := ⟨List.mem_of_getElem? (i := 960) rfl, rfl⟩
set_option maxRecDepth 100000 in
theorem zmc_118 : zTb_has (.code (zy 118) (zb 118) (zn 118) (zr 118)) := ⟨List.mem_of_getElem? (i := 976) rfl, rfl⟩
set_option maxRecDepth 100000 in
theorem zmc_119 : zTb_has (.code (zy 119) (zb 119) (zn 119) (zr 119)) := ⟨List.mem_of_getElem? (i := 964) rfl, rfl⟩
set_option maxRecDepth 100000 in
theorem zmc_120 : zTb_has (.code (zy 120) (zb 120) (zn 120) (zr 120)) := ⟨List.mem_of_getElem? (i := 1043) rfl, rfl⟩
set_option maxRecDepth 100000 in
theorem zmc_121 : zTb_has (.code (zy 121) (zb 121) (zn 121) (zr 121)) := ⟨List.mem_of_getElem? (i := 972) rfl, rfl⟩
set_option maxRecDepth 100000 in
theorem zmc_122 : zTb_has (.code (zy 122) (zb 122) (zn 122) (zr 122)) := ⟨List.mem_of_getElem? (i := 889) rfl, rfl⟩
set_option maxRecDepth 100000 in
theorem zmc_123 : zTb_has (.code (zy 123) (zb 123) (zn 123) (zr 123)) := ⟨List.mem_of_getElem? (i := 930) rfl, rfl⟩
set_option maxRecDepth 100000 in
theorem zmc_124 : zTb_has (.code (zy 124) (zb 124) (zn 124) (zr 124)) := ⟨List.mem_of_getElem? (i := 934) rfl, rfl⟩
set_option maxRecDepth 100000 in
theorem zmc_125 : zTb_has (.code (zy 125) (zb 125) (zn 125) (zr 125)) := ⟨List.mem_of_getElem? (i := 938) rfl, rfl⟩
set_option maxRecDepth 100000 in
theorem zmc_126 : zTb_has (.code (zy 126) (zb 126) (zn 126) (zr 126)) := ⟨List.mem_of_getElem? (i := 906) rfl, rfl⟩
set_option maxRecDepth 100000 in
theorem zmc_127 : zTb_has (.code (zy 127) (zb 127) (zn 127) (zr 127)) := ⟨List.mem_of_getElem? (i := 910) rfl, rfl⟩
set_option maxRecDepth 100000 in
theorem zmc_128 : zTb_has (.code (zy 128) (zb 128) (zn 128) (zr 128)) := ⟨List.mem_of_getElem? (i := 914) rfl, rfl⟩
set_option maxRecDepth 100000 in
theorem zmc_129 : zTb_has (.code (zy 129) (zb 129) (zn 129) (zr 129)) := ⟨List.mem_of_getElem? (i := 918) rfl, rfl⟩
set_option maxRecDepth 100000 in
theorem zmc_130 : zTb_has (.code (zy 130) (zb 130) (zn 130) (zr 130)) := ⟨List.mem_of_getElem? (i := 922) rfl, rfl⟩
set_option maxRecDepth 100000 in
theorem zmc_131 : zTb_has (.code (zy 131) (zb 131) (zn 131) (zr 131)) := ⟨List.mem_of_getElem? (i := 942) rfl, rfl⟩
set_option maxRecDepth 100000 in
theorem zmc_132 : zTb_has (.code (zy 132) (zb 132) (zn 132) (zr 132)) := ⟨List.mem_of_getElem? (i := 926) rfl, rfl⟩
set_option maxRecDepth 100000 in
theorem zmc_133 : zTb_has (.code (zy 133) (zb 133) (zn 133) (zr 133)) := ⟨List.mem_of_getElem? (i := 950) rfl, rfl⟩
set_option maxRecDepth 100000 in
theorem zmc_134 : zTb_has (.code (zy 134) (zb 134) (zn 134) (zr 134)) := ⟨List.mem_of_getElem? (i := 902) rfl, rfl⟩
set_option maxRecDepth 100000 in
theorem zmc_135 : zTb_has (.code (zy 135) (zb 135) (zn 135) (zr 135)) := ⟨List.mem_of_getElem? (i := 946) rfl, rfl⟩
set_option maxRecDepth 100000 in
theorem zmc_136 : zTb_has (.code (zy 136) (zb 136) (zn 136) (zr 136)) := ⟨List.mem_of_getElem? (i := 1010) rfl, rfl⟩
set_option maxRecDepth 100000 in
theorem zmc_137 : zTb_has (.code (zy 137) (zb 137) (zn 137) (zr 137)) := ⟨List.mem_of_getElem? (i := 1007) rfl, rfl⟩
set_option maxRecDepth 100000 in
theorem zmc_138 : zTb_has (.code (zy 138) (zb 138) (zn 138) (zr 138)) := ⟨List.mem_of_getElem? (i := 999) rfl, rfl⟩
set_option maxRecDepth 100000 in
theorem zmc_139 : zTb_has (.code (zy 139) (zb 139) (zn 139) (zr 139)) := ⟨List.mem_of_getElem? (i := 995) rfl, rfl⟩
set_option maxRecDepth 100000 in
theorem zmc_140 : zTb_has (.code (zy 140) (zb 140) (zn 140) (zr 140)) := ⟨List.mem_of_getElem? (i := 1024) rfl, rfl⟩
set_option maxRecDepth 100000 in
theorem zmc_141 : zTb_has (.code (zy 141) (zb 141) (zn 141) (zr 141)) := ⟨List.mem_of_getElem? (i := 1013) rfl, rfl⟩
set_option maxRecDepth 100000 in
theorem zmc_142 : zTb_has (.code (zy 142) (zb 142) (zn 142) (zr 142)) := ⟨List.mem_of_getElem? (i := 1003) rfl, rfl⟩
set_option maxRecDepth 100000 in
theorem zmc_143 : zTb_has (.code (zy 143) (zb 143) (zn 143) (zr 143)) := ⟨List.mem_of_getElem? (i := 991) rfl, rfl⟩
set_option maxRecDepth 100000 in
theorem zmc_144 : zTb_has (.code (zy 144) (zb 144) (zn 144) (zr 144)) := ⟨List.mem_of_getElem? (i := 1020) rfl, rfl⟩
set_option maxRecDepth 100000 in
theorem zmc_145 : zTb_has (.code (zy 145) (zb 145) (zn 145) (zr 145)) := ⟨List.mem_of_getElem? (i := 979) rfl, rfl⟩
set_option maxRecDepth 100000 in
theorem zmc_146 : zTb_has (.code (zy 146) (zb 146) (zn 146) (zr 146)) := ⟨List.mem_of_getElem? (i := 968) rfl, rfl⟩
set_option maxRecDepth 100000 in
theorem zmc_147 : zTb_has (.code (zy 147) (zb 147) (zn 147) (zr 147)) := ⟨List.mem_of_getElem? (i := 1086) rfl, rfl⟩
set_option maxRecDepth 100000 in
theorem zmc_148 : zTb_has (.code (zy 148) (zb 148) (zn 148) (zr 148)) := ⟨List.mem_of_getElem? (i := 1051) rfl, rfl⟩
set_option maxRecDepth 100000 in
theorem zmc_149 : zTb_has (.code (zy 149) (zb 149) (zn 149) (zr 149)) := ⟨List.mem_of_getElem? (i := 1098) rfl, rfl⟩
set_option maxRecDepth 100000 in
theorem zmc_150 : zTb_has (.code (zy 150) (zb 150) (zn 150) (zr 150)) := ⟨List.mem_of_getElem? (i := 1094) rfl, rfl⟩
set_option maxRecDepth 100000 in
theorem zmc_151 : zTb_has (.code (zy 151) (zb 151) (zn 151) (zr 151)) := ⟨List.mem_of_getElem? (i := 1102) rfl, rfl⟩
set_option maxRecDepth 100000 in
theorem zmc_152 : zTb_has (.code (zy 152) (zb 152) (zn 152) (zr 152)) := ⟨List.mem_of_getElem? (i := 1090) rfl, rfl⟩
set_option maxRecDepth 100000 in
theorem zmc_153 : zTb_has (.code (zy 153) (zb 153) (zn 153) (zr 153)) := ⟨List.mem_of_getElem? (i := 1082) rfl, rfl⟩
set_option maxRecDepth 100000 in
theorem zmc_154 : zTb_has (.code (zy 154) (zb 154) (zn 154) (zr 154)) := ⟨List.mem_of_getElem? (i := 1078) rfl, rfl⟩
set_option maxRecDepth 100000 in
theorem zmc_155 : zTb_has (.code (zy 155) (zb 155) (zn 155) (zr 155)) := ⟨List.mem_of_getElem? (i := 1074) rfl, rfl⟩
set_option maxRecDepth 100000 in
theorem zmc_156 : zTb_has (.code (zy 156) (zb 156) (zn 156) (zr 156)) := ⟨List.mem_of_getElem? (i := 1186) rfl, rfl⟩
set_option maxRecDepth 100000 in
theorem zmc_157 : zTb_has (.code (zy 157) (zb 157) (zn 157) (zr 157)) := ⟨List.mem_of_getElem? (i := 1307) rfl, rfl⟩
set_option maxRecDepth 100000 in
theorem zmc_158 : zTb_has (.code (zy 158) (zb 158) (zn 158) (zr 158)) := ⟨List.mem_of_getElem? (i := 957) rfl, rfl⟩
set_option maxRecDepth 100000 in
theorem zmc_159 : zTb_has (.code (zy 159) (zb 159) (zn 159) (zr 159)) := ⟨List.mem_of_getElem? (i := 954) rfl, rfl⟩
set_option maxRecDepth 100000 in
theorem zmc_160 : zTb_has (.code (zy 160) (zb 160) (zn 160) (zr 160)) := ⟨List.mem_of_getElem? (i := 983) rfl, rfl⟩
set_option maxRecDepth 100000 in
theorem zmc_161 : zTb_has (.code (zy 161) (zb 161) (zn 161) (zr 161)) := ⟨List.mem_of_getElem? (i := 1028) rfl, rfl⟩
set_option maxRecDepth 100000 in
theorem zmc_162 : zTb_has (.code (zy 162) (zb 162) (zn 162) (zr 162)) := ⟨List.mem_of_getElem? (i := 1032) rfl, rfl⟩
set_option maxRecDepth 100000 in
theorem zmc_163 : zTb_has (.code (zy 163) (zb 163) (zn 163) (zr 163)) := ⟨List.mem_of_getElem? (i := 1039) rfl, rfl⟩
set_option maxRecDepth 100000 in
theorem zmc_164 : zTb_has (.code (zy 164) (zb 164) (zn 164) (zr 164)) := ⟨List.mem_of_getElem? (i := 1047) rfl, rfl⟩
set_option maxRecDepth 100000 in
theorem zmc_165 : zTb_has (.code (zy 165) (zb 165) (zn 165) (zr 165)) := ⟨List.mem_of_getElem? (i := 1058) rfl, rfl⟩
set_option maxRecDepth 100000 in
theorem zmc_166 : zTb_has (.code (zy 166) (zb 166) (zn 166) (zr 166)) := ⟨List.mem_of_getElem? (i := 1055) rfl, rfl⟩
set_option maxRecDepth 100000 in
theorem zmc_167 : zTb_has (.code (zy 167) (zb 167) (zn 167) (zr 167)) := ⟨List.mem_of_getElem? (i := 1062) rfl, rfl⟩
set_option maxRecDepth 100000 in
theorem zmc_168 : zTb_has (.code (zy 168) (zb 168) (zn 168) (zr 168)) := ⟨List.mem_of_getElem? (i := 1066) rfl, rfl⟩
set_option maxRecDepth 100000 in
theorem zmc_169 : zTb_has (.code (zy 169) (zb 169) (zn 169) (zr 169)) := ⟨List.mem_of_getElem? (i := 1070) rfl, rfl⟩
set_option maxRecDepth 100000 in
theorem zmc_170 : zTb_has (.code (zy 170) (zb 170) (zn 170) (zr 170)) := ⟨List.mem_of_getElem? (i := 1110) rfl, rfl⟩
set_option maxRecDepth 100000 in
theorem zmc_171 : zTb_has (.code (zy 171) (zb 171) (zn 171) (zr 171)) := ⟨List.mem_of_getElem? (i := 1106) rfl, rfl⟩
set_option maxRecDepth 100000 in
theorem zmc_172 : zTb_has (.code (zy 172) (zb 172) (zn 172) (zr 172)) := ⟨List.mem_of_getElem? (i := 1115) rfl, rfl⟩
set_option maxRecDepth 100000 in
theorem zmc_173 : zTb_has (.code (zy 173) (zb 173) (zn 173) (zr 173)) := ⟨List.mem_of_getElem? (i := 1119) rfl, rfl⟩
set_option maxRecDepth 100000 in
theorem zmc_174 : zTb_has (.code (zy 174) (zb 174) (zn 174) (zr 174)) := ⟨List.mem_of_getElem? (i := 1127) rfl, rfl⟩
set_option maxRecDepth 100000 in
theorem zmc_175 : zTb_has (.code (zy 175) (zb 175) (zn 175) (zr 175)) := ⟨List.mem_of_getElem? (i := 1123) rfl, rfl⟩
set_option maxRecDepth 100000 in
theorem zmc_176 : zTb_has (.code (zy 176) (zb 176) (zn 176) (zr 176)) := ⟨List.mem_of_getElem? (i := 1135) rfl, rfl⟩
set_option maxRecDepth 100000 in
theorem zmc_177 : zTb_has (.code (zy 177) (zb 177) (zn 177) (zr 177)) := ⟨List.mem_of_getElem? (i := 1131) rfl, rfl⟩
set_option maxRecDepth 100000 in
theorem zmc_178 : zTb_has (.code (zy 178) (zb 178) (zn 178) (zr 178)) := ⟨List.mem_of_getElem? (i := 1147) rfl, rfl⟩
set_option maxRecDepth 100000 in
theorem zmc_179 : zTb_has (.code (zy 179) (zb 179) (zn 179) (zr 179)) := ⟨List.mem_of_getElem? (i := 1151) rfl, rfl⟩
set_option maxRecDepth 100000 in
theorem zmc_180 : zTb_has (.code (zy 180) (zb 180) (zn 180) (zr 180)) := ⟨List.mem_of_getElem? (i := 1143) rfl, rfl⟩
set_option maxRecDepth 100000 in
theorem zmc_181 : zTb_has (.code (zy 181) (zb 181) (zn 181) (zr 181)) := ⟨List.mem_of_getElem? (i := 1158) rfl, rfl⟩
set_option maxRecDepth 100000 in
theorem zmc_182 : zTb_has (.code (zy 182) (zb 182) (zn 182) (zr 182)) := ⟨List.mem_of_getElem? (i := 1139) rfl, rfl⟩
set_option maxRecDepth 100000 in
theorem zmc_183 : zTb_has (.code (zy 183) (zb 183) (zn 183) (zr 183)) := ⟨List.mem_of_getElem? (i := 1155) rfl, rfl⟩
set_option maxRecDepth 100000 in
theorem zmc_184 : zTb_has (.code (zy 184) (zb 184) (zn 184) (zr 184)) := ⟨List.mem_of_getElem? (i := 1166) rfl, rfl⟩
set_option maxRecDepth 100000 in
theorem zmc_185 : zTb_has (.code (zy 185) (zb 185) (zn 185) (zr 185)) := ⟨List.mem_of_getElem? (i := 1162) rfl, rfl⟩
set_option maxRecDepth 100000 in
theorem zmc_186 : zTb_has (.code (zy 186) (zb 186) (zn 186) (zr 186)) := ⟨List.mem_of_getElem? (i := 1170) rfl, rfl⟩
set_option maxRecDepth 100000 in
theorem zmc_187 : zTb_has (.code (zy 187) (zb 187) (zn 187) (zr 187)) := ⟨List.mem_of_getElem? (i := 1182) rfl, rfl⟩
set_option maxRecDepth 100000 in
theorem zmc_188 : zTb_has (.code (zy 188) (zb 188) (zn 188) (zr 188)) := ⟨List.mem_of_getElem? (i := 1190) rfl, rfl⟩
set_option maxRecDepth 100000 in
theorem zmc_189 : zTb_has (.code (zy 189) (zb 189) (zn 189) (zr 189)) := ⟨List.mem_of_getElem? (i := 1198) rfl, rfl⟩
set_option maxRecDepth 100000 in
theorem zmc_190 : zTb_has (.code (zy 190) (zb 190) (zn 190) (zr 190)) := ⟨List.mem_of_getElem? (i := 1194) rfl, rfl⟩
set_option maxRecDepth 100000 in
theorem zmc_191 : zTb_has (.code (zy 191) (zb 191) (zn 191) (zr 191)) := ⟨List.mem_of_getElem? (i := 1206) rfl, rfl⟩
set_option maxRecDepth 100000 in
theorem zmc_192 : zTb_has (.code (zy 192) (zb 192) (zn 192) (zr 192)) := ⟨List.mem_of_getElem? (i := 1202) rfl, rfl⟩
set_option maxRecDepth 100000 in
theorem zmc_193 : zTb_has (.code (zy 193) (zb 193) (zn 193) (zr 193)) := ⟨List.mem_of_getElem? (i := 1213) rfl, rfl⟩
set_option maxRecDepth 100000 in
theorem zmc_194 : zTb_has (.code (zy 194) (zb 194) (zn 194) (zr 194)) := ⟨List.mem_of_getElem? (i := 1210) rfl, rfl⟩
set_option maxRecDepth 100000 in
theorem zmc_195 : zTb_has (.code (zy 195) (zb 195) (zn 195) (zr 195)) := ⟨List.mem_of_getElem? (i := 1217) rfl, rfl⟩
set_option maxRecDepth 100000 in
theorem zmc_196 : zTb_has (.code (zy 196) (zb 196) (zn 196) (zr 196)) := ⟨List.mem_of_getElem? (i := 1236) rfl, rfl⟩
set_option maxRecDepth 100000 in
theorem zmc_197 : zTb_has (.code (zy 197) (zb 197) (zn 197) (zr 197)) := ⟨List.mem_of_getElem? (i := 1035) rfl, rfl⟩
set_option maxRecDepth 100000 in
theorem zmc_198 : zTb_has (.code (zy 198) (zb 198) (zn 198) (zr 198)) := ⟨List.mem_of_getElem? (i := 1228) rfl, rfl⟩
set_option maxRecDepth 100000 in
theorem zmc_199 : zTb_has (.code (zy 199) (zb 199) (zn 199) (zr 199)) := ⟨List.mem_of_getElem? (i := 1244) rfl, rfl⟩
set_option maxRecDepth 100000 in
theorem zmc_200 : zTb_has (.code (zy 200) (zb 200) (zn 200) (zr 200)) := ⟨List.mem_of_getElem? (i := 1232) rfl, rfl⟩
set_option maxRecDepth 100000 in
theorem zmc_201 : zTb_has (.code (zy 201) (zb 201) (zn 201) (zr 201)) := ⟨List.mem_of_getElem? (i := 1240) rfl, rfl⟩
set_option maxRecDepth 100000 in
theorem zmc_202 : zTb_has (.code (zy 202) (zb 202) (zn 202) (zr 202)) := ⟨List.mem_of_getElem? (i := 1248) rfl, rfl⟩
set_option maxRecDepth 100000 in
theorem zmc_203 : zTb_has (.code (zy 203) (zb 203) (zn 203) (zr 203)) := ⟨List.mem_of_getElem? (i := 1252) rfl, rfl⟩
set_option maxRecDepth 100000 in
theorem zmc_204 : zTb_has (.code (zy 204) (zb 204) (zn 204) (zr 204)) := ⟨List.mem_of_getElem? (i := 1224) rfl, rfl⟩
set_option maxRecDepth 100000 in
theorem zmc_205 : zTb_has (.code (zy 205) (zb 205) (zn 205) (zr 205)) := ⟨List.mem_of_getElem? (i := 1256) rfl, rfl⟩
set_option maxRecDepth 100000 in
theorem zmc_206 : zTb_has (.code (zy 206) (zb 206) (zn 206) (zr 206)) := ⟨List.mem_of_getElem? (i := 1220) rfl, rfl⟩
set_option maxRecDepth 100000 in
theorem zmc_207 : zTb_has (.code (zy 207) (zb 207) (zn 207) (zr 207)) := ⟨List.mem_of_getElem? (i := 1260) rfl, rfl⟩
set_option maxRecDepth 100000 in
theorem zmc_208 : zTb_has (.code (zy 208) (zb 208) (zn 208) (zr 208)) := ⟨List.mem_of_getElem? (i := 1264) rfl, rfl⟩
set_option maxRecDepth 100000 in
theorem zmc_209 : zTb_has (.code (zy 209) (zb 209) (zn 209) (zr 209)) := ⟨List.mem_of_getElem? (i := 1268) rfl, rfl⟩
set_option maxRecDepth 100000 in
theorem zmc_210 : zTb_has (.code (zy 210) (zb 210) (zn 210) (zr 210)) := ⟨List.mem_of_getElem? (i := 1276) rfl, rfl⟩
set_option maxRecDepth 100000 in
theorem zmc_211 : zTb_has (.code (zy 211) (zb 211) (zn 211) (zr 211)) := ⟨List.mem_of_getElem? (i := 1272) rfl, rfl⟩
set_option maxRecDepth 100000 in
theorem zmc_212 : zTb_has (.code (zy 212) (zb 212) (zn 212) (zr 212)) := ⟨List.mem_of_getElem? (i := 1280) rfl, rfl⟩
set_option maxRecDepth 100000 in
theorem zmc_213 : zTb_has (.code (zy 213) (zb 213) (zn 213) (zr 213)) := ⟨List.mem_of_getElem? (i := 1284) rfl, rfl⟩
set_option maxRecDepth 100000 in
theorem zmc_214 : zTb_has (.code (zy 214) (zb 214) (zn 214) (zr 214)) := ⟨List.mem_of_getElem? (i := 1291) rfl, rfl⟩
set_option maxRecDepth 100000 in
theorem zmc_215 : zTb_has (.code (zy 215) (zb 215) (zn 215) (zr 215)) := ⟨List.mem_of_getElem? (i := 1295) rfl, rfl⟩
set_option maxRecDepth 100000 in
theorem zmc_216 : zTb_has (.code (zy 216) (zb 216) (zn 216) (zr 216)) := ⟨List.mem_of_getElem? (i := 1299) rfl, rfl⟩
set_option maxRecDepth 100000 in
theorem zmc_217 : zTb_has (.code (zy 217) (zb 217) (zn 217) (zr 217)) := ⟨List.mem_of_getElem? (i := 1303) rfl, rfl⟩
set_option maxRecDepth 100000 in
theorem zmc_218 : zTb_has (.code (zy 218) (zb 218) (zn 218) (zr 218)) := ⟨List.mem_of_getElem? (i := 1311) rfl, rfl⟩
set_option maxRecDepth 100000 in
theorem zmc_219 : zTb_has (.code (zy 219) (zb 219) (zn 219) (zr 219)) := ⟨List.mem_of_getElem? (i := 646) rfl, rfl⟩
set_option maxRecDepth 100000 in
theorem zmc_220 : zTb_has (.code (zy 220) (zb 220) (zn 220) (zr 220)) := ⟨List.mem_of_getElem? (i := 396) rfl, rfl⟩
set_option maxRecDepth 100000 in
theorem zmc_221 : zTb_has (.code (zy 221) (zb 221) (zn 221) (zr 221)) := ⟨List.mem_of_getElem? (i := 369) rfl, rfl⟩
set_option maxRecDepth 100000 in
theorem zmc_222 : zTb_has (.code (zy 222) (zb 222) (zn 222) (zr 222)) := ⟨List.mem_of_getElem? (i := 402) rfl, rfl⟩
set_option maxRecDepth 100000 in
theorem zmc_223 : zTb_has (.code (zy 223) (zb 223) (zn 223) (zr 223)) := ⟨List.mem_of_getElem? (i := 399) rfl, rfl⟩
theorem zmcc_0 : ∀ mj, 0 ≤ mj → mj < 25 → zTb_has (.code (zy mj) (zb mj) (zn mj) (zr mj)) := by
  intro mj h1 h2
  have h : mj = 0 ∨ mj = 1 ∨ mj = 2 ∨ mj = 3 ∨ mj = 4 ∨ mj = 5 ∨ mj = 6 ∨ mj = 7 ∨ mj = 8 ∨ mj = 9 ∨ mj = 10 ∨ mj = 11 ∨ mj = 12 ∨ mj = 13 ∨ mj = 14 ∨ mj = 15 ∨ mj = 16 ∨ mj = 17 ∨ mj = 18 ∨ mj = 19 ∨ mj = 20 ∨ mj = 21 ∨ mj = 22 ∨ mj = 23 ∨ mj = 24 := by omega
  rcases h with rfl | rfl | rfl | rfl | rfl | rfl | rfl | rfl | rfl | rfl | rfl | rfl | rfl | rfl | rfl | rfl | rfl | rfl | rfl | rfl | rfl | rfl | rfl | rfl | rfl
  · exact zmc_0
  · exact zmc_1
  · exact zmc_2
  · exact zmc_3
  · exact zmc_4
  · exact zmc_5
  · exact zmc_6
  · exact zmc_7
  · exact zmc_8
  · exact zmc_9
  · exact zmc_10
  · exact zmc_11
  · exact zmc_12
  · exact zmc_13
  · exact zmc_14
  · exact zmc_15
  · exact zmc_16
  · exact zmc_17
  · exact zmc_18
  · exact zmc_19
  · exact zmc_20
  · exact zmc_21
  · exact zmc_22
  · exact zmc_23
  · exact zmc_24
theorem zmcc_1 : ∀ mj, 25 ≤ mj → mj < 50 → zTb_has (.code (zy mj) (zb mj) (zn mj) (zr mj)) := by
  intro mj h1 h2
  have h : mj = 25 ∨ mj = 26 ∨ mj = 27 ∨ mj = 28 ∨ mj = 29 ∨ mj = 30 ∨ mj = 31 ∨ mj = 32 ∨ mj = 33 ∨ mj = 34 ∨ mj = 35 ∨ mj = 36 ∨ mj = 37 ∨ mj = 38 ∨ mj = 39 ∨ mj = 40 ∨ mj = 41 ∨ mj = 42 ∨ mj = 43 ∨ mj = 44 ∨ mj = 45 ∨ mj = 46 ∨ mj = 47 ∨ mj = 48 ∨ mj = 49 := by omega
  rcases h with rfl | rfl | rfl | rfl | rfl | rfl | rfl | rfl | rfl | rfl | rfl | rfl | rfl | rfl | rfl | rfl | rfl | rfl | rfl | rfl | rfl | rfl | rfl | rfl | rfl
  · exact zmc_25
  · exact zmc_26
  · exact zmc_27
  · exact zmc_28
  · exact zmc_29
  · exact zmc_30
  · exact zmc_31
  · exact zmc_32
  · exact zmc_33
  · exact zmc_34
  · exact zmc_35
  · exact zmc_36
  · exact zmc_37
  · exact zmc_38
  · exact zmc_39
  · exact zmc_40
  · exact zmc_41
  · exact zmc_42
  · exact zmc_43
  · exact zmc_44
  · exact zmc_45
  · exact zmc_46
  · exact zmc_47
  · exact zmc_48
  · exact zmc_49
theorem zmcc_2 : ∀ mj, 50 ≤ mj → mj < 75 → zTb_has (.code (zy mj) (zb mj) (zn mj) (zr mj)) := by
  intro mj h1 h2
  have h : mj = 50 ∨ mj = 51 ∨ mj = 52 ∨ mj = 53 ∨ mj = 54 ∨ mj = 55 ∨ mj = 56 ∨ mj = 57 ∨ mj = 58 ∨ mj = 59 ∨ mj = 60 ∨ mj = 61 ∨ mj = 62 ∨ mj = 63 ∨ mj = 64 ∨ mj = 65 ∨ mj = 66 ∨ mj = 67 ∨ mj = 68 ∨ mj = 69 ∨ mj = 70 ∨ mj = 71 ∨ mj = 72 ∨ mj = 73 ∨ mj = 74 := by omega
  rcases h with rfl | rfl | rfl | rfl | rfl | rfl | rfl | rfl | rfl | rfl | rfl | rfl | rfl | rfl | rfl | rfl | rfl | rfl | rfl | rfl | rfl | rfl | rfl | rfl | rfl
  · exact zmc_50
  · exact zmc_51
  · exact zmc_52
  · exact zmc_53
  · exact zmc_54
  · exact zmc_55
  · exact zmc_56
  · exact zmc_57
  · exact zmc_58
  · exact zmc_59
  · exact zmc_60
  · exact zmc_61
  · exact zmc_62
  · exact zmc_63
  · exact zmc_64
  · exact zmc_65
  · exact zmc_66
  · exact zmc_67
  · exact zmc_68
  · exact zmc_69
  · exact zmc_70
  · exact zmc_71
  · exact zmc_72
  · exact zmc_73
  · exact zmc_74
theorem zmcc_3 : ∀ mj, 75 ≤ mj → mj < 100 → zTb_has (.code (zy mj) (zb mj) (zn mj) (zr mj)) := by
  intro mj h1 h2
  have h : mj = 75 ∨ mj = 76 ∨ mj = 77 ∨ mj = 78 ∨ mj = 79 ∨ mj = 80 ∨ mj = 81 ∨ mj = 82 ∨ mj = 83 ∨ mj = 84 ∨ mj = 85 ∨ mj = 86 ∨ mj = 87 ∨ mj = 88 ∨ mj = 89 ∨ mj = 90 ∨ mj = 91 ∨ mj = 92 ∨ mj = 93 ∨ mj = 94 ∨ mj = 95 ∨ mj = 96 ∨ mj = 97 ∨ mj = 98 ∨ mj = 99 := by omega
  rcases h with rfl | rfl | rfl | rfl | rfl | rfl | rfl | rfl | rfl | rfl | rfl | rfl | rfl | rfl | rfl | rfl | rfl | rfl | rfl | rfl | rfl | rfl | rfl | rfl | rfl
  · exact zmc_75
  · exact zmc_76
  · exact zmc_77
  · exact zmc_78
  · exact zmc_79
  · exact zmc_80
  · exact zmc_81
  · exact zmc_82
  · exact zmc_83
  · exact zmc_84
  · exact zmc_85
  · exact zmc_86
  · exact zmc_87
  · exact zmc_88
  · exact zmc_89
  · exact zmc_90
  · exact zmc_91
  · exact zmc_92
  · exact zmc_93
  · exact zmc_94
  · exact zmc_95
  · exact zmc_96
  · exact zmc_97
  · exact zmc_98
  · exact zmc_99
theorem zmcc_4 : ∀ mj, 100 ≤ mj → mj < 125 → zTb_has (.code (zy mj) (zb mj) (zn mj) (zr mj)) := by
  intro mj h1 h2
  have h : mj = 100 ∨ mj = 101 ∨ mj = 102 ∨ mj = 103 ∨ mj = 104 ∨ mj = 105 ∨ mj = 106 ∨ mj = 107 ∨ mj = 108 ∨ mj = 109 ∨ mj = 110 ∨ mj = 111 ∨ mj = 112 ∨ mj = 113 ∨ mj = 114 ∨ mj = 115 ∨ mj = 116 ∨ mj = 117 ∨ mj = 118 ∨ mj = 119 ∨ mj = 120 ∨ mj = 121 ∨ mj = 122 ∨ mj = 123 ∨ mj = 124 := by omega
  rcases h with rfl | rfl | rfl | rfl | rfl | rfl | rfl | rfl | rfl | rfl | rfl | rfl | rfl | rfl | rfl | rfl | rfl | rfl | rfl | rfl | rfl | rfl | rfl | rfl | rfl
  · exact zmc_100
  · exact zmc_101
  · exact zmc_102
  · exact zmc_103
  · exact zmc_104
  · exact zmc_105
  · exact zmc_106
  · exact zmc_107
  · exact zmc_108
  · exact zmc_109
  · exact zmc_110
  · exact zmc_111
  · exact zmc_112
  · exact zmc_113
  · exact zmc_114
  · exact zmc_115
  · exact zmc_116
  · exact zmc_117
  · exact zmc_118
  · exact zmc_119
  · exact zmc_120
  · exact zmc_121
  · exact zmc_122
  · exact zmc_123
  · exact zmc_124
theorem zmcc_5 : ∀ mj, 125 ≤ mj → mj < 150 → zTb_has (.code (zy mj) (zb mj) (zn mj) (zr mj)) := by
  intro mj h1 h2
  have h : mj = 125 ∨ mj = 126 ∨ mj = 127 ∨ mj = 128 ∨ mj = 129 ∨ mj = 130 ∨ mj = 131 ∨ mj = 132 ∨ mj = 133 ∨ mj = 134 ∨ mj = 135 ∨ mj = 136 ∨ mj = 137 ∨ mj = 138 ∨ mj = 139 ∨ mj = 140 ∨ mj = 141 ∨ mj = 142 ∨ mj = 143 ∨ mj = 144 ∨ mj = 145 ∨ mj = 146 ∨ mj = 147 ∨ mj = 148 ∨ mj = 149 := by omega
  rcases h with rfl | rfl | rfl | rfl | rfl | rfl | rfl | rfl | rfl | rfl | rfl | rfl | rfl | rfl | rfl | rfl | rfl | rfl | rfl | rfl | rfl | rfl | rfl | rfl | rfl
  · exact zmc_125
  · exact zmc_126
  · exact zmc_127
  · exact zmc_128
  · exact zmc_129
  · exact zmc_130
  · exact zmc_131
  · exact zmc_132
  · exact zmc_133
  · exact zmc_134
  · exact zmc_135
  · exact zmc_136
  · exact zmc_137
  · exact zmc_138
  · exact zmc_139
  · exact zmc_140
  · exact zmc_141
  · exact zmc_142
  · exact zmc_143
  · exact zmc_144
  · exact zmc_145
  · exact zmc_146
  · exact zmc_147
  · exact zmc_148
  · exact zmc_149
theorem zmcc_6 : ∀ mj, 150 ≤ mj → mj < 175 → zTb_has (.code (zy mj) (zb mj) (zn mj) (zr mj)) := by
  intro mj h1 h2
  have h : mj = 150 ∨ mj = 151 ∨ mj = 152 ∨ mj = 153 ∨ mj = 154 ∨ mj = 155 ∨ mj = 156 ∨ mj = 157 ∨ mj = 158 ∨ mj = 159 ∨ mj = 160 ∨ mj = 161 ∨ mj = 162 ∨ mj = 163 ∨ mj = 164 ∨ mj = 165 ∨ mj = 166 ∨ mj = 167 ∨ mj = 168 ∨ mj = 169 ∨ mj = 170 ∨ mj = 171 ∨ mj = 172 ∨ mj = 173 ∨ mj = 174 := by omega
  rcases h with rfl | rfl | rfl | rfl | rfl | rfl | rfl | rfl | rfl | rfl | rfl | rfl | rfl | rfl | rfl | rfl | rfl | rfl | rfl | rfl | rfl | rfl | rfl | rfl | rfl
  · exact zmc_150
  · exact zmc_151
  · exact zmc_152
  · exact zmc_153
  · exact zmc_154
  · exact zmc_155
  · exact zmc_156
  · exact zmc_157
  · exact zmc_158
  · exact zmc_159
  · exact zmc_160
  · exact zmc_161
  · exact zmc_162
  · exact zmc_163
  · exact zmc_164
  · exact zmc_165
  · exact zmc_166
  · exact zmc_167
  · exact zmc_168
  · exact zmc_169
  · exact zmc_170
  · exact zmc_171
  · exact zmc_172
  · exact zmc_173
  · exact zmc_174
theorem zmcc_7 : ∀ mj, 175 ≤ mj → mj < 200 → zTb_has (.code (zy mj) (zb mj) (zn mj) (zr mj)) := by
  intro mj h1 h2
  have h : mj = 175 ∨ mj = 176 ∨ mj = 177 ∨ mj = 178 ∨ mj = 179 ∨ mj = 180 ∨ mj = 181 ∨ mj = 182 ∨ mj = 183 ∨ mj = 184 ∨ mj = 185 ∨ mj = 186 ∨ mj = 187 ∨ mj = 188 ∨ mj = 189 ∨ mj = 190 ∨ mj = 191 ∨ mj = 192 ∨ mj = 193 ∨ mj = 194 ∨ mj = 195 ∨ mj = 196 ∨ mj = 197 ∨ mj = 198 ∨ mj = 199 := by omega
  rcases h with rfl | rfl | rfl | rfl | rfl | rfl | rfl | rfl | rfl | rfl | rfl | rfl | rfl | rfl | rfl | rfl | rfl | rfl | rfl | rfl | rfl | rfl | rfl | rfl | rfl
  · exact zmc_175
  · exact zmc_176
  · exact zmc_177
  · exact zmc_178
  · exact zmc_179
  · exact zmc_180
  · exact zmc_181
  · exact zmc_182
  · exact zmc_183
  · exact zmc_184
  · exact zmc_185
  · exact zmc_186
  · exact zmc_187
  · exact zmc_188
  · exact zmc_189
  · exact zmc_190
  · exact zmc_191
  · exact zmc_192
  · exact zmc_193
  · exact zmc_194
  · exact zmc_195
  · exact zmc_196
  · exact zmc_197
  · exact zmc_198
  · exact zmc_199
theorem zmcc_8 : ∀ mj, 200 ≤ mj → mj < 224 → zTb_has (.code (zy mj) (zb mj) (zn mj) (zr mj)) := by
  intro mj h1 h2
  have h : mj = 200 ∨ mj = 201 ∨ mj = 202 ∨ mj = 203 ∨ mj = 204 ∨ mj = 205 ∨ mj = 206 ∨ mj = 207 ∨ mj = 208 ∨ mj = 209 ∨ mj = 210 ∨ mj = 211 ∨ mj = 212 ∨ mj = 213 ∨ mj = 214 ∨ mj = 215 ∨ mj = 216 ∨ mj = 217 ∨ mj = 218 ∨ mj = 219 ∨ mj = 220 ∨ mj = 221 ∨ mj = 222 ∨ mj = 223 := by omega
  rcases h with rfl | rfl | rfl | rfl | rfl | rfl | rfl | rfl | rfl | rfl | rfl | rfl | rfl | rfl | rfl | rfl | rfl | rfl | rfl | rfl | rfl | rfl | rfl | rfl
  · exact zmc_200
  · exact zmc_201
  · exact zmc_202
  · exact zmc_203
  · exact zmc_204
  · exact zmc_205
  · exact zmc_206
  · exact zmc_207
  · exact zmc_208
  · exact zmc_209
  · exact zmc_210
  · exact zmc_211
  · exact zmc_212
  · exact zmc_213
  · exact zmc_214
  · exact zmc_215
  · exact zmc_216
  · exact zmc_217
  · exact zmc_218
  · exact zmc_219
  · exact zmc_220
  · exact zmc_221
  · exact zmc_222
  · exact zmc_223
theorem zm_code {mj : Nat} (h : mj < zMN) (h9 : zo mj ≠ 9) : Cond.code (zy mj) (zb mj) (zn mj) (zr mj) ∈ zTb := by
  have h : mj < 225 := h
  by_cases c0 : mj < 25
  · exact zTb_has_in (zmcc_0 mj (by omega) c0)
  by_cases c1 : mj < 50
  · exact zTb_has_in (zmcc_1 mj (by omega) c1)
  by_cases c2 : mj < 75
  · exact zTb_has_in (zmcc_2 mj (by omega) c2)
  by_cases c3 : mj < 100
  · exact zTb_has_in (zmcc_3 mj (by omega) c3)
  by_cases c4 : mj < 125
  · exact zTb_has_in (zmcc_4 mj (by omega) c4)
  by_cases c5 : mj < 150
  · exact zTb_has_in (zmcc_5 mj (by omega) c5)
  by_cases c6 : mj < 175
  · exact zTb_has_in (zmcc_6 mj (by omega) c6)
  by_cases c7 : mj < 200
  · exact zTb_has_in (zmcc_7 mj (by omega) c7)
  by_cases c8 : mj < 224
  · exact zTb_has_in (zmcc_8 mj (by omega) c8)
  exact absurd (by have : mj = 224 := by omega
                   subst this; rfl) h9
end
section
theorem zmT_ok2 : ∀ q ∈ zmT, lw_tbl[q.2.2.2.2.1]? = some (.initialized (zC (zo q.1))) ∧ goodWord (.initialized (zC (zo q.1))) = true ∧ (zy q.1).cls = zC (zo q.1) ∧ (zy q.1).cls ≠ "java/lang/invoke/MethodHandle" ∧ (zy q.1).cls ≠ "java/lang/invoke/VarHandle" := by decide +kernel
theorem zmT_plain : ∀ q ∈ zmT, plainFor (zy q.1) = true := by decide +kernel
theorem zmT_ok3 : ∀ q ∈ zmT, zst q.1 = q.2.1 ∧ zna q.1 = q.2.2.1 ∧ (parseMethodDescriptor (zy q.1).desc).map (fun d => d.parameters.length) = some (if q.2.1 then zna q.1 else zna q.1 - 1) ∧ (q.2.1 = false → 1 ≤ zna q.1) := by decide +kernel
theorem zmT_ok4 : ∀ q ∈ zmT, if q.2.1 = true then lw_tbl[q.2.2.2.2.2.1]? = some (.static (zy q.1)) ∧ goodWord (.static (zy q.1)) = true else (lw_tbl[q.2.2.2.2.2.1]? = some (.instanceMethod (zy q.1)) ∧ goodWord (.instanceMethod (zy q.1)) = true) ∧ (lw_tbl[q.2.2.2.2.2.2]? = some (.selects (zC (zo q.1)) (zy q.1) (zy q.1)) ∧ goodWord (.selects (zC (zo q.1)) (zy q.1) (zy q.1)) = true ∧ zo q.1 < 9) := by decide +kernel
theorem zmT_all : ∀ mj, mj < zMN → zo mj ≠ 9 → ∃ q ∈ zmT, q.1 = mj := by decide +kernel
end
section
/-! One step of the small machine is a step of the JVM's. -/
def zA0 (hb : Nat) : Nat → Prop := fun q => hb ≤ q
def zWd (D : va_G) (cI cS : ClassId) (ad : Nat → Nat → Nat) (hb : Nat) (σ : zS) (H : Heap) : Prop := va_P D vwCl (zwl cI cS ad σ) H ∧ va_D (zA0 hb) (zwl cI cS ad σ)
def zTy (cI cS : ClassId) : List (ClassId × FieldType) := [(cI, .int), (cS, .object "ApronStrings$Sheet")]
def zGood (D : va_G) (cI cS : ClassId) (ad : Nat → Nat → Nat) (hb L : Nat) (ρ : zS) (U : State) (H : Heap) : Prop :=
  va_K D vwCl (zTy cI cS) U ∧ va_T .int (ad 50 0) L (fun j => .int (ρ 50 0 j)) (zA0 hb) U H ∧ va_T .char (ad 51 0) 6 (fun j => .int (ρ 51 0 j)) (zA0 hb) U H ∧ va_T .int (ad 52 0) 7 (fun j => .int (ρ 52 0 j)) (zA0 hb) U H ∧ va_T .int (ad 53 0) 28 (fun j => .int (ρ 53 0 j)) (zA0 hb) U H ∧ (∀ t, 51 ≤ t → t < 54 → va_Z (zsC t).1 (zsC t).2.1 (zsC t).2.2 (.ref (ad t 0)) (zA0 hb) U H) ∧ (ρ 50 1 0).toNatClampNeg = L
theorem zGood.moved {D : va_G} {cI cS : ClassId} {ad : Nat → Nat → Nat} {hb L : Nat} {ρ : zS} {u U : State} {H0 H : Heap} (hvm : u.vm.Alike U.vm) (hq : ∀ a : Nat, a < H0.size → ¬ zA0 hb a → H[a]? = H0[a]?) (h : zGood D cI cS ad hb L ρ u H0) : zGood D cI cS ad hb L ρ U H := by
  obtain ⟨h1, h2, h3, h4, h5, h6, h7⟩ := h
  exact ⟨h1.moved hvm, (h2.kept hq).moved hvm, (h3.kept hq).moved hvm, (h4.kept hq).moved hvm, (h5.kept hq).moved hvm, fun t a b => ((h6 t a b).kept hq).moved hvm, h7⟩
/-- all that holds between two instructions -/
def zSt (D : va_G) (cI cS : ClassId) (ad : Nat → Nat → Nat) (hb : Nat) (ρ : zS) (s : State) (nL : Nat) (H : Heap) (locs : List Loc) (lsA : Array Slot) (ls : zO) (st : List zA) (σ : zS) : Prop :=
  zWd D cI cS ad hb σ H ∧ va_S (zA0 hb) s.heap H locs ∧ (∀ c i k, 50 ≤ c → σ c i k = ρ c i k) ∧ (ls.length = nL ∧ lv_has lsA nL (zpr ad 0 ls)) ∧ (∀ v ∈ st, zok v) ∧ (∀ v, some v ∈ ls → zok v)
section ZS
variable {p : Program} {l : Launch} {e : Env} {R : Room} {s : State} {m : MethodId} {args : Array Value} {below : List Frame} {meth : Method} {c : Code} {cells slots : Nat} {Q : State → Prop}
variable {D : va_G} {cI cS : ClassId} {ad : Nat → Nat → Nat} {hb L : Nat} {ρ : zS} {nL : Nat} {cc : ByteArray}
theorem zSt.st {H : Heap} {locs : List Loc} {lsA : Array Slot} {ls : zO} {st st' : List zA} {σ : zS} (h : zSt D cI cS ad hb ρ s nL H locs lsA ls st σ) (hs : ∀ v ∈ st', zok v) : zSt D cI cS ad hb ρ s nL H locs lsA ls st' σ := ⟨h.1, h.2.1, h.2.2.1, h.2.2.2.1, hs, h.2.2.2.2.2⟩
theorem zok_cons {v : zA} {st : List zA} (h : ∀ w ∈ v :: st, zok w) : zok v ∧ ∀ w ∈ st, zok w := ⟨h v List.mem_cons_self, fun w hw => h w (List.mem_cons_of_mem _ hw)⟩
theorem zok_push {v : zA} {st : List zA} (hv : zok v) (h : ∀ w ∈ st, zok w) : ∀ w ∈ v :: st, zok w := fun w hw => by
  rcases List.mem_cons.mp hw with rfl | hw
  · exact hv
  · exact h w hw
theorem zget_ok {ls : zO} {k : Nat} {v : zA} (h : ∀ v, some v ∈ ls → zok v) (hk : zget ls k = some v) : zok v := h v (List.mem_of_getElem? (zget_some hk))
theorem ztg_eq {pc t : Nat} {off : Int} (h : ztg pc off = some t) : (pc : Int) + off = (t : Int) := by
  unfold ztg at h
  split at h
  · cases h
    omega
  · cases h
theorem zbin_inv {f : Int32 → Int32 → Int32} {pc : Nat} {ls : zO} {st : List zA} {σ : zS} {q : Nat × zO × List zA × zS} (h : zbin f pc ls st σ = some q) : ∃ x y r, st = zI y :: zI x :: r ∧ q = (pc + 1, ls, zI (f x y) :: r, σ) := by
  unfold zbin at h
  split at h
  · cases h
    exact ⟨_, _, _, rfl, rfl⟩
  · cases h
theorem zbr1_inv {f : Int32 → Bool} {off : Int} {pc : Nat} {ls : zO} {st : List zA} {σ : zS} {q : Nat × zO × List zA × zS} (h : zbr1 f off pc ls st σ = some q) : ∃ (x : Int32) (r : List zA) (t : Nat), st = zI x :: r ∧ (pc : Int) + off = (t : Int) ∧ q = (if f x then t else pc + 3, ls, r, σ) := by
  unfold zbr1 at h
  split at h
  · split at h
    · rename_i t ht
      cases h
      exact ⟨_, _, t, rfl, ztg_eq ht, rfl⟩
    · cases h
  · cases h
theorem zbr2_inv {f : Int32 → Int32 → Bool} {off : Int} {pc : Nat} {ls : zO} {st : List zA} {σ : zS} {q : Nat × zO × List zA × zS} (h : zbr2 f off pc ls st σ = some q) : ∃ (x y : Int32) (r : List zA) (t : Nat), st = zI y :: zI x :: r ∧ (pc : Int) + off = (t : Int) ∧ q = (if f x y then t else pc + 3, ls, r, σ) := by
  unfold zbr2 at h
  split at h
  · split at h
    · rename_i t ht
      cases h
      exact ⟨_, _, _, t, rfl, ztg_eq ht, rfl⟩
    · cases h
  · cases h
theorem zldi_inv {k ln pc : Nat} {ls : zO} {st : List zA} {σ : zS} {q : Nat × zO × List zA × zS} (h : zldi k ln pc ls st σ = some q) : ∃ x, zget ls k = some (zI x) ∧ q = (pc + ln, ls, zI x :: st, σ) := by
  unfold zldi at h
  split at h
  · rename_i x hx
    cases h
    exact ⟨x, hx, rfl⟩
  · cases h
theorem zlda_inv {k ln pc : Nat} {ls : zO} {st : List zA} {σ : zS} {q : Nat × zO × List zA × zS} (h : zlda k ln pc ls st σ = some q) : ∃ a i, zget ls k = some (zR a i) ∧ q = (pc + ln, ls, zR a i :: st, σ) := by
  unfold zlda at h
  split at h
  · rename_i x hx
    cases h
    exact ⟨x.1, x.2, hx, rfl⟩
  · cases h
theorem zsti_inv {k ln pc : Nat} {ls : zO} {st : List zA} {σ : zS} {q : Nat × zO × List zA × zS} (h : zsti k ln pc ls st σ = some q) : ∃ x r ls', st = zI x :: r ∧ zset ls k (zI x) = some ls' ∧ q = (pc + ln, ls', r, σ) := by
  unfold zsti at h
  split at h
  · split at h
    · rename_i ls' hs
      cases h
      exact ⟨_, _, ls', rfl, hs, rfl⟩
    · cases h
  · cases h
theorem zsta_inv {k ln pc : Nat} {ls : zO} {st : List zA} {σ : zS} {q : Nat × zO × List zA × zS} (h : zsta k ln pc ls st σ = some q) : ∃ a i r ls', st = zR a i :: r ∧ zset ls k (zR a i) = some ls' ∧ q = (pc + ln, ls', r, σ) := by
  unfold zsta at h
  split at h
  · split at h
    · rename_i ls' hs
      cases h
      exact ⟨_, _, _, ls', rfl, hs, rfl⟩
    · cases h
  · cases h
theorem zSt.set {H : Heap} {locs : List Loc} {lsA lsB : Array Slot} {ls ls' : zO} {k : Nat} {v : zA} {st : List zA} {σ : zS} (h : zSt D cI cS ad hb ρ s nL H locs lsA ls st σ) (hs : zset ls k v = some ls') (hv : zok v) (hB : lv_has lsB nL ((k, zenc ad v) :: (zpr ad 0 ls).filter (fun q => !(q.1 == k) && !(q.1 + 1 == k && q.2.category == 2)))) : zSt D cI cS ad hb ρ s nL H locs lsB ls' st σ := by
  refine ⟨h.1, h.2.1, h.2.2.1, ⟨(zset_len hs).trans h.2.2.2.1.1, zls_set hs hB⟩, h.2.2.2.2.1, fun w hw => ?_⟩
  rcases zset_mem hs hw with rfl | hw
  · exact hv
  · exact h.2.2.2.2.2 w hw
theorem zset_lt {ls ls' : zO} {k : Nat} {v : zA} (hs : zset ls k v = some ls') (hl : ls.length = nL) : k < nL := by
  rw [← hl]
  exact (zset_some hs).1
theorem zW_zpush {H : Heap} {locs : List Loc} {lsA : Array Slot} {ls : zO} {st : List zA} {σ : zS} {v : zA} (S : zSt D cI cS ad hb ρ s nL H locs lsA ls st σ) (hv : zok v) : zSt D cI cS ad hb ρ s nL H locs lsA ls (v :: st) σ := S.st (zok_push hv S.2.2.2.2.1)
theorem zia_cases {c : Nat} (h : zia c = true) : ¬ c < 9 ∧ ¬ c = 25 ∧ c < 50 ∧ ∀ σ i, zln σ c i = zlen c i := by
  simp only [zia, Bool.and_eq_true, decide_eq_true_eq, bne_iff_ne, ne_eq] at h
  obtain ⟨⟨h1, h2⟩, h3⟩ := h
  refine ⟨by omega, h3, by omega, fun σ i => ?_⟩
  unfold zln
  split <;> first | omega | rfl
theorem zcell_ia {σ : zS} {a i : Nat} (h : zia a = true) : zcell cI cS ad σ a i = .inl (cI, zln σ a i, .inl (σ a i)) := by
  obtain ⟨h1, h2, h3, h4⟩ := zia_cases h
  rw [zcell, if_neg h1, if_neg h2, h4]
theorem zcell_obj {σ : zS} {a i : Nat} (h : a < 9) : zcell cI cS ad σ a i = .inr (a, (List.range (znf a)).map (fun k => zenc ad (zfv σ a i k))) := by
  rw [zcell, if_pos h]
  congr 2
  apply List.map_congr_left
  intro k _
  unfold zfv
  cases h2 : zfr a k i <;> rfl
theorem zWd.set {σ σ' : zS} {k a i : Nat} (hk : zpls[k]? = some (a, i)) (hn : ∀ c' i', (c', i') ≠ (a, i) → σ' c' i' = σ c' i') {H1 : Heap} (hP : va_P D vwCl ((zwl cI cS ad σ).set k (ad a i, zcell cI cS ad σ' a i)) H1) (hD : va_D (zA0 hb) ((zwl cI cS ad σ).set k (ad a i, zcell cI cS ad σ' a i))) : zWd D cI cS ad hb σ' H1 := by
  rw [zwl_set hk hn] at hP hD
  exact ⟨hP, hD⟩
abbrev zGoal (p : Program) (l : Launch) (e : Env) (R : Room) (s : State) (m : MethodId) (args : Array Value) (below : List Frame) (meth : Method) (c : Code) (cells slots : Nat) (Q : State → Prop) (ad : Nat → Nat → Nat) (H : Heap) (locs : List Loc) (lsA : Array Slot) (pc : Nat) (st : List zA) : Prop := W p l e R s m args below meth c H locs cells slots Q (F0 m pc lsA (st.map (zenc ad)))
theorem zs_bin {f : Int32 → Int32 → Int32} {pc : Nat} {ls : zO} {st : List zA} {σ : zS} {q : Nat × zO × List zA × zS} (h : zbin f pc ls st σ = some q) {H : Heap} {locs : List Loc} {lsA : Array Slot} (S : zSt D cI cS ad hb ρ s nL H locs lsA ls st σ)
    (K : ∀ H1 locs1 lsA1, zSt D cI cS ad hb ρ s nL H1 locs1 lsA1 q.2.1 q.2.2.1 q.2.2.2 → zGoal p l e R s m args below meth c cells slots Q ad H1 locs1 lsA1 q.1 q.2.2.1)
    (row : ∀ (x y : Int32) (rest : List Value), W p l e R s m args below meth c H locs cells slots Q (F0 m (pc + 1) lsA (.int (f x y) :: rest)) → W p l e R s m args below meth c H locs cells slots Q (F0 m pc lsA (.int y :: .int x :: rest))) : zGoal p l e R s m args below meth c cells slots Q ad H locs lsA pc st := by
  obtain ⟨x, y, r, rfl, rfl⟩ := zbin_inv h
  exact row x y _ (K H locs lsA (S.st (zok_push trivial (zok_cons (zok_cons S.2.2.2.2.1).2).2)))
theorem zs_br1 {f : Int32 → Bool} {off : Int} {pc : Nat} {ls : zO} {st : List zA} {σ : zS} {q : Nat × zO × List zA × zS} (h : zbr1 f off pc ls st σ = some q) {H : Heap} {locs : List Loc} {lsA : Array Slot} (S : zSt D cI cS ad hb ρ s nL H locs lsA ls st σ)
    (K : ∀ H1 locs1 lsA1, zSt D cI cS ad hb ρ s nL H1 locs1 lsA1 q.2.1 q.2.2.1 q.2.2.2 → zGoal p l e R s m args below meth c cells slots Q ad H1 locs1 lsA1 q.1 q.2.2.1)
    (row : ∀ (x : Int32) (t : Nat) (rest : List Value), (pc : Int) + off = (t : Int) → (f x = true → W p l e R s m args below meth c H locs cells slots Q (F0 m t lsA rest)) → (¬ f x = true → W p l e R s m args below meth c H locs cells slots Q (F0 m (pc + 3) lsA rest)) → W p l e R s m args below meth c H locs cells slots Q (F0 m pc lsA (.int x :: rest))) : zGoal p l e R s m args below meth c cells slots Q ad H locs lsA pc st := by
  obtain ⟨x, r, t, rfl, ht, rfl⟩ := zbr1_inv h
  have k := K H locs lsA (S.st (zok_cons S.2.2.2.2.1).2)
  refine row x t _ ht (fun hf => ?_) (fun hf => ?_)
  · simpa only [hf, if_true] using k
  · dsimp only at k
    rw [if_neg hf] at k
    exact k
theorem zs_br2 {f : Int32 → Int32 → Bool} {off : Int} {pc : Nat} {ls : zO} {st : List zA} {σ : zS} {q : Nat × zO × List zA × zS} (h : zbr2 f off pc ls st σ = some q) {H : Heap} {locs : List Loc} {lsA : Array Slot} (S : zSt D cI cS ad hb ρ s nL H locs lsA ls st σ)
    (K : ∀ H1 locs1 lsA1, zSt D cI cS ad hb ρ s nL H1 locs1 lsA1 q.2.1 q.2.2.1 q.2.2.2 → zGoal p l e R s m args below meth c cells slots Q ad H1 locs1 lsA1 q.1 q.2.2.1)
    (row : ∀ (x y : Int32) (t : Nat) (rest : List Value), (pc : Int) + off = (t : Int) → (f x y = true → W p l e R s m args below meth c H locs cells slots Q (F0 m t lsA rest)) → (¬ f x y = true → W p l e R s m args below meth c H locs cells slots Q (F0 m (pc + 3) lsA rest)) → W p l e R s m args below meth c H locs cells slots Q (F0 m pc lsA (.int y :: .int x :: rest))) : zGoal p l e R s m args below meth c cells slots Q ad H locs lsA pc st := by
  obtain ⟨x, y, r, t, rfl, ht, rfl⟩ := zbr2_inv h
  have k := K H locs lsA (S.st (zok_cons (zok_cons S.2.2.2.2.1).2).2)
  refine row x y t _ ht (fun hf => ?_) (fun hf => ?_)
  · simpa only [hf, if_true] using k
  · dsimp only at k
    rw [if_neg hf] at k
    exact k
theorem zsw_in {x : Int32} : ∀ (offs : List Int) (lo d : Int), (¬ x.toInt < lo → ∀ o, offs[(x.toInt - lo).toNat]? = some o → zsw x lo offs d = o) ∧ (x.toInt < lo → zsw x lo offs d = d) ∧ (lo + offs.length ≤ x.toInt → zsw x lo offs d = d) := by
  intro offs
  induction offs with
  | nil => intro lo d; exact ⟨fun _ o h => by simp at h, fun _ => rfl, fun _ => rfl⟩
  | cons a r ih =>
    intro lo d
    obtain ⟨i1, i2, i3⟩ := ih (lo + 1) d
    refine ⟨fun h o ho => ?_, fun h => ?_, fun h => ?_⟩
    · unfold zsw
      by_cases e : x.toInt = lo
      · rw [if_pos e]
        rw [e, Int.sub_self] at ho
        simpa using ho
      · rw [if_neg e]
        refine i1 (by omega) o ?_
        rw [show (x.toInt - lo).toNat = (x.toInt - (lo + 1)).toNat + 1 by omega] at ho
        simpa using ho
    · unfold zsw
      rw [if_neg (by omega)]
      exact i2 (by omega)
    · unfold zsw
      simp only [List.length_cons] at h
      rw [if_neg (by omega)]
      exact i3 (by omega)
theorem zlk_eq {x : Int32} : ∀ (ps : List (Int × Int)) (d : Int), zlk x ps d = Op.lookupswitch.offset ps d x.toInt := by
  intro ps
  induction ps with
  | nil => intro d; rfl
  | cons q r ih =>
    intro d
    obtain ⟨a, b⟩ := q
    show (if x.toInt = a then b else zlk x r d) = _
    rw [ih]
    simp only [Op.lookupswitch.offset]
    by_cases e : x.toInt = a
    · simp [e]
    · have e2 : ¬ a = x.toInt := fun h => e h.symm
      simp [e, e2]
end ZS
end
section
section ZT
variable {p : Program} {l : Launch} {e : Env} {R : Room} {s : State} {m : MethodId} {args : Array Value} {below : List Frame} {meth : Method} {c : Code} {cells slots : Nat} {Q : State → Prop}
variable {D : va_G} {cI cS : ClassId} {ad : Nat → Nat → Nat} {hb L : Nat} {ρ : zS} {nL : Nat} {cc : ByteArray}
theorem zx1 {v : Int32} {ty : FieldType} {c k i : Nat} (hc : c < 9) (hk : k < znf c) (hi : i < 4) (hf : zfr c k i = none) (hz : zfb c k = true → v = 0 ∨ v = 1) (hd : parseFieldDescriptor (zT c k).2.2.1 = some ty) : narrow ty (.int v) = .int v ∧ fits ty (.int v) = true := by
  have h1 := zty_ok hc k hk
  have h2 := zty_i hc k hk i hi hf
  have h3 : ty = zty c k := Option.some.inj (hd.symm.trans h1)
  rw [h3, h2]
  by_cases hb : zfb c k = true
  · rw [if_pos hb]
    rcases hz hb with rfl | rfl <;> exact ⟨rfl, rfl⟩
  · rw [if_neg hb]
    exact ⟨rfl, rfl⟩
set_option maxHeartbeats 4000000 in
theorem zstep_sound {o : Nat} {i : Instr} {ln pc : Nat} {ls : zO} {st : List zA} {σ : zS} {q : Nat × zO × List zA × zS} (h : zstep o i ln pc ls st σ = some q) (hlo : zlo i ln = true)
    (hx : p.tables.exec = Jvm.exec) (hb9 : c.code = cc) (hml : c.maxLocals = nL) (hown : s.vm.findClass (zC o) = some m.cls) (hts : ∀ w ∈ zTb, w.before args s = true) (hG : zGood D cI cS ad hb L ρ s s.heap) (hd : decode cc pc = .ok (i, ln)) (hR : 1 ≤ R.frames ∧ 60 ≤ R.locals)
    {H : Heap} {locs : List Loc} {lsA : Array Slot} (S : zSt D cI cS ad hb ρ s nL H locs lsA ls st σ)
    (K : ∀ H1 locs1 lsA1, zSt D cI cS ad hb ρ s nL H1 locs1 lsA1 q.2.1 q.2.2.1 q.2.2.2 → zGoal p l e R s m args below meth c cells slots Q ad H1 locs1 lsA1 q.1 q.2.2.1) : zGoal p l e R s m args below meth c cells slots Q ad H locs lsA pc st := by
  cases i with
  | iconst n =>
    obtain rfl : ln = 1 := by simpa [zlo] using hlo
    cases h
    exact lv_iconst hx hb9 hd rfl (K H locs lsA (zW_zpush S trivial))
  | bipush n =>
    obtain rfl : ln = 2 := by simpa [zlo] using hlo
    cases h
    exact lv_bipush hx hb9 hd rfl (K H locs lsA (zW_zpush S trivial))
  | sipush n =>
    obtain rfl : ln = 3 := by simpa [zlo] using hlo
    cases h
    exact lv_sipush hx hb9 hd rfl (K H locs lsA (zW_zpush S trivial))
  | ldc x =>
    obtain rfl : ln = 2 := by simpa [zlo] using hlo
    simp only [zstep] at h
    split at h
    · rename_i v hv
      cases h
      exact lv_ldc hx hb9 hown (hts _ (zk_ok hv)) hd (K H locs lsA (zW_zpush S trivial))
    · cases h
  | ldc_w x =>
    obtain rfl : ln = 3 := by simpa [zlo] using hlo
    simp only [zstep] at h
    split at h
    · rename_i v hv
      cases h
      exact lv_ldcw hx hb9 hown (hts _ (zk_ok hv)) hd (K H locs lsA (zW_zpush S trivial))
    · cases h
  | ldc2_w x =>
    obtain rfl : ln = 3 := by simpa [zlo] using hlo
    simp only [zstep] at h
    split at h
    · rename_i v hv
      cases h
      exact lv_ldc2 hx hb9 hown (hts _ (zkL_ok hv)) hd (K H locs lsA (zW_zpush S trivial))
    · cases h
  | iload k =>
    obtain rfl : ln = 2 := by simpa [zlo] using hlo
    obtain ⟨x, hk, rfl⟩ := zldi_inv h
    exact lv_iload hx hb9 hd (zls_get S.2.2.2.1.2 hk) (K H locs lsA (zW_zpush S trivial))
  | iload_n k =>
    obtain rfl : ln = 1 := by simpa [zlo] using hlo
    obtain ⟨x, hk, rfl⟩ := zldi_inv h
    exact lv_iload_n hx hb9 hd rfl (zls_get S.2.2.2.1.2 hk) (K H locs lsA (zW_zpush S trivial))
  | lload_n k =>
    obtain rfl : ln = 1 := by simpa [zlo] using hlo
    simp only [zstep] at h
    split at h
    · rename_i x hk
      cases h
      exact lv_lload_n hx hb9 hd rfl (zls_get S.2.2.2.1.2 hk) (K H locs lsA (zW_zpush S trivial))
    · cases h
  | aload k =>
    obtain rfl : ln = 2 := by simpa [zlo] using hlo
    obtain ⟨a, i, hk, rfl⟩ := zlda_inv h
    exact lv_aload hx hb9 hd (zls_get S.2.2.2.1.2 hk) (K H locs lsA (zW_zpush S (zget_ok S.2.2.2.2.2 hk)))
  | aload_n k =>
    obtain rfl : ln = 1 := by simpa [zlo] using hlo
    obtain ⟨a, i, hk, rfl⟩ := zlda_inv h
    exact lv_aload_n hx hb9 hd rfl (zls_get S.2.2.2.1.2 hk) (K H locs lsA (zW_zpush S (zget_ok S.2.2.2.2.2 hk)))
  | istore k =>
    obtain rfl : ln = 2 := by simpa [zlo] using hlo
    obtain ⟨x, r, ls', rfl, hs, rfl⟩ := zsti_inv h
    have S2 := S.st (zok_cons S.2.2.2.2.1).2
    exact lv_istore hx hb9 hd S.2.2.2.1.2 (zset_lt hs S.2.2.2.1.1) rfl (fun lsB hB => K H locs lsB (S2.set hs trivial hB))
  | istore_n k =>
    obtain rfl : ln = 1 := by simpa [zlo] using hlo
    obtain ⟨x, r, ls', rfl, hs, rfl⟩ := zsti_inv h
    have S2 := S.st (zok_cons S.2.2.2.2.1).2
    exact lv_istore_n hx hb9 hd rfl S.2.2.2.1.2 (zset_lt hs S.2.2.2.1.1) rfl (fun lsB hB => K H locs lsB (S2.set hs trivial hB))
  | astore k =>
    obtain rfl : ln = 2 := by simpa [zlo] using hlo
    obtain ⟨a, i, r, ls', rfl, hs, rfl⟩ := zsta_inv h
    have S2 := S.st (zok_cons S.2.2.2.2.1).2
    exact lv_astore hx hb9 hd S.2.2.2.1.2 (zset_lt hs S.2.2.2.1.1) rfl (fun lsB hB => K H locs lsB (S2.set hs (zok_cons S.2.2.2.2.1).1 hB))
  | astore_n k =>
    obtain rfl : ln = 1 := by simpa [zlo] using hlo
    obtain ⟨a, i, r, ls', rfl, hs, rfl⟩ := zsta_inv h
    have S2 := S.st (zok_cons S.2.2.2.2.1).2
    exact lv_astore_n hx hb9 hd rfl S.2.2.2.1.2 (zset_lt hs S.2.2.2.1.1) rfl (fun lsB hB => K H locs lsB (S2.set hs (zok_cons S.2.2.2.2.1).1 hB))
  | iinc k n =>
    obtain rfl : ln = 3 := by simpa [zlo] using hlo
    simp only [zstep, if_true] at h
    split at h
    · rename_i x hk
      split at h
      · rename_i ls' hs
        cases h
        obtain ⟨k0, hk0⟩ : ∃ k0 : Nat, (zpr ad 0 ls)[k0]? = some (k, .int x) := List.getElem?_of_mem ((zpr_mem ls 0 k (.int x)).mpr ⟨k, zI x, by omega, zget_some hk, rfl⟩)
        exact lv_iinc hx hb9 hd S.2.2.2.1.2 hk0 rfl (zset_lt hs S.2.2.2.1.1) rfl (fun lsB hB => K H locs lsB (S.set hs trivial hB))
      · cases h
    · cases h
  | iadd => obtain rfl : ln = 1 := by simpa [zlo] using hlo
            exact zs_bin h S K (fun x y rest k => lv_iadd hx hb9 hd k)
  | isub => obtain rfl : ln = 1 := by simpa [zlo] using hlo
            exact zs_bin h S K (fun x y rest k => lv_isub hx hb9 hd k)
  | imul => obtain rfl : ln = 1 := by simpa [zlo] using hlo
            exact zs_bin h S K (fun x y rest k => lv_imul hx hb9 hd k)
  | iand => obtain rfl : ln = 1 := by simpa [zlo] using hlo
            exact zs_bin h S K (fun x y rest k => lv_iand hx hb9 hd k)
  | ior => obtain rfl : ln = 1 := by simpa [zlo] using hlo
           exact zs_bin h S K (fun x y rest k => lv_ior hx hb9 hd k)
  | ixor => obtain rfl : ln = 1 := by simpa [zlo] using hlo
            exact zs_bin h S K (fun x y rest k => lv_ixor hx hb9 hd k)
  | ishl => obtain rfl : ln = 1 := by simpa [zlo] using hlo
            exact zs_bin h S K (fun x y rest k => lv_ishl hx hb9 hd k)
  | ishr => obtain rfl : ln = 1 := by simpa [zlo] using hlo
            exact zs_bin h S K (fun x y rest k => lv_ishr hx hb9 hd k)
  | iushr => obtain rfl : ln = 1 := by simpa [zlo] using hlo
             exact zs_bin h S K (fun x y rest k => lv_iushr hx hb9 hd rfl k)
  | idiv =>
    obtain rfl : ln = 1 := by simpa [zlo] using hlo
    simp only [zstep] at h
    split at h
    · split at h
      · cases h
      · rename_i hne
        cases h
        exact lv_idiv hx hb9 hd hne (K H locs lsA (S.st (zok_push trivial (zok_cons (zok_cons S.2.2.2.2.1).2).2)))
    · cases h
  | irem =>
    obtain rfl : ln = 1 := by simpa [zlo] using hlo
    simp only [zstep] at h
    split at h
    · split at h
      · cases h
      · rename_i hne
        cases h
        exact lv_irem hx hb9 hd hne (K H locs lsA (S.st (zok_push trivial (zok_cons (zok_cons S.2.2.2.2.1).2).2)))
    · cases h
  | ineg =>
    obtain rfl : ln = 1 := by simpa [zlo] using hlo
    simp only [zstep] at h
    split at h
    · cases h
      exact lv_ineg hx hb9 hd (K H locs lsA (S.st (zok_push trivial (zok_cons S.2.2.2.2.1).2)))
    · cases h
  | i2l =>
    obtain rfl : ln = 1 := by simpa [zlo] using hlo
    simp only [zstep] at h
    split at h
    · cases h
      exact lv_i2l hx hb9 hd rfl (K H locs lsA (S.st (zok_push trivial (zok_cons S.2.2.2.2.1).2)))
    · cases h
  | l2i =>
    obtain rfl : ln = 1 := by simpa [zlo] using hlo
    simp only [zstep] at h
    split at h
    · cases h
      exact lv_l2i hx hb9 hd rfl (K H locs lsA (S.st (zok_push trivial (zok_cons S.2.2.2.2.1).2)))
    · cases h
  | land =>
    obtain rfl : ln = 1 := by simpa [zlo] using hlo
    simp only [zstep] at h
    split at h
    · cases h
      exact lv_land hx hb9 hd (K H locs lsA (S.st (zok_push trivial (zok_cons (zok_cons S.2.2.2.2.1).2).2)))
    · cases h
  | lor =>
    obtain rfl : ln = 1 := by simpa [zlo] using hlo
    simp only [zstep] at h
    split at h
    · cases h
      exact lv_lor hx hb9 hd (K H locs lsA (S.st (zok_push trivial (zok_cons (zok_cons S.2.2.2.2.1).2).2)))
    · cases h
  | lshl =>
    obtain rfl : ln = 1 := by simpa [zlo] using hlo
    simp only [zstep] at h
    split at h
    · cases h
      exact lv_lshl hx hb9 hd rfl (K H locs lsA (S.st (zok_push trivial (zok_cons (zok_cons S.2.2.2.2.1).2).2)))
    · cases h
  | lshr =>
    obtain rfl : ln = 1 := by simpa [zlo] using hlo
    simp only [zstep] at h
    split at h
    · cases h
      exact lv_lshr hx hb9 hd rfl (K H locs lsA (S.st (zok_push trivial (zok_cons (zok_cons S.2.2.2.2.1).2).2)))
    · cases h
  | lushr =>
    obtain rfl : ln = 1 := by simpa [zlo] using hlo
    simp only [zstep] at h
    split at h
    · cases h
      exact lv_lushr hx hb9 hd rfl (K H locs lsA (S.st (zok_push trivial (zok_cons (zok_cons S.2.2.2.2.1).2).2)))
    · cases h
  | dup =>
    obtain rfl : ln = 1 := by simpa [zlo] using hlo
    simp only [zstep] at h
    split at h
    · split at h
      · cases h
      · rename_i v r hl
        cases h
        exact lv_dup hx hb9 hd (zlong_cat (by simpa using hl)) (K H locs lsA (S.st (zok_push (zok_cons S.2.2.2.2.1).1 S.2.2.2.2.1)))
    · cases h
  | dup2 =>
    obtain rfl : ln = 1 := by simpa [zlo] using hlo
    simp only [zstep] at h
    split at h
    · split at h
      · cases h
      · rename_i v w r hl
        cases h
        simp only [Bool.or_eq_true, not_or, Bool.not_eq_true] at hl
        have o1 := zok_cons S.2.2.2.2.1
        have o2 := zok_cons o1.2
        exact lv_dup2_11 hx hb9 hd (zlong_cat hl.1) (zlong_cat hl.2) (K H locs lsA (S.st (zok_push o1.1 (zok_push o2.1 S.2.2.2.2.1))))
    · cases h
  | getfield x =>
    obtain rfl : ln = 3 := by simpa [zlo] using hlo
    simp only [zstep] at h
    split at h
    · rename_i w r
      split at h
      · rename_i c0 k hf
        split at h
        · rename_i hq
          cases h
          obtain ⟨⟨h9, hk, hT⟩, hw⟩ := zf_ok hf
          obtain ⟨a0, i0⟩ := w
          simp only at hq
          subst hq
          have hok : zokp a0 i0 := (zok_cons S.2.2.2.2.1).1
          have hi : i0 < zcnt a0 := by
            rcases hok with h | ⟨h, -⟩
            · exact h
            · omega
          obtain ⟨n, hn⟩ := zpl_at hi
          have he := zwl_at (cI := cI) (cS := cS) (ad := ad) (σ := σ) hn
          rw [zcell_obj h9] at he
          refine va_get (own := zC o) (C := zC a0) (T := zT a0) (N := znf a0) hx hb9 hts (zlay h9) hown hG.1 S.1.1 n he (zcl_at h9) k hk (hts _ hw) (fun y hy => by rw [← hT]; exact hy) (v := zenc ad (zfv σ a0 i0 k)) (by simp [List.getElem?_map, List.getElem?_range hk]) hd ?_
          refine K H locs lsA (S.st (zok_push ?_ (zok_cons S.2.2.2.2.1).2))
          unfold zfv
          cases hr : zfr a0 k i0 with
          | none => trivial
          | some q =>
            exact Or.inl (zfr_ok h9 k hk i0 hi q hr)
        · cases h
      · cases h
    · cases h
  | putfield x =>
    obtain rfl : ln = 3 := by simpa [zlo] using hlo
    simp only [zstep] at h
    split at h
    · rename_i v w r
      split at h
      · rename_i c0 k hf
        split at h
        · rename_i hq
          cases h
          obtain ⟨⟨h9, hk, hT⟩, hw⟩ := zf_ok hf
          obtain ⟨a0, i0⟩ := w
          obtain ⟨hq, hfr, hfin, hz⟩ := hq
          simp only at hq
          subst hq
          have o1 := zok_cons S.2.2.2.2.1
          have hok : zokp a0 i0 := (zok_cons o1.2).1
          have hi : i0 < zcnt a0 := by
            rcases hok with h | ⟨h, -⟩
            · exact h
            · omega
          obtain ⟨n, hn⟩ := zpl_at hi
          have he := zwl_at (cI := cI) (cS := cS) (ad := ad) (σ := σ) hn
          rw [zcell_obj h9] at he
          have hty := zty_ok h9 k hk
          obtain ⟨hn1, hn2⟩ := zx1 (v := v) h9 hk (zcnt_big hi).2 hfr hz hty
          have hset : zcell cI cS ad (zup σ a0 i0 k v) a0 i0 = .inr (a0, ((List.range (znf a0)).map (fun k => zenc ad (zfv σ a0 i0 k))).set k (.int v)) := by
            rw [zcell_obj h9]
            congr 2
            apply List.ext_getElem?
            intro j
            by_cases hj : k = j
            · subst hj
              rw [List.getElem?_set_self (by simpa using hk)]
              simp [List.getElem?_map, List.getElem?_range hk, zfv, hfr, zup, zenc]
            · rw [List.getElem?_set_ne hj]
              simp only [List.getElem?_map]
              cases hr : (List.range (znf a0))[j]? with
              | none => rfl
              | some j' =>
                have : j' = j := by
                  obtain ⟨h1, h2⟩ := List.getElem?_eq_some_iff.mp hr
                  simpa using h2.symm
                subst this
                simp only [Option.map_some, Option.some.injEq]
                congr 1
                unfold zfv
                cases zfr a0 j' i0 with
                | none =>
                  have hj2 : ¬ j' = k := fun q => hj q.symm
                  simp [zup, hj2]
                | some q => rfl
          refine va_put (own := zC o) (C := zC a0) (T := zT a0) (N := znf a0) hx hb9 hts (zlay h9) (zty a0) (zty_ok h9) (znm_ok h9) hown hG.1 S.1.1 S.1.2 S.2.1 n he (zcl_at h9) k hk (hts _ hw) (fun y hy => by rw [← hT]; exact hy) hfin hty hn1 hn2 (by simpa using hk) hd (fun H1 locs1 hP hD hS => ?_)
          change va_P D vwCl ((zwl cI cS ad σ).set n (ad a0 i0, .inr (a0, ((List.range (znf a0)).map (fun k => zenc ad (zfv σ a0 i0 k))).set k (.int v)))) H1 at hP
          change va_D (zA0 hb) ((zwl cI cS ad σ).set n (ad a0 i0, .inr (a0, ((List.range (znf a0)).map (fun k => zenc ad (zfv σ a0 i0 k))).set k (.int v)))) at hD
          rw [← hset] at hP hD
          refine K H1 locs1 lsA ⟨zWd.set hn (fun c' i' hne => zup_ne hne) hP hD, hS, fun c' i' k' hc => ?_, S.2.2.2.1, (zok_cons o1.2).2, S.2.2.2.2.2⟩
          show zup σ a0 i0 k v c' i' k' = _
          rw [show zup σ a0 i0 k v c' i' = σ c' i' from zup_ne (fun q => by cases q; omega)]
          exact S.2.2.1 c' i' k' hc
        · cases h
      · cases h
    · cases h
  | getstatic x =>
    obtain rfl : ln = 3 := by simpa [zlo] using hlo
    simp only [zstep] at h
    split at h
    · rename_i t ht
      cases h
      obtain ⟨⟨h1, h2⟩, hw⟩ := zg_ok ht
      exact va_gets (own := zC o) hx hb9 (hG.2.2.2.2.2.1 t h1 h2) S.2.1 hown (hts _ hw) (fun _ hy => hy) hd (K H locs lsA (zW_zpush S (Or.inr ⟨by omega, h2, rfl⟩)))
    · cases h
  | iaload =>
    obtain rfl : ln = 1 := by simpa [zlo] using hlo
    simp only [zstep] at h
    split at h
    · rename_i j w r
      split at h
      · rename_i hq
        cases h
        obtain ⟨a0, i0⟩ := w
        obtain ⟨hq, hin⟩ := hq
        simp only at hq hin
        have o1 := zok_cons S.2.2.2.2.1
        have hok : zokp a0 i0 := (zok_cons o1.2).1
        have k2 := K H locs lsA (S.st (zok_push trivial (zok_cons o1.2).2))
        rcases hq with hq | hq | hq | hq
        · have hi : i0 < zcnt a0 := by
            have := (zia_cases hq).2.2.1
            rcases hok with h | ⟨h, -⟩
            · exact h
            · omega
          obtain ⟨n, hn⟩ := zpl_at hi
          have he := zwl_at (cI := cI) (cS := cS) (ad := ad) (σ := σ) hn
          rw [zcell_ia hq] at he
          exact va_iald hx hb9 hG.1 S.1.1 n 0 he rfl hin hd k2
        · subst hq
          obtain rfl : i0 = 0 := by
            rcases hok with h | ⟨-, -, h⟩
            · exact absurd (zcnt_big h).1 (by omega)
            · exact h
          refine va_ti hx hb9 hG.2.1 S.2.1 (i := j) ?_ rfl hd ?_
          · have : zln σ 50 0 = L := by
              show (σ 50 1 0).toNatClampNeg = L
              rw [S.2.2.1 50 1 0 (by omega)]
              exact hG.2.2.2.2.2.2
            rw [this] at hin
            exact hin
          · rw [← S.2.2.1 50 0 j.toNatClampNeg (by omega)]
            exact k2
        · subst hq
          obtain rfl : i0 = 0 := by
            rcases hok with h | ⟨-, -, h⟩
            · exact absurd (zcnt_big h).1 (by omega)
            · exact h
          refine va_ti hx hb9 hG.2.2.2.1 S.2.1 (i := j) hin rfl hd ?_
          rw [← S.2.2.1 52 0 j.toNatClampNeg (by omega)]
          exact k2
        · subst hq
          obtain rfl : i0 = 0 := by
            rcases hok with h | ⟨-, -, h⟩
            · exact absurd (zcnt_big h).1 (by omega)
            · exact h
          refine va_ti hx hb9 hG.2.2.2.2.1 S.2.1 (i := j) hin rfl hd ?_
          rw [← S.2.2.1 53 0 j.toNatClampNeg (by omega)]
          exact k2
      · cases h
    · cases h
  | caload =>
    obtain rfl : ln = 1 := by simpa [zlo] using hlo
    simp only [zstep] at h
    split at h
    · rename_i j w r
      split at h
      · rename_i hq
        cases h
        obtain ⟨a0, i0⟩ := w
        obtain ⟨hq, hin⟩ := hq
        simp only at hq hin
        have o1 := zok_cons S.2.2.2.2.1
        have hok : zokp a0 i0 := (zok_cons o1.2).1
        subst hq
        obtain rfl : i0 = 0 := by
          rcases hok with h | ⟨-, -, h⟩
          · exact absurd (zcnt_big h).1 (by omega)
          · exact h
        refine va_tc hx hb9 hG.2.2.1 S.2.1 (i := j) hin rfl hd ?_
        rw [← S.2.2.1 51 0 j.toNatClampNeg (by omega)]
        exact K H locs lsA (S.st (zok_push trivial (zok_cons o1.2).2))
      · cases h
    · cases h
  | aaload =>
    obtain rfl : ln = 1 := by simpa [zlo] using hlo
    simp only [zstep] at h
    split at h
    · rename_i j w r
      split at h
      · rename_i hq
        cases h
        obtain ⟨a0, i0⟩ := w
        obtain ⟨hq, hin⟩ := hq
        simp only at hq hin
        subst hq
        have o1 := zok_cons S.2.2.2.2.1
        have hok : zokp 25 i0 := (zok_cons o1.2).1
        have hi : i0 < zcnt 25 := by
          rcases hok with h | ⟨h, -⟩
          · exact h
          · omega
        obtain ⟨n, hn⟩ := zpl_at hi
        have he := zwl_at (cI := cI) (cS := cS) (ad := ad) (σ := σ) hn
        have hj : j.toNatClampNeg < 4 := Nat.not_le.mp fun q => hin (Or.inr q)
        exact va_aldq hx hb9 hG.1 S.1.1 n 1 (C := "ApronStrings$Sheet") he rfl hin hd (K H locs lsA (S.st (zok_push (Or.inl hj) (zok_cons o1.2).2)))
      · cases h
    · cases h
  | iastore =>
    obtain rfl : ln = 1 := by simpa [zlo] using hlo
    simp only [zstep] at h
    split at h
    · rename_i v j w r
      split at h
      · rename_i hq
        cases h
        obtain ⟨a0, i0⟩ := w
        obtain ⟨hq, hin⟩ := hq
        simp only at hq hin
        have o1 := zok_cons S.2.2.2.2.1
        have o2 := zok_cons o1.2
        have hok : zokp a0 i0 := (zok_cons o2.2).1
        have h50 := (zia_cases hq).2.2.1
        have hi : i0 < zcnt a0 := by
          rcases hok with h | ⟨h, -⟩
          · exact h
          · omega
        obtain ⟨n, hn⟩ := zpl_at hi
        have he := zwl_at (cI := cI) (cS := cS) (ad := ad) (σ := σ) hn
        rw [zcell_ia hq] at he
        have hset : zcell cI cS ad (zup σ a0 i0 j.toNatClampNeg v) a0 i0 = .inl (cI, zln σ a0 i0, .inl (upd (σ a0 i0) j.toNatClampNeg v)) := by
          rw [zcell_ia hq, zup_self, (zia_cases hq).2.2.2, (zia_cases hq).2.2.2]
        refine va_iast hx hb9 hG.1 S.1.1 S.1.2 S.2.1 n 0 he rfl hin hd (fun H1 locs1 hP hD hS => ?_)
        rw [← hset] at hP hD
        refine K H1 locs1 lsA ⟨zWd.set hn (fun c' i' hne => zup_ne hne) hP hD, hS, fun c' i' k' hc => ?_, S.2.2.2.1, (zok_cons o2.2).2, S.2.2.2.2.2⟩
        show zup σ a0 i0 j.toNatClampNeg v c' i' k' = _
        rw [show zup σ a0 i0 j.toNatClampNeg v c' i' = σ c' i' from zup_ne (fun q => by cases q; omega)]
        exact S.2.2.1 c' i' k' hc
      · cases h
    · cases h
  | arraylength =>
    obtain rfl : ln = 1 := by simpa [zlo] using hlo
    simp only [zstep] at h
    split at h
    · rename_i w r
      split at h
      · rename_i hq
        cases h
        obtain ⟨a0, i0⟩ := w
        simp only at hq
        have o1 := zok_cons S.2.2.2.2.1
        have hok : zokp a0 i0 := o1.1
        have k2 := K H locs lsA (S.st (zok_push trivial o1.2))
        have hz : 50 ≤ a0 → i0 = 0 := fun h5 => by
          rcases hok with h | ⟨-, -, h⟩
          · exact absurd (zcnt_big h).1 (by omega)
          · exact h
        rcases hq with hq | hq | hq | hq | hq
        · have hi : i0 < zcnt a0 := by
            have := (zia_cases hq).2.2.1
            rcases hok with h | ⟨h, -⟩
            · exact h
            · omega
          obtain ⟨n, hn⟩ := zpl_at hi
          have he := zwl_at (cI := cI) (cS := cS) (ad := ad) (σ := σ) hn
          rw [zcell_ia hq] at he
          exact va_alen hx hb9 hG.1 S.1.1 n 0 he rfl rfl hd k2
        · subst hq
          obtain rfl := hz (by omega)
          refine va_tlen hx hb9 hG.2.1 S.2.1 ?_ hd k2
          show _ = Int32.ofNat (σ 50 1 0).toNatClampNeg
          rw [S.2.2.1 50 1 0 (by omega), hG.2.2.2.2.2.2]
        · subst hq
          obtain rfl := hz (by omega)
          exact va_tlen hx hb9 hG.2.2.2.1 S.2.1 rfl hd k2
        · subst hq
          obtain rfl := hz (by omega)
          exact va_tlen hx hb9 hG.2.2.2.2.1 S.2.1 rfl hd k2
        · subst hq
          obtain rfl := hz (by omega)
          exact va_tlen hx hb9 hG.2.2.1 S.2.1 rfl hd k2
      · cases h
    · cases h
  | ifCond cd off =>
    obtain rfl : ln = 3 := by simpa [zlo] using hlo
    cases cd with
    | eq => exact zs_br1 h S K (fun x t rest ht kt kf => lv_if_eq hx hb9 hd ht (fun hc => kt (by simpa using hc)) (fun hc => kf (by simpa using hc)))
    | ne => exact zs_br1 h S K (fun x t rest ht kt kf => lv_if_ne hx hb9 hd ht (fun hc => kt (by simpa using hc)) (fun hc => kf (by simpa using hc)))
    | lt => exact zs_br1 h S K (fun x t rest ht kt kf => lv_if_lt hx hb9 hd ht (fun hc => kt (by simpa only [decide_eq_true_eq] using hc)) (fun hc => kf (by simpa only [decide_eq_true_eq] using hc)))
    | ge => exact zs_br1 h S K (fun x t rest ht kt kf => lv_if_ge hx hb9 hd ht (fun hc => kt (by simpa only [decide_eq_true_eq] using hc)) (fun hc => kf (by simpa only [decide_eq_true_eq] using hc)))
    | gt => exact zs_br1 h S K (fun x t rest ht kt kf => lv_if_gt hx hb9 hd ht (fun hc => kt (by simpa only [decide_eq_true_eq] using hc)) (fun hc => kf (by simpa only [decide_eq_true_eq] using hc)))
    | le => exact zs_br1 h S K (fun x t rest ht kt kf => lv_if_le hx hb9 hd ht (fun hc => kt (by simpa only [decide_eq_true_eq] using hc)) (fun hc => kf (by simpa only [decide_eq_true_eq] using hc)))
  | if_icmp cd off =>
    obtain rfl : ln = 3 := by simpa [zlo] using hlo
    cases cd with
    | eq => exact zs_br2 h S K (fun x y t rest ht kt kf => lv_icmp_eq hx hb9 hd ht (fun hc => kt (by simpa using hc)) (fun hc => kf (by simpa using hc)))
    | ne => exact zs_br2 h S K (fun x y t rest ht kt kf => lv_icmp_ne hx hb9 hd ht (fun hc => kt (by simpa using hc)) (fun hc => kf (by simpa using hc)))
    | lt => exact zs_br2 h S K (fun x y t rest ht kt kf => lv_icmp_lt hx hb9 hd ht (fun hc => kt (by simpa only [decide_eq_true_eq] using hc)) (fun hc => kf (by simpa only [decide_eq_true_eq] using hc)))
    | ge => exact zs_br2 h S K (fun x y t rest ht kt kf => lv_icmp_ge hx hb9 hd ht (fun hc => kt (by simpa only [decide_eq_true_eq] using hc)) (fun hc => kf (by simpa only [decide_eq_true_eq] using hc)))
    | gt => exact zs_br2 h S K (fun x y t rest ht kt kf => lv_icmp_gt hx hb9 hd ht (fun hc => kt (by simpa only [decide_eq_true_eq] using hc)) (fun hc => kf (by simpa only [decide_eq_true_eq] using hc)))
    | le => exact zs_br2 h S K (fun x y t rest ht kt kf => lv_icmp_le hx hb9 hd ht (fun hc => kt (by simpa only [decide_eq_true_eq] using hc)) (fun hc => kf (by simpa only [decide_eq_true_eq] using hc)))
  | goto off =>
    obtain rfl : ln = 3 := by simpa [zlo] using hlo
    simp only [zstep] at h
    split at h
    · rename_i t ht
      cases h
      exact lv_goto hx hb9 hd (ztg_eq ht) (K H locs lsA S)
    · cases h
  | tableswitch d lo hi offs =>
    simp only [zstep] at h
    split at h
    · rename_i x r
      split at h
      · rename_i hsz
        split at h
        · rename_i t ht
          cases h
          have k2 := K H locs lsA (S.st (zok_cons S.2.2.2.2.1).2)
          obtain ⟨g1, g2, g3⟩ := zsw_in (x := x) offs.toList lo d
          have hl : offs.toList.length = offs.size := Array.length_toList
          by_cases hlo2 : x.toInt < lo
          · rw [g2 hlo2] at ht
            exact lv_tableOut hx hb9 hd (Or.inl hlo2) (ztg_eq ht) k2
          · by_cases hhi : hi < x.toInt
            · rw [g3 (by omega)] at ht
              exact lv_tableOut hx hb9 hd (Or.inr hhi) (ztg_eq ht) k2
            · have hlt : (x.toInt - lo).toNat < offs.size := by omega
              have ho : offs[(x.toInt - lo).toNat]? = some offs[(x.toInt - lo).toNat] := Array.getElem?_eq_getElem hlt
              rw [g1 hlo2 _ (by rw [Array.getElem?_toList]; exact ho)] at ht
              exact lv_tableIn hx hb9 hd hlo2 hhi ho (ztg_eq ht) k2
        · cases h
      · cases h
    · cases h
  | lookupswitch d ps =>
    simp only [zstep] at h
    split at h
    · rename_i x r
      split at h
      · rename_i hp
        split at h
        · rename_i t ht
          cases h
          rw [zlk_eq] at ht
          exact lv_lookup hx hb9 hd hp rfl (ztg_eq ht) (K H locs lsA (S.st (zok_cons S.2.2.2.2.1).2))
        · cases h
      · cases h
    · cases h
  | invokestatic x =>
    obtain rfl : ln = 3 := by simpa [zlo] using hlo
    simp only [zstep] at h
    split at h
    · rename_i hza
      split at h
      · rename_i n dp w2 sp w1 r
        split at h
        · rename_i hq
          cases h
          obtain ⟨a1, i1⟩ := w1
          obtain ⟨a2, i2⟩ := w2
          obtain ⟨q1, q2, q3, q4, q5, q6, q7, q8⟩ := hq
          simp only at q1 q2 q6 q7
          have o1 := zok_cons S.2.2.2.2.1
          have o2 := zok_cons o1.2
          have o3 := zok_cons o2.2
          have o4 := zok_cons o3.2
          have o5 := zok_cons o4.2
          have v2 : zokp a2 i2 := o3.1
          have v1 : zokp a1 i1 := o5.1
          have b1 := (zia_cases q1).2.2.1
          have b2 := (zia_cases q2).2.2.1
          have j1 : i1 < zcnt a1 := by
            rcases v1 with h | ⟨h, -⟩
            · exact h
            · omega
          have j2 : i2 < zcnt a2 := by
            rcases v2 with h | ⟨h, -⟩
            · exact h
            · omega
          obtain ⟨n1, hn1⟩ := zpl_at j1
          obtain ⟨n2, hn2⟩ := zpl_at j2
          have e1 := zwl_at (cI := cI) (cS := cS) (ad := ad) (σ := σ) hn1
          have e2 := zwl_at (cI := cI) (cS := cS) (ad := ad) (σ := σ) hn2
          rw [zcell_ia q1] at e1
          rw [zcell_ia q2] at e2
          have hset : zcell cI cS ad (zcp σ a1 i1 a2 i2 sp.toNatClampNeg dp.toNatClampNeg n.toNatClampNeg) a2 i2 = .inl (cI, zln σ a2 i2, .inl (va_cpy (σ a1 i1) (σ a2 i2) sp.toNatClampNeg dp.toNatClampNeg n.toNatClampNeg)) := by
            rw [zcell_ia q2, zcp_self, (zia_cases q2).2.2.2, (zia_cases q2).2.2.2]
          have hmls : c.maxLocals = lsA.size := hml.trans S.2.2.2.1.2.1.symm
          refine va_copyi (own := zC o) hx hb9 hmls hown (hts _ (za_ok hza)) (hts _ zcopy_words.1) (hts _ zcopy_words.2.1) (hts _ zcopy_words.2.2) hG.1 S.1.1 S.1.2 S.2.1 n1 n2 0 0 e1 e2 rfl rfl rfl q3 q4 q5 q6 q7 (fun _ _ => rfl) hR.1 ?_ hd (fun H1 locs1 hP hD hS => ?_)
          · rw [zcat_sum]
            have : nativeFrameWords "java/lang/System" "arraycopy" 5 = 7 := by decide +kernel
            rw [this]
            have := hR.2
            omega
          · rw [← hset] at hP hD
            refine K H1 locs1 lsA ⟨zWd.set hn2 (fun c' i' hne => zcp_ne hne) hP hD, hS, fun c' i' k' hc => ?_, S.2.2.2.1, o5.2, S.2.2.2.2.2⟩
            show zcp σ a1 i1 a2 i2 sp.toNatClampNeg dp.toNatClampNeg n.toNatClampNeg c' i' k' = _
            rw [show zcp σ a1 i1 a2 i2 sp.toNatClampNeg dp.toNatClampNeg n.toNatClampNeg c' i' = σ c' i' from zcp_ne (fun q => by cases q; omega)]
            exact S.2.2.1 c' i' k' hc
        · cases h
      · cases h
    · cases h
  | _ => exact absurd h (by simp [zstep])
end ZT
end
section
/-! A run of the small machine is a run of the JVM's. -/
def zrm (d : Nat) : Room := { frames := d + 1, cells := 0, slots := 0, locals := 60 * (d + 1) }
def zws (mj : Nat) : List Cond := .code (zy mj) (zb mj) (zn mj) (zr mj) :: zTb
theorem zn_le : ∀ mj, mj < zMN → zn mj ≤ 41 := by decide +kernel
theorem zws_good {mj : Nat} (h : mj < zMN) (h9 : zo mj ≠ 9) : GoodIn zTb (zws mj) := by
  intro w hw
  rcases List.mem_cons.mp hw with rfl | hw
  · exact zTb_good _ (zm_code h h9)
  · exact zTb_good _ hw
/-- the words of a call -/
theorem zm_init {mj : Nat} (h : mj < zMN) (h9 : zo mj ≠ 9) : Cond.initialized (zC (zo mj)) ∈ zTb ∧ (zy mj).cls = zC (zo mj) ∧ (zy mj).cls ≠ "java/lang/invoke/MethodHandle" ∧ (zy mj).cls ≠ "java/lang/invoke/VarHandle" ∧ plainFor (zy mj) = true := by
  obtain ⟨q, hq, rfl⟩ := zmT_all mj h h9
  have h2 := zmT_ok2 q hq
  exact ⟨zTb_of h2.1 h2.2.1, h2.2.2.1, h2.2.2.2.1, h2.2.2.2.2, zmT_plain q hq⟩
theorem zm_st {mj : Nat} (h : mj < zMN) (h9 : zo mj ≠ 9) (hs : zst mj = true) : Cond.static (zy mj) ∈ zTb ∧ (parseMethodDescriptor (zy mj).desc).map (fun d => d.parameters.length) = some (zna mj) := by
  obtain ⟨q, hq, rfl⟩ := zmT_all mj h h9
  have h3 := zmT_ok3 q hq
  have h4 := zmT_ok4 q hq
  have e : q.2.1 = true := h3.1.symm.trans hs
  rw [e, if_pos rfl] at h4
  have h5 := h3.2.2.1
  rw [e, if_pos rfl] at h5
  exact ⟨zTb_of h4.1 h4.2, h5⟩
theorem zm_vi {mj : Nat} (h : mj < zMN) (h9 : zo mj ≠ 9) (hs : zst mj = false) : Cond.instanceMethod (zy mj) ∈ zTb ∧ Cond.selects (zC (zo mj)) (zy mj) (zy mj) ∈ zTb ∧ zo mj < 9 ∧ 1 ≤ zna mj ∧ (parseMethodDescriptor (zy mj).desc).map (fun d => d.parameters.length) = some (zna mj - 1) := by
  obtain ⟨q, hq, rfl⟩ := zmT_all mj h h9
  have h3 := zmT_ok3 q hq
  have h4 := zmT_ok4 q hq
  have e : q.2.1 = false := h3.1.symm.trans hs
  have e2 : ¬ q.2.1 = true := by rw [e]; decide
  rw [if_neg e2] at h4
  have h5 := h3.2.2.1
  rw [if_neg e2] at h5
  exact ⟨zTb_of h4.1.1 h4.1.2, zTb_of h4.2.1 h4.2.2.1, h4.2.2.2, h3.2.2.2 e, h5⟩
/-- a method's start, and its end -/
def zPc (D : va_G) (cI cS : ClassId) (ad : Nat → Nat → Nat) (hb L : Nat) (ρ σ : zS) (as : List zA) : Array Value → State → Prop := va_Pc (as.map (zenc ad)) (fun U => hb ≤ U.heap.size ∧ zWd D cI cS ad hb σ U.heap ∧ zGood D cI cS ad hb L ρ U U.heap)
def zQc (D : va_G) (cI cS : ClassId) (ad : Nat → Nat → Nat) (hb : Nat) (ρ : zS) (out : Option zA × zS) : Array Value → State → Outcome → State → Prop := fun _ st oc t => ((oc = .returned (out.1.map (zenc ad)) ∧ zWd D cI cS ad hb out.2 t.heap) ∧ (∀ c i k, 50 ≤ c → out.2 c i k = ρ c i k) ∧ ∀ v, out.1 = some v → zok v) ∧ va_F (zA0 hb) st t
section ZU
variable {p : Program} {l : Launch} {e : Env} {R : Room} {s : State} {m : MethodId} {args : Array Value} {below : List Frame} {meth : Method} {c : Code} {cells slots : Nat} {Q : State → Prop}
variable {D : va_G} {cI cS : ClassId} {ad : Nat → Nat → Nat} {hb L : Nat} {ρ : zS} {nL : Nat} {cc : ByteArray}
theorem zPc_blind {σ : zS} {as : List zA} : FrameBlind (zPc D cI cS ad hb L ρ σ as) := by
  intro a U g mk h
  obtain ⟨h1, h2, h3, h4⟩ := h
  exact ⟨h1, h2, h3, zGood.moved (u := U) (U := U.calling g mk a) (Vm.Alike.refl U.vm) (fun _ _ _ => rfl) h4⟩
theorem zcallW {H : Heap} {locs : List Loc} {pc : Nat} {lsA : Array Slot} {st0 rest : List Value} {out : Option zA × zS} {a : Array Value}
    (hr : va_Run p l e R s m args below meth c H locs cells slots 0 0 (F0 m pc lsA st0) rest (zQc D cI cS ad hb ρ out a) (zA0 hb)) (hS : va_S (zA0 hb) s.heap H locs)
    (kk : ∀ (H1 : Heap) (locs1 : List Loc), zWd D cI cS ad hb out.2 H1 → va_S (zA0 hb) s.heap H1 locs1 → (∀ c i k, 50 ≤ c → out.2 c i k = ρ c i k) → (∀ v, out.1 = some v → zok v) → W p l e R s m args below meth c H1 locs1 cells slots Q (F0 m (pc + 3) lsA ((out.1.map (zenc ad)).toList ++ rest))) : W p l e R s m args below meth c H locs cells slots Q (F0 m pc lsA st0) := by
  intro T hT X
  obtain ⟨v, st₀, t, T', L2, h0, X', hL, e1, e2, ⟨⟨⟨hv, hb2⟩, hρ, hv1⟩, hz, hk⟩, st⟩ := hr T hT X
  cases hv
  rw [h0] at hz hk
  obtain ⟨t2, a1, b1⟩ := kk T'.heap (locs ++ L2) (by rw [e1]; exact hb2)
    ⟨Nat.le_trans hS.1 (by rw [e1]; exact hz), fun q h1 h2 => by rw [e1, hk q (Nat.lt_of_lt_of_le h1 hS.1) h2]; exact hS.2.1 q h1 h2, fun q hq => by
      rcases List.mem_append.mp hq with h | h
      · exact hS.2.2 q h
      · exact hL q h⟩ hρ hv1 T' rfl X'
  exact ⟨t2, st t2 a1, b1⟩
end ZU
theorem zel_len_map {ad : Nat → Nat → Nat} (as : List zA) : (as.map (zenc ad)).length = as.length := List.length_map _
theorem zret_inv {mi : Nat} {i : Instr} {st : List zA} {r : Option zA} (h : zret mi i st = some r) : (i = .ireturn ∧ ∃ x, st = [zI x] ∧ r = some (zI x) ∧ (zr mi = some .int ∨ (zr mi = some .boolean ∧ (x = 0 ∨ x = 1)))) ∨ (i = .areturn ∧ ∃ a k nm, st = [zR a k] ∧ r = some (zR a k) ∧ zr mi = some (.object nm)) ∨ (i = .return_ ∧ st = [] ∧ r = none ∧ zr mi = none) := by
  cases i with
  | ireturn =>
    left
    refine ⟨rfl, ?_⟩
    rcases st with _ | ⟨a, _ | ⟨b, r2⟩⟩
    · simp [zret] at h
    · rcases a with x | x | q
      · cases hz : zr mi with
        | none => simp [zret, hz] at h
        | some ty =>
          cases ty with
          | int =>
            simp [zret, hz] at h
            exact ⟨x, rfl, h.symm, Or.inl rfl⟩
          | boolean =>
            simp [zret, hz] at h
            exact ⟨x, rfl, h.2.symm, Or.inr ⟨rfl, h.1⟩⟩
          | _ => simp [zret, hz] at h
      · simp [zret] at h
      · simp [zret] at h
    · rcases a with x | x | q <;> simp [zret] at h
  | areturn =>
    right; left
    refine ⟨rfl, ?_⟩
    rcases st with _ | ⟨a, _ | ⟨b, r2⟩⟩
    · simp [zret] at h
    · rcases a with x | x | q
      · simp [zret] at h
      · simp [zret] at h
      · cases hz : zr mi with
        | none => simp [zret, hz] at h
        | some ty =>
          cases ty with
          | object nm =>
            simp [zret, hz] at h
            exact ⟨q.1, q.2, nm, rfl, h.symm, rfl⟩
          | _ => simp [zret, hz] at h
    · rcases a with x | x | q <;> simp [zret] at h
  | return_ =>
    right; right
    refine ⟨rfl, ?_⟩
    rcases st with _ | ⟨a, r2⟩
    · cases hz : zr mi with
      | none =>
        simp [zret, hz] at h
        exact ⟨rfl, h.symm, rfl⟩
      | some ty => simp [zret, hz] at h
    · simp [zret] at h
  | _ => simp [zret] at h
theorem zcall_inv {o : Nat} {i : Instr} {st as rest : List zA} {mj : Nat} (h : zcall o i st = some (mj, as, rest)) : ((∃ x, i = .invokestatic x ∧ zc o x = some mj ∧ zst mj = true) ∨ (∃ x, i = .invokevirtual x ∧ zc o x = some mj ∧ zst mj = false ∧ zrcv mj as = true)) ∧ zna mj ≤ st.length ∧ (rest.map zcat).sum ≤ 8 ∧ (zel as).length ≤ zn mj ∧ as = (st.take (zna mj)).reverse ∧ rest = st.drop (zna mj) := by
  cases i with
  | invokestatic x =>
    simp only [zcall] at h
    split at h
    · rename_i mk hk
      split at h
      · rename_i hc
        cases h
        exact ⟨Or.inl ⟨x, rfl, hk, hc.1⟩, hc.2.1, hc.2.2.1, hc.2.2.2, rfl, rfl⟩
      · cases h
    · cases h
  | invokevirtual x =>
    simp only [zcall] at h
    split at h
    · rename_i mk hk
      split at h
      · rename_i hc
        cases h
        exact ⟨Or.inr ⟨x, rfl, hk, hc.1, hc.2.2.2.2⟩, hc.2.1, hc.2.2.1, hc.2.2.2.1, rfl, rfl⟩
      · cases h
    · cases h
  | _ => simp [zcall] at h
set_option maxHeartbeats 4000000 in
theorem zrun_sound (l : Launch) (D : va_G) (cI cS : ClassId) (ad : Nat → Nat → Nat) (hb L : Nat) (ρ : zS) : ∀ (n d mi pc : Nat) (ls : zO) (st : List zA) (σ : zS) (out : Option zA × zS), zrun n d mi pc ls st σ = some out →
    ∀ (p : Program) (e : Env) (R : Room) (s : State) (m : MethodId) (args : Array Value) (below : List Frame) (meth : Method) (c : Code) (cells slots : Nat) (Q : State → Prop) (H : Heap) (locs : List Loc) (lsA : Array Slot),
    p.tables.exec = Jvm.exec → c.code = zb mi → c.maxLocals = zn mi → s.vm.findClass (zC (zo mi)) = some m.cls → (∀ w ∈ zTb, w.before args s = true) → zGood D cI cS ad hb L ρ s s.heap → hb ≤ s.heap.size → (d + 1 ≤ R.frames ∧ 60 * (d + 1) ≤ R.locals ∧ cells ≤ R.cells ∧ slots ≤ R.slots) →
    zSt D cI cS ad hb ρ s (zn mi) H locs lsA ls st σ →
    (∀ (pc : Nat) (i : Instr) (ln : Nat) (H : Heap) (locs : List Loc) (lsA : Array Slot) (ls : zO) (st : List zA), decode (zb mi) pc = .ok (i, ln) → zlo i ln = true → zret mi i st = some out.1 → zSt D cI cS ad hb ρ s (zn mi) H locs lsA ls st out.2 → zGoal p l e R s m args below meth c cells slots Q ad H locs lsA pc st) →
    zGoal p l e R s m args below meth c cells slots Q ad H locs lsA pc st := by
  intro n
  induction n with
  | zero =>
    intro d mi pc ls st σ out h
    simp [zrun] at h
  | succ n ih =>
    intro d mi pc ls st σ out h p e R s m args below meth c cells slots Q H locs lsA hx hb9 hml hown hts hG hbs hR S hret
    simp only [zrun] at h
    split at h
    · cases h
    · rename_i i ln hd
      split at h
      · cases h
      · rename_i hlo
        have hlo : zlo i ln = true := by simpa using hlo
        split at h
        · rename_i pc' ls' st' σ' hs
          exact zstep_sound hs hlo hx hb9 hml hown hts hG hd ⟨by omega, by omega⟩ S (fun H1 locs1 lsA1 S1 => ih d mi pc' ls' st' σ' out h p e R s m args below meth c cells slots Q H1 locs1 lsA1 hx hb9 hml hown hts hG hbs hR S1 hret)
        · split at h
          · rename_i r hr
            cases h
            exact hret pc i ln H locs lsA ls st hd hlo hr S
          · split at h
            · cases h
            · rename_i mj as rest hc
              split at h
              · cases h
              · rename_i d' 
                split at h
                · cases h
                · rename_i r σ' hrun
                  -- the contract of the method called
                  have key : ∀ (hj : mj < zMN) (hj9 : zo mj ≠ 9) (hlen : (zel as).length ≤ zn mj) (hok : ∀ v ∈ as, zok v), Met l (zy mj) (zws mj) (zrm d') (zPc D cI cS ad hb L ρ σ as) (zQc D cI cS ad hb ρ (r, σ')) 0 0 (zA0 hb) := by
                    intro hj hj9 hlen hok
                    refine va_MetF (cc := zb mj) (maxL := zn mj) (ret := zr mj) (zm_init hj hj9).2.2.2.2 rfl ?_
                    intro p e s m args below meth c s₁ B hml hv
                    obtain ⟨rfl, hbs, hW, hG⟩ := hv
                    have hts0 := atoms_spec (ws := zws mj) B.pre
                    have hts : ∀ w ∈ zTb, w.before _ s = true := fun w hw => hts0 w (List.mem_cons_of_mem _ hw)
                    have hown : s.vm.findClass (zC (zo mj)) = some m.cls := by
                      rw [← (zm_init hj hj9).2.1]
                      exact findClass_of_methodNamed B.named
                    have hlocks := B.notSynchronized
                    rw [lg_entry_eq]
                    refine ih d' mj 0 (zent as (zn mj)) [] σ (r, σ') hrun p e _ s m _ below meth c 0 0 _ s.heap [] _ B.exec B.bytes hml hown hts hG hbs ⟨Nat.le_refl _, Nat.le_refl _, Nat.zero_le _, Nat.zero_le _⟩ ⟨hW, va_S.rf, ?_, ⟨zent_len hlen, zent_has hlen⟩, fun v hv => absurd hv List.not_mem_nil, fun v hv => hok v (zent_mem hv)⟩ ?_
                    · exact S.2.2.1
                    · intro pc i ln H locs lsA ls st hd hlo hr S
                      have hq : ∀ (v : Option Value), v = r.map (zenc ad) → ∀ t : State, t.heap = H → s.WarmedH t.vm → zQc D cI cS ad hb ρ (r, σ') ((as.map (zenc ad)).toArray) s (.returned v) t := fun v hv t ht _ => ⟨⟨⟨by rw [hv], by rw [ht]; exact S.1⟩, S.2.2.1, fun v hv => by
                        rcases zret_inv hr with ⟨-, x, -, h2, -⟩ | ⟨-, a, k, nm, h1, h2, -⟩ | ⟨-, -, h2, -⟩
                        · cases h2.symm.trans hv; trivial
                        · cases h2.symm.trans hv
                          exact S.2.2.2.2.1 _ (by rw [h1]; exact List.mem_cons_self)
                        · cases h2.symm.trans hv⟩, S.2.1.F ht⟩
                      rcases zret_inv hr with ⟨rfl, x, rfl, h2, h3⟩ | ⟨rfl, a, k, nm, rfl, h2, h3⟩ | ⟨rfl, rfl, h2, h3⟩
                      · obtain rfl : ln = 1 := by simpa [zlo] using hlo
                        have h2 : r = some (zI x) := h2
                        rcases h3 with h3 | ⟨h3, h4⟩
                        · exact W.iret (v := x) B.exec B.bytes (B.returns.trans h3) (hq _ (by rw [h2]; rfl)) S.2.1.2.2 hd
                        · exact W.zret (v := x) B.exec B.bytes (B.returns.trans h3) (by rcases h4 with rfl | rfl <;> rfl) (hq _ (by rw [h2]; rfl)) S.2.1.2.2 hd
                      · obtain rfl : ln = 1 := by simpa [zlo] using hlo
                        have h2 : r = some (zR a k) := h2
                        exact W.aret (v := .ref (ad a k)) B.exec B.bytes (B.returns.trans h3) (Or.inl ⟨nm, rfl⟩) (Or.inr ⟨_, rfl⟩) (hq _ (by rw [h2]; rfl)) S.2.1.2.2 hd
                      · obtain rfl : ln = 1 := by simpa [zlo] using hlo
                        have h2 : r = none := h2
                        exact W.vret B.exec B.bytes (B.returns.trans h3) (hq _ (by rw [h2]; rfl)) S.2.1.2.2 hd
                  -- behind the call
                  have kk : ∀ (H1 : Heap) (locs1 : List Loc), (∀ v ∈ rest, zok v) → zWd D cI cS ad hb σ' H1 → va_S (zA0 hb) s.heap H1 locs1 → (∀ c i k, 50 ≤ c → σ' c i k = ρ c i k) → (∀ v, r = some v → zok v) → W p l e R s m args below meth c H1 locs1 cells slots Q (F0 m (pc + 3) lsA ((r.map (zenc ad)).toList ++ rest.map (zenc ad))) := by
                    intro H1 locs1 hrest hW1 hS1 hρ hrv
                    have hst : ∀ v ∈ r.toList ++ rest, zok v := by
                      intro v hv
                      rcases List.mem_append.mp hv with hv | hv
                      · exact hrv v (Option.mem_toList.mp hv)
                      · exact hrest v hv
                    have := ih (d' + 1) mi (pc + 3) ls (r.toList ++ rest) σ' out h p e R s m args below meth c cells slots Q H1 locs1 lsA hx hb9 hml hown hts hG hbs hR ⟨hW1, hS1, hρ, S.2.2.2.1, hst, S.2.2.2.2.2⟩ hret
                    have e1 : (r.toList ++ rest).map (zenc ad) = (r.map (zenc ad)).toList ++ rest.map (zenc ad) := by
                      cases r <;> simp
                    rw [← e1]
                    exact this
                  obtain ⟨hkind, hlen0, hsum, hlen, has, hrest⟩ := zcall_inv hc
                  have hokas : ∀ v ∈ as, zok v := fun v hv => S.2.2.2.2.1 v (List.mem_of_mem_take (List.mem_reverse.mp (has ▸ hv)))
                  have hokr : ∀ v ∈ rest, zok v := fun v hv => S.2.2.2.2.1 v (List.mem_of_mem_drop (hrest ▸ hv))
                  have hstk : st.map (zenc ad) = (as.map (zenc ad)).reverse ++ rest.map (zenc ad) := by
                    rw [has, hrest, ← List.map_reverse, List.reverse_reverse, ← List.map_append, List.take_append_drop]
                  have haslen : as.length = zna mj := by
                    rw [has, List.length_reverse, List.length_take]
                    omega
                  have hmlz : ∀ hj : mj < zMN, (zrm d').frames + 1 ≤ R.frames ∧ 8 + (zn mj + 11) + (zrm d').locals ≤ R.locals := fun hj => by
                    have := zn_le mj hj
                    show d' + 1 + 1 ≤ R.frames ∧ 8 + (zn mj + 11) + 60 * (d' + 1) ≤ R.locals
                    omega
                  have hPU : ∀ U : State, U.heap = H → s.WarmedH U.vm → zPc D cI cS ad hb L ρ σ as ((as.map (zenc ad)).toArray) U := fun U hU hW => ⟨rfl, by
                    show hb ≤ U.heap.size ∧ zWd D cI cS ad hb σ U.heap ∧ zGood D cI cS ad hb L ρ U U.heap
                    rw [hU]
                    exact ⟨Nat.le_trans hbs S.2.1.1, S.1, hG.moved hW.alike S.2.1.2.1⟩⟩
                  rcases hkind with ⟨x, rfl, hcx, hstat⟩ | ⟨x, rfl, hcx, hstat, hrcv⟩
                  · obtain rfl : ln = 3 := by simpa [zlo] using hlo
                    obtain ⟨hj, hj9, hlink⟩ := zc_ok hcx
                    obtain ⟨hst1, hst2⟩ := zm_st hj hj9 hstat
                    obtain ⟨i1, i2, i3, i4, -⟩ := zm_init hj hj9
                    show W p l e R s m args below meth c H locs cells slots Q (F0 m pc lsA (st.map (zenc ad)))
                    rw [hstk]
                    refine zcallW (va_runS (own := zC (zo mi)) (n := zna mj) (As := as.map (zenc ad)) (rest := rest.map (zenc ad)) ⟨hx, hb9, hml, hown, hts⟩ (key hj hj9 hlen hokas) ⟨callB_of (ws' := zTb) (zna mj) hts (zws_good hj hj9) rfl rfl rfl (by rw [i2]; exact hts _ i1) (hts _ hlink) ⟨i3, i4, hst2⟩ (hmlz hj), hts _ hst1⟩ ⟨zPc_blind, hPU⟩ rfl (by rw [List.length_map]; exact haslen) S.2.2.2.1.2.1 rfl (lv_room (by rw [zcat_sum]; exact hsum)) hd ⟨by omega, by omega⟩) S.2.1 (fun H1 locs1 hW1 hS1 hρ1 hv1 => kk H1 locs1 hokr hW1 hS1 hρ1 hv1)
                  · obtain rfl : ln = 3 := by simpa [zlo] using hlo
                    obtain ⟨hj, hj9, hlink⟩ := zc_ok hcx
                    obtain ⟨v1, v2, v3, v4, v5⟩ := zm_vi hj hj9 hstat
                    obtain ⟨i1, i2, i3, i4, -⟩ := zm_init hj hj9
                    obtain ⟨b0, as', hb0⟩ : ∃ b0 as', as = zR (zo mj) b0 :: as' := by
                      unfold zrcv at hrcv
                      split at hrcv
                      · rename_i q t
                        obtain ⟨q1, q2⟩ := q
                        have : q1 = zo mj := by simpa using hrcv
                        subst this
                        exact ⟨q2, t, rfl⟩
                      · cases hrcv
                    have hok0 : zokp (zo mj) b0 := hokas (zR (zo mj) b0) (by rw [hb0]; exact List.mem_cons_self)
                    have hi : b0 < zcnt (zo mj) := by
                      rcases hok0 with h | ⟨h, -⟩
                      · exact h
                      · omega
                    obtain ⟨n0, hn0⟩ := zpl_at hi
                    have he := zwl_at (cI := cI) (cS := cS) (ad := ad) (σ := σ) hn0
                    rw [zcell_obj v3] at he
                    have hrc := va_recv hG.1 S.1.1 (zcl_at v3) he
                    show W p l e R s m args below meth c H locs cells slots Q (F0 m pc lsA (st.map (zenc ad)))
                    have hstk2 : st.map (zenc ad) = (as'.map (zenc ad)).reverse ++ Value.ref (ad (zo mj) b0) :: rest.map (zenc ad) := by
                      rw [hstk, hb0]
                      simp [zenc]
                    have hcw := callB_of (R := R) (ret := zr mj) (bytes := zb mj) (maxL := zn mj) (rm := zrm d') (mc := 0) (ms := 0) (ws' := zTb) (zna mj - 1) hts (zws_good hj hj9) rfl rfl rfl (by rw [i2]; exact hts _ i1) (hts _ hlink) ⟨i3, i4, v5⟩ (hmlz hj)
                    have e9 : (as.map (zenc ad)).toArray = (Value.ref (ad (zo mj) b0) :: as'.map (zenc ad)).toArray := by
                      rw [hb0]
                      rfl
                    rw [e9] at hPU
                    rw [hstk2]
                    refine zcallW (va_runV (C := zC (zo mj)) (own := zC (zo mi)) (n := zna mj - 1) (As := as'.map (zenc ad)) (rest := rest.map (zenc ad)) ⟨hx, hb9, hml, hown, hts⟩ (key hj hj9 hlen hokas) ⟨hcw, hts _ v1, hts _ v2⟩ ⟨zPc_blind, hrc, hPU⟩ rfl (by
                      rw [List.length_map]
                      rw [hb0, List.length_cons] at haslen
                      omega) S.2.2.2.1.2.1 rfl (lv_room (by rw [zcat_sum]; exact hsum)) hd ⟨by omega, by omega⟩) S.2.1 (fun H1 locs1 hW1 hS1 hρ1 hv1 => kk H1 locs1 hokr hW1 hS1 hρ1 hv1)
end
section
/-! Runs, without counting. -/
def zfetch (mi pc : Nat) : Option (Nat × Instr × Nat) := match decode (zb mi) pc with
  | .ok (i, ln) => if zlo i ln = true then some (zo mi, i, ln) else none
  | .error _ => none
theorem zfetch_inv {mi pc o ln : Nat} {i : Instr} (h : zfetch mi pc = some (o, i, ln)) : decode (zb mi) pc = .ok (i, ln) ∧ zlo i ln = true ∧ zo mi = o := by
  unfold zfetch at h
  split at h
  · rename_i i' ln' hd
    split at h
    · rename_i hl
      cases h
      exact ⟨hd, hl, rfl⟩
    · cases h
  · cases h
theorem zrun_one {n d mi pc o ln : Nat} {i : Instr} {ls : zO} {st : List zA} {σ : zS} (h : zfetch mi pc = some (o, i, ln)) : zrun (n + 1) d mi pc ls st σ = (match zstep o i ln pc ls st σ with
      | some (pc', ls', st', σ') => zrun n d mi pc' ls' st' σ'
      | none =>
        match zret mi i st with
        | some r => some (r, σ)
        | none =>
          match zcall o i st with
          | none => none
          | some (mj, as, rest) =>
            match d with
            | 0 => none
            | d' + 1 =>
              match zrun n d' mj 0 (zent as (zn mj)) [] σ with
              | none => none
              | some (r, σ') => zrun n (d' + 1) mi (pc + 3) ls (r.toList ++ rest) σ') := by
  obtain ⟨h1, h2, h3⟩ := zfetch_inv h
  subst h3
  simp only [zrun, h1, h2]
  rw [if_neg (by decide)]
  rfl
theorem zrun_none {n d mi pc : Nat} {ls : zO} {st : List zA} {σ : zS} (h : zfetch mi pc = none) : zrun (n + 1) d mi pc ls st σ = none := by
  unfold zfetch at h
  rw [zrun]
  split at h
  · rename_i i ln hd
    split at h
    · cases h
    · rename_i hl
      simp only [hd]
      rw [if_pos (by simpa using hl)]
  · rename_i er hd
    simp only [hd]
theorem zrun_mono : ∀ (n d mi pc : Nat) (ls : zO) (st : List zA) (σ : zS) (out : Option zA × zS), zrun n d mi pc ls st σ = some out → zrun (n + 1) d mi pc ls st σ = some out := by
  intro n
  induction n with
  | zero => intro d mi pc ls st σ out h; simp [zrun] at h
  | succ n ih =>
    intro d mi pc ls st σ out h
    cases hf : zfetch mi pc with
    | none =>
      rw [zrun_none hf] at h
      cases h
    | some q =>
      obtain ⟨o, i, ln⟩ := q
      rw [zrun_one hf] at h ⊢
      cases hs : zstep o i ln pc ls st σ with
      | some q =>
        simp only [hs] at h ⊢
        exact ih _ _ _ _ _ _ _ h
      | none =>
        simp only [hs] at h ⊢
        cases hr : zret mi i st with
        | some r =>
          simp only [hr] at h ⊢
          exact h
        | none =>
          simp only [hr] at h ⊢
          cases hc : zcall o i st with
          | none =>
            simp only [hc] at h
            cases h
          | some q =>
            obtain ⟨mj, as, rest⟩ := q
            simp only [hc] at h ⊢
            cases d with
            | zero => cases h
            | succ d =>
              simp only at h ⊢
              cases hrun : zrun n d mj 0 (zent as (zn mj)) [] σ with
              | none =>
                rw [hrun] at h
                cases h
              | some q =>
                rw [hrun] at h
                rw [ih _ _ _ _ _ _ _ hrun]
                exact ih _ _ _ _ _ _ _ h
theorem zrun_le {n k d mi pc : Nat} {ls : zO} {st : List zA} {σ : zS} {out : Option zA × zS} (h : zrun n d mi pc ls st σ = some out) (hk : n ≤ k) : zrun k d mi pc ls st σ = some out := by
  induction hk with
  | refl => exact h
  | step _ ih => exact zrun_mono _ _ _ _ _ _ _ _ ih
def zEv (d mi pc : Nat) (ls : zO) (st : List zA) (σ : zS) (out : Option zA × zS) : Prop := ∃ n, zrun n d mi pc ls st σ = some out
def zlt {α β : Type} (a : α) (f : α → Option β) : Option β := f a
def zgd {β : Type} (p : Prop) [Decidable p] (f : Option β) : Option β := if p then f else none
def zb2 {α β γ : Type} (a : Option (α × γ)) (f : α → γ → Option β) : Option β := a.bind (fun v => f v.1 v.2)
def zld (c : Nat) : Bool := zia c || c == 50 || c == 52 || c == 53
section EV
variable {d mi pc o ln : Nat} {i : Instr} {ls : zO} {st : List zA} {σ : zS} {out : Option zA × zS}
theorem ev_s (hf : zfetch mi pc = some (o, i, ln)) {p : Nat} {l : zO} {t : List zA} {s : zS} (hs : zstep o i ln pc ls st σ = some (p, l, t, s)) (E : zEv d mi p l t s out) : zEv d mi pc ls st σ out := by
  obtain ⟨n, h⟩ := E
  refine ⟨n + 1, ?_⟩
  rw [zrun_one hf, hs]
  exact h
theorem ev_ret (hf : zfetch mi pc = some (o, i, ln)) {r : Option zA} (hs : zstep o i ln pc ls st σ = none) (hr : zret mi i st = some r) : zEv d mi pc ls st σ (r, σ) := by
  refine ⟨1, ?_⟩
  rw [zrun_one hf, hs, hr]
theorem ev_let {α : Type} {x : Int32} {F : Int32 → Option α} {w : α} (h : zlt x F = some w) (A : ∀ y, y = x → F y = some w → zEv d mi pc ls (zI y :: st) σ out) : zEv d mi pc ls (zI x :: st) σ out := A x rfl h
theorem ev_lets {α : Type} {F : zS → Option α} {w : α} (h : zlt σ F = some w) (A : ∀ s, s = σ → F s = some w → zEv d mi pc ls st s out) : zEv d mi pc ls st σ out := A σ rfl h
theorem ev_iinc {k : Nat} {n : Int} {v x : Int32} (hf : zfetch mi pc = some (o, .iinc k n, 3)) (hv : Int32.ofInt n = v) (hg : zget ls k = some (zI x)) {l : zO} (hs : zset ls k (zI (x + v)) = some l) {p : Nat} (hp : pc + 3 = p) (E : zEv d mi p l st σ out) : zEv d mi pc ls st σ out := by
  subst hp
  refine ev_s hf (p := pc + 3) (l := l) (t := st) (s := σ) ?_ E
  subst hv
  simp only [zstep, if_true, hg, hs]
theorem ztg_of {pc t : Nat} {off : Int} (h : (pc : Int) + off = (t : Int)) : ztg pc off = some t := by
  unfold ztg
  rw [h]
  simp
section BR
variable {α : Type} {F G : Option α} {w : α} {x y : Int32} {off : Int} {r : List zA} {t p : Nat}
theorem ev_ifeq (hf : zfetch mi pc = some (o, .ifCond .eq off, 3)) (ht : (pc : Int) + off = (t : Int)) (hp : pc + 3 = p) (h : (if x = 0 then F else G) = some w) (A : x = 0 → F = some w → zEv d mi t ls r σ out) (B : ¬ x = 0 → G = some w → zEv d mi p ls r σ out) : zEv d mi pc ls (zI x :: r) σ out := by
  subst hp
  refine ev_s hf (p := if x = 0 then t else pc + 3) (l := ls) (t := r) (s := σ) (by simp [zstep, zbr1, ztg_of ht]) ?_
  by_cases c : x = 0
  · rw [if_pos c] at h ⊢; exact A c h
  · rw [if_neg c] at h ⊢; exact B c h
theorem ev_ifne (hf : zfetch mi pc = some (o, .ifCond .ne off, 3)) (ht : (pc : Int) + off = (t : Int)) (hp : pc + 3 = p) (h : (if x = 0 then F else G) = some w) (A : x = 0 → F = some w → zEv d mi p ls r σ out) (B : ¬ x = 0 → G = some w → zEv d mi t ls r σ out) : zEv d mi pc ls (zI x :: r) σ out := by
  subst hp
  refine ev_s hf (p := if x = 0 then pc + 3 else t) (l := ls) (t := r) (s := σ) (by by_cases c : x = 0 <;> simp [zstep, zbr1, ztg_of ht, c]) ?_
  by_cases c : x = 0
  · rw [if_pos c] at h ⊢; exact A c h
  · rw [if_neg c] at h ⊢; exact B c h
theorem ev_iflt (hf : zfetch mi pc = some (o, .ifCond .lt off, 3)) (ht : (pc : Int) + off = (t : Int)) (hp : pc + 3 = p) (h : (if x < 0 then F else G) = some w) (A : x < 0 → F = some w → zEv d mi t ls r σ out) (B : ¬ x < 0 → G = some w → zEv d mi p ls r σ out) : zEv d mi pc ls (zI x :: r) σ out := by
  subst hp
  refine ev_s hf (p := if x < 0 then t else pc + 3) (l := ls) (t := r) (s := σ) (by by_cases c : x < 0 <;> simp only [zstep, zbr1, ztg_of ht, c, decide_true, decide_false, if_true, if_false] <;> rfl) ?_
  by_cases c : x < 0
  · rw [if_pos c] at h ⊢; exact A c h
  · rw [if_neg c] at h ⊢; exact B c h
theorem ev_ifge (hf : zfetch mi pc = some (o, .ifCond .ge off, 3)) (ht : (pc : Int) + off = (t : Int)) (hp : pc + 3 = p) (h : (if 0 ≤ x then F else G) = some w) (A : 0 ≤ x → F = some w → zEv d mi t ls r σ out) (B : ¬ 0 ≤ x → G = some w → zEv d mi p ls r σ out) : zEv d mi pc ls (zI x :: r) σ out := by
  subst hp
  refine ev_s hf (p := if 0 ≤ x then t else pc + 3) (l := ls) (t := r) (s := σ) (by by_cases c : 0 ≤ x <;> simp only [zstep, zbr1, ztg_of ht, c, decide_true, decide_false, if_true, if_false] <;> rfl) ?_
  by_cases c : 0 ≤ x
  · rw [if_pos c] at h ⊢; exact A c h
  · rw [if_neg c] at h ⊢; exact B c h
theorem ev_ifle (hf : zfetch mi pc = some (o, .ifCond .le off, 3)) (ht : (pc : Int) + off = (t : Int)) (hp : pc + 3 = p) (h : (if x ≤ 0 then F else G) = some w) (A : x ≤ 0 → F = some w → zEv d mi t ls r σ out) (B : ¬ x ≤ 0 → G = some w → zEv d mi p ls r σ out) : zEv d mi pc ls (zI x :: r) σ out := by
  subst hp
  refine ev_s hf (p := if x ≤ 0 then t else pc + 3) (l := ls) (t := r) (s := σ) (by by_cases c : x ≤ 0 <;> simp only [zstep, zbr1, ztg_of ht, c, decide_true, decide_false, if_true, if_false] <;> rfl) ?_
  by_cases c : x ≤ 0
  · rw [if_pos c] at h ⊢; exact A c h
  · rw [if_neg c] at h ⊢; exact B c h
theorem ev_cmpeq (hf : zfetch mi pc = some (o, .if_icmp .eq off, 3)) (ht : (pc : Int) + off = (t : Int)) (hp : pc + 3 = p) (h : (if x = y then F else G) = some w) (A : x = y → F = some w → zEv d mi t ls r σ out) (B : ¬ x = y → G = some w → zEv d mi p ls r σ out) : zEv d mi pc ls (zI y :: zI x :: r) σ out := by
  subst hp
  refine ev_s hf (p := if x = y then t else pc + 3) (l := ls) (t := r) (s := σ) (by by_cases c : x = y <;> simp [zstep, zbr2, ztg_of ht, c]) ?_
  by_cases c : x = y
  · rw [if_pos c] at h ⊢; exact A c h
  · rw [if_neg c] at h ⊢; exact B c h
theorem ev_cmpne (hf : zfetch mi pc = some (o, .if_icmp .ne off, 3)) (ht : (pc : Int) + off = (t : Int)) (hp : pc + 3 = p) (h : (if x = y then F else G) = some w) (A : x = y → F = some w → zEv d mi p ls r σ out) (B : ¬ x = y → G = some w → zEv d mi t ls r σ out) : zEv d mi pc ls (zI y :: zI x :: r) σ out := by
  subst hp
  refine ev_s hf (p := if x = y then pc + 3 else t) (l := ls) (t := r) (s := σ) (by by_cases c : x = y <;> simp [zstep, zbr2, ztg_of ht, c]) ?_
  by_cases c : x = y
  · rw [if_pos c] at h ⊢; exact A c h
  · rw [if_neg c] at h ⊢; exact B c h
theorem ev_cmplt (hf : zfetch mi pc = some (o, .if_icmp .lt off, 3)) (ht : (pc : Int) + off = (t : Int)) (hp : pc + 3 = p) (h : (if x < y then F else G) = some w) (A : x < y → F = some w → zEv d mi t ls r σ out) (B : ¬ x < y → G = some w → zEv d mi p ls r σ out) : zEv d mi pc ls (zI y :: zI x :: r) σ out := by
  subst hp
  refine ev_s hf (p := if x < y then t else pc + 3) (l := ls) (t := r) (s := σ) (by by_cases c : x < y <;> simp only [zstep, zbr2, ztg_of ht, c, decide_true, decide_false, if_true, if_false] <;> rfl) ?_
  by_cases c : x < y
  · rw [if_pos c] at h ⊢; exact A c h
  · rw [if_neg c] at h ⊢; exact B c h
theorem ev_cmpge (hf : zfetch mi pc = some (o, .if_icmp .ge off, 3)) (ht : (pc : Int) + off = (t : Int)) (hp : pc + 3 = p) (h : (if y ≤ x then F else G) = some w) (A : y ≤ x → F = some w → zEv d mi t ls r σ out) (B : ¬ y ≤ x → G = some w → zEv d mi p ls r σ out) : zEv d mi pc ls (zI y :: zI x :: r) σ out := by
  subst hp
  refine ev_s hf (p := if y ≤ x then t else pc + 3) (l := ls) (t := r) (s := σ) (by by_cases c : y ≤ x <;> simp only [zstep, zbr2, ztg_of ht, c, decide_true, decide_false, if_true, if_false] <;> rfl) ?_
  by_cases c : y ≤ x
  · rw [if_pos c] at h ⊢; exact A c h
  · rw [if_neg c] at h ⊢; exact B c h
theorem ev_cmpgt (hf : zfetch mi pc = some (o, .if_icmp .gt off, 3)) (ht : (pc : Int) + off = (t : Int)) (hp : pc + 3 = p) (h : (if y < x then F else G) = some w) (A : y < x → F = some w → zEv d mi t ls r σ out) (B : ¬ y < x → G = some w → zEv d mi p ls r σ out) : zEv d mi pc ls (zI y :: zI x :: r) σ out := by
  subst hp
  refine ev_s hf (p := if y < x then t else pc + 3) (l := ls) (t := r) (s := σ) (by by_cases c : y < x <;> simp only [zstep, zbr2, ztg_of ht, c, decide_true, decide_false, if_true, if_false] <;> rfl) ?_
  by_cases c : y < x
  · rw [if_pos c] at h ⊢; exact A c h
  · rw [if_neg c] at h ⊢; exact B c h
theorem ev_cmple (hf : zfetch mi pc = some (o, .if_icmp .le off, 3)) (ht : (pc : Int) + off = (t : Int)) (hp : pc + 3 = p) (h : (if x ≤ y then F else G) = some w) (A : x ≤ y → F = some w → zEv d mi t ls r σ out) (B : ¬ x ≤ y → G = some w → zEv d mi p ls r σ out) : zEv d mi pc ls (zI y :: zI x :: r) σ out := by
  subst hp
  refine ev_s hf (p := if x ≤ y then t else pc + 3) (l := ls) (t := r) (s := σ) (by by_cases c : x ≤ y <;> simp only [zstep, zbr2, ztg_of ht, c, decide_true, decide_false, if_true, if_false] <;> rfl) ?_
  by_cases c : x ≤ y
  · rw [if_pos c] at h ⊢; exact A c h
  · rw [if_neg c] at h ⊢; exact B c h
theorem ev_goto (hf : zfetch mi pc = some (o, .goto off, 3)) (ht : (pc : Int) + off = (t : Int)) (E : zEv d mi t ls st σ out) : zEv d mi pc ls st σ out :=
  ev_s hf (by simp only [zstep, ztg_of ht]) E
/-- a switch by places, the goal read off the list of its targets -/
theorem ev_tsw {dd lo hi : Int} {offs : Array Int} (hf : zfetch mi pc = some (o, .tableswitch dd lo hi offs, ln)) (hsz : hi + 1 = lo + offs.size) (ht : (pc : Int) + zsw x lo offs.toList dd = (t : Int)) (E : zEv d mi t ls r σ out) : zEv d mi pc ls (zI x :: r) σ out :=
  ev_s hf (by simp only [zstep, if_pos hsz, ztg_of ht]) E
theorem ev_lsw {dd : Int} {ps : Array (Int × Int)} (hf : zfetch mi pc = some (o, .lookupswitch dd ps, ln)) (hsz : (ps.toList.zip (ps.toList.drop 1)).all (fun (a, next) => a.1 < next.1) = true) (ht : (pc : Int) + zlk x ps.toList dd = (t : Int)) (E : zEv d mi t ls r σ out) : zEv d mi pc ls (zI x :: r) σ out :=
  ev_s hf (by simp only [zstep, if_pos hsz, ztg_of ht]) E
end BR
section AC
variable {α : Type} {F : Option α} {w : α} {x y v : Int32} {r : List zA} {c k n p i0 : Nat} {j : Int32}
theorem ev_idiv (hf : zfetch mi pc = some (o, .idiv, 1)) (hp : pc + 1 = p) (h : zgd (¬ y = 0) F = some w) (A : ¬ y = 0 → F = some w → zEv d mi p ls (zI (x / y) :: r) σ out) : zEv d mi pc ls (zI y :: zI x :: r) σ out := by
  subst hp
  unfold zgd at h
  split at h
  · rename_i hy
    exact ev_s hf (by simp only [zstep, if_neg hy]) (A hy h)
  · cases h
theorem ev_irem (hf : zfetch mi pc = some (o, .irem, 1)) (hp : pc + 1 = p) (h : zgd (¬ y = 0) F = some w) (A : ¬ y = 0 → F = some w → zEv d mi p ls (zI (x - x / y * y) :: r) σ out) : zEv d mi pc ls (zI y :: zI x :: r) σ out := by
  subst hp
  unfold zgd at h
  split at h
  · rename_i hy
    exact ev_s hf (by simp only [zstep, if_neg hy]) (A hy h)
  · cases h
theorem ev_idivK (hf : zfetch mi pc = some (o, .idiv, 1)) (hp : pc + 1 = p) (hy : ¬ y = 0) (A : zEv d mi p ls (zI (x / y) :: r) σ out) : zEv d mi pc ls (zI y :: zI x :: r) σ out := by
  subst hp
  exact ev_s hf (by simp only [zstep, if_neg hy]) A
theorem ev_iremK (hf : zfetch mi pc = some (o, .irem, 1)) (hp : pc + 1 = p) (hy : ¬ y = 0) (A : zEv d mi p ls (zI (x - x / y * y) :: r) σ out) : zEv d mi pc ls (zI y :: zI x :: r) σ out := by
  subst hp
  exact ev_s hf (by simp only [zstep, if_neg hy]) A
theorem ev_getf {z : Nat} (hf : zfetch mi pc = some (o, .getfield z, 3)) (hz : zf o z = some (c, k)) {u : zA} (hu : zfv σ c i0 k = u) (hp : pc + 3 = p) (E : zEv d mi p ls (u :: r) σ out) : zEv d mi pc ls (zR c i0 :: r) σ out := by
  subst hp
  subst hu
  refine ev_s hf (p := pc + 3) (l := ls) (t := zfv σ c i0 k :: r) (s := σ) ?_ E
  simp only [zstep, hz, if_true]
theorem ev_putf {z : Nat} (hf : zfetch mi pc = some (o, .putfield z, 3)) (hz : zf o z = some (c, k)) (h1 : zfr c k i0 = none) (h2 : (zT c k).2.2.2 = false) (h3 : zfb c k = false) (hp : pc + 3 = p) (E : zEv d mi p ls r (zup σ c i0 k v) out) : zEv d mi pc ls (zI v :: zR c i0 :: r) σ out := by
  subst hp
  refine ev_s hf (p := pc + 3) (l := ls) (t := r) (s := zup σ c i0 k v) ?_ E
  have h4 : True ∧ zfr c k i0 = none ∧ (zT c k).2.2.2 = false ∧ (zfb c k = true → v = 0 ∨ v = 1) := ⟨trivial, h1, h2, fun q => by rw [h3] at q; cases q⟩
  simp only [zstep, hz]
  rw [if_pos h4]
theorem ev_putz {z : Nat} (hf : zfetch mi pc = some (o, .putfield z, 3)) (hz : zf o z = some (c, k)) (h1 : zfr c k i0 = none) (h2 : (zT c k).2.2.2 = false) (hp : pc + 3 = p) (h : zgd (v = 0 ∨ v = 1) F = some w) (E : (v = 0 ∨ v = 1) → F = some w → zEv d mi p ls r (zup σ c i0 k v) out) : zEv d mi pc ls (zI v :: zR c i0 :: r) σ out := by
  subst hp
  unfold zgd at h
  split at h
  · rename_i hv
    refine ev_s hf (p := pc + 3) (l := ls) (t := r) (s := zup σ c i0 k v) ?_ (E hv h)
    have h4 : True ∧ zfr c k i0 = none ∧ (zT c k).2.2.2 = false ∧ (zfb c k = true → v = 0 ∨ v = 1) := ⟨trivial, h1, h2, fun _ => hv⟩
    simp only [zstep, hz]
    rw [if_pos h4]
  · cases h
theorem ev_putzK {z : Nat} (hf : zfetch mi pc = some (o, .putfield z, 3)) (hz : zf o z = some (c, k)) (h1 : zfr c k i0 = none) (h2 : (zT c k).2.2.2 = false) (hv : v = 0 ∨ v = 1) (hp : pc + 3 = p) (E : zEv d mi p ls r (zup σ c i0 k v) out) : zEv d mi pc ls (zI v :: zR c i0 :: r) σ out := by
  subst hp
  refine ev_s hf (p := pc + 3) (l := ls) (t := r) (s := zup σ c i0 k v) ?_ E
  have h4 : True ∧ zfr c k i0 = none ∧ (zT c k).2.2.2 = false ∧ (zfb c k = true → v = 0 ∨ v = 1) := ⟨trivial, h1, h2, fun _ => hv⟩
  simp only [zstep, hz]
  rw [if_pos h4]
theorem ev_gets {z t : Nat} (hf : zfetch mi pc = some (o, .getstatic z, 3)) (hz : zg o z = some t) (hp : pc + 3 = p) (E : zEv d mi p ls (zR t 0 :: st) σ out) : zEv d mi pc ls st σ out := by
  subst hp
  exact ev_s hf (by simp only [zstep, hz]) E
theorem zld_or {c : Nat} (h : zld c = true) : zia c = true ∨ c = 50 ∨ c = 52 ∨ c = 53 := by
  simp only [zld, Bool.or_eq_true, beq_iff_eq] at h
  rcases h with ((h | h) | h) | h
  · exact Or.inl h
  · exact Or.inr (Or.inl h)
  · exact Or.inr (Or.inr (Or.inl h))
  · exact Or.inr (Or.inr (Or.inr h))
theorem ev_ialdK (hf : zfetch mi pc = some (o, .iaload, 1)) (hz : zld c = true) (hn : zln σ c i0 = n) (hj : zin j n) (hp : pc + 1 = p) (A : zEv d mi p ls (zI (σ c i0 j.toNatClampNeg) :: r) σ out) : zEv d mi pc ls (zI j :: zR c i0 :: r) σ out := by
  subst hp
  subst hn
  refine ev_s hf (p := pc + 1) (l := ls) (t := zI (σ c i0 j.toNatClampNeg) :: r) (s := σ) ?_ A
  simp only [zstep]
  rw [if_pos ⟨zld_or hz, hj⟩]
theorem ev_iald (hf : zfetch mi pc = some (o, .iaload, 1)) (hz : zld c = true) (hn : zln σ c i0 = n) (hp : pc + 1 = p) (h : zgd (zin j n) F = some w) (A : zin j n → F = some w → zEv d mi p ls (zI (σ c i0 j.toNatClampNeg) :: r) σ out) : zEv d mi pc ls (zI j :: zR c i0 :: r) σ out := by
  unfold zgd at h
  split at h
  · rename_i hj
    exact ev_ialdK hf hz hn hj hp (A hj h)
  · cases h
theorem ev_cald (hf : zfetch mi pc = some (o, .caload, 1)) (hp : pc + 1 = p) (h : zgd (zin j 6) F = some w) (A : zin j 6 → F = some w → zEv d mi p ls (zI (σ 51 i0 j.toNatClampNeg) :: r) σ out) : zEv d mi pc ls (zI j :: zR 51 i0 :: r) σ out := by
  subst hp
  unfold zgd at h
  split at h
  · rename_i hj
    refine ev_s hf (p := pc + 1) (l := ls) (t := zI (σ 51 i0 j.toNatClampNeg) :: r) (s := σ) ?_ (A hj h)
    simp only [zstep]
    rw [if_pos ⟨trivial, hj⟩]
  · cases h
theorem ev_aald (hf : zfetch mi pc = some (o, .aaload, 1)) (hp : pc + 1 = p) (h : zgd (zin j 4) F = some w) (A : zin j 4 → F = some w → zEv d mi p ls (zR 4 j.toNatClampNeg :: r) σ out) : zEv d mi pc ls (zI j :: zR 25 i0 :: r) σ out := by
  subst hp
  unfold zgd at h
  split at h
  · rename_i hj
    refine ev_s hf (p := pc + 1) (l := ls) (t := zR 4 j.toNatClampNeg :: r) (s := σ) ?_ (A hj h)
    simp only [zstep]
    rw [if_pos ⟨trivial, hj⟩]
  · cases h
theorem ev_iastK (hf : zfetch mi pc = some (o, .iastore, 1)) (hz : zia c = true) (hn : zln σ c i0 = n) (hj : zin j n) (hp : pc + 1 = p) (A : zEv d mi p ls r (zup σ c i0 j.toNatClampNeg v) out) : zEv d mi pc ls (zI v :: zI j :: zR c i0 :: r) σ out := by
  subst hp
  subst hn
  refine ev_s hf (p := pc + 1) (l := ls) (t := r) (s := zup σ c i0 j.toNatClampNeg v) ?_ A
  simp only [zstep]
  rw [if_pos ⟨hz, hj⟩]
theorem ev_iast (hf : zfetch mi pc = some (o, .iastore, 1)) (hz : zia c = true) (hn : zln σ c i0 = n) (hp : pc + 1 = p) (h : zgd (zin j n) F = some w) (A : zin j n → F = some w → zEv d mi p ls r (zup σ c i0 j.toNatClampNeg v) out) : zEv d mi pc ls (zI v :: zI j :: zR c i0 :: r) σ out := by
  unfold zgd at h
  split at h
  · rename_i hj
    exact ev_iastK hf hz hn hj hp (A hj h)
  · cases h
theorem ev_alen (hf : zfetch mi pc = some (o, .arraylength, 1)) (hz : zld c = true) (hn : Int32.ofNat (zln σ c i0) = v) (hp : pc + 1 = p) (A : zEv d mi p ls (zI v :: r) σ out) : zEv d mi pc ls (zR c i0 :: r) σ out := by
  subst hp
  subst hn
  refine ev_s hf (p := pc + 1) (l := ls) (t := zI (Int32.ofNat (zln σ c i0)) :: r) (s := σ) ?_ A
  simp only [zstep]
  rw [if_pos]
  rcases zld_or hz with h | h | h | h
  · exact Or.inl h
  · exact Or.inr (Or.inl h)
  · exact Or.inr (Or.inr (Or.inl h))
  · exact Or.inr (Or.inr (Or.inr (Or.inl h)))
/-- System.arraycopy -/
theorem ev_copy {z c1 c2 i1 i2 n1 n2 : Nat} {sp dp nn : Int32} (hf : zfetch mi pc = some (o, .invokestatic z, 3)) (hz : za o z = true) (h1 : zia c1 = true) (h2 : zia c2 = true) (hn1 : zln σ c1 i1 = n1) (hn2 : zln σ c2 i2 = n2) (h8 : (r.map zcat).sum ≤ 8) (hp : pc + 3 = p)
    (h : zgd (¬ sp < 0 ∧ ¬ dp < 0 ∧ ¬ nn < 0 ∧ sp.toNatClampNeg + nn.toNatClampNeg ≤ n1 ∧ dp.toNatClampNeg + nn.toNatClampNeg ≤ n2) F = some w)
    (A : F = some w → zEv d mi p ls r (zcp σ c1 i1 c2 i2 sp.toNatClampNeg dp.toNatClampNeg nn.toNatClampNeg) out) : zEv d mi pc ls (zI nn :: zI dp :: zR c2 i2 :: zI sp :: zR c1 i1 :: r) σ out := by
  subst hp
  subst hn1
  subst hn2
  unfold zgd at h
  split at h
  · rename_i hg
    refine ev_s hf (p := pc + 3) (l := ls) (t := r) (s := zcp σ c1 i1 c2 i2 sp.toNatClampNeg dp.toNatClampNeg nn.toNatClampNeg) ?_ (A h)
    simp only [zstep, hz, if_true]
    rw [if_pos ⟨h1, h2, hg.1, hg.2.1, hg.2.2.1, hg.2.2.2.1, hg.2.2.2.2, h8⟩]
  · cases h
theorem ev_iret (hf : zfetch mi pc = some (o, .ireturn, 1)) (hr : zr mi = some .int) : zEv d mi pc ls [zI x] σ (some (zI x), σ) :=
  ev_ret hf rfl (by simp only [zret, hr])
theorem ev_zret (hf : zfetch mi pc = some (o, .ireturn, 1)) (hr : zr mi = some .boolean) (hx : x = 0 ∨ x = 1) : zEv d mi pc ls [zI x] σ (some (zI x), σ) :=
  ev_ret hf rfl (by simp only [zret, hr, if_pos hx])
theorem ev_aret {nm : String} {a b : Nat} (hf : zfetch mi pc = some (o, .areturn, 1)) (hr : zr mi = some (.object nm)) : zEv d mi pc ls [zR a b] σ (some (zR a b), σ) :=
  ev_ret hf rfl (by simp only [zret, hr])
theorem ev_vret (hf : zfetch mi pc = some (o, .return_, 1)) (hr : zr mi = none) : zEv d mi pc ls [] σ (none, σ) :=
  ev_ret hf rfl (by simp only [zret, hr])
end AC
section CA
variable {z mj : Nat} {as rest : List zA} {l0 : zO} {p : Nat}
theorem ev_callE (hf : zfetch mi pc = some (o, i, 3)) (hs : zstep o i 3 pc ls st σ = none) (hr : zret mi i st = none) (hc : zcall o i st = some (mj, as, rest)) (hd : 0 < d) (he : zent as (zn mj) = l0) {r : Option zA} {σ1 : zS} (hE : zEv (d - 1) mj 0 l0 [] σ (r, σ1)) (E : zEv d mi (pc + 3) ls (r.toList ++ rest) σ1 out) : zEv d mi pc ls st σ out := by
  subst he
  obtain ⟨d', rfl⟩ : ∃ d', d = d' + 1 := ⟨d - 1, by omega⟩
  obtain ⟨n1, h1⟩ := hE
  obtain ⟨n2, h2⟩ := E
  refine ⟨max n1 n2 + 1, ?_⟩
  rw [zrun_one hf, hs, hr, hc]
  have e1 := zrun_le h1 (Nat.le_max_left n1 n2)
  have e2 := zrun_le h2 (Nat.le_max_right n1 n2)
  rw [Nat.add_sub_cancel] at e1
  simp only [e1]
  exact e2
theorem zstep_vi {o z pc : Nat} {ls : zO} {st : List zA} {σ : zS} : zstep o (.invokevirtual z) 3 pc ls st σ = none := rfl
theorem zstep_st {o z pc : Nat} {ls : zO} {st : List zA} {σ : zS} (h : za o z = false) : zstep o (.invokestatic z) 3 pc ls st σ = none := by
  simp only [zstep, h]
  rfl
theorem ev_callS (hf : zfetch mi pc = some (o, .invokestatic z, 3)) (hza : za o z = false) (hz : zc o z = some mj) {na nl : Nat} (hm : zst mj = true ∧ zna mj = na ∧ zn mj = nl) (hst : st.take na = as.reverse) (hre : st.drop na = rest) (hsz : na ≤ st.length) (h8 : (rest.map zcat).sum ≤ 8) (hl : (zel as).length ≤ nl) (hd : 0 < d) (he : zent as nl = l0) (hp : pc + 3 = p) {r : Option zA} {σ1 : zS} (hE : zEv (d - 1) mj 0 l0 [] σ (r, σ1)) (E : zEv d mi p ls (r.toList ++ rest) σ1 out) : zEv d mi pc ls st σ out := by
  obtain ⟨m1, m2, m3⟩ := hm
  subst m2 m3 hp
  refine ev_callE hf (zstep_st hza) rfl (as := as) (rest := rest) ?_ hd he hE E
  simp only [zcall, hz]
  rw [hst, hre, List.reverse_reverse, if_pos ⟨m1, hsz, h8, hl⟩]
theorem ev_callV (hf : zfetch mi pc = some (o, .invokevirtual z, 3)) (hz : zc o z = some mj) {na nl oj : Nat} (hm : zst mj = false ∧ zna mj = na ∧ zn mj = nl) (ho : zo mj = oj) {i0 : Nat} {as' : List zA} (hst : st.take na = (zR oj i0 :: as').reverse) (hre : st.drop na = rest) (hsz : na ≤ st.length) (h8 : (rest.map zcat).sum ≤ 8) (hl : (zel (zR oj i0 :: as')).length ≤ nl) (hd : 0 < d) (he : zent (zR oj i0 :: as') nl = l0) (hp : pc + 3 = p) {r : Option zA} {σ1 : zS} (hE : zEv (d - 1) mj 0 l0 [] σ (r, σ1)) (E : zEv d mi p ls (r.toList ++ rest) σ1 out) : zEv d mi pc ls st σ out := by
  obtain ⟨m1, m2, m3⟩ := hm
  subst m2 m3 hp ho
  refine ev_callE hf zstep_vi rfl (as := zR (zo mj) i0 :: as') (rest := rest) ?_ hd he hE E
  simp only [zcall, hz]
  rw [hst, hre, List.reverse_reverse, if_pos ⟨m1, hsz, h8, hl, by simp [zrcv]⟩]
theorem bd_some {α β : Type} {a : Option α} {f : α → Option β} {w : β} (h : a.bind f = some w) : ∃ v, a = some v ∧ f v = some w := Option.bind_eq_some_iff.mp h
theorem b2_some {α β γ : Type} {a : Option (α × γ)} {f : α → γ → Option β} {w : β} (h : zb2 a f = some w) : ∃ v s, a = some (v, s) ∧ f v s = some w := by
  obtain ⟨q, h1, h2⟩ := Option.bind_eq_some_iff.mp h
  exact ⟨q.1, q.2, h1, h2⟩
end CA
end EV
end
