section
-- ===== PART A: goes FIRST, ahead of the names: the tables' words, and 'selects' of the private methods out of them =====
/-- a private method of a class that the tables say can be made, by its rows of tables_1 -/
def lw_okq (q : MethodName × Nat) : Prop := (q.1.cls ≠ "java/lang/invoke/MethodHandle" ∧ q.1.cls ≠ "java/lang/invoke/VarHandle") ∧ Cond.instantiable q.1.cls q.2 ∈ tables_1 ∧ Cond.privateMethod q.1 ∈ tables_1 ∧ Cond.instanceMethod q.1 ∈ tables_1
theorem lw_p0 : lw_okq (⟨"ApronStrings", "isThere", "(I)Z"⟩, 9) := ⟨⟨by decide +kernel, by decide +kernel⟩, List.mem_of_getElem? (i := 14) (by decide +kernel), List.mem_of_getElem? (i := 264) (by decide +kernel), List.mem_of_getElem? (i := 265) (by decide +kernel)⟩
theorem lw_p1 : lw_okq (⟨"ApronStrings", "refuse", "(I)I"⟩, 9) := ⟨⟨by decide +kernel, by decide +kernel⟩, List.mem_of_getElem? (i := 14) (by decide +kernel), List.mem_of_getElem? (i := 268) (by decide +kernel), List.mem_of_getElem? (i := 269) (by decide +kernel)⟩
theorem lw_p2 : lw_okq (⟨"ApronStrings$Road", "yielding", "(I)I"⟩, 15) := ⟨⟨by decide +kernel, by decide +kernel⟩, List.mem_of_getElem? (i := 51) (by decide +kernel), List.mem_of_getElem? (i := 293) (by decide +kernel), List.mem_of_getElem? (i := 294) (by decide +kernel)⟩
theorem lw_p3 : lw_okq (⟨"ApronStrings$Road", "hasChildren", "(I)Z"⟩, 15) := ⟨⟨by decide +kernel, by decide +kernel⟩, List.mem_of_getElem? (i := 51) (by decide +kernel), List.mem_of_getElem? (i := 297) (by decide +kernel), List.mem_of_getElem? (i := 298) (by decide +kernel)⟩
theorem lw_p4 : lw_okq (⟨"ApronStrings$Road", "steps", "(I)I"⟩, 15) := ⟨⟨by decide +kernel, by decide +kernel⟩, List.mem_of_getElem? (i := 51) (by decide +kernel), List.mem_of_getElem? (i := 321) (by decide +kernel), List.mem_of_getElem? (i := 322) (by decide +kernel)⟩
theorem lw_p5 : lw_okq (⟨"ApronStrings$Reader", "readValue", "(LApronStrings$Row;II)I"⟩, 6) := ⟨⟨by decide +kernel, by decide +kernel⟩, List.mem_of_getElem? (i := 152) (by decide +kernel), List.mem_of_getElem? (i := 378) (by decide +kernel), List.mem_of_getElem? (i := 379) (by decide +kernel)⟩
theorem lw_p6 : lw_okq (⟨"ApronStrings$Reader", "openOne", "(I)I"⟩, 6) := ⟨⟨by decide +kernel, by decide +kernel⟩, List.mem_of_getElem? (i := 152) (by decide +kernel), List.mem_of_getElem? (i := 382) (by decide +kernel), List.mem_of_getElem? (i := 383) (by decide +kernel)⟩
theorem lw_p7 : lw_okq (⟨"ApronStrings$Reader", "await", "(I)V"⟩, 6) := ⟨⟨by decide +kernel, by decide +kernel⟩, List.mem_of_getElem? (i := 152) (by decide +kernel), List.mem_of_getElem? (i := 386) (by decide +kernel), List.mem_of_getElem? (i := 387) (by decide +kernel)⟩
theorem lw_p8 : lw_okq (⟨"ApronStrings$Reader", "write", "(I)V"⟩, 6) := ⟨⟨by decide +kernel, by decide +kernel⟩, List.mem_of_getElem? (i := 152) (by decide +kernel), List.mem_of_getElem? (i := 399) (by decide +kernel), List.mem_of_getElem? (i := 400) (by decide +kernel)⟩
theorem lw_p9 : lw_okq (⟨"ApronStrings$Reader", "endValue", "()V"⟩, 6) := ⟨⟨by decide +kernel, by decide +kernel⟩, List.mem_of_getElem? (i := 152) (by decide +kernel), List.mem_of_getElem? (i := 408) (by decide +kernel), List.mem_of_getElem? (i := 409) (by decide +kernel)⟩
theorem lw_p10 : lw_okq (⟨"ApronStrings$Reader", "readJoin", "(I)I"⟩, 6) := ⟨⟨by decide +kernel, by decide +kernel⟩, List.mem_of_getElem? (i := 152) (by decide +kernel), List.mem_of_getElem? (i := 412) (by decide +kernel), List.mem_of_getElem? (i := 413) (by decide +kernel)⟩
theorem lw_p11 : lw_okq (⟨"ApronStrings$Reader", "closeOne", "()I"⟩, 6) := ⟨⟨by decide +kernel, by decide +kernel⟩, List.mem_of_getElem? (i := 152) (by decide +kernel), List.mem_of_getElem? (i := 416) (by decide +kernel), List.mem_of_getElem? (i := 417) (by decide +kernel)⟩
theorem lw_p12 : lw_okq (⟨"ApronStrings$Reader", "settle", "(I)V"⟩, 6) := ⟨⟨by decide +kernel, by decide +kernel⟩, List.mem_of_getElem? (i := 152) (by decide +kernel), List.mem_of_getElem? (i := 420) (by decide +kernel), List.mem_of_getElem? (i := 421) (by decide +kernel)⟩
theorem lw_p13 : lw_okq (⟨"ApronStrings", "lawOf", "(I)LApronStrings$Law;"⟩, 9) := ⟨⟨by decide +kernel, by decide +kernel⟩, List.mem_of_getElem? (i := 14) (by decide +kernel), List.mem_of_getElem? (i := 427) (by decide +kernel), List.mem_of_getElem? (i := 428) (by decide +kernel)⟩
theorem lw_p14 : lw_okq (⟨"ApronStrings$Road", "step", "(II)Z"⟩, 15) := ⟨⟨by decide +kernel, by decide +kernel⟩, List.mem_of_getElem? (i := 51) (by decide +kernel), List.mem_of_getElem? (i := 457) (by decide +kernel), List.mem_of_getElem? (i := 458) (by decide +kernel)⟩
theorem lw_p15 : lw_okq (⟨"ApronStrings$Road", "keep", "()V"⟩, 15) := ⟨⟨by decide +kernel, by decide +kernel⟩, List.mem_of_getElem? (i := 51) (by decide +kernel), List.mem_of_getElem? (i := 461) (by decide +kernel), List.mem_of_getElem? (i := 462) (by decide +kernel)⟩
def lw_privs_1 : List (MethodName × Nat) := [(⟨"ApronStrings", "isThere", "(I)Z"⟩, 9), (⟨"ApronStrings", "refuse", "(I)I"⟩, 9), (⟨"ApronStrings$Road", "yielding", "(I)I"⟩, 15), (⟨"ApronStrings$Road", "hasChildren", "(I)Z"⟩, 15), (⟨"ApronStrings$Road", "steps", "(I)I"⟩, 15), (⟨"ApronStrings$Reader", "readValue", "(LApronStrings$Row;II)I"⟩, 6), (⟨"ApronStrings$Reader", "openOne", "(I)I"⟩, 6), (⟨"ApronStrings$Reader", "await", "(I)V"⟩, 6), (⟨"ApronStrings$Reader", "write", "(I)V"⟩, 6), (⟨"ApronStrings$Reader", "endValue", "()V"⟩, 6), (⟨"ApronStrings$Reader", "readJoin", "(I)I"⟩, 6), (⟨"ApronStrings$Reader", "closeOne", "()I"⟩, 6), (⟨"ApronStrings$Reader", "settle", "(I)V"⟩, 6), (⟨"ApronStrings", "lawOf", "(I)LApronStrings$Law;"⟩, 9), (⟨"ApronStrings$Road", "step", "(II)Z"⟩, 15), (⟨"ApronStrings$Road", "keep", "()V"⟩, 15)]
theorem lw_r1 : ∀ q ∈ lw_privs_1, lw_okq q := List.forall_mem_cons.mpr ⟨lw_p0, List.forall_mem_cons.mpr ⟨lw_p1, List.forall_mem_cons.mpr ⟨lw_p2, List.forall_mem_cons.mpr ⟨lw_p3, List.forall_mem_cons.mpr ⟨lw_p4, List.forall_mem_cons.mpr ⟨lw_p5, List.forall_mem_cons.mpr ⟨lw_p6, List.forall_mem_cons.mpr ⟨lw_p7, List.forall_mem_cons.mpr ⟨lw_p8, List.forall_mem_cons.mpr ⟨lw_p9, List.forall_mem_cons.mpr ⟨lw_p10, List.forall_mem_cons.mpr ⟨lw_p11, List.forall_mem_cons.mpr ⟨lw_p12, List.forall_mem_cons.mpr ⟨lw_p13, List.forall_mem_cons.mpr ⟨lw_p14, List.forall_mem_cons.mpr ⟨lw_p15, fun _ h => absurd h List.not_mem_nil⟩⟩⟩⟩⟩⟩⟩⟩⟩⟩⟩⟩⟩⟩⟩⟩
theorem lw_p16 : lw_okq (⟨"ApronStrings$Road", "leastTooShort", "()I"⟩, 15) := ⟨⟨by decide +kernel, by decide +kernel⟩, List.mem_of_getElem? (i := 51) (by decide +kernel), List.mem_of_getElem? (i := 468) (by decide +kernel), List.mem_of_getElem? (i := 469) (by decide +kernel)⟩
theorem lw_p17 : lw_okq (⟨"ApronStrings$Road", "letOut", "(II)V"⟩, 15) := ⟨⟨by decide +kernel, by decide +kernel⟩, List.mem_of_getElem? (i := 51) (by decide +kernel), List.mem_of_getElem? (i := 472) (by decide +kernel), List.mem_of_getElem? (i := 473) (by decide +kernel)⟩
theorem lw_p18 : lw_okq (⟨"ApronStrings$Road", "unmovedEnd", "(I)I"⟩, 15) := ⟨⟨by decide +kernel, by decide +kernel⟩, List.mem_of_getElem? (i := 51) (by decide +kernel), List.mem_of_getElem? (i := 476) (by decide +kernel), List.mem_of_getElem? (i := 477) (by decide +kernel)⟩
theorem lw_p19 : lw_okq (⟨"ApronStrings$Road", "putBack", "()V"⟩, 15) := ⟨⟨by decide +kernel, by decide +kernel⟩, List.mem_of_getElem? (i := 51) (by decide +kernel), List.mem_of_getElem? (i := 481) (by decide +kernel), List.mem_of_getElem? (i := 482) (by decide +kernel)⟩
theorem lw_p20 : lw_okq (⟨"ApronStrings$Road", "pull", "(III)V"⟩, 15) := ⟨⟨by decide +kernel, by decide +kernel⟩, List.mem_of_getElem? (i := 51) (by decide +kernel), List.mem_of_getElem? (i := 485) (by decide +kernel), List.mem_of_getElem? (i := 486) (by decide +kernel)⟩
theorem lw_p21 : lw_okq (⟨"ApronStrings$Road", "sever", "(I)V"⟩, 15) := ⟨⟨by decide +kernel, by decide +kernel⟩, List.mem_of_getElem? (i := 51) (by decide +kernel), List.mem_of_getElem? (i := 489) (by decide +kernel), List.mem_of_getElem? (i := 490) (by decide +kernel)⟩
theorem lw_p22 : lw_okq (⟨"ApronStrings$Road", "come", "(II)V"⟩, 15) := ⟨⟨by decide +kernel, by decide +kernel⟩, List.mem_of_getElem? (i := 51) (by decide +kernel), List.mem_of_getElem? (i := 494) (by decide +kernel), List.mem_of_getElem? (i := 495) (by decide +kernel)⟩
theorem lw_p23 : lw_okq (⟨"ApronStrings$Road", "draw", "()I"⟩, 15) := ⟨⟨by decide +kernel, by decide +kernel⟩, List.mem_of_getElem? (i := 51) (by decide +kernel), List.mem_of_getElem? (i := 506) (by decide +kernel), List.mem_of_getElem? (i := 507) (by decide +kernel)⟩
theorem lw_p24 : lw_okq (⟨"ApronStrings$Road", "low", "(I)I"⟩, 15) := ⟨⟨by decide +kernel, by decide +kernel⟩, List.mem_of_getElem? (i := 51) (by decide +kernel), List.mem_of_getElem? (i := 545) (by decide +kernel), List.mem_of_getElem? (i := 546) (by decide +kernel)⟩
theorem lw_p25 : lw_okq (⟨"ApronStrings$Road", "high", "(I)I"⟩, 15) := ⟨⟨by decide +kernel, by decide +kernel⟩, List.mem_of_getElem? (i := 51) (by decide +kernel), List.mem_of_getElem? (i := 550) (by decide +kernel), List.mem_of_getElem? (i := 551) (by decide +kernel)⟩
theorem lw_p26 : lw_okq (⟨"ApronStrings", "staysTied", "(III)Z"⟩, 9) := ⟨⟨by decide +kernel, by decide +kernel⟩, List.mem_of_getElem? (i := 14) (by decide +kernel), List.mem_of_getElem? (i := 596) (by decide +kernel), List.mem_of_getElem? (i := 597) (by decide +kernel)⟩
theorem lw_p27 : lw_okq (⟨"ApronStrings", "cellWithout", "(III)I"⟩, 9) := ⟨⟨by decide +kernel, by decide +kernel⟩, List.mem_of_getElem? (i := 14) (by decide +kernel), List.mem_of_getElem? (i := 604) (by decide +kernel), List.mem_of_getElem? (i := 605) (by decide +kernel)⟩
theorem lw_p28 : lw_okq (⟨"ApronStrings", "wentSo", "(LApronStrings$Sheet;II)Z"⟩, 9) := ⟨⟨by decide +kernel, by decide +kernel⟩, List.mem_of_getElem? (i := 14) (by decide +kernel), List.mem_of_getElem? (i := 623) (by decide +kernel), List.mem_of_getElem? (i := 624) (by decide +kernel)⟩
theorem lw_p29 : lw_okq (⟨"ApronStrings$Voices", "speak", "(IIII)I"⟩, 6) := ⟨⟨by decide +kernel, by decide +kernel⟩, List.mem_of_getElem? (i := 179) (by decide +kernel), List.mem_of_getElem? (i := 635) (by decide +kernel), List.mem_of_getElem? (i := 636) (by decide +kernel)⟩
theorem lw_p30 : lw_okq (⟨"ApronStrings$Voices", "speakMother", "(III)I"⟩, 6) := ⟨⟨by decide +kernel, by decide +kernel⟩, List.mem_of_getElem? (i := 179) (by decide +kernel), List.mem_of_getElem? (i := 644) (by decide +kernel), List.mem_of_getElem? (i := 645) (by decide +kernel)⟩
theorem lw_p31 : lw_okq (⟨"ApronStrings$Voices", "speakOther", "(III)I"⟩, 6) := ⟨⟨by decide +kernel, by decide +kernel⟩, List.mem_of_getElem? (i := 179) (by decide +kernel), List.mem_of_getElem? (i := 648) (by decide +kernel), List.mem_of_getElem? (i := 649) (by decide +kernel)⟩
def lw_privs_2 : List (MethodName × Nat) := [(⟨"ApronStrings$Road", "leastTooShort", "()I"⟩, 15), (⟨"ApronStrings$Road", "letOut", "(II)V"⟩, 15), (⟨"ApronStrings$Road", "unmovedEnd", "(I)I"⟩, 15), (⟨"ApronStrings$Road", "putBack", "()V"⟩, 15), (⟨"ApronStrings$Road", "pull", "(III)V"⟩, 15), (⟨"ApronStrings$Road", "sever", "(I)V"⟩, 15), (⟨"ApronStrings$Road", "come", "(II)V"⟩, 15), (⟨"ApronStrings$Road", "draw", "()I"⟩, 15), (⟨"ApronStrings$Road", "low", "(I)I"⟩, 15), (⟨"ApronStrings$Road", "high", "(I)I"⟩, 15), (⟨"ApronStrings", "staysTied", "(III)Z"⟩, 9), (⟨"ApronStrings", "cellWithout", "(III)I"⟩, 9), (⟨"ApronStrings", "wentSo", "(LApronStrings$Sheet;II)Z"⟩, 9), (⟨"ApronStrings$Voices", "speak", "(IIII)I"⟩, 6), (⟨"ApronStrings$Voices", "speakMother", "(III)I"⟩, 6), (⟨"ApronStrings$Voices", "speakOther", "(III)I"⟩, 6)]
theorem lw_r2 : ∀ q ∈ lw_privs_2, lw_okq q := List.forall_mem_cons.mpr ⟨lw_p16, List.forall_mem_cons.mpr ⟨lw_p17, List.forall_mem_cons.mpr ⟨lw_p18, List.forall_mem_cons.mpr ⟨lw_p19, List.forall_mem_cons.mpr ⟨lw_p20, List.forall_mem_cons.mpr ⟨lw_p21, List.forall_mem_cons.mpr ⟨lw_p22, List.forall_mem_cons.mpr ⟨lw_p23, List.forall_mem_cons.mpr ⟨lw_p24, List.forall_mem_cons.mpr ⟨lw_p25, List.forall_mem_cons.mpr ⟨lw_p26, List.forall_mem_cons.mpr ⟨lw_p27, List.forall_mem_cons.mpr ⟨lw_p28, List.forall_mem_cons.mpr ⟨lw_p29, List.forall_mem_cons.mpr ⟨lw_p30, List.forall_mem_cons.mpr ⟨lw_p31, fun _ h => absurd h List.not_mem_nil⟩⟩⟩⟩⟩⟩⟩⟩⟩⟩⟩⟩⟩⟩⟩⟩
theorem lw_p32 : lw_okq (⟨"ApronStringsModel", "error", "(I)I"⟩, 22) := ⟨⟨by decide +kernel, by decide +kernel⟩, List.mem_of_getElem? (i := 727) (by decide +kernel), List.mem_of_getElem? (i := 807) (by decide +kernel), List.mem_of_getElem? (i := 808) (by decide +kernel)⟩
theorem lw_p33 : lw_okq (⟨"ApronStringsModel", "whole", "()Z"⟩, 22) := ⟨⟨by decide +kernel, by decide +kernel⟩, List.mem_of_getElem? (i := 727) (by decide +kernel), List.mem_of_getElem? (i := 817) (by decide +kernel), List.mem_of_getElem? (i := 818) (by decide +kernel)⟩
theorem lw_p34 : lw_okq (⟨"ApronStringsModel", "both", "()Z"⟩, 22) := ⟨⟨by decide +kernel, by decide +kernel⟩, List.mem_of_getElem? (i := 727) (by decide +kernel), List.mem_of_getElem? (i := 821) (by decide +kernel), List.mem_of_getElem? (i := 822) (by decide +kernel)⟩
theorem lw_p35 : lw_okq (⟨"ApronStringsModel", "compared", "()Z"⟩, 22) := ⟨⟨by decide +kernel, by decide +kernel⟩, List.mem_of_getElem? (i := 727) (by decide +kernel), List.mem_of_getElem? (i := 825) (by decide +kernel), List.mem_of_getElem? (i := 826) (by decide +kernel)⟩
theorem lw_p36 : lw_okq (⟨"ApronStringsModel", "sum", "()Z"⟩, 22) := ⟨⟨by decide +kernel, by decide +kernel⟩, List.mem_of_getElem? (i := 727) (by decide +kernel), List.mem_of_getElem? (i := 829) (by decide +kernel), List.mem_of_getElem? (i := 830) (by decide +kernel)⟩
theorem lw_p37 : lw_okq (⟨"ApronStringsModel", "product", "()Z"⟩, 22) := ⟨⟨by decide +kernel, by decide +kernel⟩, List.mem_of_getElem? (i := 727) (by decide +kernel), List.mem_of_getElem? (i := 833) (by decide +kernel), List.mem_of_getElem? (i := 834) (by decide +kernel)⟩
theorem lw_p38 : lw_okq (⟨"ApronStringsModel", "one", "()Z"⟩, 22) := ⟨⟨by decide +kernel, by decide +kernel⟩, List.mem_of_getElem? (i := 727) (by decide +kernel), List.mem_of_getElem? (i := 837) (by decide +kernel), List.mem_of_getElem? (i := 838) (by decide +kernel)⟩
theorem lw_p39 : lw_okq (⟨"ApronStringsModel", "look", "()I"⟩, 22) := ⟨⟨by decide +kernel, by decide +kernel⟩, List.mem_of_getElem? (i := 727) (by decide +kernel), List.mem_of_getElem? (i := 841) (by decide +kernel), List.mem_of_getElem? (i := 842) (by decide +kernel)⟩
theorem lw_p40 : lw_okq (⟨"ApronStringsModel", "isName", "(I)Z"⟩, 22) := ⟨⟨by decide +kernel, by decide +kernel⟩, List.mem_of_getElem? (i := 727) (by decide +kernel), List.mem_of_getElem? (i := 845) (by decide +kernel), List.mem_of_getElem? (i := 846) (by decide +kernel)⟩
theorem lw_p41 : lw_okq (⟨"ApronStringsModel", "step1", "(II)V"⟩, 22) := ⟨⟨by decide +kernel, by decide +kernel⟩, List.mem_of_getElem? (i := 727) (by decide +kernel), List.mem_of_getElem? (i := 849) (by decide +kernel), List.mem_of_getElem? (i := 850) (by decide +kernel)⟩
theorem lw_p42 : lw_okq (⟨"ApronStringsModel", "opens", "()Z"⟩, 22) := ⟨⟨by decide +kernel, by decide +kernel⟩, List.mem_of_getElem? (i := 727) (by decide +kernel), List.mem_of_getElem? (i := 853) (by decide +kernel), List.mem_of_getElem? (i := 854) (by decide +kernel)⟩
theorem lw_p43 : lw_okq (⟨"ApronStringsModel", "hasText", "(I)Z"⟩, 22) := ⟨⟨by decide +kernel, by decide +kernel⟩, List.mem_of_getElem? (i := 727) (by decide +kernel), List.mem_of_getElem? (i := 861) (by decide +kernel), List.mem_of_getElem? (i := 862) (by decide +kernel)⟩
theorem lw_p44 : lw_okq (⟨"ApronStringsModel", "lays1", "(III)V"⟩, 22) := ⟨⟨by decide +kernel, by decide +kernel⟩, List.mem_of_getElem? (i := 727) (by decide +kernel), List.mem_of_getElem? (i := 875) (by decide +kernel), List.mem_of_getElem? (i := 876) (by decide +kernel)⟩
theorem lw_p45 : lw_okq (⟨"ApronStringsModel", "apartOf", "(I)I"⟩, 22) := ⟨⟨by decide +kernel, by decide +kernel⟩, List.mem_of_getElem? (i := 727) (by decide +kernel), List.mem_of_getElem? (i := 879) (by decide +kernel), List.mem_of_getElem? (i := 880) (by decide +kernel)⟩
theorem lw_p46 : lw_okq (⟨"ApronStringsModel", "isTied", "(I)Z"⟩, 22) := ⟨⟨by decide +kernel, by decide +kernel⟩, List.mem_of_getElem? (i := 727) (by decide +kernel), List.mem_of_getElem? (i := 883) (by decide +kernel), List.mem_of_getElem? (i := 884) (by decide +kernel)⟩
theorem lw_p47 : lw_okq (⟨"ApronStringsModel", "its", "(II)I"⟩, 22) := ⟨⟨by decide +kernel, by decide +kernel⟩, List.mem_of_getElem? (i := 727) (by decide +kernel), List.mem_of_getElem? (i := 887) (by decide +kernel), List.mem_of_getElem? (i := 888) (by decide +kernel)⟩
def lw_privs_3 : List (MethodName × Nat) := [(⟨"ApronStringsModel", "error", "(I)I"⟩, 22), (⟨"ApronStringsModel", "whole", "()Z"⟩, 22), (⟨"ApronStringsModel", "both", "()Z"⟩, 22), (⟨"ApronStringsModel", "compared", "()Z"⟩, 22), (⟨"ApronStringsModel", "sum", "()Z"⟩, 22), (⟨"ApronStringsModel", "product", "()Z"⟩, 22), (⟨"ApronStringsModel", "one", "()Z"⟩, 22), (⟨"ApronStringsModel", "look", "()I"⟩, 22), (⟨"ApronStringsModel", "isName", "(I)Z"⟩, 22), (⟨"ApronStringsModel", "step1", "(II)V"⟩, 22), (⟨"ApronStringsModel", "opens", "()Z"⟩, 22), (⟨"ApronStringsModel", "hasText", "(I)Z"⟩, 22), (⟨"ApronStringsModel", "lays1", "(III)V"⟩, 22), (⟨"ApronStringsModel", "apartOf", "(I)I"⟩, 22), (⟨"ApronStringsModel", "isTied", "(I)Z"⟩, 22), (⟨"ApronStringsModel", "its", "(II)I"⟩, 22)]
theorem lw_r3 : ∀ q ∈ lw_privs_3, lw_okq q := List.forall_mem_cons.mpr ⟨lw_p32, List.forall_mem_cons.mpr ⟨lw_p33, List.forall_mem_cons.mpr ⟨lw_p34, List.forall_mem_cons.mpr ⟨lw_p35, List.forall_mem_cons.mpr ⟨lw_p36, List.forall_mem_cons.mpr ⟨lw_p37, List.forall_mem_cons.mpr ⟨lw_p38, List.forall_mem_cons.mpr ⟨lw_p39, List.forall_mem_cons.mpr ⟨lw_p40, List.forall_mem_cons.mpr ⟨lw_p41, List.forall_mem_cons.mpr ⟨lw_p42, List.forall_mem_cons.mpr ⟨lw_p43, List.forall_mem_cons.mpr ⟨lw_p44, List.forall_mem_cons.mpr ⟨lw_p45, List.forall_mem_cons.mpr ⟨lw_p46, List.forall_mem_cons.mpr ⟨lw_p47, fun _ h => absurd h List.not_mem_nil⟩⟩⟩⟩⟩⟩⟩⟩⟩⟩⟩⟩⟩⟩⟩⟩
theorem lw_p48 : lw_okq (⟨"ApronStringsModel", "isOne", "(I)Z"⟩, 22) := ⟨⟨by decide +kernel, by decide +kernel⟩, List.mem_of_getElem? (i := 727) (by decide +kernel), List.mem_of_getElem? (i := 898) (by decide +kernel), List.mem_of_getElem? (i := 899) (by decide +kernel)⟩
theorem lw_p49 : lw_okq (⟨"ApronStringsModel", "doesNow", "(I)I"⟩, 22) := ⟨⟨by decide +kernel, by decide +kernel⟩, List.mem_of_getElem? (i := 727) (by decide +kernel), List.mem_of_getElem? (i := 902) (by decide +kernel), List.mem_of_getElem? (i := 903) (by decide +kernel)⟩
theorem lw_p50 : lw_okq (⟨"ApronStringsModel", "yieldsOf", "(I)I"⟩, 22) := ⟨⟨by decide +kernel, by decide +kernel⟩, List.mem_of_getElem? (i := 727) (by decide +kernel), List.mem_of_getElem? (i := 906) (by decide +kernel), List.mem_of_getElem? (i := 907) (by decide +kernel)⟩
theorem lw_p51 : lw_okq (⟨"ApronStringsModel", "hasChildren", "(I)Z"⟩, 22) := ⟨⟨by decide +kernel, by decide +kernel⟩, List.mem_of_getElem? (i := 727) (by decide +kernel), List.mem_of_getElem? (i := 910) (by decide +kernel), List.mem_of_getElem? (i := 911) (by decide +kernel)⟩
theorem lw_p52 : lw_okq (⟨"ApronStringsModel", "givenBy", "(IIII)I"⟩, 22) := ⟨⟨by decide +kernel, by decide +kernel⟩, List.mem_of_getElem? (i := 727) (by decide +kernel), List.mem_of_getElem? (i := 914) (by decide +kernel), List.mem_of_getElem? (i := 915) (by decide +kernel)⟩
theorem lw_p53 : lw_okq (⟨"ApronStringsModel", "worked", "(I)I"⟩, 22) := ⟨⟨by decide +kernel, by decide +kernel⟩, List.mem_of_getElem? (i := 727) (by decide +kernel), List.mem_of_getElem? (i := 918) (by decide +kernel), List.mem_of_getElem? (i := 919) (by decide +kernel)⟩
theorem lw_p54 : lw_okq (⟨"ApronStringsModel", "goesNow", "(I)I"⟩, 22) := ⟨⟨by decide +kernel, by decide +kernel⟩, List.mem_of_getElem? (i := 727) (by decide +kernel), List.mem_of_getElem? (i := 931) (by decide +kernel), List.mem_of_getElem? (i := 932) (by decide +kernel)⟩
theorem lw_p55 : lw_okq (⟨"ApronStringsModel", "stepsOf", "(I)I"⟩, 22) := ⟨⟨by decide +kernel, by decide +kernel⟩, List.mem_of_getElem? (i := 727) (by decide +kernel), List.mem_of_getElem? (i := 935) (by decide +kernel), List.mem_of_getElem? (i := 936) (by decide +kernel)⟩
theorem lw_p56 : lw_okq (⟨"ApronStringsModel", "change1", "(II)I"⟩, 22) := ⟨⟨by decide +kernel, by decide +kernel⟩, List.mem_of_getElem? (i := 727) (by decide +kernel), List.mem_of_getElem? (i := 954) (by decide +kernel), List.mem_of_getElem? (i := 955) (by decide +kernel)⟩
theorem lw_p57 : lw_okq (⟨"ApronStringsModel", "unties", "(I)V"⟩, 22) := ⟨⟨by decide +kernel, by decide +kernel⟩, List.mem_of_getElem? (i := 727) (by decide +kernel), List.mem_of_getElem? (i := 962) (by decide +kernel), List.mem_of_getElem? (i := 963) (by decide +kernel)⟩
theorem lw_p58 : lw_okq (⟨"ApronStringsModel", "goesOn", "(I)V"⟩, 22) := ⟨⟨by decide +kernel, by decide +kernel⟩, List.mem_of_getElem? (i := 727) (by decide +kernel), List.mem_of_getElem? (i := 985) (by decide +kernel), List.mem_of_getElem? (i := 986) (by decide +kernel)⟩
theorem lw_p59 : lw_okq (⟨"ApronStringsModel", "day1", "()V"⟩, 22) := ⟨⟨by decide +kernel, by decide +kernel⟩, List.mem_of_getElem? (i := 727) (by decide +kernel), List.mem_of_getElem? (i := 989) (by decide +kernel), List.mem_of_getElem? (i := 990) (by decide +kernel)⟩
theorem lw_p60 : lw_okq (⟨"ApronStringsModel", "oneStep", "(II)Z"⟩, 22) := ⟨⟨by decide +kernel, by decide +kernel⟩, List.mem_of_getElem? (i := 727) (by decide +kernel), List.mem_of_getElem? (i := 993) (by decide +kernel), List.mem_of_getElem? (i := 994) (by decide +kernel)⟩
theorem lw_p61 : lw_okq (⟨"ApronStringsModel", "tooShort", "()I"⟩, 22) := ⟨⟨by decide +kernel, by decide +kernel⟩, List.mem_of_getElem? (i := 727) (by decide +kernel), List.mem_of_getElem? (i := 997) (by decide +kernel), List.mem_of_getElem? (i := 998) (by decide +kernel)⟩
theorem lw_p62 : lw_okq (⟨"ApronStringsModel", "seesTo", "(I)Z"⟩, 22) := ⟨⟨by decide +kernel, by decide +kernel⟩, List.mem_of_getElem? (i := 727) (by decide +kernel), List.mem_of_getElem? (i := 1001) (by decide +kernel), List.mem_of_getElem? (i := 1002) (by decide +kernel)⟩
theorem lw_p63 : lw_okq (⟨"ApronStringsModel", "spares", "(II)V"⟩, 22) := ⟨⟨by decide +kernel, by decide +kernel⟩, List.mem_of_getElem? (i := 727) (by decide +kernel), List.mem_of_getElem? (i := 1005) (by decide +kernel), List.mem_of_getElem? (i := 1006) (by decide +kernel)⟩
def lw_privs_4 : List (MethodName × Nat) := [(⟨"ApronStringsModel", "isOne", "(I)Z"⟩, 22), (⟨"ApronStringsModel", "doesNow", "(I)I"⟩, 22), (⟨"ApronStringsModel", "yieldsOf", "(I)I"⟩, 22), (⟨"ApronStringsModel", "hasChildren", "(I)Z"⟩, 22), (⟨"ApronStringsModel", "givenBy", "(IIII)I"⟩, 22), (⟨"ApronStringsModel", "worked", "(I)I"⟩, 22), (⟨"ApronStringsModel", "goesNow", "(I)I"⟩, 22), (⟨"ApronStringsModel", "stepsOf", "(I)I"⟩, 22), (⟨"ApronStringsModel", "change1", "(II)I"⟩, 22), (⟨"ApronStringsModel", "unties", "(I)V"⟩, 22), (⟨"ApronStringsModel", "goesOn", "(I)V"⟩, 22), (⟨"ApronStringsModel", "day1", "()V"⟩, 22), (⟨"ApronStringsModel", "oneStep", "(II)Z"⟩, 22), (⟨"ApronStringsModel", "tooShort", "()I"⟩, 22), (⟨"ApronStringsModel", "seesTo", "(I)Z"⟩, 22), (⟨"ApronStringsModel", "spares", "(II)V"⟩, 22)]
theorem lw_r4 : ∀ q ∈ lw_privs_4, lw_okq q := List.forall_mem_cons.mpr ⟨lw_p48, List.forall_mem_cons.mpr ⟨lw_p49, List.forall_mem_cons.mpr ⟨lw_p50, List.forall_mem_cons.mpr ⟨lw_p51, List.forall_mem_cons.mpr ⟨lw_p52, List.forall_mem_cons.mpr ⟨lw_p53, List.forall_mem_cons.mpr ⟨lw_p54, List.forall_mem_cons.mpr ⟨lw_p55, List.forall_mem_cons.mpr ⟨lw_p56, List.forall_mem_cons.mpr ⟨lw_p57, List.forall_mem_cons.mpr ⟨lw_p58, List.forall_mem_cons.mpr ⟨lw_p59, List.forall_mem_cons.mpr ⟨lw_p60, List.forall_mem_cons.mpr ⟨lw_p61, List.forall_mem_cons.mpr ⟨lw_p62, List.forall_mem_cons.mpr ⟨lw_p63, fun _ h => absurd h List.not_mem_nil⟩⟩⟩⟩⟩⟩⟩⟩⟩⟩⟩⟩⟩⟩⟩⟩
theorem lw_p64 : lw_okq (⟨"ApronStringsModel", "cutsIt", "(I)V"⟩, 22) := ⟨⟨by decide +kernel, by decide +kernel⟩, List.mem_of_getElem? (i := 727) (by decide +kernel), List.mem_of_getElem? (i := 1009) (by decide +kernel), List.mem_of_getElem? (i := 1010) (by decide +kernel)⟩
theorem lw_p65 : lw_okq (⟨"ApronStringsModel", "comesNearer", "(II)V"⟩, 22) := ⟨⟨by decide +kernel, by decide +kernel⟩, List.mem_of_getElem? (i := 727) (by decide +kernel), List.mem_of_getElem? (i := 1013) (by decide +kernel), List.mem_of_getElem? (i := 1014) (by decide +kernel)⟩
theorem lw_p66 : lw_okq (⟨"ApronStringsModel", "draw", "()I"⟩, 22) := ⟨⟨by decide +kernel, by decide +kernel⟩, List.mem_of_getElem? (i := 727) (by decide +kernel), List.mem_of_getElem? (i := 1021) (by decide +kernel), List.mem_of_getElem? (i := 1022) (by decide +kernel)⟩
theorem lw_p67 : lw_okq (⟨"ApronStringsModel", "lineOf", "(I)I"⟩, 22) := ⟨⟨by decide +kernel, by decide +kernel⟩, List.mem_of_getElem? (i := 727) (by decide +kernel), List.mem_of_getElem? (i := 1038) (by decide +kernel), List.mem_of_getElem? (i := 1039) (by decide +kernel)⟩
theorem lw_p68 : lw_okq (⟨"ApronStringsModel", "outTo", "(II)I"⟩, 22) := ⟨⟨by decide +kernel, by decide +kernel⟩, List.mem_of_getElem? (i := 727) (by decide +kernel), List.mem_of_getElem? (i := 1046) (by decide +kernel), List.mem_of_getElem? (i := 1047) (by decide +kernel)⟩
theorem lw_p69 : lw_okq (⟨"ApronStringsModel", "overAt", "(I)I"⟩, 22) := ⟨⟨by decide +kernel, by decide +kernel⟩, List.mem_of_getElem? (i := 727) (by decide +kernel), List.mem_of_getElem? (i := 1054) (by decide +kernel), List.mem_of_getElem? (i := 1055) (by decide +kernel)⟩
theorem lw_p70 : lw_okq (⟨"ApronStringsModel", "lowEnd", "(I)I"⟩, 22) := ⟨⟨by decide +kernel, by decide +kernel⟩, List.mem_of_getElem? (i := 727) (by decide +kernel), List.mem_of_getElem? (i := 1058) (by decide +kernel), List.mem_of_getElem? (i := 1059) (by decide +kernel)⟩
theorem lw_p71 : lw_okq (⟨"ApronStringsModel", "highEnd", "(I)I"⟩, 22) := ⟨⟨by decide +kernel, by decide +kernel⟩, List.mem_of_getElem? (i := 727) (by decide +kernel), List.mem_of_getElem? (i := 1062) (by decide +kernel), List.mem_of_getElem? (i := 1063) (by decide +kernel)⟩
theorem lw_p72 : lw_okq (⟨"ApronStringsModel", "doCross", "(II)Z"⟩, 22) := ⟨⟨by decide +kernel, by decide +kernel⟩, List.mem_of_getElem? (i := 727) (by decide +kernel), List.mem_of_getElem? (i := 1077) (by decide +kernel), List.mem_of_getElem? (i := 1078) (by decide +kernel)⟩
theorem lw_p73 : lw_okq (⟨"ApronStringsModel", "saves", "()V"⟩, 22) := ⟨⟨by decide +kernel, by decide +kernel⟩, List.mem_of_getElem? (i := 727) (by decide +kernel), List.mem_of_getElem? (i := 1085) (by decide +kernel), List.mem_of_getElem? (i := 1086) (by decide +kernel)⟩
theorem lw_p74 : lw_okq (⟨"ApronStringsModel", "putsBack", "()V"⟩, 22) := ⟨⟨by decide +kernel, by decide +kernel⟩, List.mem_of_getElem? (i := 727) (by decide +kernel), List.mem_of_getElem? (i := 1089) (by decide +kernel), List.mem_of_getElem? (i := 1090) (by decide +kernel)⟩
theorem lw_p75 : lw_okq (⟨"ApronStringsModel", "tiedNow", "()I"⟩, 22) := ⟨⟨by decide +kernel, by decide +kernel⟩, List.mem_of_getElem? (i := 727) (by decide +kernel), List.mem_of_getElem? (i := 1097) (by decide +kernel), List.mem_of_getElem? (i := 1098) (by decide +kernel)⟩
theorem lw_p76 : lw_okq (⟨"ApronStringsModel", "holdsWith", "(III)Z"⟩, 22) := ⟨⟨by decide +kernel, by decide +kernel⟩, List.mem_of_getElem? (i := 727) (by decide +kernel), List.mem_of_getElem? (i := 1109) (by decide +kernel), List.mem_of_getElem? (i := 1110) (by decide +kernel)⟩
theorem lw_p77 : lw_okq (⟨"ApronStringsModel", "staysWithout", "(III)Z"⟩, 22) := ⟨⟨by decide +kernel, by decide +kernel⟩, List.mem_of_getElem? (i := 727) (by decide +kernel), List.mem_of_getElem? (i := 1117) (by decide +kernel), List.mem_of_getElem? (i := 1118) (by decide +kernel)⟩
theorem lw_p78 : lw_okq (⟨"ApronStringsModel", "kindNow", "()I"⟩, 22) := ⟨⟨by decide +kernel, by decide +kernel⟩, List.mem_of_getElem? (i := 727) (by decide +kernel), List.mem_of_getElem? (i := 1139) (by decide +kernel), List.mem_of_getElem? (i := 1140) (by decide +kernel)⟩
theorem lw_p79 : lw_okq (⟨"ApronStringsModel", "tiesAs", "(II)I"⟩, 22) := ⟨⟨by decide +kernel, by decide +kernel⟩, List.mem_of_getElem? (i := 727) (by decide +kernel), List.mem_of_getElem? (i := 1143) (by decide +kernel), List.mem_of_getElem? (i := 1144) (by decide +kernel)⟩
def lw_privs_5 : List (MethodName × Nat) := [(⟨"ApronStringsModel", "cutsIt", "(I)V"⟩, 22), (⟨"ApronStringsModel", "comesNearer", "(II)V"⟩, 22), (⟨"ApronStringsModel", "draw", "()I"⟩, 22), (⟨"ApronStringsModel", "lineOf", "(I)I"⟩, 22), (⟨"ApronStringsModel", "outTo", "(II)I"⟩, 22), (⟨"ApronStringsModel", "overAt", "(I)I"⟩, 22), (⟨"ApronStringsModel", "lowEnd", "(I)I"⟩, 22), (⟨"ApronStringsModel", "highEnd", "(I)I"⟩, 22), (⟨"ApronStringsModel", "doCross", "(II)Z"⟩, 22), (⟨"ApronStringsModel", "saves", "()V"⟩, 22), (⟨"ApronStringsModel", "putsBack", "()V"⟩, 22), (⟨"ApronStringsModel", "tiedNow", "()I"⟩, 22), (⟨"ApronStringsModel", "holdsWith", "(III)Z"⟩, 22), (⟨"ApronStringsModel", "staysWithout", "(III)Z"⟩, 22), (⟨"ApronStringsModel", "kindNow", "()I"⟩, 22), (⟨"ApronStringsModel", "tiesAs", "(II)I"⟩, 22)]
theorem lw_r5 : ∀ q ∈ lw_privs_5, lw_okq q := List.forall_mem_cons.mpr ⟨lw_p64, List.forall_mem_cons.mpr ⟨lw_p65, List.forall_mem_cons.mpr ⟨lw_p66, List.forall_mem_cons.mpr ⟨lw_p67, List.forall_mem_cons.mpr ⟨lw_p68, List.forall_mem_cons.mpr ⟨lw_p69, List.forall_mem_cons.mpr ⟨lw_p70, List.forall_mem_cons.mpr ⟨lw_p71, List.forall_mem_cons.mpr ⟨lw_p72, List.forall_mem_cons.mpr ⟨lw_p73, List.forall_mem_cons.mpr ⟨lw_p74, List.forall_mem_cons.mpr ⟨lw_p75, List.forall_mem_cons.mpr ⟨lw_p76, List.forall_mem_cons.mpr ⟨lw_p77, List.forall_mem_cons.mpr ⟨lw_p78, List.forall_mem_cons.mpr ⟨lw_p79, fun _ h => absurd h List.not_mem_nil⟩⟩⟩⟩⟩⟩⟩⟩⟩⟩⟩⟩⟩⟩⟩⟩
theorem lw_p80 : lw_okq (⟨"ApronStringsModel", "begins", "(I)V"⟩, 22) := ⟨⟨by decide +kernel, by decide +kernel⟩, List.mem_of_getElem? (i := 727) (by decide +kernel), List.mem_of_getElem? (i := 1147) (by decide +kernel), List.mem_of_getElem? (i := 1148) (by decide +kernel)⟩
theorem lw_p81 : lw_okq (⟨"ApronStringsModel", "letsAs", "(II)I"⟩, 22) := ⟨⟨by decide +kernel, by decide +kernel⟩, List.mem_of_getElem? (i := 727) (by decide +kernel), List.mem_of_getElem? (i := 1151) (by decide +kernel), List.mem_of_getElem? (i := 1152) (by decide +kernel)⟩
theorem lw_p82 : lw_okq (⟨"ApronStringsModel", "mNow", "()I"⟩, 22) := ⟨⟨by decide +kernel, by decide +kernel⟩, List.mem_of_getElem? (i := 727) (by decide +kernel), List.mem_of_getElem? (i := 1155) (by decide +kernel), List.mem_of_getElem? (i := 1156) (by decide +kernel)⟩
theorem lw_p83 : lw_okq (⟨"ApronStringsModel", "pullsAs", "(II)I"⟩, 22) := ⟨⟨by decide +kernel, by decide +kernel⟩, List.mem_of_getElem? (i := 727) (by decide +kernel), List.mem_of_getElem? (i := 1159) (by decide +kernel), List.mem_of_getElem? (i := 1160) (by decide +kernel)⟩
theorem lw_p84 : lw_okq (⟨"ApronStringsModel", "partsAs", "(II)I"⟩, 22) := ⟨⟨by decide +kernel, by decide +kernel⟩, List.mem_of_getElem? (i := 727) (by decide +kernel), List.mem_of_getElem? (i := 1163) (by decide +kernel), List.mem_of_getElem? (i := 1164) (by decide +kernel)⟩
theorem lw_p85 : lw_okq (⟨"ApronStringsModel", "lacks", "(I)I"⟩, 22) := ⟨⟨by decide +kernel, by decide +kernel⟩, List.mem_of_getElem? (i := 727) (by decide +kernel), List.mem_of_getElem? (i := 1187) (by decide +kernel), List.mem_of_getElem? (i := 1188) (by decide +kernel)⟩
theorem lw_p86 : lw_okq (⟨"ApronStringsModel", "sumOf", "(I)I"⟩, 22) := ⟨⟨by decide +kernel, by decide +kernel⟩, List.mem_of_getElem? (i := 727) (by decide +kernel), List.mem_of_getElem? (i := 1218) (by decide +kernel), List.mem_of_getElem? (i := 1219) (by decide +kernel)⟩
def lw_privs_6 : List (MethodName × Nat) := [(⟨"ApronStringsModel", "begins", "(I)V"⟩, 22), (⟨"ApronStringsModel", "letsAs", "(II)I"⟩, 22), (⟨"ApronStringsModel", "mNow", "()I"⟩, 22), (⟨"ApronStringsModel", "pullsAs", "(II)I"⟩, 22), (⟨"ApronStringsModel", "partsAs", "(II)I"⟩, 22), (⟨"ApronStringsModel", "lacks", "(I)I"⟩, 22), (⟨"ApronStringsModel", "sumOf", "(I)I"⟩, 22)]
theorem lw_r6 : ∀ q ∈ lw_privs_6, lw_okq q := List.forall_mem_cons.mpr ⟨lw_p80, List.forall_mem_cons.mpr ⟨lw_p81, List.forall_mem_cons.mpr ⟨lw_p82, List.forall_mem_cons.mpr ⟨lw_p83, List.forall_mem_cons.mpr ⟨lw_p84, List.forall_mem_cons.mpr ⟨lw_p85, List.forall_mem_cons.mpr ⟨lw_p86, fun _ h => absurd h List.not_mem_nil⟩⟩⟩⟩⟩⟩⟩
def lw_privs : List (MethodName × Nat) := lw_privs_1 ++ (lw_privs_2 ++ (lw_privs_3 ++ (lw_privs_4 ++ (lw_privs_5 ++ (lw_privs_6)))))
def lw_tbl : List Cond := k2_sels lw_privs ++ tables_1
theorem lw_privs_ok : ∀ q ∈ lw_privs, lw_okq q := by
  show ∀ q ∈ lw_privs_1 ++ (lw_privs_2 ++ (lw_privs_3 ++ (lw_privs_4 ++ (lw_privs_5 ++ (lw_privs_6))))), lw_okq q
  exact List.forall_mem_append.mpr ⟨lw_r1, List.forall_mem_append.mpr ⟨lw_r2, List.forall_mem_append.mpr ⟨lw_r3, List.forall_mem_append.mpr ⟨lw_r4, List.forall_mem_append.mpr ⟨lw_r5, lw_r6⟩⟩⟩⟩⟩
-- ===== end of PART A; then your names; then what follows =====
end
section
def RX0 : String := "ApronStrings$Law"
def TX0 : u_T := fun k => match k with
  | 0 => ("ApronStrings$Law", "parts", "[I", true)
  | 1 => ("ApronStrings$Law", "many", "I", false)
  | 2 => ("ApronStrings$Law", "use", "I", true)
  | _ => ("ApronStrings$Law", "open", "[I", true)
def tyX0 : Nat → FieldType := fun k => match k with
  | 0 => .array .int
  | 1 => .int
  | 2 => .int
  | _ => .array .int
abbrev wsX00 : List Cond := u_ws RX0 TX0 4
theorem nmX0 : ∀ a, a < 4 → ∀ b, b < 4 → a ≠ b → (TX0 a).2.1 ≠ (TX0 b).2.1 := by decide +kernel
theorem tyX0_ok : ∀ k, k < 4 → parseFieldDescriptor (TX0 k).2.2.1 = some (tyX0 k) := by decide +kernel
abbrev cX0_init : ByteArray := prog_2_method_1_code
def yX0_init : MethodName := ⟨RX0, "<init>", "(I)V"⟩
abbrev cX0_take : ByteArray := prog_2_method_2_code
def yX0_take : MethodName := ⟨RX0, "take", "([II)V"⟩
abbrev cX0_gives : ByteArray := prog_2_method_3_code
def yX0_gives : MethodName := ⟨RX0, "gives", "(III)I"⟩
abbrev cX0_joined : ByteArray := prog_2_method_4_code
def yX0_joined : MethodName := ⟨RX0, "joined", "(III)I"⟩
def RX1 : String := "ApronStrings$Reader"
def TX1 : u_T := fun k => match k with
  | 0 => ("ApronStrings$Reader", "parts", "[I", true)
  | 1 => ("ApronStrings$Reader", "many", "I", false)
  | 2 => ("ApronStrings$Reader", "waiting", "[I", true)
  | 3 => ("ApronStrings$Reader", "waits", "I", false)
  | 4 => ("ApronStrings$Reader", "open", "I", false)
  | _ => ("ApronStrings$Reader", "valueIsDue", "Z", false)
def tyX1 : Nat → FieldType := fun k => match k with
  | 0 => .array .int
  | 1 => .int
  | 2 => .array .int
  | 3 => .int
  | 4 => .int
  | _ => .boolean
abbrev wsX10 : List Cond := u_ws RX1 TX1 6
theorem nmX1 : ∀ a, a < 6 → ∀ b, b < 6 → a ≠ b → (TX1 a).2.1 ≠ (TX1 b).2.1 := by decide +kernel
theorem tyX1_ok : ∀ k, k < 6 → parseFieldDescriptor (TX1 k).2.2.1 = some (tyX1 k) := by decide +kernel
abbrev cX1_init : ByteArray := prog_3_method_1_code
def yX1_init : MethodName := ⟨RX1, "<init>", "()V"⟩
abbrev cX1_read : ByteArray := prog_3_method_2_code
def yX1_read : MethodName := ⟨RX1, "read", "(LApronStrings$Row;I)I"⟩
abbrev cX1_readValue : ByteArray := prog_3_method_3_code
def yX1_readValue : MethodName := ⟨RX1, "readValue", "(LApronStrings$Row;II)I"⟩
abbrev cX1_openOne : ByteArray := prog_3_method_4_code
def yX1_openOne : MethodName := ⟨RX1, "openOne", "(I)I"⟩
abbrev cX1_digits : ByteArray := prog_3_method_5_code
def yX1_digits : MethodName := ⟨RX1, "digits", "(LApronStrings$Row;I)I"⟩
abbrev cX1_isDigit : ByteArray := prog_3_method_6_code
def yX1_isDigit : MethodName := ⟨RX1, "isDigit", "(I)Z"⟩
abbrev cX1_number : ByteArray := prog_3_method_7_code
def yX1_number : MethodName := ⟨RX1, "number", "(LApronStrings$Row;II)I"⟩
abbrev cX1_nameOf : ByteArray := prog_3_method_8_code
def yX1_nameOf : MethodName := ⟨RX1, "nameOf", "(II)I"⟩
abbrev cX1_endValue : ByteArray := prog_3_method_9_code
def yX1_endValue : MethodName := ⟨RX1, "endValue", "()V"⟩
abbrev cX1_readJoin : ByteArray := prog_3_method_10_code
def yX1_readJoin : MethodName := ⟨RX1, "readJoin", "(I)I"⟩
abbrev cX1_closeOne : ByteArray := prog_3_method_11_code
def yX1_closeOne : MethodName := ⟨RX1, "closeOne", "()I"⟩
abbrev cX1_settle : ByteArray := prog_3_method_12_code
def yX1_settle : MethodName := ⟨RX1, "settle", "(I)V"⟩
abbrev cX1_rank : ByteArray := prog_3_method_13_code
def yX1_rank : MethodName := ⟨RX1, "rank", "(I)I"⟩
abbrev cX1_await : ByteArray := prog_3_method_14_code
def yX1_await : MethodName := ⟨RX1, "await", "(I)V"⟩
abbrev cX1_write : ByteArray := prog_3_method_15_code
def yX1_write : MethodName := ⟨RX1, "write", "(I)V"⟩
def RX2 : String := "ApronStrings$Road"
def TX2 : u_T := fun k => match k with
  | 0 => ("ApronStrings$Road", "does", "LApronStrings$Law;", true)
  | 1 => ("ApronStrings$Road", "goes", "LApronStrings$Law;", true)
  | 2 => ("ApronStrings$Road", "kind", "[I", true)
  | 3 => ("ApronStrings$Road", "m", "[I", true)
  | 4 => ("ApronStrings$Road", "mother", "[I", true)
  | 5 => ("ApronStrings$Road", "cell", "[I", true)
  | 6 => ("ApronStrings$Road", "out", "[I", true)
  | 7 => ("ApronStrings$Road", "spare", "[I", true)
  | 8 => ("ApronStrings$Road", "places", "[I", true)
  | 9 => ("ApronStrings$Road", "people", "I", false)
  | 10 => ("ApronStrings$Road", "day", "I", false)
  | 11 => ("ApronStrings$Road", "cuts", "I", false)
  | 12 => ("ApronStrings$Road", "z", "I", false)
  | 13 => ("ApronStrings$Road", "ahead", "[I", true)
  | _ => ("ApronStrings$Road", "moved", "I", false)
def tyX2 : Nat → FieldType := fun k => match k with
  | 0 => .object "ApronStrings$Law"
  | 1 => .object "ApronStrings$Law"
  | 2 => .array .int
  | 3 => .array .int
  | 4 => .array .int
  | 5 => .array .int
  | 6 => .array .int
  | 7 => .array .int
  | 8 => .array .int
  | 9 => .int
  | 10 => .int
  | 11 => .int
  | 12 => .int
  | 13 => .array .int
  | _ => .int
abbrev wsX20 : List Cond := u_ws RX2 TX2 15
theorem nmX2 : ∀ a, a < 15 → ∀ b, b < 15 → a ≠ b → (TX2 a).2.1 ≠ (TX2 b).2.1 := by decide +kernel
theorem tyX2_ok : ∀ k, k < 15 → parseFieldDescriptor (TX2 k).2.2.1 = some (tyX2 k) := by decide +kernel
abbrev cX2_init : ByteArray := prog_4_method_1_code
def yX2_init : MethodName := ⟨RX2, "<init>", "(LApronStrings$Law;LApronStrings$Law;)V"⟩
abbrev cX2_copy : ByteArray := prog_4_method_2_code
def yX2_copy : MethodName := ⟨RX2, "copy", "(LApronStrings$Road;)V"⟩
abbrev cX2_add : ByteArray := prog_4_method_3_code
def yX2_add : MethodName := ⟨RX2, "add", "(IIII)I"⟩
abbrev cX2_isTied : ByteArray := prog_4_method_4_code
def yX2_isTied : MethodName := ⟨RX2, "isTied", "(I)Z"⟩
abbrev cX2_tied : ByteArray := prog_4_method_5_code
def yX2_tied : MethodName := ⟨RX2, "tied", "()I"⟩
abbrev cX2_untie : ByteArray := prog_4_method_6_code
def yX2_untie : MethodName := ⟨RX2, "untie", "(I)V"⟩
abbrev cX2_apart : ByteArray := prog_4_method_7_code
def yX2_apart : MethodName := ⟨RX2, "apart", "(I)I"⟩
abbrev cX2_sum : ByteArray := prog_4_method_8_code
def yX2_sum : MethodName := ⟨RX2, "sum", "([I)I"⟩
abbrev cX2_lineOf : ByteArray := prog_4_method_9_code
def yX2_lineOf : MethodName := ⟨RX2, "lineOf", "(I)I"⟩
abbrev cX2_outUpTo : ByteArray := prog_4_method_10_code
def yX2_outUpTo : MethodName := ⟨RX2, "outUpTo", "(II)I"⟩
abbrev cX2_low : ByteArray := prog_4_method_11_code
def yX2_low : MethodName := ⟨RX2, "low", "(I)I"⟩
abbrev cX2_high : ByteArray := prog_4_method_12_code
def yX2_high : MethodName := ⟨RX2, "high", "(I)I"⟩
abbrev cX2_stringsOver : ByteArray := prog_4_method_13_code
def yX2_stringsOver : MethodName := ⟨RX2, "stringsOver", "(I)I"⟩
abbrev cX2_cross : ByteArray := prog_4_method_14_code
def yX2_cross : MethodName := ⟨RX2, "cross", "(II)Z"⟩
abbrev cX2_doesNow : ByteArray := prog_4_method_15_code
def yX2_doesNow : MethodName := ⟨RX2, "doesNow", "(I)I"⟩
abbrev cX2_goesNow : ByteArray := prog_4_method_16_code
def yX2_goesNow : MethodName := ⟨RX2, "goesNow", "(I)I"⟩
abbrev cX2_yielding : ByteArray := prog_4_method_17_code
def yX2_yielding : MethodName := ⟨RX2, "yielding", "(I)I"⟩
abbrev cX2_hasChildren : ByteArray := prog_4_method_18_code
def yX2_hasChildren : MethodName := ⟨RX2, "hasChildren", "(I)Z"⟩
abbrev cX2_steps : ByteArray := prog_4_method_19_code
def yX2_steps : MethodName := ⟨RX2, "steps", "(I)I"⟩
abbrev cX2_pass : ByteArray := prog_4_method_20_code
def yX2_pass : MethodName := ⟨RX2, "pass", "(I)V"⟩
abbrev cX2_passDay : ByteArray := prog_4_method_21_code
def yX2_passDay : MethodName := ⟨RX2, "passDay", "()V"⟩
abbrev cX2_drawPlace : ByteArray := prog_4_method_22_code
def yX2_drawPlace : MethodName := ⟨RX2, "drawPlace", "()V"⟩
abbrev cX2_draw : ByteArray := prog_4_method_23_code
def yX2_draw : MethodName := ⟨RX2, "draw", "()I"⟩
abbrev cX2_step : ByteArray := prog_4_method_24_code
def yX2_step : MethodName := ⟨RX2, "step", "(II)Z"⟩
abbrev cX2_keep : ByteArray := prog_4_method_25_code
def yX2_keep : MethodName := ⟨RX2, "keep", "()V"⟩
abbrev cX2_putBack : ByteArray := prog_4_method_26_code
def yX2_putBack : MethodName := ⟨RX2, "putBack", "()V"⟩
abbrev cX2_leastTooShort : ByteArray := prog_4_method_27_code
def yX2_leastTooShort : MethodName := ⟨RX2, "leastTooShort", "()I"⟩
abbrev cX2_unmovedEnd : ByteArray := prog_4_method_28_code
def yX2_unmovedEnd : MethodName := ⟨RX2, "unmovedEnd", "(I)I"⟩
abbrev cX2_pull : ByteArray := prog_4_method_29_code
def yX2_pull : MethodName := ⟨RX2, "pull", "(III)V"⟩
abbrev cX2_letOut : ByteArray := prog_4_method_30_code
def yX2_letOut : MethodName := ⟨RX2, "letOut", "(II)V"⟩
abbrev cX2_sever : ByteArray := prog_4_method_31_code
def yX2_sever : MethodName := ⟨RX2, "sever", "(I)V"⟩
abbrev cX2_come : ByteArray := prog_4_method_32_code
def yX2_come : MethodName := ⟨RX2, "come", "(II)V"⟩
def RX3 : String := "ApronStrings$Row"
def TX3 : u_T := fun k => match k with
  | 0 => ("ApronStrings$Row", "numbers", "[I", true)
  | _ => ("ApronStrings$Row", "many", "I", false)
def tyX3 : Nat → FieldType := fun k => match k with
  | 0 => .array .int
  | _ => .int
abbrev wsX30 : List Cond := u_ws RX3 TX3 2
theorem nmX3 : ∀ a, a < 2 → ∀ b, b < 2 → a ≠ b → (TX3 a).2.1 ≠ (TX3 b).2.1 := by decide +kernel
theorem tyX3_ok : ∀ k, k < 2 → parseFieldDescriptor (TX3 k).2.2.1 = some (tyX3 k) := by decide +kernel
abbrev cX3_init : ByteArray := prog_5_method_1_code
def yX3_init : MethodName := ⟨RX3, "<init>", "(I)V"⟩
abbrev cX3_add : ByteArray := prog_5_method_2_code
def yX3_add : MethodName := ⟨RX3, "add", "(I)V"⟩
abbrev cX3_copy : ByteArray := prog_5_method_3_code
def yX3_copy : MethodName := ⟨RX3, "copy", "(LApronStrings$Row;)V"⟩
def RX4 : String := "ApronStrings$Sheet"
def TX4 : u_T := fun k => match k with
  | 0 => ("ApronStrings$Sheet", "numbers", "[I", true)
  | 1 => ("ApronStrings$Sheet", "many", "I", false)
  | _ => ("ApronStrings$Sheet", "bits", "I", false)
def tyX4 : Nat → FieldType := fun k => match k with
  | 0 => .array .int
  | 1 => .int
  | _ => .int
abbrev wsX40 : List Cond := u_ws RX4 TX4 3
theorem nmX4 : ∀ a, a < 3 → ∀ b, b < 3 → a ≠ b → (TX4 a).2.1 ≠ (TX4 b).2.1 := by decide +kernel
theorem tyX4_ok : ∀ k, k < 3 → parseFieldDescriptor (TX4 k).2.2.1 = some (tyX4 k) := by decide +kernel
abbrev cX4_init : ByteArray := prog_6_method_1_code
def yX4_init : MethodName := ⟨RX4, "<init>", "()V"⟩
abbrev cX4_isMissing : ByteArray := prog_6_method_2_code
def yX4_isMissing : MethodName := ⟨RX4, "isMissing", "()Z"⟩
abbrev cX4_clear : ByteArray := prog_6_method_3_code
def yX4_clear : MethodName := ⟨RX4, "clear", "(II)V"⟩
abbrev cX4_write : ByteArray := prog_6_method_4_code
def yX4_write : MethodName := ⟨RX4, "write", "(II)V"⟩
abbrev cX4_hasRun : ByteArray := prog_6_method_5_code
def yX4_hasRun : MethodName := ⟨RX4, "hasRun", "(II)Z"⟩
def RX5 : String := "ApronStrings$State"
def TX5 : u_T := fun k => match k with
  | 0 => ("ApronStrings$State", "does", "LApronStrings$Law;", true)
  | 1 => ("ApronStrings$State", "goes", "LApronStrings$Law;", true)
  | 2 => ("ApronStrings$State", "road", "LApronStrings$Road;", true)
  | 3 => ("ApronStrings$State", "tape", "LApronStrings$Row;", true)
  | _ => ("ApronStrings$State", "waiting", "LApronStrings$Row;", true)
def tyX5 : Nat → FieldType := fun k => match k with
  | 0 => .object "ApronStrings$Law"
  | 1 => .object "ApronStrings$Law"
  | 2 => .object "ApronStrings$Road"
  | 3 => .object "ApronStrings$Row"
  | _ => .object "ApronStrings$Row"
abbrev wsX50 : List Cond := u_ws RX5 TX5 5
theorem nmX5 : ∀ a, a < 5 → ∀ b, b < 5 → a ≠ b → (TX5 a).2.1 ≠ (TX5 b).2.1 := by decide +kernel
theorem tyX5_ok : ∀ k, k < 5 → parseFieldDescriptor (TX5 k).2.2.1 = some (tyX5 k) := by decide +kernel
abbrev cX5_init : ByteArray := prog_7_method_1_code
def yX5_init : MethodName := ⟨RX5, "<init>", "()V"⟩
abbrev cX5_copy : ByteArray := prog_7_method_2_code
def yX5_copy : MethodName := ⟨RX5, "copy", "(LApronStrings$State;)V"⟩
def RX6 : String := "ApronStrings$Voices"
def TX6 : u_T := fun k => match k with
  | 0 => ("ApronStrings$Voices", "trace", "[I", true)
  | 1 => ("ApronStrings$Voices", "many", "I", false)
  | 2 => ("ApronStrings$Voices", "parted", "Z", false)
  | 3 => ("ApronStrings$Voices", "kind", "I", false)
  | 4 => ("ApronStrings$Voices", "k", "I", false)
  | _ => ("ApronStrings$Voices", "m", "I", false)
def tyX6 : Nat → FieldType := fun k => match k with
  | 0 => .array .int
  | 1 => .int
  | 2 => .boolean
  | 3 => .int
  | 4 => .int
  | _ => .int
abbrev wsX60 : List Cond := u_ws RX6 TX6 6
theorem nmX6 : ∀ a, a < 6 → ∀ b, b < 6 → a ≠ b → (TX6 a).2.1 ≠ (TX6 b).2.1 := by decide +kernel
theorem tyX6_ok : ∀ k, k < 6 → parseFieldDescriptor (TX6 k).2.2.1 = some (tyX6 k) := by decide +kernel
abbrev cX6_init : ByteArray := prog_8_method_1_code
def yX6_init : MethodName := ⟨RX6, "<init>", "()V"⟩
abbrev cX6_isUnder : ByteArray := prog_8_method_2_code
def yX6_isUnder : MethodName := ⟨RX6, "isUnder", "(II)Z"⟩
abbrev cX6_begin : ByteArray := prog_8_method_3_code
def yX6_begin : MethodName := ⟨RX6, "begin", "(IIIII)I"⟩
abbrev cX6_speak : ByteArray := prog_8_method_4_code
def yX6_speak : MethodName := ⟨RX6, "speak", "(IIII)I"⟩
abbrev cX6_speakMother : ByteArray := prog_8_method_5_code
def yX6_speakMother : MethodName := ⟨RX6, "speakMother", "(III)I"⟩
abbrev cX6_speakOther : ByteArray := prog_8_method_6_code
def yX6_speakOther : MethodName := ⟨RX6, "speakOther", "(III)I"⟩
abbrev cX6_bodyOf : ByteArray := prog_8_method_7_code
def yX6_bodyOf : MethodName := ⟨RX6, "bodyOf", "(II)I"⟩
def RX7 : String := "ApronStrings"
def TX7 : u_T := fun k => match k with
  | 0 => ("ApronStrings", "now", "LApronStrings$State;", true)
  | 1 => ("ApronStrings", "kept", "LApronStrings$State;", true)
  | 2 => ("ApronStrings", "road", "LApronStrings$Road;", true)
  | 3 => ("ApronStrings", "thought", "LApronStrings$Road;", true)
  | 4 => ("ApronStrings", "reader", "LApronStrings$Reader;", true)
  | 5 => ("ApronStrings", "voices", "LApronStrings$Voices;", true)
  | 6 => ("ApronStrings", "sheets", "[LApronStrings$Sheet;", true)
  | 7 => ("ApronStrings", "errors", "[I", true)
  | _ => ("ApronStrings", "images", "I", false)
def tyX7 : Nat → FieldType := fun k => match k with
  | 0 => .object "ApronStrings$State"
  | 1 => .object "ApronStrings$State"
  | 2 => .object "ApronStrings$Road"
  | 3 => .object "ApronStrings$Road"
  | 4 => .object "ApronStrings$Reader"
  | 5 => .object "ApronStrings$Voices"
  | 6 => .array (.object "ApronStrings$Sheet")
  | 7 => .array .int
  | _ => .int
abbrev wsX70 : List Cond := u_ws RX7 TX7 9
theorem nmX7 : ∀ a, a < 9 → ∀ b, b < 9 → a ≠ b → (TX7 a).2.1 ≠ (TX7 b).2.1 := by decide +kernel
theorem tyX7_ok : ∀ k, k < 9 → parseFieldDescriptor (TX7 k).2.2.1 = some (tyX7 k) := by decide +kernel
abbrev cX7_init : ByteArray := prog_1_method_1_code
def yX7_init : MethodName := ⟨RX7, "<init>", "()V"⟩
abbrev cX7_one : ByteArray := prog_1_method_2_code
def yX7_one : MethodName := ⟨RX7, "one", "(IIII)I"⟩
abbrev cX7_oneIs : ByteArray := prog_1_method_3_code
def yX7_oneIs : MethodName := ⟨RX7, "oneIs", "(II)I"⟩
abbrev cX7_become : ByteArray := prog_1_method_4_code
def yX7_become : MethodName := ⟨RX7, "become", "(II)I"⟩
abbrev cX7_as : ByteArray := prog_1_method_5_code
def yX7_as : MethodName := ⟨RX7, "as", "(II)I"⟩
abbrev cX7_reel : ByteArray := prog_1_method_6_code
def yX7_reel : MethodName := ⟨RX7, "reel", "(II)I"⟩
abbrev cX7_cut : ByteArray := prog_1_method_7_code
def yX7_cut : MethodName := ⟨RX7, "cut", "(I)I"⟩
abbrev cX7_list : ByteArray := prog_1_method_8_code
def yX7_list : MethodName := ⟨RX7, "list", "(III)I"⟩
abbrev cX7_listed : ByteArray := prog_1_method_9_code
def yX7_listed : MethodName := ⟨RX7, "listed", "(I)I"⟩
abbrev cX7_feed : ByteArray := prog_1_method_10_code
def yX7_feed : MethodName := ⟨RX7, "feed", "(JI)I"⟩
abbrev cX7_text : ByteArray := prog_1_method_11_code
def yX7_text : MethodName := ⟨RX7, "text", "(I)I"⟩
abbrev cX7_untell : ByteArray := prog_1_method_12_code
def yX7_untell : MethodName := ⟨RX7, "untell", "(I)I"⟩
abbrev cX7_law : ByteArray := prog_1_method_13_code
def yX7_law : MethodName := ⟨RX7, "law", "(IIII)I"⟩
abbrev cX7_days : ByteArray := prog_1_method_14_code
def yX7_days : MethodName := ⟨RX7, "days", "(I)I"⟩
abbrev cX7_loose : ByteArray := prog_1_method_15_code
def yX7_loose : MethodName := ⟨RX7, "loose", "(I)I"⟩
abbrev cX7_day : ByteArray := prog_1_method_16_code
def yX7_day : MethodName := ⟨RX7, "day", "(I)I"⟩
abbrev cX7_seed : ByteArray := prog_1_method_17_code
def yX7_seed : MethodName := ⟨RX7, "seed", "(I)I"⟩
abbrev cX7_line : ByteArray := prog_1_method_18_code
def yX7_line : MethodName := ⟨RX7, "line", "(I)I"⟩
abbrev cX7_between : ByteArray := prog_1_method_19_code
def yX7_between : MethodName := ⟨RX7, "between", "(II)I"⟩
abbrev cX7_over : ByteArray := prog_1_method_20_code
def yX7_over : MethodName := ⟨RX7, "over", "(I)I"⟩
abbrev cX7_knot : ByteArray := prog_1_method_21_code
def yX7_knot : MethodName := ⟨RX7, "knot", "(I)I"⟩
abbrev cX7_crossings : ByteArray := prog_1_method_22_code
def yX7_crossings : MethodName := ⟨RX7, "crossings", "()I"⟩
abbrev cX7_then : ByteArray := prog_1_method_23_code
def yX7_then : MethodName := ⟨RX7, "then", "(II)I"⟩
abbrev cX7_strings : ByteArray := prog_1_method_24_code
def yX7_strings : MethodName := ⟨RX7, "strings", "(I)I"⟩
abbrev cX7_soonest : ByteArray := prog_1_method_25_code
def yX7_soonest : MethodName := ⟨RX7, "soonest", "(II)I"⟩
abbrev cX7_spareFor : ByteArray := prog_1_method_26_code
def yX7_spareFor : MethodName := ⟨RX7, "spareFor", "(II)I"⟩
abbrev cX7_freeFor : ByteArray := prog_1_method_27_code
def yX7_freeFor : MethodName := ⟨RX7, "freeFor", "(II)I"⟩
abbrev cX7_odds : ByteArray := prog_1_method_28_code
def yX7_odds : MethodName := ⟨RX7, "odds", "(III)I"⟩
abbrev cX7_fits : ByteArray := prog_1_method_29_code
def yX7_fits : MethodName := ⟨RX7, "fits", "(III)I"⟩
abbrev cX7_voice : ByteArray := prog_1_method_30_code
def yX7_voice : MethodName := ⟨RX7, "voice", "(III)I"⟩
abbrev cX7_body : ByteArray := prog_1_method_31_code
def yX7_body : MethodName := ⟨RX7, "body", "(I)I"⟩
abbrev cX7_sheet : ByteArray := prog_1_method_32_code
def yX7_sheet : MethodName := ⟨RX7, "sheet", "(III)I"⟩
abbrev cX7_put : ByteArray := prog_1_method_33_code
def yX7_put : MethodName := ⟨RX7, "put", "(III)I"⟩
abbrev cX7_move : ByteArray := prog_1_method_34_code
def yX7_move : MethodName := ⟨RX7, "move", "(IIIII)I"⟩
abbrev cX7_reels : ByteArray := prog_1_method_35_code
def yX7_reels : MethodName := ⟨RX7, "reels", "(I)I"⟩
abbrev cX7_judge : ByteArray := prog_1_method_36_code
def yX7_judge : MethodName := ⟨RX7, "judge", "(I)I"⟩
abbrev cX7_image : ByteArray := prog_1_method_37_code
def yX7_image : MethodName := ⟨RX7, "image", "()I"⟩
abbrev cX7_restore : ByteArray := prog_1_method_38_code
def yX7_restore : MethodName := ⟨RX7, "restore", "()I"⟩
abbrev cX7_tell : ByteArray := prog_1_method_39_code
def yX7_tell : MethodName := ⟨RX7, "tell", "(I)I"⟩
abbrev cX7_check : ByteArray := prog_1_method_40_code
def yX7_check : MethodName := ⟨RX7, "check", "()I"⟩
abbrev cX7_count : ByteArray := prog_1_method_41_code
def yX7_count : MethodName := ⟨RX7, "count", "(I)I"⟩
abbrev cX7_told : ByteArray := prog_1_method_42_code
def yX7_told : MethodName := ⟨RX7, "told", "(I)I"⟩
abbrev cX7_refuse : ByteArray := prog_1_method_43_code
def yX7_refuse : MethodName := ⟨RX7, "refuse", "(I)I"⟩
abbrev cX7_within : ByteArray := prog_1_method_44_code
def yX7_within : MethodName := ⟨RX7, "within", "(II)Z"⟩
abbrev cX7_isThere : ByteArray := prog_1_method_45_code
def yX7_isThere : MethodName := ⟨RX7, "isThere", "(I)Z"⟩
abbrev cX7_isSheet : ByteArray := prog_1_method_46_code
def yX7_isSheet : MethodName := ⟨RX7, "isSheet", "(I)Z"⟩
abbrev cX7_lawOf : ByteArray := prog_1_method_47_code
def yX7_lawOf : MethodName := ⟨RX7, "lawOf", "(I)LApronStrings$Law;"⟩
abbrev cX7_staysTied : ByteArray := prog_1_method_48_code
def yX7_staysTied : MethodName := ⟨RX7, "staysTied", "(III)Z"⟩
abbrev cX7_cellWithout : ByteArray := prog_1_method_49_code
def yX7_cellWithout : MethodName := ⟨RX7, "cellWithout", "(III)I"⟩
abbrev cX7_wentSo : ByteArray := prog_1_method_50_code
def yX7_wentSo : MethodName := ⟨RX7, "wentSo", "(LApronStrings$Sheet;II)Z"⟩
def RX8 : String := "ApronStringsModel"
def TX8 : u_T := fun k => match k with
  | 0 => ("ApronStringsModel", "s", "[I", true)
  | 1 => ("ApronStringsModel", "kept", "[I", true)
  | 2 => ("ApronStringsModel", "beside", "[I", true)
  | 3 => ("ApronStringsModel", "ahead", "[I", true)
  | 4 => ("ApronStringsModel", "images", "I", false)
  | 5 => ("ApronStringsModel", "errors", "[I", true)
  | 6 => ("ApronStringsModel", "at", "I", false)
  | 7 => ("ApronStringsModel", "open", "I", false)
  | 8 => ("ApronStringsModel", "steps", "I", false)
  | 9 => ("ApronStringsModel", "use", "I", false)
  | 10 => ("ApronStringsModel", "step", "[I", true)
  | 11 => ("ApronStringsModel", "named", "[I", true)
  | 12 => ("ApronStringsModel", "pile", "[I", true)
  | 13 => ("ApronStringsModel", "moved", "I", false)
  | 14 => ("ApronStringsModel", "traced", "I", false)
  | 15 => ("ApronStringsModel", "trace", "[I", true)
  | 16 => ("ApronStringsModel", "speaks", "I", false)
  | 17 => ("ApronStringsModel", "isParted", "Z", false)
  | 18 => ("ApronStringsModel", "bits", "[I", true)
  | 19 => ("ApronStringsModel", "sizes", "[I", true)
  | 20 => ("ApronStringsModel", "number", "[I", true)
  | _ => ("ApronStringsModel", "aside", "[I", true)
def tyX8 : Nat → FieldType := fun k => match k with
  | 0 => .array .int
  | 1 => .array .int
  | 2 => .array .int
  | 3 => .array .int
  | 4 => .int
  | 5 => .array .int
  | 6 => .int
  | 7 => .int
  | 8 => .int
  | 9 => .int
  | 10 => .array .int
  | 11 => .array .int
  | 12 => .array .int
  | 13 => .int
  | 14 => .int
  | 15 => .array .int
  | 16 => .int
  | 17 => .boolean
  | 18 => .array .int
  | 19 => .array .int
  | 20 => .array .int
  | _ => .array .int
abbrev wsX80 : List Cond := u_ws RX8 TX8 22
theorem nmX8 : ∀ a, a < 22 → ∀ b, b < 22 → a ≠ b → (TX8 a).2.1 ≠ (TX8 b).2.1 := by decide +kernel
theorem tyX8_ok : ∀ k, k < 22 → parseFieldDescriptor (TX8 k).2.2.1 = some (tyX8 k) := by decide +kernel
abbrev cX8_init : ByteArray := prog_10_method_1_code
def yX8_init : MethodName := ⟨RX8, "<init>", "()V"⟩
abbrev cX8_error : ByteArray := prog_10_method_2_code
def yX8_error : MethodName := ⟨RX8, "error", "(I)I"⟩
abbrev cX8_in : ByteArray := prog_10_method_3_code
def yX8_in : MethodName := ⟨RX8, "in", "(III)Z"⟩
abbrev cX8_held : ByteArray := prog_10_method_4_code
def yX8_held : MethodName := ⟨RX8, "held", "(III)I"⟩
abbrev cX8_copyAll : ByteArray := prog_10_method_5_code
def yX8_copyAll : MethodName := ⟨RX8, "copyAll", "([I[I)V"⟩
abbrev cX8_saves : ByteArray := prog_10_method_6_code
def yX8_saves : MethodName := ⟨RX8, "saves", "()V"⟩
abbrev cX8_putsBack : ByteArray := prog_10_method_7_code
def yX8_putsBack : MethodName := ⟨RX8, "putsBack", "()V"⟩
abbrev cX8_isOne : ByteArray := prog_10_method_8_code
def yX8_isOne : MethodName := ⟨RX8, "isOne", "(I)Z"⟩
abbrev cX8_isCell : ByteArray := prog_10_method_9_code
def yX8_isCell : MethodName := ⟨RX8, "isCell", "(I)Z"⟩
abbrev cX8_its : ByteArray := prog_10_method_10_code
def yX8_its : MethodName := ⟨RX8, "its", "(II)I"⟩
abbrev cX8_lays1 : ByteArray := prog_10_method_11_code
def yX8_lays1 : MethodName := ⟨RX8, "lays1", "(III)V"⟩
abbrev cX8_change1 : ByteArray := prog_10_method_12_code
def yX8_change1 : MethodName := ⟨RX8, "change1", "(II)I"⟩
abbrev cX8_isTied : ByteArray := prog_10_method_13_code
def yX8_isTied : MethodName := ⟨RX8, "isTied", "(I)Z"⟩
abbrev cX8_feed : ByteArray := prog_10_method_14_code
def yX8_feed : MethodName := ⟨RX8, "feed", "(JI)I"⟩
abbrev cX8_look : ByteArray := prog_10_method_15_code
def yX8_look : MethodName := ⟨RX8, "look", "()I"⟩
abbrev cX8_isName : ByteArray := prog_10_method_16_code
def yX8_isName : MethodName := ⟨RX8, "isName", "(I)Z"⟩
abbrev cX8_step1 : ByteArray := prog_10_method_17_code
def yX8_step1 : MethodName := ⟨RX8, "step1", "(II)V"⟩
abbrev cX8_whole : ByteArray := prog_10_method_18_code
def yX8_whole : MethodName := ⟨RX8, "whole", "()Z"⟩
abbrev cX8_both : ByteArray := prog_10_method_19_code
def yX8_both : MethodName := ⟨RX8, "both", "()Z"⟩
abbrev cX8_compared : ByteArray := prog_10_method_20_code
def yX8_compared : MethodName := ⟨RX8, "compared", "()Z"⟩
abbrev cX8_sum : ByteArray := prog_10_method_21_code
def yX8_sum : MethodName := ⟨RX8, "sum", "()Z"⟩
abbrev cX8_product : ByteArray := prog_10_method_22_code
def yX8_product : MethodName := ⟨RX8, "product", "()Z"⟩
abbrev cX8_opens : ByteArray := prog_10_method_23_code
def yX8_opens : MethodName := ⟨RX8, "opens", "()Z"⟩
abbrev cX8_one : ByteArray := prog_10_method_24_code
def yX8_one : MethodName := ⟨RX8, "one", "()Z"⟩
abbrev cX8_hasText : ByteArray := prog_10_method_25_code
def yX8_hasText : MethodName := ⟨RX8, "hasText", "(I)Z"⟩
abbrev cX8_text : ByteArray := prog_10_method_26_code
def yX8_text : MethodName := ⟨RX8, "text", "(I)I"⟩
abbrev cX8_untell : ByteArray := prog_10_method_27_code
def yX8_untell : MethodName := ⟨RX8, "untell", "(I)I"⟩
abbrev cX8_joined : ByteArray := prog_10_method_28_code
def yX8_joined : MethodName := ⟨RX8, "joined", "(III)I"⟩
abbrev cX8_worked : ByteArray := prog_10_method_29_code
def yX8_worked : MethodName := ⟨RX8, "worked", "(I)I"⟩
abbrev cX8_hasChildren : ByteArray := prog_10_method_30_code
def yX8_hasChildren : MethodName := ⟨RX8, "hasChildren", "(I)Z"⟩
abbrev cX8_yieldsOf : ByteArray := prog_10_method_31_code
def yX8_yieldsOf : MethodName := ⟨RX8, "yieldsOf", "(I)I"⟩
abbrev cX8_stepsOf : ByteArray := prog_10_method_32_code
def yX8_stepsOf : MethodName := ⟨RX8, "stepsOf", "(I)I"⟩
abbrev cX8_restOf : ByteArray := prog_10_method_33_code
def yX8_restOf : MethodName := ⟨RX8, "restOf", "(I)I"⟩
abbrev cX8_givenBy : ByteArray := prog_10_method_34_code
def yX8_givenBy : MethodName := ⟨RX8, "givenBy", "(IIII)I"⟩
abbrev cX8_doesNow : ByteArray := prog_10_method_35_code
def yX8_doesNow : MethodName := ⟨RX8, "doesNow", "(I)I"⟩
abbrev cX8_goesNow : ByteArray := prog_10_method_36_code
def yX8_goesNow : MethodName := ⟨RX8, "goesNow", "(I)I"⟩
abbrev cX8_off : ByteArray := prog_10_method_37_code
def yX8_off : MethodName := ⟨RX8, "off", "(II)I"⟩
abbrev cX8_apartOf : ByteArray := prog_10_method_38_code
def yX8_apartOf : MethodName := ⟨RX8, "apartOf", "(I)I"⟩
abbrev cX8_tooShort : ByteArray := prog_10_method_39_code
def yX8_tooShort : MethodName := ⟨RX8, "tooShort", "()I"⟩
abbrev cX8_unties : ByteArray := prog_10_method_40_code
def yX8_unties : MethodName := ⟨RX8, "unties", "(I)V"⟩
abbrev cX8_cutsIt : ByteArray := prog_10_method_41_code
def yX8_cutsIt : MethodName := ⟨RX8, "cutsIt", "(I)V"⟩
abbrev cX8_spares : ByteArray := prog_10_method_42_code
def yX8_spares : MethodName := ⟨RX8, "spares", "(II)V"⟩
abbrev cX8_comesNearer : ByteArray := prog_10_method_43_code
def yX8_comesNearer : MethodName := ⟨RX8, "comesNearer", "(II)V"⟩
abbrev cX8_seesTo : ByteArray := prog_10_method_44_code
def yX8_seesTo : MethodName := ⟨RX8, "seesTo", "(I)Z"⟩
abbrev cX8_oneStep : ByteArray := prog_10_method_45_code
def yX8_oneStep : MethodName := ⟨RX8, "oneStep", "(II)Z"⟩
abbrev cX8_day1 : ByteArray := prog_10_method_46_code
def yX8_day1 : MethodName := ⟨RX8, "day1", "()V"⟩
abbrev cX8_goesOn : ByteArray := prog_10_method_47_code
def yX8_goesOn : MethodName := ⟨RX8, "goesOn", "(I)V"⟩
abbrev cX8_tiedNow : ByteArray := prog_10_method_48_code
def yX8_tiedNow : MethodName := ⟨RX8, "tiedNow", "()I"⟩
abbrev cX8_sumOf : ByteArray := prog_10_method_49_code
def yX8_sumOf : MethodName := ⟨RX8, "sumOf", "(I)I"⟩
abbrev cX8_isKm : ByteArray := prog_10_method_50_code
def yX8_isKm : MethodName := ⟨RX8, "isKm", "(I)Z"⟩
abbrev cX8_one_ : ByteArray := prog_10_method_51_code
def yX8_one_ : MethodName := ⟨RX8, "one", "(IIII)I"⟩
abbrev cX8_oneIs : ByteArray := prog_10_method_52_code
def yX8_oneIs : MethodName := ⟨RX8, "oneIs", "(II)I"⟩
abbrev cX8_become : ByteArray := prog_10_method_53_code
def yX8_become : MethodName := ⟨RX8, "become", "(II)I"⟩
abbrev cX8_as : ByteArray := prog_10_method_54_code
def yX8_as : MethodName := ⟨RX8, "as", "(II)I"⟩
abbrev cX8_reel : ByteArray := prog_10_method_55_code
def yX8_reel : MethodName := ⟨RX8, "reel", "(II)I"⟩
abbrev cX8_cut : ByteArray := prog_10_method_56_code
def yX8_cut : MethodName := ⟨RX8, "cut", "(I)I"⟩
abbrev cX8_isPlace : ByteArray := prog_10_method_57_code
def yX8_isPlace : MethodName := ⟨RX8, "isPlace", "(I)Z"⟩
abbrev cX8_list : ByteArray := prog_10_method_58_code
def yX8_list : MethodName := ⟨RX8, "list", "(III)I"⟩
abbrev cX8_listed : ByteArray := prog_10_method_59_code
def yX8_listed : MethodName := ⟨RX8, "listed", "(I)I"⟩
abbrev cX8_law : ByteArray := prog_10_method_60_code
def yX8_law : MethodName := ⟨RX8, "law", "(IIII)I"⟩
abbrev cX8_days : ByteArray := prog_10_method_61_code
def yX8_days : MethodName := ⟨RX8, "days", "(I)I"⟩
abbrev cX8_draw : ByteArray := prog_10_method_62_code
def yX8_draw : MethodName := ⟨RX8, "draw", "()I"⟩
abbrev cX8_loose : ByteArray := prog_10_method_63_code
def yX8_loose : MethodName := ⟨RX8, "loose", "(I)I"⟩
abbrev cX8_day : ByteArray := prog_10_method_64_code
def yX8_day : MethodName := ⟨RX8, "day", "(I)I"⟩
abbrev cX8_seed : ByteArray := prog_10_method_65_code
def yX8_seed : MethodName := ⟨RX8, "seed", "(I)I"⟩
abbrev cX8_lineOf : ByteArray := prog_10_method_66_code
def yX8_lineOf : MethodName := ⟨RX8, "lineOf", "(I)I"⟩
abbrev cX8_line : ByteArray := prog_10_method_67_code
def yX8_line : MethodName := ⟨RX8, "line", "(I)I"⟩
abbrev cX8_outTo : ByteArray := prog_10_method_68_code
def yX8_outTo : MethodName := ⟨RX8, "outTo", "(II)I"⟩
abbrev cX8_between : ByteArray := prog_10_method_69_code
def yX8_between : MethodName := ⟨RX8, "between", "(II)I"⟩
abbrev cX8_lowEnd : ByteArray := prog_10_method_70_code
def yX8_lowEnd : MethodName := ⟨RX8, "lowEnd", "(I)I"⟩
abbrev cX8_highEnd : ByteArray := prog_10_method_71_code
def yX8_highEnd : MethodName := ⟨RX8, "highEnd", "(I)I"⟩
abbrev cX8_overAt : ByteArray := prog_10_method_72_code
def yX8_overAt : MethodName := ⟨RX8, "overAt", "(I)I"⟩
abbrev cX8_ones : ByteArray := prog_10_method_73_code
def yX8_ones : MethodName := ⟨RX8, "ones", "(I)I"⟩
abbrev cX8_over : ByteArray := prog_10_method_74_code
def yX8_over : MethodName := ⟨RX8, "over", "(I)I"⟩
abbrev cX8_knot : ByteArray := prog_10_method_75_code
def yX8_knot : MethodName := ⟨RX8, "knot", "(I)I"⟩
abbrev cX8_doCross : ByteArray := prog_10_method_76_code
def yX8_doCross : MethodName := ⟨RX8, "doCross", "(II)Z"⟩
abbrev cX8_crossings : ByteArray := prog_10_method_77_code
def yX8_crossings : MethodName := ⟨RX8, "crossings", "()I"⟩
abbrev cX8_then : ByteArray := prog_10_method_78_code
def yX8_then : MethodName := ⟨RX8, "then", "(II)I"⟩
abbrev cX8_strings : ByteArray := prog_10_method_79_code
def yX8_strings : MethodName := ⟨RX8, "strings", "(I)I"⟩
abbrev cX8_soonest : ByteArray := prog_10_method_80_code
def yX8_soonest : MethodName := ⟨RX8, "soonest", "(II)I"⟩
abbrev cX8_holdsWith : ByteArray := prog_10_method_81_code
def yX8_holdsWith : MethodName := ⟨RX8, "holdsWith", "(III)Z"⟩
abbrev cX8_spareFor : ByteArray := prog_10_method_82_code
def yX8_spareFor : MethodName := ⟨RX8, "spareFor", "(II)I"⟩
abbrev cX8_staysWithout : ByteArray := prog_10_method_83_code
def yX8_staysWithout : MethodName := ⟨RX8, "staysWithout", "(III)Z"⟩
abbrev cX8_freeFor : ByteArray := prog_10_method_84_code
def yX8_freeFor : MethodName := ⟨RX8, "freeFor", "(II)I"⟩
abbrev cX8_common : ByteArray := prog_10_method_85_code
def yX8_common : MethodName := ⟨RX8, "common", "(II)I"⟩
abbrev cX8_odds : ByteArray := prog_10_method_86_code
def yX8_odds : MethodName := ⟨RX8, "odds", "(III)I"⟩
abbrev cX8_fits : ByteArray := prog_10_method_87_code
def yX8_fits : MethodName := ⟨RX8, "fits", "(III)I"⟩
abbrev cX8_begins : ByteArray := prog_10_method_88_code
def yX8_begins : MethodName := ⟨RX8, "begins", "(I)V"⟩
abbrev cX8_above : ByteArray := prog_10_method_89_code
def yX8_above : MethodName := ⟨RX8, "above", "(I)I"⟩
abbrev cX8_kindNow : ByteArray := prog_10_method_90_code
def yX8_kindNow : MethodName := ⟨RX8, "kindNow", "()I"⟩
abbrev cX8_mNow : ByteArray := prog_10_method_91_code
def yX8_mNow : MethodName := ⟨RX8, "mNow", "()I"⟩
abbrev cX8_tiesAs : ByteArray := prog_10_method_92_code
def yX8_tiesAs : MethodName := ⟨RX8, "tiesAs", "(II)I"⟩
abbrev cX8_letsAs : ByteArray := prog_10_method_93_code
def yX8_letsAs : MethodName := ⟨RX8, "letsAs", "(II)I"⟩
abbrev cX8_pullsAs : ByteArray := prog_10_method_94_code
def yX8_pullsAs : MethodName := ⟨RX8, "pullsAs", "(II)I"⟩
abbrev cX8_partsAs : ByteArray := prog_10_method_95_code
def yX8_partsAs : MethodName := ⟨RX8, "partsAs", "(II)I"⟩
abbrev cX8_voice : ByteArray := prog_10_method_96_code
def yX8_voice : MethodName := ⟨RX8, "voice", "(III)I"⟩
abbrev cX8_body : ByteArray := prog_10_method_97_code
def yX8_body : MethodName := ⟨RX8, "body", "(I)I"⟩
abbrev cX8_isSheet : ByteArray := prog_10_method_98_code
def yX8_isSheet : MethodName := ⟨RX8, "isSheet", "(I)Z"⟩
abbrev cX8_sheet : ByteArray := prog_10_method_99_code
def yX8_sheet : MethodName := ⟨RX8, "sheet", "(III)I"⟩
abbrev cX8_put : ByteArray := prog_10_method_100_code
def yX8_put : MethodName := ⟨RX8, "put", "(III)I"⟩
abbrev cX8_move : ByteArray := prog_10_method_101_code
def yX8_move : MethodName := ⟨RX8, "move", "(IIIII)I"⟩
abbrev cX8_lacks : ByteArray := prog_10_method_102_code
def yX8_lacks : MethodName := ⟨RX8, "lacks", "(I)I"⟩
abbrev cX8_reels : ByteArray := prog_10_method_103_code
def yX8_reels : MethodName := ⟨RX8, "reels", "(I)I"⟩
abbrev cX8_judge : ByteArray := prog_10_method_104_code
def yX8_judge : MethodName := ⟨RX8, "judge", "(I)I"⟩
abbrev cX8_image : ByteArray := prog_10_method_105_code
def yX8_image : MethodName := ⟨RX8, "image", "()I"⟩
abbrev cX8_restore : ByteArray := prog_10_method_106_code
def yX8_restore : MethodName := ⟨RX8, "restore", "()I"⟩
abbrev cX8_tell : ByteArray := prog_10_method_107_code
def yX8_tell : MethodName := ⟨RX8, "tell", "(I)I"⟩
abbrev cX8_check : ByteArray := prog_10_method_108_code
def yX8_check : MethodName := ⟨RX8, "check", "()I"⟩
abbrev cX8_count : ByteArray := prog_10_method_109_code
def yX8_count : MethodName := ⟨RX8, "count", "(I)I"⟩
abbrev cX8_told : ByteArray := prog_10_method_110_code
def yX8_told : MethodName := ⟨RX8, "told", "(I)I"⟩
def RJ6 : String := "java/lang/Integer"
def TJ6 : u_T := fun k => match k with
  | _ => ("", "", "", false)
def tyJ6 : Nat → FieldType := fun k => match k with
  | _ => .int
abbrev wsJ60 : List Cond := u_ws RJ6 TJ6 0
theorem nmJ6 : ∀ a, a < 0 → ∀ b, b < 0 → a ≠ b → (TJ6 a).2.1 ≠ (TJ6 b).2.1 := by decide +kernel
theorem tyJ6_ok : ∀ k, k < 0 → parseFieldDescriptor (TJ6 k).2.2.1 = some (tyJ6 k) := by decide +kernel
abbrev cJ6_bitCount_0f7a4 : ByteArray := prog_11_method_49_code
def yJ6_bitCount_0f7a4 : MethodName := ⟨RJ6, "bitCount", "(I)I"⟩
def RJ9 : String := "java/lang/Math"
def TJ9 : u_T := fun k => match k with
  | _ => ("", "", "", false)
def tyJ9 : Nat → FieldType := fun k => match k with
  | _ => .int
abbrev wsJ90 : List Cond := u_ws RJ9 TJ9 0
theorem nmJ9 : ∀ a, a < 0 → ∀ b, b < 0 → a ≠ b → (TJ9 a).2.1 ≠ (TJ9 b).2.1 := by decide +kernel
theorem tyJ9_ok : ∀ k, k < 0 → parseFieldDescriptor (TJ9 k).2.2.1 = some (tyJ9 k) := by decide +kernel
abbrev cJ9_floorMod_7cf53 : ByteArray := prog_12_method_50_code
def yJ9_floorMod_7cf53 : MethodName := ⟨RJ9, "floorMod", "(II)I"⟩
abbrev cJ9_abs_0f7a4 : ByteArray := prog_12_method_59_code
def yJ9_abs_0f7a4 : MethodName := ⟨RJ9, "abs", "(I)I"⟩
abbrev cJ9_max_7cf53 : ByteArray := prog_12_method_65_code
def yJ9_max_7cf53 : MethodName := ⟨RJ9, "max", "(II)I"⟩
abbrev cJ9_min_7cf53 : ByteArray := prog_12_method_69_code
def yJ9_min_7cf53 : MethodName := ⟨RJ9, "min", "(II)I"⟩
def RJ10 : String := "java/lang/System"
def TJ10 : u_T := fun k => match k with
  | _ => ("", "", "", false)
def tyJ10 : Nat → FieldType := fun k => match k with
  | _ => .int
abbrev wsJ100 : List Cond := u_ws RJ10 TJ10 0
theorem nmJ10 : ∀ a, a < 0 → ∀ b, b < 0 → a ≠ b → (TJ10 a).2.1 ≠ (TJ10 b).2.1 := by decide +kernel
theorem tyJ10_ok : ∀ k, k < 0 → parseFieldDescriptor (TJ10 k).2.2.1 = some (tyJ10 k) := by decide +kernel
def RL : String := "ApronStringsLaw"
abbrev cL_law : ByteArray := code
def yL_law : MethodName := ⟨RL, "law", "([I)Z"⟩
abbrev vwCl : List vw_C := [(RX0, TX0, 4), (RX1, TX1, 6), (RX2, TX2, 15), (RX3, TX3, 2), (RX4, TX4, 3), (RX5, TX5, 5), (RX6, TX6, 6), (RX7, TX7, 9), (RX8, TX8, 22)]
end
section
/-! cells, fields, methods and calls of the class, the reference and the law, as tables (written by program from the printed names) -/
abbrev zA : Type := Int32 ⊕ (Int64 ⊕ (Nat × Nat))
abbrev zI (x : Int32) : zA := Sum.inl x
abbrev zL (x : Int64) : zA := Sum.inr (Sum.inl x)
abbrev zR (c i : Nat) : zA := Sum.inr (Sum.inr (c, i))
abbrev zS : Type := Nat → Nat → Nat → Int32
abbrev zO : Type := List (Option zA)
def zcnt : Nat → Nat
  | 0 => 4
  | 1 => 1
  | 2 => 3
  | 3 => 4
  | 4 => 4
  | 5 => 2
  | 6 => 1
  | 7 => 1
  | 8 => 1
  | 10 => 4
  | 11 => 4
  | 12 => 1
  | 13 => 1
  | 14 => 3
  | 15 => 3
  | 16 => 3
  | 17 => 3
  | 18 => 3
  | 19 => 3
  | 20 => 3
  | 21 => 3
  | 22 => 4
  | 23 => 4
  | 24 => 1
  | 25 => 1
  | 26 => 1
  | 30 => 1
  | 31 => 1
  | 32 => 1
  | 33 => 1
  | 34 => 1
  | 35 => 1
  | 36 => 1
  | 37 => 1
  | 38 => 1
  | 39 => 1
  | 40 => 1
  | 41 => 1
  | 42 => 1
  | _ => 0
def zpls : List (Nat × Nat) := [(0, 0), (0, 1), (0, 2), (0, 3), (1, 0), (2, 0), (2, 1), (2, 2), (3, 0), (3, 1), (3, 2), (3, 3), (4, 0), (4, 1), (4, 2), (4, 3), (5, 0), (5, 1), (6, 0), (7, 0), (8, 0), (10, 0), (10, 1), (10, 2), (10, 3), (11, 0), (11, 1), (11, 2), (11, 3), (12, 0), (13, 0), (14, 0), (14, 1), (14, 2), (15, 0), (15, 1), (15, 2), (16, 0), (16, 1), (16, 2), (17, 0), (17, 1), (17, 2), (18, 0), (18, 1), (18, 2), (19, 0), (19, 1), (19, 2), (20, 0), (20, 1), (20, 2), (21, 0), (21, 1), (21, 2), (22, 0), (22, 1), (22, 2), (22, 3), (23, 0), (23, 1), (23, 2), (23, 3), (24, 0), (25, 0), (26, 0), (30, 0), (31, 0), (32, 0), (33, 0), (34, 0), (35, 0), (36, 0), (37, 0), (38, 0), (39, 0), (40, 0), (41, 0), (42, 0)]
def znf : Nat → Nat
  | 0 => 4
  | 1 => 6
  | 2 => 15
  | 3 => 2
  | 4 => 3
  | 5 => 5
  | 6 => 6
  | 7 => 9
  | 8 => 22
  | _ => 0
/-- the cell that a field of references holds -/
def zfr : Nat → Nat → Nat → Option (Nat × Nat)
  | 0, 0, i => some (10, i)
  | 0, 3, i => some (11, i)
  | 1, 0, i => some (12, i)
  | 1, 2, i => some (13, i)
  | 2, 0, i => some (0, if i = 2 then 0 else 2 * i)
  | 2, 1, i => some (0, if i = 2 then 1 else 2 * i + 1)
  | 2, 2, i => some (14, i)
  | 2, 3, i => some (15, i)
  | 2, 4, i => some (16, i)
  | 2, 5, i => some (17, i)
  | 2, 6, i => some (18, i)
  | 2, 7, i => some (19, i)
  | 2, 8, i => some (20, i)
  | 2, 13, i => some (21, i)
  | 3, 0, i => some (22, i)
  | 4, 0, i => some (23, i)
  | 5, 0, i => some (0, 2 * i)
  | 5, 1, i => some (0, 2 * i + 1)
  | 5, 2, i => some (2, i)
  | 5, 3, i => some (3, 2 * i)
  | 5, 4, i => some (3, 2 * i + 1)
  | 6, 0, i => some (24, i)
  | 7, 0, i => some (5, 0)
  | 7, 1, i => some (5, 1)
  | 7, 2, i => some (2, 0)
  | 7, 3, i => some (2, 2)
  | 7, 4, i => some (1, 0)
  | 7, 5, i => some (6, 0)
  | 7, 6, i => some (25, i)
  | 7, 7, i => some (26, i)
  | 8, 0, i => some (30, i)
  | 8, 1, i => some (31, i)
  | 8, 2, i => some (32, i)
  | 8, 3, i => some (33, i)
  | 8, 5, i => some (34, i)
  | 8, 10, i => some (35, i)
  | 8, 11, i => some (36, i)
  | 8, 12, i => some (37, i)
  | 8, 15, i => some (38, i)
  | 8, 18, i => some (39, i)
  | 8, 19, i => some (40, i)
  | 8, 20, i => some (41, i)
  | 8, 21, i => some (42, i)
  | _, _, _ => none
def zfb : Nat → Nat → Bool
  | 1, 5 => true
  | 6, 2 => true
  | 8, 17 => true
  | _, _ => false
/-- how many numbers an array has (22: the rows of the tape and of what waits) -/
def zlen : Nat → Nat → Nat
  | 10, _ => 60
  | 11, _ => 61
  | 12, _ => 60
  | 13, _ => 60
  | 14, _ => 8
  | 15, _ => 8
  | 16, _ => 8
  | 17, _ => 8
  | 18, _ => 8
  | 19, _ => 8
  | 20, _ => 6
  | 21, _ => 33
  | 23, _ => 24
  | 24, _ => 30
  | 25, _ => 4
  | 26, _ => 7
  | 30, _ => 394
  | 31, _ => 394
  | 32, _ => 60
  | 33, _ => 60
  | 34, _ => 7
  | 35, _ => 124
  | 36, _ => 128
  | 37, _ => 64
  | 38, _ => 30
  | 39, _ => 4
  | 40, _ => 4
  | 41, _ => 96
  | 42, _ => 24
  | 22, i => if i % 2 = 0 then 60 else 24
  | _, _ => 0
def zC : Nat → String
  | 0 => RX0
  | 1 => RX1
  | 2 => RX2
  | 3 => RX3
  | 4 => RX4
  | 5 => RX5
  | 6 => RX6
  | 7 => RX7
  | 8 => RX8
  | 9 => RL
  | 10 => RJ6
  | 11 => RJ9
  | _ => RJ10
def zT : Nat → u_T
  | 0 => TX0
  | 1 => TX1
  | 2 => TX2
  | 3 => TX3
  | 4 => TX4
  | 5 => TX5
  | 6 => TX6
  | 7 => TX7
  | _ => TX8
def zty : Nat → Nat → FieldType
  | 0 => tyX0
  | 1 => tyX1
  | 2 => tyX2
  | 3 => tyX3
  | 4 => tyX4
  | 5 => tyX5
  | 6 => tyX6
  | 7 => tyX7
  | _ => tyX8
def zo : Nat → Nat
  | 0 => 0
  | 1 => 0
  | 2 => 0
  | 3 => 1
  | 4 => 1
  | 5 => 1
  | 6 => 1
  | 7 => 1
  | 8 => 1
  | 9 => 1
  | 10 => 1
  | 11 => 1
  | 12 => 1
  | 13 => 1
  | 14 => 1
  | 15 => 1
  | 16 => 1
  | 17 => 2
  | 18 => 2
  | 19 => 2
  | 20 => 2
  | 21 => 2
  | 22 => 2
  | 23 => 2
  | 24 => 2
  | 25 => 2
  | 26 => 2
  | 27 => 2
  | 28 => 2
  | 29 => 2
  | 30 => 2
  | 31 => 2
  | 32 => 2
  | 33 => 2
  | 34 => 2
  | 35 => 2
  | 36 => 2
  | 37 => 2
  | 38 => 2
  | 39 => 2
  | 40 => 2
  | 41 => 2
  | 42 => 2
  | 43 => 2
  | 44 => 2
  | 45 => 2
  | 46 => 2
  | 47 => 2
  | 48 => 3
  | 49 => 3
  | 50 => 4
  | 51 => 4
  | 52 => 4
  | 53 => 4
  | 54 => 5
  | 55 => 6
  | 56 => 6
  | 57 => 6
  | 58 => 6
  | 59 => 6
  | 60 => 6
  | 61 => 7
  | 62 => 7
  | 63 => 7
  | 64 => 7
  | 65 => 7
  | 66 => 7
  | 67 => 7
  | 68 => 7
  | 69 => 7
  | 70 => 7
  | 71 => 7
  | 72 => 7
  | 73 => 7
  | 74 => 7
  | 75 => 7
  | 76 => 7
  | 77 => 7
  | 78 => 7
  | 79 => 7
  | 80 => 7
  | 81 => 7
  | 82 => 7
  | 83 => 7
  | 84 => 7
  | 85 => 7
  | 86 => 7
  | 87 => 7
  | 88 => 7
  | 89 => 7
  | 90 => 7
  | 91 => 7
  | 92 => 7
  | 93 => 7
  | 94 => 7
  | 95 => 7
  | 96 => 7
  | 97 => 7
  | 98 => 7
  | 99 => 7
  | 100 => 7
  | 101 => 7
  | 102 => 7
  | 103 => 7
  | 104 => 7
  | 105 => 7
  | 106 => 7
  | 107 => 7
  | 108 => 7
  | 109 => 7
  | 110 => 8
  | 111 => 8
  | 112 => 8
  | 113 => 8
  | 114 => 8
  | 115 => 8
  | 116 => 8
  | 117 => 8
  | 118 => 8
  | 119 => 8
  | 120 => 8
  | 121 => 8
  | 122 => 8
  | 123 => 8
  | 124 => 8
  | 125 => 8
  | 126 => 8
  | 127 => 8
  | 128 => 8
  | 129 => 8
  | 130 => 8
  | 131 => 8
  | 132 => 8
  | 133 => 8
  | 134 => 8
  | 135 => 8
  | 136 => 8
  | 137 => 8
  | 138 => 8
  | 139 => 8
  | 140 => 8
  | 141 => 8
  | 142 => 8
  | 143 => 8
  | 144 => 8
  | 145 => 8
  | 146 => 8
  | 147 => 8
  | 148 => 8
  | 149 => 8
  | 150 => 8
  | 151 => 8
  | 152 => 8
  | 153 => 8
  | 154 => 8
  | 155 => 8
  | 156 => 8
  | 157 => 8
  | 158 => 8
  | 159 => 8
  | 160 => 8
  | 161 => 8
  | 162 => 8
  | 163 => 8
  | 164 => 8
  | 165 => 8
  | 166 => 8
  | 167 => 8
  | 168 => 8
  | 169 => 8
  | 170 => 8
  | 171 => 8
  | 172 => 8
  | 173 => 8
  | 174 => 8
  | 175 => 8
  | 176 => 8
  | 177 => 8
  | 178 => 8
  | 179 => 8
  | 180 => 8
  | 181 => 8
  | 182 => 8
  | 183 => 8
  | 184 => 8
  | 185 => 8
  | 186 => 8
  | 187 => 8
  | 188 => 8
  | 189 => 8
  | 190 => 8
  | 191 => 8
  | 192 => 8
  | 193 => 8
  | 194 => 8
  | 195 => 8
  | 196 => 8
  | 197 => 8
  | 198 => 8
  | 199 => 8
  | 200 => 8
  | 201 => 8
  | 202 => 8
  | 203 => 8
  | 204 => 8
  | 205 => 8
  | 206 => 8
  | 207 => 8
  | 208 => 8
  | 209 => 8
  | 210 => 8
  | 211 => 8
  | 212 => 8
  | 213 => 8
  | 214 => 8
  | 215 => 8
  | 216 => 8
  | 217 => 8
  | 218 => 8
  | 219 => 10
  | 220 => 11
  | 221 => 11
  | 222 => 11
  | 223 => 11
  | 224 => 9
  | _ => 12
def zy : Nat → MethodName
  | 0 => yX0_take
  | 1 => yX0_gives
  | 2 => yX0_joined
  | 3 => yX1_read
  | 4 => yX1_readValue
  | 5 => yX1_openOne
  | 6 => yX1_digits
  | 7 => yX1_isDigit
  | 8 => yX1_number
  | 9 => yX1_nameOf
  | 10 => yX1_endValue
  | 11 => yX1_readJoin
  | 12 => yX1_closeOne
  | 13 => yX1_settle
  | 14 => yX1_rank
  | 15 => yX1_await
  | 16 => yX1_write
  | 17 => yX2_copy
  | 18 => yX2_add
  | 19 => yX2_isTied
  | 20 => yX2_tied
  | 21 => yX2_untie
  | 22 => yX2_apart
  | 23 => yX2_sum
  | 24 => yX2_lineOf
  | 25 => yX2_outUpTo
  | 26 => yX2_low
  | 27 => yX2_high
  | 28 => yX2_stringsOver
  | 29 => yX2_cross
  | 30 => yX2_doesNow
  | 31 => yX2_goesNow
  | 32 => yX2_yielding
  | 33 => yX2_hasChildren
  | 34 => yX2_steps
  | 35 => yX2_pass
  | 36 => yX2_passDay
  | 37 => yX2_drawPlace
  | 38 => yX2_draw
  | 39 => yX2_step
  | 40 => yX2_keep
  | 41 => yX2_putBack
  | 42 => yX2_leastTooShort
  | 43 => yX2_unmovedEnd
  | 44 => yX2_pull
  | 45 => yX2_letOut
  | 46 => yX2_sever
  | 47 => yX2_come
  | 48 => yX3_add
  | 49 => yX3_copy
  | 50 => yX4_isMissing
  | 51 => yX4_clear
  | 52 => yX4_write
  | 53 => yX4_hasRun
  | 54 => yX5_copy
  | 55 => yX6_isUnder
  | 56 => yX6_begin
  | 57 => yX6_speak
  | 58 => yX6_speakMother
  | 59 => yX6_speakOther
  | 60 => yX6_bodyOf
  | 61 => yX7_one
  | 62 => yX7_oneIs
  | 63 => yX7_become
  | 64 => yX7_as
  | 65 => yX7_reel
  | 66 => yX7_cut
  | 67 => yX7_list
  | 68 => yX7_listed
  | 69 => yX7_feed
  | 70 => yX7_text
  | 71 => yX7_untell
  | 72 => yX7_law
  | 73 => yX7_days
  | 74 => yX7_loose
  | 75 => yX7_day
  | 76 => yX7_seed
  | 77 => yX7_line
  | 78 => yX7_between
  | 79 => yX7_over
  | 80 => yX7_knot
  | 81 => yX7_crossings
  | 82 => yX7_then
  | 83 => yX7_strings
  | 84 => yX7_soonest
  | 85 => yX7_spareFor
  | 86 => yX7_freeFor
  | 87 => yX7_odds
  | 88 => yX7_fits
  | 89 => yX7_voice
  | 90 => yX7_body
  | 91 => yX7_sheet
  | 92 => yX7_put
  | 93 => yX7_move
  | 94 => yX7_reels
  | 95 => yX7_judge
  | 96 => yX7_image
  | 97 => yX7_restore
  | 98 => yX7_tell
  | 99 => yX7_check
  | 100 => yX7_count
  | 101 => yX7_told
  | 102 => yX7_refuse
  | 103 => yX7_within
  | 104 => yX7_isThere
  | 105 => yX7_isSheet
  | 106 => yX7_lawOf
  | 107 => yX7_staysTied
  | 108 => yX7_cellWithout
  | 109 => yX7_wentSo
  | 110 => yX8_error
  | 111 => yX8_in
  | 112 => yX8_held
  | 113 => yX8_copyAll
  | 114 => yX8_saves
  | 115 => yX8_putsBack
  | 116 => yX8_isOne
  | 117 => yX8_isCell
  | 118 => yX8_its
  | 119 => yX8_lays1
  | 120 => yX8_change1
  | 121 => yX8_isTied
  | 122 => yX8_feed
  | 123 => yX8_look
  | 124 => yX8_isName
  | 125 => yX8_step1
  | 126 => yX8_whole
  | 127 => yX8_both
  | 128 => yX8_compared
  | 129 => yX8_sum
  | 130 => yX8_product
  | 131 => yX8_opens
  | 132 => yX8_one
  | 133 => yX8_hasText
  | 134 => yX8_text
  | 135 => yX8_untell
  | 136 => yX8_joined
  | 137 => yX8_worked
  | 138 => yX8_hasChildren
  | 139 => yX8_yieldsOf
  | 140 => yX8_stepsOf
  | 141 => yX8_restOf
  | 142 => yX8_givenBy
  | 143 => yX8_doesNow
  | 144 => yX8_goesNow
  | 145 => yX8_off
  | 146 => yX8_apartOf
  | 147 => yX8_tooShort
  | 148 => yX8_unties
  | 149 => yX8_cutsIt
  | 150 => yX8_spares
  | 151 => yX8_comesNearer
  | 152 => yX8_seesTo
  | 153 => yX8_oneStep
  | 154 => yX8_day1
  | 155 => yX8_goesOn
  | 156 => yX8_tiedNow
  | 157 => yX8_sumOf
  | 158 => yX8_isKm
  | 159 => yX8_one_
  | 160 => yX8_oneIs
  | 161 => yX8_become
  | 162 => yX8_as
  | 163 => yX8_reel
  | 164 => yX8_cut
  | 165 => yX8_isPlace
  | 166 => yX8_list
  | 167 => yX8_listed
  | 168 => yX8_law
  | 169 => yX8_days
  | 170 => yX8_draw
  | 171 => yX8_loose
  | 172 => yX8_day
  | 173 => yX8_seed
  | 174 => yX8_lineOf
  | 175 => yX8_line
  | 176 => yX8_outTo
  | 177 => yX8_between
  | 178 => yX8_lowEnd
  | 179 => yX8_highEnd
  | 180 => yX8_overAt
  | 181 => yX8_ones
  | 182 => yX8_over
  | 183 => yX8_knot
  | 184 => yX8_doCross
  | 185 => yX8_crossings
  | 186 => yX8_then
  | 187 => yX8_strings
  | 188 => yX8_soonest
  | 189 => yX8_holdsWith
  | 190 => yX8_spareFor
  | 191 => yX8_staysWithout
  | 192 => yX8_freeFor
  | 193 => yX8_common
  | 194 => yX8_odds
  | 195 => yX8_fits
  | 196 => yX8_begins
  | 197 => yX8_above
  | 198 => yX8_kindNow
  | 199 => yX8_mNow
  | 200 => yX8_tiesAs
  | 201 => yX8_letsAs
  | 202 => yX8_pullsAs
  | 203 => yX8_partsAs
  | 204 => yX8_voice
  | 205 => yX8_body
  | 206 => yX8_isSheet
  | 207 => yX8_sheet
  | 208 => yX8_put
  | 209 => yX8_move
  | 210 => yX8_lacks
  | 211 => yX8_reels
  | 212 => yX8_judge
  | 213 => yX8_image
  | 214 => yX8_restore
  | 215 => yX8_tell
  | 216 => yX8_check
  | 217 => yX8_count
  | 218 => yX8_told
  | 219 => yJ6_bitCount_0f7a4
  | 220 => yJ9_floorMod_7cf53
  | 221 => yJ9_abs_0f7a4
  | 222 => yJ9_max_7cf53
  | 223 => yJ9_min_7cf53
  | 224 => yL_law
  | _ => yL_law
def zb : Nat → ByteArray
  | 0 => cX0_take
  | 1 => cX0_gives
  | 2 => cX0_joined
  | 3 => cX1_read
  | 4 => cX1_readValue
  | 5 => cX1_openOne
  | 6 => cX1_digits
  | 7 => cX1_isDigit
  | 8 => cX1_number
  | 9 => cX1_nameOf
  | 10 => cX1_endValue
  | 11 => cX1_readJoin
  | 12 => cX1_closeOne
  | 13 => cX1_settle
  | 14 => cX1_rank
  | 15 => cX1_await
  | 16 => cX1_write
  | 17 => cX2_copy
  | 18 => cX2_add
  | 19 => cX2_isTied
  | 20 => cX2_tied
  | 21 => cX2_untie
  | 22 => cX2_apart
  | 23 => cX2_sum
  | 24 => cX2_lineOf
  | 25 => cX2_outUpTo
  | 26 => cX2_low
  | 27 => cX2_high
  | 28 => cX2_stringsOver
  | 29 => cX2_cross
  | 30 => cX2_doesNow
  | 31 => cX2_goesNow
  | 32 => cX2_yielding
  | 33 => cX2_hasChildren
  | 34 => cX2_steps
  | 35 => cX2_pass
  | 36 => cX2_passDay
  | 37 => cX2_drawPlace
  | 38 => cX2_draw
  | 39 => cX2_step
  | 40 => cX2_keep
  | 41 => cX2_putBack
  | 42 => cX2_leastTooShort
  | 43 => cX2_unmovedEnd
  | 44 => cX2_pull
  | 45 => cX2_letOut
  | 46 => cX2_sever
  | 47 => cX2_come
  | 48 => cX3_add
  | 49 => cX3_copy
  | 50 => cX4_isMissing
  | 51 => cX4_clear
  | 52 => cX4_write
  | 53 => cX4_hasRun
  | 54 => cX5_copy
  | 55 => cX6_isUnder
  | 56 => cX6_begin
  | 57 => cX6_speak
  | 58 => cX6_speakMother
  | 59 => cX6_speakOther
  | 60 => cX6_bodyOf
  | 61 => cX7_one
  | 62 => cX7_oneIs
  | 63 => cX7_become
  | 64 => cX7_as
  | 65 => cX7_reel
  | 66 => cX7_cut
  | 67 => cX7_list
  | 68 => cX7_listed
  | 69 => cX7_feed
  | 70 => cX7_text
  | 71 => cX7_untell
  | 72 => cX7_law
  | 73 => cX7_days
  | 74 => cX7_loose
  | 75 => cX7_day
  | 76 => cX7_seed
  | 77 => cX7_line
  | 78 => cX7_between
  | 79 => cX7_over
  | 80 => cX7_knot
  | 81 => cX7_crossings
  | 82 => cX7_then
  | 83 => cX7_strings
  | 84 => cX7_soonest
  | 85 => cX7_spareFor
  | 86 => cX7_freeFor
  | 87 => cX7_odds
  | 88 => cX7_fits
  | 89 => cX7_voice
  | 90 => cX7_body
  | 91 => cX7_sheet
  | 92 => cX7_put
  | 93 => cX7_move
  | 94 => cX7_reels
  | 95 => cX7_judge
  | 96 => cX7_image
  | 97 => cX7_restore
  | 98 => cX7_tell
  | 99 => cX7_check
  | 100 => cX7_count
  | 101 => cX7_told
  | 102 => cX7_refuse
  | 103 => cX7_within
  | 104 => cX7_isThere
  | 105 => cX7_isSheet
  | 106 => cX7_lawOf
  | 107 => cX7_staysTied
  | 108 => cX7_cellWithout
  | 109 => cX7_wentSo
  | 110 => cX8_error
  | 111 => cX8_in
  | 112 => cX8_held
  | 113 => cX8_copyAll
  | 114 => cX8_saves
  | 115 => cX8_putsBack
  | 116 => cX8_isOne
  | 117 => cX8_isCell
  | 118 => cX8_its
  | 119 => cX8_lays1
  | 120 => cX8_change1
  | 121 => cX8_isTied
  | 122 => cX8_feed
  | 123 => cX8_look
  | 124 => cX8_isName
  | 125 => cX8_step1
  | 126 => cX8_whole
  | 127 => cX8_both
  | 128 => cX8_compared
  | 129 => cX8_sum
  | 130 => cX8_product
  | 131 => cX8_opens
  | 132 => cX8_one
  | 133 => cX8_hasText
  | 134 => cX8_text
  | 135 => cX8_untell
  | 136 => cX8_joined
  | 137 => cX8_worked
  | 138 => cX8_hasChildren
  | 139 => cX8_yieldsOf
  | 140 => cX8_stepsOf
  | 141 => cX8_restOf
  | 142 => cX8_givenBy
  | 143 => cX8_doesNow
  | 144 => cX8_goesNow
  | 145 => cX8_off
  | 146 => cX8_apartOf
  | 147 => cX8_tooShort
  | 148 => cX8_unties
  | 149 => cX8_cutsIt
  | 150 => cX8_spares
  | 151 => cX8_comesNearer
  | 152 => cX8_seesTo
  | 153 => cX8_oneStep
  | 154 => cX8_day1
  | 155 => cX8_goesOn
  | 156 => cX8_tiedNow
  | 157 => cX8_sumOf
  | 158 => cX8_isKm
  | 159 => cX8_one_
  | 160 => cX8_oneIs
  | 161 => cX8_become
  | 162 => cX8_as
  | 163 => cX8_reel
  | 164 => cX8_cut
  | 165 => cX8_isPlace
  | 166 => cX8_list
  | 167 => cX8_listed
  | 168 => cX8_law
  | 169 => cX8_days
  | 170 => cX8_draw
  | 171 => cX8_loose
  | 172 => cX8_day
  | 173 => cX8_seed
  | 174 => cX8_lineOf
  | 175 => cX8_line
  | 176 => cX8_outTo
  | 177 => cX8_between
  | 178 => cX8_lowEnd
  | 179 => cX8_highEnd
  | 180 => cX8_overAt
  | 181 => cX8_ones
  | 182 => cX8_over
  | 183 => cX8_knot
  | 184 => cX8_doCross
  | 185 => cX8_crossings
  | 186 => cX8_then
  | 187 => cX8_strings
  | 188 => cX8_soonest
  | 189 => cX8_holdsWith
  | 190 => cX8_spareFor
  | 191 => cX8_staysWithout
  | 192 => cX8_freeFor
  | 193 => cX8_common
  | 194 => cX8_odds
  | 195 => cX8_fits
  | 196 => cX8_begins
  | 197 => cX8_above
  | 198 => cX8_kindNow
  | 199 => cX8_mNow
  | 200 => cX8_tiesAs
  | 201 => cX8_letsAs
  | 202 => cX8_pullsAs
  | 203 => cX8_partsAs
  | 204 => cX8_voice
  | 205 => cX8_body
  | 206 => cX8_isSheet
  | 207 => cX8_sheet
  | 208 => cX8_put
  | 209 => cX8_move
  | 210 => cX8_lacks
  | 211 => cX8_reels
  | 212 => cX8_judge
  | 213 => cX8_image
  | 214 => cX8_restore
  | 215 => cX8_tell
  | 216 => cX8_check
  | 217 => cX8_count
  | 218 => cX8_told
  | 219 => cJ6_bitCount_0f7a4
  | 220 => cJ9_floorMod_7cf53
  | 221 => cJ9_abs_0f7a4
  | 222 => cJ9_max_7cf53
  | 223 => cJ9_min_7cf53
  | 224 => cL_law
  | _ => cL_law
def zn : Nat → Nat
  | 0 => 4
  | 1 => 7
  | 2 => 3
  | 3 => 6
  | 4 => 7
  | 5 => 2
  | 6 => 4
  | 7 => 1
  | 8 => 5
  | 9 => 3
  | 10 => 2
  | 11 => 3
  | 12 => 1
  | 13 => 3
  | 14 => 1
  | 15 => 2
  | 16 => 2
  | 17 => 2
  | 18 => 6
  | 19 => 2
  | 20 => 3
  | 21 => 2
  | 22 => 3
  | 23 => 4
  | 24 => 5
  | 25 => 6
  | 26 => 3
  | 27 => 2
  | 28 => 4
  | 29 => 5
  | 30 => 2
  | 31 => 2
  | 32 => 2
  | 33 => 3
  | 34 => 2
  | 35 => 3
  | 36 => 6
  | 37 => 3
  | 38 => 1
  | 39 => 8
  | 40 => 1
  | 41 => 1
  | 42 => 3
  | 43 => 3
  | 44 => 4
  | 45 => 3
  | 46 => 2
  | 47 => 3
  | 48 => 2
  | 49 => 3
  | 50 => 1
  | 51 => 4
  | 52 => 3
  | 53 => 3
  | 54 => 2
  | 55 => 4
  | 56 => 6
  | 57 => 6
  | 58 => 4
  | 59 => 6
  | 60 => 5
  | 61 => 6
  | 62 => 3
  | 63 => 4
  | 64 => 3
  | 65 => 4
  | 66 => 3
  | 67 => 5
  | 68 => 2
  | 69 => 5
  | 70 => 3
  | 71 => 3
  | 72 => 5
  | 73 => 2
  | 74 => 3
  | 75 => 3
  | 76 => 3
  | 77 => 2
  | 78 => 4
  | 79 => 2
  | 80 => 6
  | 81 => 4
  | 82 => 3
  | 83 => 2
  | 84 => 4
  | 85 => 4
  | 86 => 7
  | 87 => 7
  | 88 => 6
  | 89 => 5
  | 90 => 2
  | 91 => 4
  | 92 => 4
  | 93 => 8
  | 94 => 5
  | 95 => 5
  | 96 => 1
  | 97 => 1
  | 98 => 2
  | 99 => 3
  | 100 => 2
  | 101 => 2
  | 102 => 2
  | 103 => 2
  | 104 => 2
  | 105 => 1
  | 106 => 2
  | 107 => 5
  | 108 => 5
  | 109 => 5
  | 110 => 2
  | 111 => 3
  | 112 => 3
  | 113 => 3
  | 114 => 2
  | 115 => 2
  | 116 => 2
  | 117 => 1
  | 118 => 3
  | 119 => 4
  | 120 => 4
  | 121 => 2
  | 122 => 5
  | 123 => 1
  | 124 => 2
  | 125 => 3
  | 126 => 1
  | 127 => 1
  | 128 => 2
  | 129 => 2
  | 130 => 2
  | 131 => 1
  | 132 => 4
  | 133 => 2
  | 134 => 5
  | 135 => 3
  | 136 => 3
  | 137 => 7
  | 138 => 4
  | 139 => 4
  | 140 => 4
  | 141 => 2
  | 142 => 6
  | 143 => 2
  | 144 => 2
  | 145 => 2
  | 146 => 2
  | 147 => 2
  | 148 => 2
  | 149 => 2
  | 150 => 3
  | 151 => 3
  | 152 => 7
  | 153 => 6
  | 154 => 6
  | 155 => 3
  | 156 => 3
  | 157 => 4
  | 158 => 1
  | 159 => 6
  | 160 => 3
  | 161 => 4
  | 162 => 5
  | 163 => 3
  | 164 => 3
  | 165 => 1
  | 166 => 4
  | 167 => 2
  | 168 => 5
  | 169 => 2
  | 170 => 1
  | 171 => 4
  | 172 => 2
  | 173 => 2
  | 174 => 4
  | 175 => 2
  | 176 => 5
  | 177 => 4
  | 178 => 4
  | 179 => 2
  | 180 => 4
  | 181 => 3
  | 182 => 2
  | 183 => 6
  | 184 => 3
  | 185 => 4
  | 186 => 4
  | 187 => 3
  | 188 => 4
  | 189 => 5
  | 190 => 4
  | 191 => 6
  | 192 => 7
  | 193 => 5
  | 194 => 6
  | 195 => 8
  | 196 => 2
  | 197 => 1
  | 198 => 1
  | 199 => 1
  | 200 => 3
  | 201 => 3
  | 202 => 3
  | 203 => 5
  | 204 => 6
  | 205 => 2
  | 206 => 1
  | 207 => 5
  | 208 => 5
  | 209 => 7
  | 210 => 2
  | 211 => 4
  | 212 => 4
  | 213 => 1
  | 214 => 1
  | 215 => 2
  | 216 => 3
  | 217 => 2
  | 218 => 2
  | 219 => 1
  | 220 => 3
  | 221 => 1
  | 222 => 2
  | 223 => 2
  | 224 => 4
  | _ => 0
def zr : Nat → Option FieldType
  | 0 => none
  | 1 => some .int
  | 2 => some .int
  | 3 => some .int
  | 4 => some .int
  | 5 => some .int
  | 6 => some .int
  | 7 => some .boolean
  | 8 => some .int
  | 9 => some .int
  | 10 => none
  | 11 => some .int
  | 12 => some .int
  | 13 => none
  | 14 => some .int
  | 15 => none
  | 16 => none
  | 17 => none
  | 18 => some .int
  | 19 => some .boolean
  | 20 => some .int
  | 21 => none
  | 22 => some .int
  | 23 => some .int
  | 24 => some .int
  | 25 => some .int
  | 26 => some .int
  | 27 => some .int
  | 28 => some .int
  | 29 => some .boolean
  | 30 => some .int
  | 31 => some .int
  | 32 => some .int
  | 33 => some .boolean
  | 34 => some .int
  | 35 => none
  | 36 => none
  | 37 => none
  | 38 => some .int
  | 39 => some .boolean
  | 40 => none
  | 41 => none
  | 42 => some .int
  | 43 => some .int
  | 44 => none
  | 45 => none
  | 46 => none
  | 47 => none
  | 48 => none
  | 49 => none
  | 50 => some .boolean
  | 51 => none
  | 52 => none
  | 53 => some .boolean
  | 54 => none
  | 55 => some .boolean
  | 56 => some .int
  | 57 => some .int
  | 58 => some .int
  | 59 => some .int
  | 60 => some .int
  | 61 => some .int
  | 62 => some .int
  | 63 => some .int
  | 64 => some .int
  | 65 => some .int
  | 66 => some .int
  | 67 => some .int
  | 68 => some .int
  | 69 => some .int
  | 70 => some .int
  | 71 => some .int
  | 72 => some .int
  | 73 => some .int
  | 74 => some .int
  | 75 => some .int
  | 76 => some .int
  | 77 => some .int
  | 78 => some .int
  | 79 => some .int
  | 80 => some .int
  | 81 => some .int
  | 82 => some .int
  | 83 => some .int
  | 84 => some .int
  | 85 => some .int
  | 86 => some .int
  | 87 => some .int
  | 88 => some .int
  | 89 => some .int
  | 90 => some .int
  | 91 => some .int
  | 92 => some .int
  | 93 => some .int
  | 94 => some .int
  | 95 => some .int
  | 96 => some .int
  | 97 => some .int
  | 98 => some .int
  | 99 => some .int
  | 100 => some .int
  | 101 => some .int
  | 102 => some .int
  | 103 => some .boolean
  | 104 => some .boolean
  | 105 => some .boolean
  | 106 => (some (.object "ApronStrings$Law"))
  | 107 => some .boolean
  | 108 => some .int
  | 109 => some .boolean
  | 110 => some .int
  | 111 => some .boolean
  | 112 => some .int
  | 113 => none
  | 114 => none
  | 115 => none
  | 116 => some .boolean
  | 117 => some .boolean
  | 118 => some .int
  | 119 => none
  | 120 => some .int
  | 121 => some .boolean
  | 122 => some .int
  | 123 => some .int
  | 124 => some .boolean
  | 125 => none
  | 126 => some .boolean
  | 127 => some .boolean
  | 128 => some .boolean
  | 129 => some .boolean
  | 130 => some .boolean
  | 131 => some .boolean
  | 132 => some .boolean
  | 133 => some .boolean
  | 134 => some .int
  | 135 => some .int
  | 136 => some .int
  | 137 => some .int
  | 138 => some .boolean
  | 139 => some .int
  | 140 => some .int
  | 141 => some .int
  | 142 => some .int
  | 143 => some .int
  | 144 => some .int
  | 145 => some .int
  | 146 => some .int
  | 147 => some .int
  | 148 => none
  | 149 => none
  | 150 => none
  | 151 => none
  | 152 => some .boolean
  | 153 => some .boolean
  | 154 => none
  | 155 => none
  | 156 => some .int
  | 157 => some .int
  | 158 => some .boolean
  | 159 => some .int
  | 160 => some .int
  | 161 => some .int
  | 162 => some .int
  | 163 => some .int
  | 164 => some .int
  | 165 => some .boolean
  | 166 => some .int
  | 167 => some .int
  | 168 => some .int
  | 169 => some .int
  | 170 => some .int
  | 171 => some .int
  | 172 => some .int
  | 173 => some .int
  | 174 => some .int
  | 175 => some .int
  | 176 => some .int
  | 177 => some .int
  | 178 => some .int
  | 179 => some .int
  | 180 => some .int
  | 181 => some .int
  | 182 => some .int
  | 183 => some .int
  | 184 => some .boolean
  | 185 => some .int
  | 186 => some .int
  | 187 => some .int
  | 188 => some .int
  | 189 => some .boolean
  | 190 => some .int
  | 191 => some .boolean
  | 192 => some .int
  | 193 => some .int
  | 194 => some .int
  | 195 => some .int
  | 196 => none
  | 197 => some .int
  | 198 => some .int
  | 199 => some .int
  | 200 => some .int
  | 201 => some .int
  | 202 => some .int
  | 203 => some .int
  | 204 => some .int
  | 205 => some .int
  | 206 => some .boolean
  | 207 => some .int
  | 208 => some .int
  | 209 => some .int
  | 210 => some .int
  | 211 => some .int
  | 212 => some .int
  | 213 => some .int
  | 214 => some .int
  | 215 => some .int
  | 216 => some .int
  | 217 => some .int
  | 218 => some .int
  | 219 => some .int
  | 220 => some .int
  | 221 => some .int
  | 222 => some .int
  | 223 => some .int
  | 224 => some .boolean
  | _ => none
def zMN : Nat := 225
/-- own class, entry: whose field, which; the word that says so -/
def zfT : List (Nat × Nat × Nat × Nat × Nat) := [(0, 9, 0, 0, 120), (5, 42, 0, 0, 121), (5, 46, 0, 1, 122), (0, 22, 0, 1, 123), (7, 153, 0, 1, 124), (0, 18, 0, 2, 125), (0, 15, 0, 3, 126), (2, 40, 2, 0, 143), (2, 44, 2, 1, 144), (2, 9, 2, 2, 145), (7, 84, 2, 2, 146), (2, 15, 2, 3, 147), (7, 87, 2, 3, 148), (2, 18, 2, 4, 149), (7, 90, 2, 4, 150), (2, 21, 2, 5, 151), (7, 93, 2, 5, 152), (2, 24, 2, 6, 153), (7, 96, 2, 6, 154), (2, 27, 2, 7, 155), (7, 99, 2, 7, 156), (2, 30, 2, 8, 157), (7, 121, 2, 8, 158), (7, 76, 2, 9, 159), (2, 53, 2, 9, 160), (2, 56, 2, 10, 161), (7, 158, 2, 10, 162), (2, 59, 2, 11, 163), (7, 164, 2, 11, 164), (2, 33, 2, 12, 165), (7, 173, 2, 12, 166), (2, 37, 2, 13, 167), (2, 118, 2, 14, 168), (3, 7, 3, 0, 206), (1, 39, 3, 0, 207), (7, 264, 3, 0, 208), (3, 13, 3, 1, 209), (1, 32, 3, 1, 210), (7, 128, 3, 1, 211), (5, 14, 5, 0, 217), (7, 50, 5, 0, 218), (5, 20, 5, 1, 219), (7, 54, 5, 1, 220), (5, 28, 5, 2, 221), (7, 43, 5, 2, 222), (5, 35, 5, 3, 223), (7, 124, 5, 3, 224), (5, 39, 5, 4, 225), (7, 261, 5, 4, 226), (1, 9, 1, 0, 244), (7, 143, 1, 0, 245), (1, 18, 1, 1, 246), (7, 146, 1, 1, 247), (1, 15, 1, 2, 248), (1, 22, 1, 3, 249), (1, 25, 1, 4, 250), (1, 28, 1, 5, 251), (6, 11, 6, 0, 271), (7, 229, 6, 0, 272), (6, 32, 6, 1, 273), (7, 228, 6, 1, 274), (6, 28, 6, 2, 275), (7, 224, 6, 2, 276), (6, 18, 6, 3, 277), (6, 22, 6, 4, 278), (6, 25, 6, 5, 279), (4, 9, 4, 0, 302), (7, 246, 4, 0, 303), (4, 19, 4, 1, 304), (7, 236, 4, 1, 305), (4, 15, 4, 2, 306), (7, 240, 4, 2, 307), (7, 10, 7, 0, 315), (7, 16, 7, 1, 316), (7, 47, 7, 2, 317), (7, 60, 7, 3, 318), (7, 22, 7, 4, 319), (7, 29, 7, 5, 320), (7, 35, 7, 6, 321), (7, 39, 7, 7, 322), (7, 258, 7, 8, 323), (8, 7, 8, 0, 819), (8, 13, 8, 1, 820), (8, 16, 8, 2, 821), (8, 19, 8, 3, 822), (8, 293, 8, 4, 823), (8, 22, 8, 5, 824), (8, 64, 8, 6, 825), (8, 98, 8, 7, 826), (8, 71, 8, 8, 827), (8, 68, 8, 9, 828), (8, 25, 8, 10, 829), (8, 28, 8, 11, 830), (8, 31, 8, 12, 831), (8, 157, 8, 13, 832), (8, 255, 8, 14, 833), (8, 34, 8, 15, 834), (8, 258, 8, 16, 835), (8, 279, 8, 17, 836), (8, 37, 8, 18, 837), (8, 40, 8, 19, 838), (8, 43, 8, 20, 839), (8, 46, 8, 21, 840)]
def zf (o x : Nat) : Option (Nat × Nat) := (zfT.find? (fun q => q.1 == o && q.2.1 == x)).map (fun q => (q.2.2.1, q.2.2.2.1))
def zgT : List (Nat × Nat × Nat × Nat) := [(6, 15, 52, 422), (1, 79, 51, 492), (6, 50, 53, 728)]
def zg (o x : Nat) : Option Nat := (zgT.find? (fun q => q.1 == o && q.2.1 == x)).map (fun q => q.2.2.1)
def zkT : List (Nat × Nat × Int32 × Nat) := [(7, 269, -1000000000, 358), (2, 114, 1103515245, 596), (10, 265, 1431655765, 647), (10, 266, 858993459, 648), (10, 267, 252645135, 649), (8, 49, -1000000000, 897), (8, 209, 1103515245, 1111)]
def zk (o x : Nat) : Option Int32 := (zkT.find? (fun q => q.1 == o && q.2.1 == x)).map (fun q => q.2.2.1)
def zkLT : List (Nat × Nat × Int64 × Nat) := [(8, 62, 255, 898), (9, 49, 4294967295, 1312)]
def zkL (o x : Nat) : Option Int64 := (zkLT.find? (fun q => q.1 == o && q.2.1 == x)).map (fun q => q.2.2.1)
/-- own class, entry: the method called, the word of the link -/
def zcT : List (Nat × Nat × Nat × Nat) := [(9, 13, 61, 343), (7, 64, 103, 347), (7, 68, 104, 350), (7, 72, 102, 354), (7, 80, 18, 359), (2, 62, 22, 363), (2, 70, 221, 367), (9, 18, 62, 370), (7, 102, 22, 374), (7, 105, 30, 375), (2, 85, 32, 379), (2, 97, 33, 383), (2, 88, 1, 387), (0, 25, 2, 391), (0, 29, 220, 394), (0, 35, 223, 397), (0, 38, 222, 400), (7, 108, 31, 403), (2, 94, 34, 407), (9, 23, 63, 411), (9, 27, 64, 415), (7, 111, 55, 419), (9, 31, 65, 424), (7, 114, 19, 428), (9, 35, 66, 432), (7, 117, 21, 436), (9, 40, 67, 440), (9, 45, 68, 444), (9, 51, 69, 448), (7, 133, 48, 452), (9, 56, 70, 456), (7, 135, 3, 460), (1, 35, 4, 464), (1, 50, 5, 468), (1, 72, 15, 472), (1, 53, 6, 476), (1, 75, 7, 479), (1, 57, 8, 482), (1, 60, 16, 485), (1, 63, 9, 489), (1, 69, 10, 494), (1, 42, 11, 498), (1, 83, 12, 502), (1, 46, 13, 506), (1, 87, 14, 510), (7, 139, 106, 513), (7, 147, 0, 517), (9, 60, 71, 521), (9, 64, 72, 525), (7, 154, 1, 529), (9, 68, 73, 530), (7, 161, 35, 534), (2, 100, 36, 538), (2, 103, 31, 542), (2, 106, 39, 543), (2, 115, 40, 547), (2, 121, 42, 554), (2, 124, 45, 558), (2, 128, 43, 562), (2, 131, 30, 566), (2, 134, 41, 567), (2, 137, 44, 571), (2, 141, 46, 575), (2, 148, 21, 579), (2, 145, 47, 580), (9, 72, 74, 584), (7, 167, 37, 588), (2, 110, 38, 592), (7, 170, 36, 597), (9, 76, 75, 598), (9, 80, 76, 602), (9, 84, 77, 606), (7, 176, 24, 610), (9, 88, 78, 614), (7, 179, 25, 618), (9, 92, 79, 622), (7, 183, 28, 626), (2, 66, 19, 630), (2, 79, 26, 631), (2, 75, 223, 635), (2, 82, 27, 636), (9, 96, 80, 640), (7, 186, 219, 644), (9, 100, 81, 650), (7, 191, 29, 654), (9, 105, 82, 658), (7, 194, 17, 662), (9, 109, 83, 666), (7, 198, 20, 670), (9, 113, 84, 674), (9, 117, 85, 678), (7, 202, 107, 682), (9, 121, 86, 686), (7, 206, 108, 690), (9, 125, 87, 694), (9, 129, 88, 698), (7, 209, 105, 702), (7, 212, 50, 705), (7, 216, 109, 709), (9, 133, 89, 713), (7, 220, 56, 717), (6, 35, 57, 721), (6, 39, 60, 725), (6, 43, 58, 730), (6, 47, 59, 734), (9, 137, 90, 738), (9, 141, 91, 742), (7, 232, 51, 746), (9, 145, 92, 750), (7, 237, 52, 754), (9, 149, 93, 758), (7, 243, 53, 762), (9, 154, 94, 767), (9, 158, 95, 771), (9, 162, 96, 775), (7, 255, 54, 779), (5, 50, 0, 783), (5, 54, 17, 784), (5, 58, 49, 785), (9, 166, 97, 789), (9, 170, 98, 793), (9, 174, 99, 797), (9, 178, 100, 801), (7, 265, 23, 805), (9, 182, 101, 809), (9, 55, 122, 886), (8, 50, 111, 890), (8, 58, 110, 893), (9, 59, 134, 899), (8, 108, 126, 903), (8, 74, 127, 907), (8, 86, 128, 911), (8, 89, 129, 915), (8, 92, 130, 919), (8, 95, 132, 923), (8, 78, 123, 927), (8, 101, 124, 931), (8, 82, 125, 935), (8, 105, 131, 939), (9, 63, 135, 943), (8, 111, 133, 947), (9, 17, 159, 951), (8, 191, 158, 955), (8, 172, 117, 958), (8, 149, 119, 961), (8, 146, 146, 965), (8, 140, 121, 969), (8, 54, 118, 973), (8, 143, 145, 977), (9, 22, 160, 980), (8, 194, 116, 984), (8, 166, 143, 988), (8, 130, 139, 992), (8, 118, 138, 996), (8, 133, 142, 1000), (8, 121, 137, 1004), (8, 114, 136, 1008), (8, 124, 141, 1011), (8, 127, 112, 1014), (8, 181, 144, 1017), (8, 137, 140, 1021), (9, 26, 161, 1025), (9, 30, 162, 1029), (8, 197, 197, 1033), (9, 34, 163, 1036), (8, 200, 120, 1040), (9, 39, 164, 1044), (8, 153, 148, 1048), (9, 44, 166, 1052), (8, 203, 165, 1056), (9, 48, 167, 1059), (9, 67, 168, 1063), (9, 71, 169, 1067), (8, 206, 155, 1071), (8, 188, 154, 1075), (8, 184, 153, 1079), (8, 175, 147, 1083), (8, 178, 152, 1087), (8, 160, 150, 1091), (8, 163, 149, 1095), (8, 169, 151, 1099), (9, 75, 171, 1103), (8, 210, 170, 1107), (9, 79, 172, 1112), (9, 83, 173, 1116), (9, 87, 175, 1120), (8, 213, 174, 1124), (9, 91, 177, 1128), (8, 216, 176, 1132), (9, 95, 182, 1136), (8, 225, 180, 1140), (8, 219, 178, 1144), (8, 222, 179, 1148), (9, 99, 183, 1152), (8, 228, 181, 1156), (9, 104, 185, 1159), (8, 231, 184, 1163), (9, 108, 186, 1167), (8, 234, 114, 1171), (8, 237, 115, 1175), (9, 112, 187, 1179), (8, 240, 156, 1183), (9, 116, 188, 1187), (9, 120, 190, 1191), (8, 243, 189, 1195), (9, 124, 192, 1199), (8, 246, 191, 1203), (9, 128, 194, 1207), (8, 249, 193, 1211), (9, 132, 195, 1214), (8, 252, 206, 1218), (9, 136, 204, 1221), (8, 267, 198, 1225), (8, 264, 200, 1229), (8, 261, 196, 1233), (8, 270, 201, 1237), (8, 273, 199, 1241), (8, 276, 202, 1245), (8, 283, 203, 1249), (9, 140, 205, 1253), (9, 144, 207, 1257), (9, 148, 208, 1261), (9, 153, 209, 1265), (9, 157, 211, 1269), (8, 286, 210, 1273), (9, 161, 212, 1277), (9, 165, 213, 1281), (8, 289, 113, 1285), (9, 169, 214, 1288), (9, 173, 215, 1292), (9, 177, 216, 1296), (9, 181, 217, 1300), (8, 296, 157, 1304), (9, 185, 218, 1308)]
def zc (o x : Nat) : Option Nat := (zcT.find? (fun q => q.1 == o && q.2.1 == x)).map (fun q => q.2.2.1)
def zaT : List (Nat × Nat × Nat) := [(2, 47, 551), (7, 249, 766)]
/-- is this entry System.arraycopy -/
def za (o x : Nat) : Bool := (zaT.find? (fun q => q.1 == o && q.2.1 == x)).isSome
/-- a method: static or not, how many go in (the receiver counts), the words of its code, of its class made, of static or instance, of selects -/
def zmT : List (Nat × Bool × Nat × Nat × Nat × Nat × Nat) := [(0, false, 3, 520, 90, 518, 519), (1, false, 4, 390, 90, 388, 389), (2, true, 3, 393, 90, 392, 0), (3, false, 3, 463, 93, 461, 462), (4, false, 4, 467, 93, 466, 5), (5, false, 2, 471, 93, 470, 6), (6, true, 2, 478, 93, 477, 0), (7, true, 1, 481, 93, 480, 0), (8, true, 3, 484, 93, 483, 0), (9, true, 2, 491, 93, 490, 0), (10, false, 1, 497, 93, 496, 9), (11, false, 2, 501, 93, 500, 10), (12, false, 1, 505, 93, 504, 11), (13, false, 2, 509, 93, 508, 12), (14, true, 1, 512, 93, 511, 0), (15, false, 2, 475, 93, 474, 7), (16, false, 2, 488, 93, 487, 8), (17, false, 2, 665, 91, 663, 664), (18, false, 5, 362, 91, 360, 361), (19, false, 2, 431, 91, 429, 430), (20, false, 1, 673, 91, 671, 672), (21, false, 2, 439, 91, 437, 438), (22, false, 2, 366, 91, 364, 365), (23, false, 2, 808, 91, 806, 807), (24, false, 2, 613, 91, 611, 612), (25, false, 3, 621, 91, 619, 620), (26, false, 2, 634, 91, 633, 24), (27, false, 2, 639, 91, 638, 25), (28, false, 2, 629, 91, 627, 628), (29, false, 3, 657, 91, 655, 656), (30, false, 2, 378, 91, 376, 377), (31, false, 2, 406, 91, 404, 405), (32, false, 2, 382, 91, 381, 2), (33, false, 2, 386, 91, 385, 3), (34, false, 2, 410, 91, 409, 4), (35, false, 2, 537, 91, 535, 536), (36, false, 1, 541, 91, 539, 540), (37, false, 1, 591, 91, 589, 590), (38, false, 1, 595, 91, 594, 23), (39, false, 3, 546, 91, 545, 14), (40, false, 1, 550, 91, 549, 15), (41, false, 1, 570, 91, 569, 19), (42, false, 1, 557, 91, 556, 16), (43, false, 2, 565, 91, 564, 18), (44, false, 4, 574, 91, 573, 20), (45, false, 3, 561, 91, 560, 17), (46, false, 2, 578, 91, 577, 21), (47, false, 3, 583, 91, 582, 22), (48, false, 2, 455, 92, 453, 454), (49, false, 2, 788, 92, 786, 787), (50, false, 1, 708, 95, 706, 707), (51, false, 3, 749, 95, 747, 748), (52, false, 3, 757, 95, 755, 756), (53, false, 3, 765, 95, 763, 764), (54, false, 2, 782, 89, 780, 781), (55, true, 2, 421, 94, 420, 0), (56, false, 6, 720, 94, 718, 719), (57, false, 5, 724, 94, 723, 29), (58, false, 4, 733, 94, 732, 30), (59, false, 4, 737, 94, 736, 31), (60, true, 2, 727, 94, 726, 0), (61, false, 5, 346, 88, 344, 345), (62, false, 3, 373, 88, 371, 372), (63, false, 3, 414, 88, 412, 413), (64, false, 3, 418, 88, 416, 417), (65, false, 3, 427, 88, 425, 426), (66, false, 2, 435, 88, 433, 434), (67, false, 4, 443, 88, 441, 442), (68, false, 2, 447, 88, 445, 446), (69, false, 3, 451, 88, 449, 450), (70, false, 2, 459, 88, 457, 458), (71, false, 2, 524, 88, 522, 523), (72, false, 5, 528, 88, 526, 527), (73, false, 2, 533, 88, 531, 532), (74, false, 2, 587, 88, 585, 586), (75, false, 2, 601, 88, 599, 600), (76, false, 2, 605, 88, 603, 604), (77, false, 2, 609, 88, 607, 608), (78, false, 3, 617, 88, 615, 616), (79, false, 2, 625, 88, 623, 624), (80, false, 2, 643, 88, 641, 642), (81, false, 1, 653, 88, 651, 652), (82, false, 3, 661, 88, 659, 660), (83, false, 2, 669, 88, 667, 668), (84, false, 3, 677, 88, 675, 676), (85, false, 3, 681, 88, 679, 680), (86, false, 3, 689, 88, 687, 688), (87, false, 4, 697, 88, 695, 696), (88, false, 4, 701, 88, 699, 700), (89, false, 4, 716, 88, 714, 715), (90, false, 2, 741, 88, 739, 740), (91, false, 4, 745, 88, 743, 744), (92, false, 4, 753, 88, 751, 752), (93, false, 6, 761, 88, 759, 760), (94, false, 2, 770, 88, 768, 769), (95, false, 2, 774, 88, 772, 773), (96, false, 1, 778, 88, 776, 777), (97, false, 1, 792, 88, 790, 791), (98, false, 2, 796, 88, 794, 795), (99, false, 1, 800, 88, 798, 799), (100, false, 2, 804, 88, 802, 803), (101, false, 2, 812, 88, 810, 811), (102, false, 2, 357, 88, 356, 1), (103, true, 2, 349, 88, 348, 0), (104, false, 2, 353, 88, 352, 0), (105, true, 1, 704, 88, 703, 0), (106, false, 2, 516, 88, 515, 13), (107, false, 4, 685, 88, 684, 26), (108, false, 4, 693, 88, 692, 27), (109, false, 4, 712, 88, 711, 28), (110, false, 2, 896, 96, 895, 32), (111, true, 3, 892, 96, 891, 0), (112, true, 3, 1016, 96, 1015, 0), (113, true, 2, 1287, 96, 1286, 0), (114, false, 1, 1174, 96, 1173, 73), (115, false, 1, 1178, 96, 1177, 74), (116, false, 2, 987, 96, 986, 48), (117, true, 1, 960, 96, 959, 0), (118, false, 3, 976, 96, 975, 47), (119, false, 4, 964, 96, 963, 44), (120, false, 3, 1043, 96, 1042, 56), (121, false, 2, 972, 96, 971, 46), (122, false, 3, 889, 96, 887, 888), (123, false, 1, 930, 96, 929, 39), (124, false, 2, 934, 96, 933, 40), (125, false, 3, 938, 96, 937, 41), (126, false, 1, 906, 96, 905, 33), (127, false, 1, 910, 96, 909, 34), (128, false, 1, 914, 96, 913, 35), (129, false, 1, 918, 96, 917, 36), (130, false, 1, 922, 96, 921, 37), (131, false, 1, 942, 96, 941, 42), (132, false, 1, 926, 96, 925, 38), (133, false, 2, 950, 96, 949, 43), (134, false, 2, 902, 96, 900, 901), (135, false, 2, 946, 96, 944, 945), (136, true, 3, 1010, 96, 1009, 0), (137, false, 2, 1007, 96, 1006, 53), (138, false, 2, 999, 96, 998, 51), (139, false, 2, 995, 96, 994, 50), (140, false, 2, 1024, 96, 1023, 55), (141, true, 1, 1013, 96, 1012, 0), (142, false, 5, 1003, 96, 1002, 52), (143, false, 2, 991, 96, 990, 49), (144, false, 2, 1020, 96, 1019, 54), (145, true, 2, 979, 96, 978, 0), (146, false, 2, 968, 96, 967, 45), (147, false, 1, 1086, 96, 1085, 61), (148, false, 2, 1051, 96, 1050, 57), (149, false, 2, 1098, 96, 1097, 64), (150, false, 3, 1094, 96, 1093, 63), (151, false, 3, 1102, 96, 1101, 65), (152, false, 2, 1090, 96, 1089, 62), (153, false, 3, 1082, 96, 1081, 60), (154, false, 1, 1078, 96, 1077, 59), (155, false, 2, 1074, 96, 1073, 58), (156, false, 1, 1186, 96, 1185, 75), (157, false, 2, 1307, 96, 1306, 86), (158, true, 1, 957, 96, 956, 0), (159, false, 5, 954, 96, 952, 953), (160, false, 3, 983, 96, 981, 982), (161, false, 3, 1028, 96, 1026, 1027), (162, false, 3, 1032, 96, 1030, 1031), (163, false, 3, 1039, 96, 1037, 1038), (164, false, 2, 1047, 96, 1045, 1046), (165, true, 1, 1058, 96, 1057, 0), (166, false, 4, 1055, 96, 1053, 1054), (167, false, 2, 1062, 96, 1060, 1061), (168, false, 5, 1066, 96, 1064, 1065), (169, false, 2, 1070, 96, 1068, 1069), (170, false, 1, 1110, 96, 1109, 66), (171, false, 2, 1106, 96, 1104, 1105), (172, false, 2, 1115, 96, 1113, 1114), (173, false, 2, 1119, 96, 1117, 1118), (174, false, 2, 1127, 96, 1126, 67), (175, false, 2, 1123, 96, 1121, 1122), (176, false, 3, 1135, 96, 1134, 68), (177, false, 3, 1131, 96, 1129, 1130), (178, false, 2, 1147, 96, 1146, 70), (179, false, 2, 1151, 96, 1150, 71), (180, false, 2, 1143, 96, 1142, 69), (181, true, 1, 1158, 96, 1157, 0), (182, false, 2, 1139, 96, 1137, 1138), (183, false, 2, 1155, 96, 1153, 1154), (184, false, 3, 1166, 96, 1165, 72), (185, false, 1, 1162, 96, 1160, 1161), (186, false, 3, 1170, 96, 1168, 1169), (187, false, 2, 1182, 96, 1180, 1181), (188, false, 3, 1190, 96, 1188, 1189), (189, false, 4, 1198, 96, 1197, 76), (190, false, 3, 1194, 96, 1192, 1193), (191, false, 4, 1206, 96, 1205, 77), (192, false, 3, 1202, 96, 1200, 1201), (193, true, 2, 1213, 96, 1212, 0), (194, false, 4, 1210, 96, 1208, 1209), (195, false, 4, 1217, 96, 1215, 1216), (196, false, 2, 1236, 96, 1235, 80), (197, true, 1, 1035, 96, 1034, 0), (198, false, 1, 1228, 96, 1227, 78), (199, false, 1, 1244, 96, 1243, 82), (200, false, 3, 1232, 96, 1231, 79), (201, false, 3, 1240, 96, 1239, 81), (202, false, 3, 1248, 96, 1247, 83), (203, false, 3, 1252, 96, 1251, 84), (204, false, 4, 1224, 96, 1222, 1223), (205, false, 2, 1256, 96, 1254, 1255), (206, true, 1, 1220, 96, 1219, 0), (207, false, 4, 1260, 96, 1258, 1259), (208, false, 4, 1264, 96, 1262, 1263), (209, false, 6, 1268, 96, 1266, 1267), (210, false, 2, 1276, 96, 1275, 85), (211, false, 2, 1272, 96, 1270, 1271), (212, false, 2, 1280, 96, 1278, 1279), (213, false, 1, 1284, 96, 1282, 1283), (214, false, 1, 1291, 96, 1289, 1290), (215, false, 2, 1295, 96, 1293, 1294), (216, false, 1, 1299, 96, 1297, 1298), (217, false, 2, 1303, 96, 1301, 1302), (218, false, 2, 1311, 96, 1309, 1310), (219, true, 1, 646, 99, 645, 0), (220, true, 2, 396, 97, 395, 0), (221, true, 1, 369, 97, 368, 0), (222, true, 2, 402, 97, 401, 0), (223, true, 2, 399, 97, 398, 0)]
def zst : Nat → Bool
  | 2 => true
  | 6 => true
  | 7 => true
  | 8 => true
  | 9 => true
  | 14 => true
  | 55 => true
  | 60 => true
  | 103 => true
  | 105 => true
  | 111 => true
  | 112 => true
  | 113 => true
  | 117 => true
  | 136 => true
  | 141 => true
  | 145 => true
  | 158 => true
  | 165 => true
  | 181 => true
  | 193 => true
  | 197 => true
  | 206 => true
  | 219 => true
  | 220 => true
  | 221 => true
  | 222 => true
  | 223 => true
  | 224 => true
  | _ => false
def zna : Nat → Nat
  | 0 => 3
  | 1 => 4
  | 2 => 3
  | 3 => 3
  | 4 => 4
  | 5 => 2
  | 6 => 2
  | 7 => 1
  | 8 => 3
  | 9 => 2
  | 10 => 1
  | 11 => 2
  | 12 => 1
  | 13 => 2
  | 14 => 1
  | 15 => 2
  | 16 => 2
  | 17 => 2
  | 18 => 5
  | 19 => 2
  | 20 => 1
  | 21 => 2
  | 22 => 2
  | 23 => 2
  | 24 => 2
  | 25 => 3
  | 26 => 2
  | 27 => 2
  | 28 => 2
  | 29 => 3
  | 30 => 2
  | 31 => 2
  | 32 => 2
  | 33 => 2
  | 34 => 2
  | 35 => 2
  | 36 => 1
  | 37 => 1
  | 38 => 1
  | 39 => 3
  | 40 => 1
  | 41 => 1
  | 42 => 1
  | 43 => 2
  | 44 => 4
  | 45 => 3
  | 46 => 2
  | 47 => 3
  | 48 => 2
  | 49 => 2
  | 50 => 1
  | 51 => 3
  | 52 => 3
  | 53 => 3
  | 54 => 2
  | 55 => 2
  | 56 => 6
  | 57 => 5
  | 58 => 4
  | 59 => 4
  | 60 => 2
  | 61 => 5
  | 62 => 3
  | 63 => 3
  | 64 => 3
  | 65 => 3
  | 66 => 2
  | 67 => 4
  | 68 => 2
  | 69 => 3
  | 70 => 2
  | 71 => 2
  | 72 => 5
  | 73 => 2
  | 74 => 2
  | 75 => 2
  | 76 => 2
  | 77 => 2
  | 78 => 3
  | 79 => 2
  | 80 => 2
  | 81 => 1
  | 82 => 3
  | 83 => 2
  | 84 => 3
  | 85 => 3
  | 86 => 3
  | 87 => 4
  | 88 => 4
  | 89 => 4
  | 90 => 2
  | 91 => 4
  | 92 => 4
  | 93 => 6
  | 94 => 2
  | 95 => 2
  | 96 => 1
  | 97 => 1
  | 98 => 2
  | 99 => 1
  | 100 => 2
  | 101 => 2
  | 102 => 2
  | 103 => 2
  | 104 => 2
  | 105 => 1
  | 106 => 2
  | 107 => 4
  | 108 => 4
  | 109 => 4
  | 110 => 2
  | 111 => 3
  | 112 => 3
  | 113 => 2
  | 114 => 1
  | 115 => 1
  | 116 => 2
  | 117 => 1
  | 118 => 3
  | 119 => 4
  | 120 => 3
  | 121 => 2
  | 122 => 3
  | 123 => 1
  | 124 => 2
  | 125 => 3
  | 126 => 1
  | 127 => 1
  | 128 => 1
  | 129 => 1
  | 130 => 1
  | 131 => 1
  | 132 => 1
  | 133 => 2
  | 134 => 2
  | 135 => 2
  | 136 => 3
  | 137 => 2
  | 138 => 2
  | 139 => 2
  | 140 => 2
  | 141 => 1
  | 142 => 5
  | 143 => 2
  | 144 => 2
  | 145 => 2
  | 146 => 2
  | 147 => 1
  | 148 => 2
  | 149 => 2
  | 150 => 3
  | 151 => 3
  | 152 => 2
  | 153 => 3
  | 154 => 1
  | 155 => 2
  | 156 => 1
  | 157 => 2
  | 158 => 1
  | 159 => 5
  | 160 => 3
  | 161 => 3
  | 162 => 3
  | 163 => 3
  | 164 => 2
  | 165 => 1
  | 166 => 4
  | 167 => 2
  | 168 => 5
  | 169 => 2
  | 170 => 1
  | 171 => 2
  | 172 => 2
  | 173 => 2
  | 174 => 2
  | 175 => 2
  | 176 => 3
  | 177 => 3
  | 178 => 2
  | 179 => 2
  | 180 => 2
  | 181 => 1
  | 182 => 2
  | 183 => 2
  | 184 => 3
  | 185 => 1
  | 186 => 3
  | 187 => 2
  | 188 => 3
  | 189 => 4
  | 190 => 3
  | 191 => 4
  | 192 => 3
  | 193 => 2
  | 194 => 4
  | 195 => 4
  | 196 => 2
  | 197 => 1
  | 198 => 1
  | 199 => 1
  | 200 => 3
  | 201 => 3
  | 202 => 3
  | 203 => 3
  | 204 => 4
  | 205 => 2
  | 206 => 1
  | 207 => 4
  | 208 => 4
  | 209 => 6
  | 210 => 2
  | 211 => 2
  | 212 => 2
  | 213 => 1
  | 214 => 1
  | 215 => 2
  | 216 => 1
  | 217 => 2
  | 218 => 2
  | 219 => 1
  | 220 => 2
  | 221 => 1
  | 222 => 2
  | 223 => 2
  | 224 => 1
  | _ => 0
def zTb : List Cond := lw_tbl.filter goodWord
end
section
/-! A small machine over tables of numbers: what one method does with the cells, as a function. -/
def zup (σ : zS) (c i k : Nat) (v : Int32) : zS := fun c' i' k' => if c' = c ∧ i' = i ∧ k' = k then v else σ c' i' k'
def zcp (σ : zS) (c i c2 i2 sp dp n : Nat) : zS := fun c' i' k => if c' = c2 ∧ i' = i2 then va_cpy (σ c i) (σ c2 i2) sp dp n k else σ c' i' k
def zget (ls : zO) (k : Nat) : Option zA := match ls[k]? with
  | some (some v) => some v
  | _ => none
def zlong : zA → Bool
  | .inr (.inl _) => true
  | _ => false
def zset (ls : zO) (k : Nat) (v : zA) : Option zO :=
  if k < ls.length then
    (match k with
    | 0 => some (ls.set 0 (some v))
    | j + 1 => match ls[j]? with
      | some (some w) => if zlong w then none else some (ls.set (j + 1) (some v))
      | _ => some (ls.set (j + 1) (some v)))
  else none
/-- how many numbers a cell of numbers has; that of the script (50) stands beside it -/
def zln (σ : zS) (c i : Nat) : Nat := match c with
  | 50 => (σ 50 1 0).toNatClampNeg
  | 51 => 6
  | 52 => 7
  | 53 => 28
  | c => zlen c i
/-- cells of ints that may be written -/
def zia (c : Nat) : Bool := 10 ≤ c && c < 43 && c != 25
def zfv (σ : zS) (c i k : Nat) : zA := match zfr c k i with
  | some q => zR q.1 q.2
  | none => zI (σ c i k)
def zsw (x : Int32) : Int → List Int → Int → Int
  | _, [], d => d
  | lo, o :: r, d => if x.toInt = lo then o else zsw x (lo + 1) r d
def zlk (x : Int32) : List (Int × Int) → Int → Int
  | [], d => d
  | q :: r, d => if x.toInt = q.1 then q.2 else zlk x r d
def ztg (pc : Nat) (off : Int) : Option Nat := if 0 ≤ (pc : Int) + off then some ((pc : Int) + off).toNat else none
def zcat : zA → Nat
  | .inr (.inl _) => 2
  | _ => 1
def zbin (f : Int32 → Int32 → Int32) (pc : Nat) (ls : zO) (st : List zA) (σ : zS) : Option (Nat × zO × List zA × zS) := match st with
  | .inl y :: .inl x :: r => some (pc + 1, ls, zI (f x y) :: r, σ)
  | _ => none
def zbr1 (c : Int32 → Bool) (off : Int) (pc : Nat) (ls : zO) (st : List zA) (σ : zS) : Option (Nat × zO × List zA × zS) := match st with
  | .inl x :: r => (match ztg pc off with
    | some t => some (if c x then t else pc + 3, ls, r, σ)
    | none => none)
  | _ => none
def zbr2 (c : Int32 → Int32 → Bool) (off : Int) (pc : Nat) (ls : zO) (st : List zA) (σ : zS) : Option (Nat × zO × List zA × zS) := match st with
  | .inl y :: .inl x :: r => (match ztg pc off with
    | some t => some (if c x y then t else pc + 3, ls, r, σ)
    | none => none)
  | _ => none
def zpush (v : zA) (ln pc : Nat) (ls : zO) (st : List zA) (σ : zS) : Option (Nat × zO × List zA × zS) := some (pc + ln, ls, v :: st, σ)
def zldi (k ln pc : Nat) (ls : zO) (st : List zA) (σ : zS) : Option (Nat × zO × List zA × zS) := match zget ls k with
  | some (.inl x) => some (pc + ln, ls, zI x :: st, σ)
  | _ => none
def zlda (k ln pc : Nat) (ls : zO) (st : List zA) (σ : zS) : Option (Nat × zO × List zA × zS) := match zget ls k with
  | some (.inr (.inr q)) => some (pc + ln, ls, zR q.1 q.2 :: st, σ)
  | _ => none
def zsti (k ln pc : Nat) (ls : zO) (st : List zA) (σ : zS) : Option (Nat × zO × List zA × zS) := match st with
  | .inl x :: r => (match zset ls k (zI x) with
    | some ls' => some (pc + ln, ls', r, σ)
    | none => none)
  | _ => none
def zsta (k ln pc : Nat) (ls : zO) (st : List zA) (σ : zS) : Option (Nat × zO × List zA × zS) := match st with
  | .inr (.inr q) :: r => (match zset ls k (zR q.1 q.2) with
    | some ls' => some (pc + ln, ls', r, σ)
    | none => none)
  | _ => none
abbrev zin (i : Int32) (n : Nat) : Prop := ¬ (i < 0 ∨ n ≤ i.toNatClampNeg)
def zstep (o : Nat) (i : Instr) (ln pc : Nat) (ls : zO) (st : List zA) (σ : zS) : Option (Nat × zO × List zA × zS) := match i with
  | .iconst n => zpush (zI (Int32.ofInt n)) 1 pc ls st σ
  | .bipush n => zpush (zI (Int8.ofInt n).toInt32) 2 pc ls st σ
  | .sipush n => zpush (zI (Int16.ofInt n).toInt32) 3 pc ls st σ
  | .ldc x => (match zk o x with
    | some v => zpush (zI v) 2 pc ls st σ
    | none => none)
  | .ldc_w x => (match zk o x with
    | some v => zpush (zI v) 3 pc ls st σ
    | none => none)
  | .ldc2_w x => (match zkL o x with
    | some v => zpush (zL v) 3 pc ls st σ
    | none => none)
  | .iload k => zldi k 2 pc ls st σ
  | .iload_n k => zldi k 1 pc ls st σ
  | .lload_n k => (match zget ls k with
    | some (.inr (.inl x)) => some (pc + 1, ls, zL x :: st, σ)
    | _ => none)
  | .aload k => zlda k 2 pc ls st σ
  | .aload_n k => zlda k 1 pc ls st σ
  | .istore k => zsti k 2 pc ls st σ
  | .istore_n k => zsti k 1 pc ls st σ
  | .astore k => zsta k 2 pc ls st σ
  | .astore_n k => zsta k 1 pc ls st σ
  | .iinc k n => if ln = 3 then (match zget ls k with
    | some (.inl x) => (match zset ls k (zI (x + Int32.ofInt n)) with
      | some ls' => some (pc + 3, ls', st, σ)
      | none => none)
    | _ => none) else none
  | .iadd => zbin (fun x y => x + y) pc ls st σ
  | .isub => zbin (fun x y => x - y) pc ls st σ
  | .imul => zbin (fun x y => x * y) pc ls st σ
  | .iand => zbin (fun x y => x &&& y) pc ls st σ
  | .ior => zbin (fun x y => x ||| y) pc ls st σ
  | .ixor => zbin (fun x y => x ^^^ y) pc ls st σ
  | .ishl => zbin (fun x y => x <<< (y &&& 31)) pc ls st σ
  | .ishr => zbin (fun x y => x >>> (y &&& 31)) pc ls st σ
  | .iushr => zbin (fun x y => (x.toUInt32 >>> (y.toUInt32 &&& Int32.toUInt32 31)).toInt32) pc ls st σ
  | .idiv => (match st with
    | .inl y :: .inl x :: r => if y = 0 then none else some (pc + 1, ls, zI (x / y) :: r, σ)
    | _ => none)
  | .irem => (match st with
    | .inl y :: .inl x :: r => if y = 0 then none else some (pc + 1, ls, zI (x - x / y * y) :: r, σ)
    | _ => none)
  | .ineg => (match st with
    | .inl x :: r => some (pc + 1, ls, zI (-x) :: r, σ)
    | _ => none)
  | .i2l => (match st with
    | .inl x :: r => some (pc + 1, ls, zL x.toInt64 :: r, σ)
    | _ => none)
  | .l2i => (match st with
    | .inr (.inl x) :: r => some (pc + 1, ls, zI x.toInt32 :: r, σ)
    | _ => none)
  | .land => (match st with
    | .inr (.inl y) :: .inr (.inl x) :: r => some (pc + 1, ls, zL (x &&& y) :: r, σ)
    | _ => none)
  | .lor => (match st with
    | .inr (.inl y) :: .inr (.inl x) :: r => some (pc + 1, ls, zL (x ||| y) :: r, σ)
    | _ => none)
  | .lshl => (match st with
    | .inl y :: .inr (.inl x) :: r => some (pc + 1, ls, zL (x <<< (y.toInt64 &&& 63)) :: r, σ)
    | _ => none)
  | .lshr => (match st with
    | .inl y :: .inr (.inl x) :: r => some (pc + 1, ls, zL (x >>> (y.toInt64 &&& 63)) :: r, σ)
    | _ => none)
  | .lushr => (match st with
    | .inl y :: .inr (.inl x) :: r => some (pc + 1, ls, zL ((x.toUInt64 >>> (y.toInt64.toUInt64 &&& Int64.toUInt64 63)).toInt64) :: r, σ)
    | _ => none)
  | .dup => (match st with
    | v :: r => if zlong v then none else some (pc + 1, ls, v :: v :: r, σ)
    | _ => none)
  | .dup2 => (match st with
    | v :: w :: r => if zlong v || zlong w then none else some (pc + 1, ls, v :: w :: v :: w :: r, σ)
    | _ => none)
  | .getfield x => (match st with
    | .inr (.inr q) :: r => (match zf o x with
      | some (c, k) => if q.1 = c then some (pc + 3, ls, zfv σ c q.2 k :: r, σ) else none
      | none => none)
    | _ => none)
  | .putfield x => (match st with
    | .inl v :: .inr (.inr q) :: r => (match zf o x with
      | some (c, k) => if q.1 = c ∧ zfr c k q.2 = none ∧ (zT c k).2.2.2 = false ∧ (zfb c k = true → v = 0 ∨ v = 1) then some (pc + 3, ls, r, zup σ c q.2 k v) else none
      | none => none)
    | _ => none)
  | .getstatic x => (match zg o x with
    | some t => some (pc + 3, ls, zR t 0 :: st, σ)
    | none => none)
  | .iaload => (match st with
    | .inl j :: .inr (.inr q) :: r => if (zia q.1 = true ∨ q.1 = 50 ∨ q.1 = 52 ∨ q.1 = 53) ∧ zin j (zln σ q.1 q.2) then some (pc + 1, ls, zI (σ q.1 q.2 j.toNatClampNeg) :: r, σ) else none
    | _ => none)
  | .caload => (match st with
    | .inl j :: .inr (.inr q) :: r => if q.1 = 51 ∧ zin j (zln σ q.1 q.2) then some (pc + 1, ls, zI (σ q.1 q.2 j.toNatClampNeg) :: r, σ) else none
    | _ => none)
  | .aaload => (match st with
    | .inl j :: .inr (.inr q) :: r => if q.1 = 25 ∧ zin j 4 then some (pc + 1, ls, zR 4 j.toNatClampNeg :: r, σ) else none
    | _ => none)
  | .iastore => (match st with
    | .inl v :: .inl j :: .inr (.inr q) :: r => if zia q.1 = true ∧ zin j (zln σ q.1 q.2) then some (pc + 1, ls, r, zup σ q.1 q.2 j.toNatClampNeg v) else none
    | _ => none)
  | .arraylength => (match st with
    | .inr (.inr q) :: r => if zia q.1 = true ∨ q.1 = 50 ∨ q.1 = 52 ∨ q.1 = 53 ∨ q.1 = 51 then some (pc + 1, ls, zI (Int32.ofNat (zln σ q.1 q.2)) :: r, σ) else none
    | _ => none)
  | .ifCond .eq off => zbr1 (fun x => decide (x = 0)) off pc ls st σ
  | .ifCond .ne off => zbr1 (fun x => decide (¬ x = 0)) off pc ls st σ
  | .ifCond .lt off => zbr1 (fun x => decide (x < 0)) off pc ls st σ
  | .ifCond .ge off => zbr1 (fun x => decide (0 ≤ x)) off pc ls st σ
  | .ifCond .gt off => zbr1 (fun x => decide (0 < x)) off pc ls st σ
  | .ifCond .le off => zbr1 (fun x => decide (x ≤ 0)) off pc ls st σ
  | .if_icmp .eq off => zbr2 (fun x y => decide (x = y)) off pc ls st σ
  | .if_icmp .ne off => zbr2 (fun x y => decide (¬ x = y)) off pc ls st σ
  | .if_icmp .lt off => zbr2 (fun x y => decide (x < y)) off pc ls st σ
  | .if_icmp .ge off => zbr2 (fun x y => decide (y ≤ x)) off pc ls st σ
  | .if_icmp .gt off => zbr2 (fun x y => decide (y < x)) off pc ls st σ
  | .if_icmp .le off => zbr2 (fun x y => decide (x ≤ y)) off pc ls st σ
  | .goto off => (match ztg pc off with
    | some t => some (t, ls, st, σ)
    | none => none)
  | .tableswitch d lo hi offs => (match st with
    | .inl x :: r => if hi + 1 = lo + offs.size then (match ztg pc (zsw x lo offs.toList d) with
      | some t => some (t, ls, r, σ)
      | none => none) else none
    | _ => none)
  | .lookupswitch d ps => (match st with
    | .inl x :: r => if (ps.toList.zip (ps.toList.drop 1)).all (fun (a, next) => a.1 < next.1) = true then (match ztg pc (zlk x ps.toList d) with
      | some t => some (t, ls, r, σ)
      | none => none) else none
    | _ => none)
  | .invokestatic x => if za o x = true then (match st with
    | .inl n :: .inl dp :: .inr (.inr q2) :: .inl sp :: .inr (.inr q1) :: r =>
      if zia q1.1 = true ∧ zia q2.1 = true ∧ ¬ sp < 0 ∧ ¬ dp < 0 ∧ ¬ n < 0 ∧ sp.toNatClampNeg + n.toNatClampNeg ≤ zln σ q1.1 q1.2 ∧ dp.toNatClampNeg + n.toNatClampNeg ≤ zln σ q2.1 q2.2 ∧ (r.map zcat).sum ≤ 8 then
        some (pc + 3, ls, r, zcp σ q1.1 q1.2 q2.1 q2.2 sp.toNatClampNeg dp.toNatClampNeg n.toNatClampNeg) else none
    | _ => none) else none
  | _ => none
def zret (mi : Nat) (i : Instr) (st : List zA) : Option (Option zA) := match i with
  | .ireturn => (match st with
    | [.inl x] => (match zr mi with
      | some .int => some (some (zI x))
      | some .boolean => if x = 0 ∨ x = 1 then some (some (zI x)) else none
      | _ => none)
    | _ => none)
  | .areturn => (match st with
    | [.inr (.inr q)] => (match zr mi with
      | some (.object _) => some (some (zR q.1 q.2))
      | _ => none)
    | _ => none)
  | .return_ => (match st with
    | [] => (match zr mi with
      | none => some none
      | _ => none)
    | _ => none)
  | _ => none
def zel (as : List zA) : zO := as.flatMap (fun a => if zlong a then [some a, none] else [some a])
def zent (as : List zA) (nL : Nat) : zO := zel as ++ List.replicate (nL - (zel as).length) none
def zrcv (mj : Nat) (as : List zA) : Bool := match as with
  | .inr (.inr q) :: _ => q.1 == zo mj
  | _ => false
/-- a call: the method, what goes in, what stays below -/
def zcall (o : Nat) (i : Instr) (st : List zA) : Option (Nat × List zA × List zA) := match i with
  | .invokestatic x => (match zc o x with
    | some mj => if zst mj = true ∧ zna mj ≤ st.length ∧ ((st.drop (zna mj)).map zcat).sum ≤ 8 ∧ (zel (st.take (zna mj)).reverse).length ≤ zn mj then some (mj, (st.take (zna mj)).reverse, st.drop (zna mj)) else none
    | none => none)
  | .invokevirtual x => (match zc o x with
    | some mj => if zst mj = false ∧ zna mj ≤ st.length ∧ ((st.drop (zna mj)).map zcat).sum ≤ 8 ∧ (zel (st.take (zna mj)).reverse).length ≤ zn mj ∧ zrcv mj (st.take (zna mj)).reverse = true then some (mj, (st.take (zna mj)).reverse, st.drop (zna mj)) else none
    | none => none)
  | _ => none
/-- how long an instruction must be here -/
def zlo (i : Instr) (ln : Nat) : Bool := match i with
  | .bipush _ | .ldc _ | .iload _ | .aload _ | .istore _ | .astore _ => ln == 2
  | .sipush _ | .ldc_w _ | .ldc2_w _ | .iinc _ _ | .getfield _ | .putfield _ | .getstatic _ | .ifCond _ _ | .if_icmp _ _ | .goto _ | .invokestatic _ | .invokevirtual _ => ln == 3
  | .tableswitch _ _ _ _ | .lookupswitch _ _ => true
  | _ => ln == 1
def zrun : Nat → Nat → Nat → Nat → zO → List zA → zS → Option (Option zA × zS)
  | 0, _, _, _, _, _, _ => none
  | n + 1, d, mi, pc, ls, st, σ =>
    match decode (zb mi) pc with
    | .error _ => none
    | .ok (i, ln) =>
      if zlo i ln = false then none else
      match zstep (zo mi) i ln pc ls st σ with
      | some (pc', ls', st', σ') => zrun n d mi pc' ls' st' σ'
      | none =>
        match zret mi i st with
        | some r => some (r, σ)
        | none =>
          match zcall (zo mi) i st with
          | none => none
          | some (mj, as, rest) =>
            match d with
            | 0 => none
            | d' + 1 =>
              match zrun n d' mj 0 (zent as (zn mj)) [] σ with
              | none => none
              | some (r, σ') => zrun n (d' + 1) mi (pc + 3) ls (r.toList ++ rest) σ'
end
section
/-! The machine's world as cells of the heap. -/
def zcell (cI cS : ClassId) (ad : Nat → Nat → Nat) (σ : zS) (c i : Nat) : va_E :=
  if c < 9 then .inr (c, (List.range (znf c)).map (fun k => match zfr c k i with
    | some q => Value.ref (ad q.1 q.2)
    | none => Value.int (σ c i k)))
  else if c = 25 then .inl (cS, 4, .inr (.inr (.inr (.inr (fun k => some (ad 4 k))))))
  else .inl (cI, zlen c i, .inl (σ c i))
def zwl (cI cS : ClassId) (ad : Nat → Nat → Nat) (σ : zS) : va_W := zpls.map (fun q => (ad q.1 q.2, zcell cI cS ad σ q.1 q.2))
def zenc (ad : Nat → Nat → Nat) : zA → Value
  | .inl x => .int x
  | .inr (.inl x) => .long x
  | .inr (.inr q) => .ref (ad q.1 q.2)
def zokp (c i : Nat) : Prop := i < zcnt c ∨ (50 ≤ c ∧ c < 54 ∧ i = 0)
def zok : zA → Prop
  | .inr (.inr q) => zokp q.1 q.2
  | _ => True
theorem zcat_enc (ad : Nat → Nat → Nat) (v : zA) : (zenc ad v).category = zcat v := by
  rcases v with x | x | q <;> rfl
theorem zcat_sum (ad : Nat → Nat → Nat) (r : List zA) : ((r.map (zenc ad)).map fun v => v.category).sum = (r.map zcat).sum := by
  rw [List.map_map]
  congr 1
  exact List.map_congr_left (fun v _ => zcat_enc ad v)
theorem zlong_cat {ad : Nat → Nat → Nat} {v : zA} (h : zlong v = false) : (zenc ad v).category = 1 := by
  rcases v with x | x | q
  · rfl
  · simp [zlong] at h
  · rfl
theorem zcnt_le : ∀ c, c < 43 → zcnt c ≤ 4 := by decide +kernel
theorem zcnt_big {c i : Nat} (h : i < zcnt c) : c < 43 ∧ i < 4 := by
  rcases Nat.lt_or_ge c 43 with hc | hc
  · exact ⟨hc, Nat.lt_of_lt_of_le h (zcnt_le c hc)⟩
  · exfalso
    unfold zcnt at h
    split at h <;> omega
theorem zmem0 : ∀ c, c < 43 → ∀ i, i < zcnt c → (c, i) ∈ zpls := by decide +kernel
theorem zpl_at {c i : Nat} (h : i < zcnt c) : ∃ k : Nat, zpls[k]? = some (c, i) := List.getElem?_of_mem (zmem0 c (zcnt_big h).1 i h)
theorem zpl_nd : zpls.Nodup := by decide +kernel
theorem zpl_ok : ∀ q ∈ zpls, q.2 < zcnt q.1 := by decide +kernel
theorem zwl_at {cI cS : ClassId} {ad : Nat → Nat → Nat} {σ : zS} {k c i : Nat} (h : zpls[k]? = some (c, i)) : (zwl cI cS ad σ)[k]? = some (ad c i, zcell cI cS ad σ c i) := by
  simp [zwl, h]
theorem zcell_congr {cI cS : ClassId} {ad : Nat → Nat → Nat} {σ σ' : zS} {c i : Nat} (h : σ c i = σ' c i) : zcell cI cS ad σ c i = zcell cI cS ad σ' c i := by
  unfold zcell
  rw [h]
theorem zwl_set {cI cS : ClassId} {ad : Nat → Nat → Nat} {σ σ' : zS} {k c i : Nat} (h : zpls[k]? = some (c, i)) (hn : ∀ c' i', (c', i') ≠ (c, i) → σ' c' i' = σ c' i') : (zwl cI cS ad σ).set k (ad c i, zcell cI cS ad σ' c i) = zwl cI cS ad σ' := by
  apply List.ext_getElem?
  intro n
  have hk : k < zpls.length := (List.getElem?_eq_some_iff.mp h).1
  by_cases hnk : k = n
  · subst hnk
    rw [List.getElem?_set_self (by simpa [zwl] using hk), zwl_at h]
  · rw [List.getElem?_set_ne hnk]
    cases hq : zpls[n]? with
    | none => simp [zwl, hq]
    | some q =>
      have hne : q ≠ (c, i) := by
        rintro rfl
        exact hnk ((List.getElem?_inj hk zpl_nd).mp (h.trans hq.symm))
      rw [zwl_at (c := q.1) (i := q.2) hq, zwl_at (c := q.1) (i := q.2) hq, zcell_congr (hn q.1 q.2 hne)]
theorem zup_ne {σ : zS} {c i k : Nat} {v : Int32} {c' i' : Nat} (h : (c', i') ≠ (c, i)) : zup σ c i k v c' i' = σ c' i' := by
  funext j
  unfold zup
  rw [if_neg]
  rintro ⟨h1, h2, -⟩
  exact h (by rw [h1, h2])
theorem zup_self {σ : zS} {c i k : Nat} {v : Int32} : zup σ c i k v c i = upd (σ c i) k v := by
  funext j
  simp [zup, upd]
theorem zcp_ne {σ : zS} {c i c2 i2 sp dp n : Nat} {c' i' : Nat} (h : (c', i') ≠ (c2, i2)) : zcp σ c i c2 i2 sp dp n c' i' = σ c' i' := by
  funext j
  unfold zcp
  rw [if_neg]
  rintro ⟨h1, h2⟩
  exact h (by rw [h1, h2])
theorem zcp_self {σ : zS} {c i c2 i2 sp dp n : Nat} : zcp σ c i c2 i2 sp dp n c2 i2 = va_cpy (σ c i) (σ c2 i2) sp dp n := by
  funext j
  simp [zcp]
/-- the list of the locals that are known -/
def zpr (ad : Nat → Nat → Nat) : Nat → zO → List (Nat × Value)
  | _, [] => []
  | i, none :: r => zpr ad (i + 1) r
  | i, some v :: r => (i, zenc ad v) :: zpr ad (i + 1) r
theorem zpr_mem {ad : Nat → Nat → Nat} (ls : zO) : ∀ (n j : Nat) (w : Value), (j, w) ∈ zpr ad n ls ↔ ∃ (k : Nat) (v : zA), j = n + k ∧ ls[k]? = some (some v) ∧ w = zenc ad v := by
  induction ls with
  | nil => intro n j w; simp [zpr]
  | cons a r ih =>
    intro n j w
    cases a with
    | none =>
      simp only [zpr, ih]
      constructor
      · rintro ⟨k, v, h1, h2, h3⟩
        exact ⟨k + 1, v, by omega, by simpa using h2, h3⟩
      · rintro ⟨k, v, h1, h2, h3⟩
        cases k with
        | zero => simp at h2
        | succ k => exact ⟨k, v, by omega, by simpa using h2, h3⟩
    | some x =>
      simp only [zpr, List.mem_cons, ih, Prod.mk.injEq]
      constructor
      · rintro (⟨h1, h2⟩ | ⟨k, v, h1, h2, h3⟩)
        · exact ⟨0, x, by omega, by simp, h2⟩
        · exact ⟨k + 1, v, by omega, by simpa using h2, h3⟩
      · rintro ⟨k, v, h1, h2, h3⟩
        cases k with
        | zero =>
          left
          simp at h2
          subst h2
          exact ⟨by omega, h3⟩
        | succ k => right; exact ⟨k, v, by omega, by simpa using h2, h3⟩
theorem zget_some {ls : zO} {k : Nat} {v : zA} (h : zget ls k = some v) : ls[k]? = some (some v) := by
  unfold zget at h
  split at h
  · rename_i w hw
    cases h
    exact hw
  · cases h
theorem zls_get {ad : Nat → Nat → Nat} {lsA : Array Slot} {nL : Nat} {ls : zO} (h : lv_has lsA nL (zpr ad 0 ls)) {k : Nat} {v : zA} (hk : zget ls k = some v) : lsA[k]? = some (.val (zenc ad v)) :=
  h.2.2 (k, zenc ad v) ((zpr_mem ls 0 k _).mpr ⟨k, v, by omega, zget_some hk, rfl⟩)
theorem zset_some {ls ls' : zO} {k : Nat} {v : zA} (h : zset ls k v = some ls') : k < ls.length ∧ ls' = ls.set k (some v) ∧ ∀ j w, k = j + 1 → ls[j]? = some (some w) → zlong w = false := by
  unfold zset at h
  split at h
  · rename_i hk
    refine ⟨hk, ?_⟩
    split at h
    · cases h
      exact ⟨rfl, fun j w h1 => by omega⟩
    · split at h
      · rename_i j h0 w hw
        split at h
        · cases h
        · cases h
          rename_i hl
          refine ⟨rfl, fun j2 w2 h1 h2 => ?_⟩
          cases h1
          rw [hw] at h2
          cases h2
          simpa using hl
      · rename_i j hj
        cases h
        refine ⟨rfl, fun j2 w2 h1 h2 => ?_⟩
        cases h1
        exact absurd h2 (hj w2)
  · cases h
theorem zls_set {ad : Nat → Nat → Nat} {lsB : Array Slot} {nL : Nat} {ls ls' : zO} {k : Nat} {v : zA} (hs : zset ls k v = some ls') (h : lv_has lsB nL ((k, zenc ad v) :: (zpr ad 0 ls).filter (fun q => !(q.1 == k) && !(q.1 + 1 == k && q.2.category == 2)))) : lv_has lsB nL (zpr ad 0 ls') := by
  obtain ⟨h1, h2, h3⟩ := zset_some hs
  refine ⟨h.1, h.2.1, ?_⟩
  rintro ⟨j, w⟩ hq
  obtain ⟨n, x, rfl, hn, rfl⟩ := (zpr_mem ls' 0 j w).mp hq
  apply h.2.2
  rw [Nat.zero_add]
  subst h2
  by_cases hkn : k = n
  · subst hkn
    rw [List.getElem?_set_self h1] at hn
    cases hn
    exact List.mem_cons_self
  · rw [List.getElem?_set_ne hkn] at hn
    refine List.mem_cons_of_mem _ (List.mem_filter.mpr ⟨(zpr_mem ls 0 n _).mpr ⟨n, x, by omega, hn, rfl⟩, ?_⟩)
    have e1 : (n == k) = false := by simpa using fun q => hkn q.symm
    have e2 : (n + 1 == k && (zenc ad x).category == 2) = false := by
      by_cases hq : n + 1 = k
      · have := zlong_cat (ad := ad) (h3 n x hq.symm hn)
        rw [this]
        simp
      · simp [hq]
    simp only [e1, e2]
    rfl
theorem zset_len {ls ls' : zO} {k : Nat} {v : zA} (hs : zset ls k v = some ls') : ls'.length = ls.length := by
  rw [(zset_some hs).2.1, List.length_set]
theorem zset_mem {ls ls' : zO} {k : Nat} {v : zA} (hs : zset ls k v = some ls') {w : zA} (h : some w ∈ ls') : w = v ∨ some w ∈ ls := by
  rw [(zset_some hs).2.1] at h
  rcases List.mem_or_eq_of_mem_set h with h | h
  · exact Or.inr h
  · exact Or.inl (Option.some.inj h)
theorem zel_len_sl (ad : Nat → Nat → Nat) (as : List zA) : (lg_sl (as.map (zenc ad))).length = (zel as).length := by
  induction as with
  | nil => rfl
  | cons a r ih =>
    simp only [lg_sl, zel, List.map_cons, List.flatMap_cons, List.length_append] at ih ⊢
    rw [ih]
    rcases a with x | x | q <;> simp [zenc, zlong, Value.category]
theorem zel_args {ad : Nat → Nat → Nat} (as : List zA) : ∀ (n k : Nat) (v : zA), (zel as)[k]? = some (some v) → (n + k, zenc ad v) ∈ lv_args n (as.map (zenc ad)) := by
  induction as with
  | nil => intro n k v h; simp [zel] at h
  | cons a r ih =>
    intro n k v h
    have hc : (zel (a :: r)) = (if zlong a then [some a, none] else [some a]) ++ zel r := by simp [zel]
    rw [hc] at h
    by_cases hl : zlong a = true
    · have h2 : (zenc ad a).category = 2 := by
        rcases a with x | x | q
        · simp [zlong] at hl
        · rfl
        · simp [zlong] at hl
      simp only [hl, if_true] at h
      simp only [List.map_cons, lv_args, h2, if_true]
      match k, h with
      | 0, h =>
        simp at h
        subst h
        exact List.mem_cons_self
      | 1, h => simp at h
      | k + 2, h =>
        refine List.mem_cons_of_mem _ ?_
        have := ih (n + 2) k v (by simpa using h)
        rwa [show n + (k + 2) = n + 2 + k by omega]
    · have hl2 : zlong a = false := by simpa using hl
      have h2 : ¬ (zenc ad a).category = 2 := by rw [zlong_cat hl2]; decide
      simp only [hl2] at h
      simp only [List.map_cons, lv_args, if_neg h2]
      match k, h with
      | 0, h =>
        simp at h
        subst h
        exact List.mem_cons_self
      | k + 1, h =>
        refine List.mem_cons_of_mem _ ?_
        have := ih (n + 1) k v (by simpa using h)
        rwa [show n + (k + 1) = n + 1 + k by omega]
theorem zent_get {as : List zA} {nL k : Nat} {v : zA} (h : (zent as nL)[k]? = some (some v)) : (zel as)[k]? = some (some v) := by
  unfold zent at h
  rcases Nat.lt_or_ge k (zel as).length with hk | hk
  · rwa [List.getElem?_append_left hk] at h
  · rw [List.getElem?_append_right hk, List.getElem?_replicate] at h
    split at h <;> cases h
theorem zent_has {ad : Nat → Nat → Nat} {as : List zA} {nL : Nat} (h : (zel as).length ≤ nL) : lv_has ((lg_sl (as.map (zenc ad)) ++ List.replicate (nL - (lg_sl (as.map (zenc ad))).length) Slot.unset).toArray) nL (zpr ad 0 (zent as nL)) := by
  have h0 := lv_entry (as.map (zenc ad)) (n := nL) (by rw [zel_len_sl]; exact h)
  refine ⟨h0.1, h0.2.1, ?_⟩
  rintro ⟨j, w⟩ hq
  obtain ⟨n, x, rfl, hn, rfl⟩ := (zpr_mem _ 0 j w).mp hq
  exact h0.2.2 _ (zel_args as 0 n x (zent_get hn))
theorem zent_len {as : List zA} {nL : Nat} (h : (zel as).length ≤ nL) : (zent as nL).length = nL := by
  simp [zent]
  omega
theorem zel_mem {as : List zA} {v : zA} (h : some v ∈ zel as) : v ∈ as := by
  obtain ⟨a, h1, h2⟩ := List.mem_flatMap.mp h
  split at h2
  · simp at h2
    rw [h2]
    exact h1
  · simp at h2
    rw [h2]
    exact h1
theorem zent_mem {as : List zA} {nL : Nat} {v : zA} (h : some v ∈ zent as nL) : v ∈ as := by
  rcases List.mem_append.mp h with h | h
  · exact zel_mem h
  · have := (List.mem_replicate.mp h).2
    cases this
end
section
/-! What the tables say of the Statement's words. -/
theorem zTb_of {i : Nat} {w : Cond} (h : lw_tbl[i]? = some w) (hg : goodWord w = true) : w ∈ zTb := List.mem_filter.mpr ⟨List.mem_of_getElem? h, hg⟩
theorem zTb_good : GoodIn zTb zTb := fun w hw => ⟨hw, good_of_word (List.mem_filter.mp hw).2⟩
theorem z9 {c : Nat} {P : Nat → Prop} (hc : c < 9) (h0 : P 0) (h1 : P 1) (h2 : P 2) (h3 : P 3) (h4 : P 4) (h5 : P 5) (h6 : P 6) (h7 : P 7) (h8 : P 8) : P c := by
  have : c = 0 ∨ c = 1 ∨ c = 2 ∨ c = 3 ∨ c = 4 ∨ c = 5 ∨ c = 6 ∨ c = 7 ∨ c = 8 := by omega
  rcases this with rfl | rfl | rfl | rfl | rfl | rfl | rfl | rfl | rfl <;> assumption
theorem zcl_at {c : Nat} (hc : c < 9) : vwCl[c]? = some (zC c, zT c, znf c) := z9 (P := fun c => vwCl[c]? = some (zC c, zT c, znf c)) hc rfl rfl rfl rfl rfl rfl rfl rfl rfl
theorem zlay0 (f : Nat → Bool) : True := trivial
theorem zlay {c : Nat} (hc : c < 9) : ∀ w ∈ u_ws (zC c) (zT c) (znf c), w ∈ zTb := z9 (P := fun c => ∀ w ∈ u_ws (zC c) (zT c) (znf c), w ∈ zTb) hc (by decide +kernel) (by decide +kernel) (by decide +kernel) (by decide +kernel) (by decide +kernel) (by decide +kernel) (by decide +kernel) (by decide +kernel) (by decide +kernel)
theorem zty_ok {c : Nat} (hc : c < 9) : ∀ k, k < znf c → parseFieldDescriptor (zT c k).2.2.1 = some (zty c k) := z9 (P := fun c => ∀ k, k < znf c → parseFieldDescriptor (zT c k).2.2.1 = some (zty c k)) hc tyX0_ok tyX1_ok tyX2_ok tyX3_ok tyX4_ok tyX5_ok tyX6_ok tyX7_ok tyX8_ok
theorem znm_ok {c : Nat} (hc : c < 9) : ∀ a, a < znf c → ∀ b, b < znf c → a ≠ b → (zT c a).2.1 ≠ (zT c b).2.1 := z9 (P := fun c => ∀ a, a < znf c → ∀ b, b < znf c → a ≠ b → (zT c a).2.1 ≠ (zT c b).2.1) hc nmX0 nmX1 nmX2 nmX3 nmX4 nmX5 nmX6 nmX7 nmX8
/-- what the type of a field of numbers is -/
theorem zty_i {c : Nat} (hc : c < 9) : ∀ k, k < znf c → ∀ i, i < 4 → zfr c k i = none → zty c k = if zfb c k then .boolean else .int := z9 (P := fun c => ∀ k, k < znf c → ∀ i, i < 4 → zfr c k i = none → zty c k = if zfb c k then .boolean else .int) hc (by decide +kernel) (by decide +kernel) (by decide +kernel) (by decide +kernel) (by decide +kernel) (by decide +kernel) (by decide +kernel) (by decide +kernel) (by decide +kernel)
theorem zfr_ok {c : Nat} (hc : c < 9) : ∀ k, k < znf c → ∀ i, i < zcnt c → ∀ q ∈ zfr c k i, q.2 < zcnt q.1 := z9 (P := fun c => ∀ k, k < znf c → ∀ i, i < zcnt c → ∀ q ∈ zfr c k i, q.2 < zcnt q.1) hc (by decide +kernel) (by decide +kernel) (by decide +kernel) (by decide +kernel) (by decide +kernel) (by decide +kernel) (by decide +kernel) (by decide +kernel) (by decide +kernel)
theorem zfT_ok : ∀ q ∈ zfT, (q.2.2.1 < 9 ∧ q.2.2.2.1 < znf q.2.2.1 ∧ (zT q.2.2.1 q.2.2.2.1).1 = zC q.2.2.1) ∧ lw_tbl[q.2.2.2.2]? = some (.fieldLink (zC q.1) q.2.1 (zC q.2.2.1) (zT q.2.2.1 q.2.2.2.1).2.1 (zT q.2.2.1 q.2.2.2.1).2.2.1) ∧ goodWord (.fieldLink (zC q.1) q.2.1 (zC q.2.2.1) (zT q.2.2.1 q.2.2.2.1).2.1 (zT q.2.2.1 q.2.2.2.1).2.2.1) = true := by decide +kernel
theorem zf_ok {o x c k : Nat} (h : zf o x = some (c, k)) : (c < 9 ∧ k < znf c ∧ (zT c k).1 = zC c) ∧ .fieldLink (zC o) x (zC c) (zT c k).2.1 (zT c k).2.2.1 ∈ zTb := by
  unfold zf at h
  obtain ⟨q, hq, he⟩ := Option.map_eq_some_iff.mp h
  have h1 := List.find?_some hq
  have h2 := zfT_ok q (List.mem_of_find?_eq_some hq)
  obtain ⟨a, b, c', k', w⟩ := q
  simp only [Bool.and_eq_true, beq_iff_eq] at h1
  obtain ⟨rfl, rfl⟩ := h1
  simp only [Prod.mk.injEq] at he
  obtain ⟨rfl, rfl⟩ := he
  exact ⟨h2.1, zTb_of h2.2.1 h2.2.2⟩
def zsC : Nat → String × String × String
  | 51 => ("ApronStrings$Reader", "NAMES", "[C")
  | 52 => ("ApronStrings$Voices", "ABOVE", "[I")
  | _ => ("ApronStrings$Voices", "BODIES", "[I")
theorem zgT_ok : ∀ q ∈ zgT, (51 ≤ q.2.2.1 ∧ q.2.2.1 < 54) ∧ lw_tbl[q.2.2.2]? = some (.fieldLink (zC q.1) q.2.1 (zsC q.2.2.1).1 (zsC q.2.2.1).2.1 (zsC q.2.2.1).2.2) ∧ goodWord (.fieldLink (zC q.1) q.2.1 (zsC q.2.2.1).1 (zsC q.2.2.1).2.1 (zsC q.2.2.1).2.2) = true := by decide +kernel
theorem zg_ok {o x t : Nat} (h : zg o x = some t) : (51 ≤ t ∧ t < 54) ∧ .fieldLink (zC o) x (zsC t).1 (zsC t).2.1 (zsC t).2.2 ∈ zTb := by
  unfold zg at h
  obtain ⟨q, hq, he⟩ := Option.map_eq_some_iff.mp h
  have h1 := List.find?_some hq
  have h2 := zgT_ok q (List.mem_of_find?_eq_some hq)
  obtain ⟨a, b, c', w⟩ := q
  simp only [Bool.and_eq_true, beq_iff_eq] at h1
  obtain ⟨rfl, rfl⟩ := h1
  simp only at he
  subst he
  exact ⟨h2.1, zTb_of h2.2.1 h2.2.2⟩
theorem zkT_ok : ∀ q ∈ zkT, lw_tbl[q.2.2.2]? = some (.constant (zC q.1) q.2.1 q.2.2.1) ∧ goodWord (.constant (zC q.1) q.2.1 q.2.2.1) = true := by decide +kernel
theorem zk_ok {o x : Nat} {v : Int32} (h : zk o x = some v) : .constant (zC o) x v ∈ zTb := by
  unfold zk at h
  obtain ⟨q, hq, he⟩ := Option.map_eq_some_iff.mp h
  have h1 := List.find?_some hq
  have h2 := zkT_ok q (List.mem_of_find?_eq_some hq)
  obtain ⟨a, b, c', w⟩ := q
  simp only [Bool.and_eq_true, beq_iff_eq] at h1
  obtain ⟨rfl, rfl⟩ := h1
  simp only at he
  subst he
  exact zTb_of h2.1 h2.2
theorem zkLT_ok : ∀ q ∈ zkLT, lw_tbl[q.2.2.2]? = some (.constantLong (zC q.1) q.2.1 q.2.2.1) ∧ goodWord (.constantLong (zC q.1) q.2.1 q.2.2.1) = true := by decide +kernel
theorem zkL_ok {o x : Nat} {v : Int64} (h : zkL o x = some v) : .constantLong (zC o) x v ∈ zTb := by
  unfold zkL at h
  obtain ⟨q, hq, he⟩ := Option.map_eq_some_iff.mp h
  have h1 := List.find?_some hq
  have h2 := zkLT_ok q (List.mem_of_find?_eq_some hq)
  obtain ⟨a, b, c', w⟩ := q
  simp only [Bool.and_eq_true, beq_iff_eq] at h1
  obtain ⟨rfl, rfl⟩ := h1
  simp only at he
  subst he
  exact zTb_of h2.1 h2.2
theorem zaT_ok : ∀ q ∈ zaT, lw_tbl[q.2.2]? = some (.methodLink (zC q.1) q.2.1 arraycopyName) ∧ goodWord (.methodLink (zC q.1) q.2.1 arraycopyName) = true := by decide +kernel
theorem za_ok {o x : Nat} (h : za o x = true) : .methodLink (zC o) x arraycopyName ∈ zTb := by
  unfold za at h
  obtain ⟨q, hq⟩ := Option.isSome_iff_exists.mp h
  have h1 := List.find?_some hq
  have h2 := zaT_ok q (List.mem_of_find?_eq_some hq)
  obtain ⟨a, b, w⟩ := q
  simp only [Bool.and_eq_true, beq_iff_eq] at h1
  obtain ⟨rfl, rfl⟩ := h1
  exact zTb_of h2.1 h2.2
theorem zcopy_words : Cond.native arraycopyName ∈ zTb ∧ Cond.static arraycopyName ∈ zTb ∧ Cond.initialized "java/lang/System" ∈ zTb := ⟨zTb_of (i := 553) (by decide +kernel) (by decide +kernel), zTb_of (i := 552) (by decide +kernel) (by decide +kernel), zTb_of (i := 98) (by decide +kernel) (by decide +kernel)⟩
theorem zcT_ok : ∀ q ∈ zcT, q.2.2.1 < zMN ∧ zo q.2.2.1 ≠ 9 ∧ lw_tbl[q.2.2.2]? = some (.methodLink (zC q.1) q.2.1 (zy q.2.2.1)) ∧ goodWord (.methodLink (zC q.1) q.2.1 (zy q.2.2.1)) = true := by decide +kernel
theorem zc_ok {o x mj : Nat} (h : zc o x = some mj) : mj < zMN ∧ zo mj ≠ 9 ∧ .methodLink (zC o) x (zy mj) ∈ zTb := by
  unfold zc at h
  obtain ⟨q, hq, he⟩ := Option.map_eq_some_iff.mp h
  have h1 := List.find?_some hq
  have h2 := zcT_ok q (List.mem_of_find?_eq_some hq)
  obtain ⟨a, b, c', w⟩ := q
  simp only [Bool.and_eq_true, beq_iff_eq] at h1
  obtain ⟨rfl, rfl⟩ := h1
  simp only at he
  subst he
  exact ⟨h2.1, h2.2.1, zTb_of h2.2.2.1 h2.2.2.2⟩
end
section
/-! The words of the methods. -/
def zTb_has (w : Cond) : Prop := w ∈ lw_tbl ∧ goodWord w = true
theorem zTb_has_in {w : Cond} (h : zTb_has w) : w ∈ zTb := List.mem_filter.mpr h
set_option maxRecDepth 100000 in
theorem zmc_0 : zTb_has (.code (zy 0) (zb 0) (zn 0) (zr 0)) := ⟨List.mem_of_getElem? (i := 520) rfl, rfl⟩
set_option maxRecDepth 100000 in
theorem zmc_1 : zTb_has (.code (zy 1) (zb 1) (zn 1) (zr 1)) := ⟨List.mem_of_getElem? (i := 390) rfl, rfl⟩
set_option maxRecDepth 100000 in
theorem zmc_2 : zTb_has (.code (zy 2) (zb 2) (zn 2) (zr 2)) := ⟨List.mem_of_getElem? (i := 393) rfl, rfl⟩
set_option maxRecDepth 100000 in
theorem zmc_3 : zTb_has (.code (zy 3) (zb 3) (zn 3) (zr 3)) := ⟨List.mem_of_getElem? (i := 463) rfl, rfl⟩
set_option maxRecDepth 100000 in
theorem zmc_4 : zTb_has (.code (zy 4) (zb 4) (zn 4) (zr 4)) := ⟨List.mem_of_getElem? (i := 467) rfl, rfl⟩
set_option maxRecDepth 100000 in
theorem zmc_5 : zTb_has (.code (zy 5) (zb 5) (zn 5) (zr 5)) := ⟨List.mem_of_getElem? (i := 471) rfl, rfl⟩
set_option maxRecDepth 100000 in
theorem zmc_6 : zTb_has (.code (zy 6) (zb 6) (zn 6) (zr 6)) := ⟨List.mem_of_getElem? (i := 478) rfl, rfl⟩
set_option maxRecDepth 100000 in
theorem zmc_7 : zTb_has (.code (zy 7) (zb 7) (zn 7) (zr 7)) := ⟨List.mem_of_getElem? (i := 481) rfl, rfl⟩
set_option maxRecDepth 100000 in
theorem zmc_8 : zTb_has (.code (zy 8) (zb 8) (zn 8) (zr 8)) := ⟨List.mem_of_getElem? (i := 484) rfl, rfl⟩
set_option maxRecDepth 100000 in
theorem zmc_9 : zTb_has (.code (zy 9) (zb 9) (zn 9) (zr 9)) := ⟨List.mem_of_getElem? (i := 491) rfl, rfl⟩
set_option maxRecDepth 100000 in
theorem zmc_10 : zTb_has (.code (zy 10) (zb 10) (zn 10) (zr 10)) := ⟨List.mem_of_getElem? (i := 497) rfl, rfl⟩
set_option maxRecDepth 100000 in
theorem zmc_11 : zTb_has (.code (zy 11) (zb 11) (zn 11) (zr 11)) := ⟨List.mem_of_getElem? (i := 501) rfl, rfl⟩
set_option maxRecDepth 100000 in
theorem zmc_12 : zTb_has (.code (zy 12) (zb 12) (zn 12) (zr 12)) := ⟨List.mem_of_getElem? (i := 505) rfl, rfl⟩
set_option maxRecDepth 100000 in
theorem zmc_13 : zTb_has (.code (zy 13) (zb 13) (zn 13) (zr 13)) := ⟨List.mem_of_getElem? (i := 509) rfl, rfl⟩
set_option maxRecDepth 100000 in
theorem zmc_14 : zTb_has (.code (zy 14) (zb 14) (zn 14) (zr 14)) := ⟨List.mem_of_getElem? (i := 512) rfl, rfl⟩
set_option maxRecDepth 100000 in
theorem zmc_15 : zTb_has (.code (zy 15) (zb 15) (zn 15) (zr 15)) := ⟨List.mem_of_getElem? (i := 475) rfl, rfl⟩
set_option maxRecDepth 100000 in
theorem zmc_16 : zTb_has (.code (zy 16) (zb 16) (zn 16) (zr 16)) := ⟨List.mem_of_getElem? (i := 488) rfl, rfl⟩
set_option maxRecDepth 100000 in
theorem zmc_17 : zTb_has (.code (zy 17) (zb 17) (zn 17) (zr 17)) := ⟨List.mem_of_getElem? (i := 665) rfl, rfl⟩
set_option maxRecDepth 100000 in
theorem zmc_18 : zTb_has (.code (zy 18) (zb 18) (zn 18) (zr 18)) := ⟨List.mem_of_getElem? (i := 362) rfl, rfl⟩
set_option maxRecDepth 100000 in
theorem zmc_19 : zTb_has (.code (zy 19) (zb 19) (zn 19) (zr 19)) := ⟨List.mem_of_getElem? (i := 431) rfl, rfl⟩
set_option maxRecDepth 100000 in
theorem zmc_20 : zTb_has (.code (zy 20) (zb 20) (zn 20) (zr 20)) := ⟨List.mem_of_getElem? (i := 673) rfl, rfl⟩
set_option maxRecDepth 100000 in
theorem zmc_21 : zTb_has (.code (zy 21) (zb 21) (zn 21) (zr 21)) := ⟨List.mem_of_getElem? (i := 439) rfl, rfl⟩
set_option maxRecDepth 100000 in
theorem zmc_22 : zTb_has (.code (zy 22) (zb 22) (zn 22) (zr 22)) := ⟨List.mem_of_getElem? (i := 366) rfl, rfl⟩
set_option maxRecDepth 100000 in
theorem zmc_23 : zTb_has (.code (zy 23) (zb 23) (zn 23) (zr 23)) := ⟨List.mem_of_getElem? (i := 808) rfl, rfl⟩
set_option maxRecDepth 100000 in
theorem zmc_24 : zTb_has (.code (zy 24) (zb 24) (zn 24) (zr 24)) := ⟨List.mem_of_getElem? (i := 613) rfl, rfl⟩
set_option maxRecDepth 100000 in
theorem zmc_25 : zTb_has (.code (zy 25) (zb 25) (zn 25) (zr 25)) := ⟨List.mem_of_getElem? (i := 621) rfl, rfl⟩
set_option maxRecDepth 100000 in
theorem zmc_26 : zTb_has (.code (zy 26) (zb 26) (zn 26) (zr 26)) := ⟨List.mem_of_getElem? (i := 634) rfl, rfl⟩
set_option maxRecDepth 100000 in
theorem zmc_27 : zTb_has (.code (zy 27) (zb 27) (zn 27) (zr 27)) := ⟨List.mem_of_getElem? (i := 639) rfl, rfl⟩
set_option maxRecDepth 100000 in
theorem zmc_28 : zTb_has (.code (zy 28) (zb 28) (zn 28) (zr 28)) := ⟨List.mem_of_getElem? (i := 629) rfl, rfl⟩
set_option maxRecDepth 100000 in
theorem zmc_29 : zTb_has (.code (zy 29) (zb 29) (zn 29) (zr 29)) := ⟨List.mem_of_getElem? (i := 657) rfl, rfl⟩
set_option maxRecDepth 100000 in
theorem zmc_30 : zTb_has (.code (zy 30) (zb 30) (zn 30) (zr 30)) := ⟨List.mem_of_getElem? (i := 378) rfl, rfl⟩
set_option maxRecDepth 100000 in
theorem zmc_31 : zTb_has (.code (zy 31) (zb 31) (zn 31) (zr 31)) := ⟨List.mem_of_getElem? (i := 406) rfl, rfl⟩
set_option maxRecDepth 100000 in
theorem zmc_32 : zTb_has (.code (zy 32) (zb 32) (zn 32) (zr 32)) := ⟨List.mem_of_getElem? (i := 382) rfl, rfl⟩
set_option maxRecDepth 100000 in
theorem zmc_33 : zTb_has (.code (zy 33) (zb 33) (zn 33) (zr 33)) := ⟨List.mem_of_getElem? (i := 386) rfl, rfl⟩
set_option maxRecDepth 100000 in
theorem zmc_34 : zTb_has (.code (zy 34) (zb 34) (zn 34) (zr 34)) := ⟨List.mem_of_getElem? (i := 410) rfl, rfl⟩
set_option maxRecDepth 100000 in
theorem zmc_35 : zTb_has (.code (zy 35) (zb 35) (zn 35) (zr 35)) := ⟨List.mem_of_getElem? (i := 537) rfl, rfl⟩
set_option maxRecDepth 100000 in
theorem zmc_36 : zTb_has (.code (zy 36) (zb 36) (zn 36) (zr 36)) := ⟨List.mem_of_getElem? (i := 541) rfl, rfl⟩
set_option maxRecDepth 100000 in
theorem zmc_37 : zTb_has (.code (zy 37) (zb 37) (zn 37) (zr 37)) := ⟨List.mem_of_getElem? (i := 591) rfl, rfl⟩
set_option maxRecDepth 100000 in
theorem zmc_38 : zTb_has (.code (zy 38) (zb 38) (zn 38) (zr 38)) := ⟨List.mem_of_getElem? (i := 595) rfl, rfl⟩
set_option maxRecDepth 100000 in
theorem zmc_39 : zTb_has (.code (zy 39) (zb 39) (zn 39) (zr 39)) := ⟨List.mem_of_getElem? (i := 546) rfl, rfl⟩
set_option maxRecDepth 100000 in
theorem zmc_40 : zTb_has (.code (zy 40) (zb 40) (zn 40) (zr 40)) := ⟨List.mem_of_getElem? (i := 550) rfl, rfl⟩
set_option maxRecDepth 100000 in
theorem zmc_41 : zTb_has (.code (zy 41) (zb 41) (zn 41) (zr 41)) := ⟨List.mem_of_getElem? (i := 570) rfl, rfl⟩
set_option maxRecDepth 100000 in
theorem zmc_42 : zTb_has (.code (zy 42) (zb 42) (zn 42) (zr 42)) := ⟨List.mem_of_getElem? (i := 557) rfl, rfl⟩
set_option maxRecDepth 100000 in
theorem zmc_43 : zTb_has (.code (zy 43) (zb 43) (zn 43) (zr 43)) := ⟨List.mem_of_getElem? (i := 565) rfl, rfl⟩
set_option maxRecDepth 100000 in
theorem zmc_44 : zTb_has (.code (zy 44) (zb 44) (zn 44) (zr 44)) := ⟨List.mem_of_getElem? (i := 574) rfl, rfl⟩
set_option maxRecDepth 100000 in
theorem zmc_45 : zTb_has (.code (zy 45) (zb 45) (zn 45) (zr 45)) := ⟨List.mem_of_getElem? (i := 561) rfl, rfl⟩
set_option maxRecDepth 100000 in
theorem zmc_46 : zTb_has (.code (zy 46) (zb 46) (zn 46) (zr 46)) := ⟨List.mem_of_getElem? (i := 578) rfl, rfl⟩
set_option maxRecDepth 100000 in
theorem zmc_47 : zTb_has (.code (zy 47) (zb 47) (zn 47) (zr 47)) := ⟨List.mem_of_getElem? (i := 583) rfl, rfl⟩
set_option maxRecDepth 100000 in
theorem zmc_48 : zTb_has (.code (zy 48) (zb 48) (zn 48) (zr 48)) := ⟨List.mem_of_getElem? (i := 455) rfl, rfl⟩
set_option maxRecDepth 100000 in
theorem zmc_49 : zTb_has (.code (zy 49) (zb 49) (zn 49) (zr 49)) := ⟨List.mem_of_getElem? (i := 788) rfl, rfl⟩
set_option maxRecDepth 100000 in
theorem zmc_50 : zTb_has (.code (zy 50) (zb 50) (zn 50) (zr 50)) := ⟨List.mem_of_getElem? (i := 708) rfl, rfl⟩
set_option maxRecDepth 100000 in
theorem zmc_51 : zTb_has (.code (zy 51) (zb 51) (zn 51) (zr 51)) := ⟨List.mem_of_getElem? (i := 749) rfl, rfl⟩
set_option maxRecDepth 100000 in
theorem zmc_52 : zTb_has (.code (zy 52) (zb 52) (zn 52) (zr 52)) := ⟨List.mem_of_getElem? (i := 757) rfl, rfl⟩
set_option maxRecDepth 100000 in
theorem zmc_53 : zTb_has (.code (zy 53) (zb 53) (zn 53) (zr 53)) := ⟨List.mem_of_getElem? (i := 765) rfl, rfl⟩
set_option maxRecDepth 100000 in
theorem zmc_54 : zTb_has (.code (zy 54) (zb 54) (zn 54) (zr 54)) := ⟨List.mem_of_getElem? (i := 782) rfl, rfl⟩
set_option maxRecDepth 100000 in
theorem zmc_55 : zTb_has (.code (zy 55) (zb 55) (zn 55) (zr 55)) := ⟨List.mem_of_getElem? (i := 421) rfl, rfl⟩
set_option maxRecDepth 100000 in
theorem zmc_56 : zTb_has (.code (zy 56) (zb 56) (zn 56) (zr 56)) := ⟨List.mem_of_getElem? (i := 720) rfl, rfl⟩
set_option maxRecDepth 100000 in
theorem zmc_57 : zTb_has (.code (zy 57) (zb 57) (zn 57) (zr 57)) := ⟨List.mem_of_getElem? (i := 724) rfl, rfl⟩
set_option maxRecDepth 100000 in
theorem zmc_58 : zTb_has (.code (zy 58) (zb 58) (zn 58) (zr 58)) := ⟨List.mem_of_getElem? (i := 733) rfl, rfl⟩
set_option maxRecDepth 100000 in
theorem zmc_59 : zTb_has (.code (zy 59) (zb 59) (zn 59) (zr 59)) := ⟨List.mem_of_getElem? (i := 737) rfl, rfl⟩
set_option maxRecDepth 100000 in
theorem zmc_60 : zTb_has (.code (zy 60) (zb 60) (zn 60) (zr 60)) := ⟨List.mem_of_getElem? (i := 727) rfl, rfl⟩
set_option maxRecDepth 100000 in
theorem zmc_61 : zTb_has (.code (zy 61) (zb 61) (zn 61) (zr 61)) := ⟨List.mem_of_getElem? (i := 346) rfl, rfl⟩
set_option maxRecDepth 100000 in
theorem zmc_62 : zTb_has (.code (zy 62) (zb 62) (zn 62) (zr 62)) := ⟨List.mem_of_getElem? (i := 373) rfl, rfl⟩
set_option maxRecDepth 100000 in
theorem zmc_63 : zTb_has (.code (zy 63) (zb 63) (zn 63) (zr 63)) := ⟨List.mem_of_getElem? (i := 414) rfl, rfl⟩
set_option maxRecDepth 100000 in
theorem zmc_64 : zTb_has (.code (zy 64) (zb 64) (zn 64) (zr 64)) := ⟨List.mem_of_getElem? (i := 418) rfl, rfl⟩
set_option maxRecDepth 100000 in
theorem zmc_65 : zTb_has (.code (zy 65) (zb 65) (zn 65) (zr 65)) := ⟨List.mem_of_getElem? (i := 427) rfl, rfl⟩
set_option maxRecDepth 100000 in
theorem zmc_66 : zTb_has (.code (zy 66) (zb 66) (zn 66) (zr 66)) := ⟨List.mem_of_getElem? (i := 435) rfl, rfl⟩
set_option maxRecDepth 100000 in
theorem zmc_67 : zTb_has (.code (zy 67) (zb 67) (zn 67) (zr 67)) := ⟨List.mem_of_getElem? (i := 443) rfl, rfl⟩
set_option maxRecDepth 100000 in
theorem zmc_68 : zTb_has (.code (zy 68) (zb 68) (zn 68) (zr 68)) := ⟨List.mem_of_getElem? (i := 447) rfl, rfl⟩
set_option maxRecDepth 100000 in
theorem zmc_69 : zTb_has (.code (zy 69) (zb 69) (zn 69) (zr 69)) := ⟨List.mem_of_getElem? (i := 451) rfl, rfl⟩
set_option maxRecDepth 100000 in
theorem zmc_70 : zTb_has (.code (zy 70) (zb 70) (zn 70) (zr 70)) := ⟨List.mem_of_getElem? (i := 459) rfl, rfl⟩
set_option maxRecDepth 100000 in
theorem zmc_71 : zTb_has (.code (zy 71) (zb 71) (zn 71) (zr 71)) := ⟨List.mem_of_getElem? (i := 524) rfl, rfl⟩
set_option maxRecDepth 100000 in
theorem zmc_72 : zTb_has (.code (zy 72) (zb 72) (zn 72) (zr 72)) := ⟨List.mem_of_getElem? (i := 528) rfl, rfl⟩
set_option maxRecDepth 100000 in
theorem zmc_73 : zTb_has (.code (zy 73) (zb 73) (zn 73) (zr 73)) := ⟨List.mem_of_getElem? (i := 533) rfl, rfl⟩
set_option maxRecDepth 100000 in
theorem zmc_74 : zTb_has (.code (zy 74) (zb 74) (zn 74) (zr 74)) := ⟨List.mem_of_getElem? (i := 587) rfl, rfl⟩
set_option maxRecDepth 100000 in
theorem zmc_75 : zTb_has (.code (zy 75) (zb 75) (zn 75) (zr 75)) := ⟨List.mem_of_getElem? (i := 601) rfl, rfl⟩
set_option maxRecDepth 100000 in
theorem zmc_76 : zTb_has (.code (zy 76) (zb 76) (zn 76) (zr 76)) := ⟨List.mem_of_getElem? (i := 605) rfl, rfl⟩
set_option maxRecDepth 100000 in
theorem zmc_77 : zTb_has (.code (zy 77) (zb 77) (zn 77) (zr 77)) := ⟨List.mem_of_getElem? (i := 609) rfl, rfl⟩
set_option maxRecDepth 100000 in
theorem zmc_78 : zTb_has (.code (zy 78) (zb 78) (zn 78) (zr 78)) := ⟨List.mem_of_getElem? (i := 617) rfl, rfl⟩
set_option maxRecDepth 100000 in
theorem zmc_79 : zTb_has (.code (zy 79) (zb 79) (zn 79) (zr 79)) := ⟨List.mem_of_getElem? (i := 625) rfl, rfl⟩
set_option maxRecDepth 100000 in
theorem zmc_80 : zTb_has (.code (zy 80) (zb 80) (zn 80) (zr 80)) := ⟨List.mem_of_getElem? (i := 643) rfl, rfl⟩
set_option maxRecDepth 100000 in
theorem zmc_81 : zTb_has (.code (zy 81) (zb 81) (zn 81) (zr 81)) := ⟨List.mem_of_getElem? (i := 653) rfl, rfl⟩
set_option maxRecDepth 100000 in
theorem zmc_82 : zTb_has (.code (zy 82) (zb 82) (zn 82) (zr 82)) := ⟨List.mem_of_getElem? (i := 661) rfl, rfl⟩
set_option maxRecDepth 100000 in
theorem zmc_83 : zTb_has (.code (zy 83) (zb 83) (zn 83) (zr 83)) := ⟨List.mem_of_getElem? (i := 669) rfl, rfl⟩
set_option maxRecDepth 100000 in
theorem zmc_84 : zTb_has (.code (zy 84) (zb 84) (zn 84) (zr 84)) := ⟨List.mem_of_getElem? (i := 677) rfl, rfl⟩
set_option maxRecDepth 100000 in
theorem zmc_85 : zTb_has (.code (zy 85) (zb 85) (zn 85) (zr 85)) := ⟨List.mem_of_getElem? (i := 681) rfl, rfl⟩
set_option maxRecDepth 100000 in
theorem zmc_86 : zTb_has (.code (zy 86) (zb 86) (zn 86) (zr 86)) := ⟨List.mem_of_getElem? (i := 689) rfl, rfl⟩
set_option maxRecDepth 100000 in
theorem zmc_87 : zTb_has (.code (zy 87) (zb 87) (zn 87) (zr 87)) := ⟨List.mem_of_getElem? (i := 697) rfl, rfl⟩
set_option maxRecDepth 100000 in
theorem zmc_88 : zTb_has (.code (zy 88) (zb 88) (zn 88) (zr 88)) := ⟨List.mem_of_getElem? (i := 701) rfl, rfl⟩
set_option maxRecDepth 100000 in
theorem zmc_89 : zTb_has (.code (zy 89) (zb 89) (zn 89) (zr 89)) := ⟨List.mem_of_getElem? (i := 716) rfl, rfl⟩
set_option maxRecDepth 100000 in
theorem zmc_90 : zTb_has (.code (zy 90) (zb 90) (zn 90) (zr 90)) := ⟨List.mem_of_getElem? (i := 741) rfl, rfl⟩
set_option maxRecDepth 100000 in
theorem zmc_91 : zTb_has (.code (zy 91) (zb 91) (zn 91) (zr 91)) := ⟨List.mem_of_getElem? (i := 745) rfl, rfl⟩
set_option maxRecDepth 100000 in
theorem zmc_92 : zTb_has (.code (zy 92) (zb 92) (zn 92) (zr 92)) := ⟨List.mem_of_getElem? (i := 753) rfl, rfl⟩
set_option maxRecDepth 100000 in
theorem zmc_93 : zTb_has (.code (zy 93) (zb 93) (zn 93) (zr 93)) := ⟨List.mem_of_getElem? (i := 761) rfl, rfl⟩
set_option maxRecDepth 100000 in
theorem zmc_94 : zTb_has (.code (zy 94) (zb 94) (zn 94) (zr 94)) := ⟨List.mem_of_getElem? (i := 770) rfl, rfl⟩
set_option maxRecDepth 100000 in
theorem zmc_95 : zTb_has (.code (zy 95) (zb 95) (zn 95) (zr 95)) := ⟨List.mem_of_getElem? (i := 774) rfl, rfl⟩
set_option maxRecDepth 100000 in
theorem zmc_96 : zTb_has (.code (zy 96) (zb 96) (zn 96) (zr 96)) := ⟨List.mem_of_getElem? (i := 778) rfl, rfl⟩
set_option maxRecDepth 100000 in
theorem zmc_97 : zTb_has (.code (zy 97) (zb 97) (zn 97) (zr 97)) := ⟨List.mem_of_getElem? (i := 792) rfl, rfl⟩
set_option maxRecDepth 100000 in
theorem zmc_98 : zTb_has (.code (zy 98) (zb 98) (zn 98) (zr 98)) := ⟨List.mem_of_getElem? (i := 796) rfl, rfl⟩
set_option maxRecDepth 100000 in
theorem zmc_99 : zTb_has (.code (zy 99) (zb 99) (zn 99) (zr 99)) := ⟨List.mem_of_getElem? (i := 800) rfl, rfl⟩
set_option maxRecDepth 100000 in
theorem zmc_100 : zTb_has (.code (zy 100) (zb 100) (zn 100) (zr 100)) := ⟨List.mem_of_getElem? (i := 804) rfl, rfl⟩
set_option maxRecDepth 100000 in
theorem zmc_101 : zTb_has (.code (zy 101) (zb 101) (zn 101) (zr 101)) := ⟨List.mem_of_getElem? (i := 812) rfl, rfl⟩
set_option maxRecDepth 100000 in
theorem zmc_102 : zTb_has (.code (zy 102) (zb 102) (zn 102) (zr 102)) := ⟨List.mem_of_getElem? (i := 357) rfl, rfl⟩
set_option maxRecDepth 100000 in
theorem zmc_103 : zTb_has (.code (zy 103) (zb 103) (zn 103) (zr 103)) := ⟨List.mem_of_getElem? (i := 349) rfl, rfl⟩
set_option maxRecDepth 100000 in
theorem zmc_104 : zTb_has (.code (zy 104) (zb 104) (zn 104) (zr 104)) := ⟨List.mem_of_getElem? (i := 353) rfl, rfl⟩
set_option maxRecDepth 100000 in
theorem zmc_105 : zTb_has (.code (zy 105) (zb 105) (zn 105) (zr 105)) := ⟨List.mem_of_getElem? (i := 704) rfl, rfl⟩
set_option maxRecDepth 100000 in
theorem zmc_106 : zTb_has (.code (zy 106) (zb 106) (zn 106) (zr 106)) := ⟨List.mem_of_getElem? (i := 516) rfl, rfl⟩
set_option maxRecDepth 100000 in
theorem zmc_107 : zTb_has (.code (zy 107) (zb 107) (zn 107) (zr 107)) := ⟨List.mem_of_getElem? (i := 685) rfl, rfl⟩
set_option maxRecDepth 100000 in
theorem zmc_108 : zTb_has (.code (zy 108) (zb 108) (zn 108) (zr 108)) := ⟨List.mem_of_getElem? (i := 693) rfl, rfl⟩
set_option maxRecDepth 100000 in
theorem zmc_109 : zTb_has (.code (zy 109) (zb 109) (zn 109) (zr 109)) := ⟨List.mem_of_getElem? (i := 712) rfl, rfl⟩
set_option maxRecDepth 100000 in
theorem zmc_110 : zTb_has (.code (zy 110) (zb 110) (zn 110) (zr 110)) := ⟨List.mem_of_getElem? (i := 896) rfl, rfl⟩
set_option maxRecDepth 100000 in
theorem zmc_111 : zTb_has (.code (zy 111) (zb 111) (zn 111) (zr 111)) := ⟨List.mem_of_getElem? (i := 892) rfl, rfl⟩
set_option maxRecDepth 100000 in
theorem zmc_112 : zTb_has (.code (zy 112) (zb 112) (zn 112) (zr 112)) := ⟨List.mem_of_getElem? (i := 1016) rfl, rfl⟩
set_option maxRecDepth 100000 in
theorem zmc_113 : zTb_has (.code (zy 113) (zb 113) (zn 113) (zr 113)) := ⟨List.mem_of_getElem? (i := 1287) rfl, rfl⟩
set_option maxRecDepth 100000 in
theorem zmc_114 : zTb_has (.code (zy 114) (zb 114) (zn 114) (zr 114)) := ⟨List.mem_of_getElem? (i := 1174) rfl, rfl⟩
set_option maxRecDepth 100000 in
theorem zmc_115 : zTb_has (.code (zy 115) (zb 115) (zn 115) (zr 115)) := ⟨List.mem_of_getElem? (i := 1178) rfl, rfl⟩
set_option maxRecDepth 100000 in
theorem zmc_116 : zTb_has (.code (zy 116) (zb 116) (zn 116) (zr 116)) := ⟨List.mem_of_getElem? (i := 987) rfl, rfl⟩
set_option maxRecDepth 100000 in
theorem zmc_117 : zTb_has (.code (zy 117) (zb 117) (zn 117) (zr 117)) := ⟨List.mem_of_getElem? (i := 960) rfl, rfl⟩
set_option maxRecDepth 100000 in
theorem zmc_118 : zTb_has (.code (zy 118) (zb 118) (zn 118) (zr 118)) := ⟨List.mem_of_getElem? (i := 976) rfl, rfl⟩
set_option maxRecDepth 100000 in
theorem zmc_119 : zTb_has (.code (zy 119) (zb 119) (zn 119) (zr 119)) := ⟨List.mem_of_getElem? (i := 964) rfl, rfl⟩
set_option maxRecDepth 100000 in
theorem zmc_120 : zTb_has (.code (zy 120) (zb 120) (zn 120) (zr 120)) := ⟨List.mem_of_getElem? (i := 1043) rfl, rfl⟩
set_option maxRecDepth 100000 in
theorem zmc_121 : zTb_has (.code (zy 121) (zb 121) (zn 121) (zr 121)) := ⟨List.mem_of_getElem? (i := 972) rfl, rfl⟩
set_option maxRecDepth 100000 in
theorem zmc_122 : zTb_has (.code (zy 122) (zb 122) (zn 122) (zr 122)) := ⟨List.mem_of_getElem? (i := 889) rfl, rfl⟩
set_option maxRecDepth 100000 in
theorem zmc_123 : zTb_has (.code (zy 123) (zb 123) (zn 123) (zr 123)) := ⟨List.mem_of_getElem? (i := 930) rfl, rfl⟩
set_option maxRecDepth 100000 in
theorem zmc_124 : zTb_has (.code (zy 124) (zb 124) (zn 124) (zr 124)) := ⟨List.mem_of_getElem? (i := 934) rfl, rfl⟩
set_option maxRecDepth 100000 in
theorem zmc_125 : zTb_has (.code (zy 125) (zb 125) (zn 125) (zr 125)) := ⟨List.mem_of_getElem? (i := 938) rfl, rfl⟩
set_option maxRecDepth 100000 in
theorem zmc_126 : zTb_has (.code (zy 126) (zb 126) (zn 126) (zr 126)) := ⟨List.mem_of_getElem? (i := 906) rfl, rfl⟩
set_option maxRecDepth 100000 in
theorem zmc_127 : zTb_has (.code (zy 127) (zb 127) (zn 127) (zr 127)) := ⟨List.mem_of_getElem? (i := 910) rfl, rfl⟩
set_option maxRecDepth 100000 in
theorem zmc_128 : zTb_has (.code (zy 128) (zb 128) (zn 128) (zr 128)) := ⟨List.mem_of_getElem? (i := 914) rfl, rfl⟩
set_option maxRecDepth 100000 in
theorem zmc_129 : zTb_has (.code (zy 129) (zb 129) (zn 129) (zr 129)) := ⟨List.mem_of_getElem? (i := 918) rfl, rfl⟩
set_option maxRecDepth 100000 in
theorem zmc_130 : zTb_has (.code (zy 130) (zb 130) (zn 130) (zr 130)) := ⟨List.mem_of_getElem? (i := 922) rfl, rfl⟩
set_option maxRecDepth 100000 in
theorem zmc_131 : zTb_has (.code (zy 131) (zb 131) (zn 131) (zr 131)) := ⟨List.mem_of_getElem? (i := 942) rfl, rfl⟩
set_option maxRecDepth 100000 in
theorem zmc_132 : zTb_has (.code (zy 132) (zb 132) (zn 132) (zr 132)) := ⟨List.mem_of_getElem? (i := 926) rfl, rfl⟩
set_option maxRecDepth 100000 in
theorem zmc_133 : zTb_has (.code (zy 133) (zb 133) (zn 133) (zr 133)) := ⟨List.mem_of_getElem? (i := 950) rfl, rfl⟩
set_option maxRecDepth 100000 in
theorem zmc_134 : zTb_has (.code (zy 134) (zb 134) (zn 134) (zr 134)) := ⟨List.mem_of_getElem? (i := 902) rfl, rfl⟩
set_option maxRecDepth 100000 in
theorem zmc_135 : zTb_has (.code (zy 135) (zb 135) (zn 135) (zr 135)) := ⟨List.mem_of_getElem? (i := 946) rfl, rfl⟩
set_option maxRecDepth 100000 in
theorem zmc_136 : zTb_has (.code (zy 136) (zb 136) (zn 136) (zr 136)) := ⟨List.mem_of_getElem? (i := 1010) rfl, rfl⟩
set_option maxRecDepth 100000 in
theorem zmc_137 : zTb_has (.code (zy 137) (zb 137) (zn 137) (zr 137)) := ⟨List.mem_of_getElem? (i := 1007) rfl, rfl⟩
set_option maxRecDepth 100000 in
theorem zmc_138 : zTb_has (.code (zy 138) (zb 138) (zn 138) (zr 138)) := ⟨List.mem_of_getElem? (i := 999) rfl, rfl⟩
set_option maxRecDepth 100000 in
theorem zmc_139 : zTb_has (.code (zy 139) (zb 139) (zn 139) (zr 139)) := ⟨List.mem_of_getElem? (i := 995) rfl, rfl⟩
set_option maxRecDepth 100000 in
theorem zmc_140 : zTb_has (.code (zy 140) (zb 140) (zn 140) (zr 140)) := ⟨List.mem_of_getElem? (i := 1024) rfl, rfl⟩
set_option maxRecDepth 100000 in
theorem zmc_141 : zTb_has (.code (zy 141) (zb 141) (zn 141) (zr 141)) := ⟨List.mem_of_getElem? (i := 1013) rfl, rfl⟩
set_option maxRecDepth 100000 in
theorem zmc_142 : zTb_has (.code (zy 142) (zb 142) (zn 142) (zr 142)) := ⟨List.mem_of_getElem? (i := 1003) rfl, rfl⟩
set_option maxRecDepth 100000 in
theorem zmc_143 : zTb_has (.code (zy 143) (zb 143) (zn 143) (zr 143)) := ⟨List.mem_of_getElem? (i := 991) rfl, rfl⟩
set_option maxRecDepth 100000 in
theorem zmc_144 : zTb_has (.code (zy 144) (zb 144) (zn 144) (zr 144)) := ⟨List.mem_of_getElem? (i := 1020) rfl, rfl⟩
set_option maxRecDepth 100000 in
theorem zmc_145 : zTb_has (.code (zy 145) (zb 145) (zn 145) (zr 145)) := ⟨List.mem_of_getElem? (i := 979) rfl, rfl⟩
set_option maxRecDepth 100000 in
theorem zmc_146 : zTb_has (.code (zy 146) (zb 146) (zn 146) (zr 146)) := ⟨List.mem_of_getElem? (i := 968) rfl, rfl⟩
set_option maxRecDepth 100000 in
theorem zmc_147 : zTb_has (.code (zy 147) (zb 147) (zn 147) (zr 147)) := ⟨List.mem_of_getElem? (i := 1086) rfl, rfl⟩
set_option maxRecDepth 100000 in
theorem zmc_148 : zTb_has (.code (zy 148) (zb 148) (zn 148) (zr 148)) := ⟨List.mem_of_getElem? (i := 1051) rfl, rfl⟩
set_option maxRecDepth 100000 in
theorem zmc_149 : zTb_has (.code (zy 149) (zb 149) (zn 149) (zr 149)) := ⟨List.mem_of_getElem? (i := 1098) rfl, rfl⟩
set_option maxRecDepth 100000 in
theorem zmc_150 : zTb_has (.code (zy 150) (zb 150) (zn 150) (zr 150)) := ⟨List.mem_of_getElem? (i := 1094) rfl, rfl⟩
set_option maxRecDepth 100000 in
theorem zmc_151 : zTb_has (.code (zy 151) (zb 151) (zn 151) (zr 151)) := ⟨List.mem_of_getElem? (i := 1102) rfl, rfl⟩
set_option maxRecDepth 100000 in
theorem zmc_152 : zTb_has (.code (zy 152) (zb 152) (zn 152) (zr 152)) := ⟨List.mem_of_getElem? (i := 1090) rfl, rfl⟩
set_option maxRecDepth 100000 in
theorem zmc_153 : zTb_has (.code (zy 153) (zb 153) (zn 153) (zr 153)) := ⟨List.mem_of_getElem? (i := 1082) rfl, rfl⟩
set_option maxRecDepth 100000 in
theorem zmc_154 : zTb_has (.code (zy 154) (zb 154) (zn 154) (zr 154)) := ⟨List.mem_of_getElem? (i := 1078) rfl, rfl⟩
set_option maxRecDepth 100000 in
theorem zmc_155 : zTb_has (.code (zy 155) (zb 155) (zn 155) (zr 155)) := ⟨List.mem_of_getElem? (i := 1074) rfl, rfl⟩
set_option maxRecDepth 100000 in
theorem zmc_156 : zTb_has (.code (zy 156) (zb 156) (zn 156) (zr 156)) := ⟨List.mem_of_getElem? (i := 1186) rfl, rfl⟩
set_option maxRecDepth 100000 in
theorem zmc_157 : zTb_has (.code (zy 157) (zb 157) (zn 157) (zr 157)) := ⟨List.mem_of_getElem? (i := 1307) rfl, rfl⟩
set_option maxRecDepth 100000 in
theorem zmc_158 : zTb_has (.code (zy 158) (zb 158) (zn 158) (zr 158)) := ⟨List.mem_of_getElem? (i := 957) rfl, rfl⟩
set_option maxRecDepth 100000 in
theorem zmc_159 : zTb_has (.code (zy 159) (zb 159) (zn 159) (zr 159)) := ⟨List.mem_of_getElem? (i := 954) rfl, rfl⟩
set_option maxRecDepth 100000 in
theorem zmc_160 : zTb_has (.code (zy 160) (zb 160) (zn 160) (zr 160)) := ⟨List.mem_of_getElem? (i := 983) rfl, rfl⟩
set_option maxRecDepth 100000 in
theorem zmc_161 : zTb_has (.code (zy 161) (zb 161) (zn 161) (zr 161)) := ⟨List.mem_of_getElem? (i := 1028) rfl, rfl⟩
set_option maxRecDepth 100000 in
theorem zmc_162 : zTb_has (.code (zy 162) (zb 162) (zn 162) (zr 162)) := ⟨List.mem_of_getElem? (i := 1032) rfl, rfl⟩
set_option maxRecDepth 100000 in
theorem zmc_163 : zTb_has (.code (zy 163) (zb 163) (zn 163) (zr 163)) := ⟨List.mem_of_getElem? (i := 1039) rfl, rfl⟩
set_option maxRecDepth 100000 in
theorem zmc_164 : zTb_has (.code (zy 164) (zb 164) (zn 164) (zr 164)) := ⟨List.mem_of_getElem? (i := 1047) rfl, rfl⟩
set_option maxRecDepth 100000 in
theorem zmc_165 : zTb_has (.code (zy 165) (zb 165) (zn 165) (zr 165)) := ⟨List.mem_of_getElem? (i := 1058) rfl, rfl⟩
set_option maxRecDepth 100000 in
theorem zmc_166 : zTb_has (.code (zy 166) (zb 166) (zn 166) (zr 166)) := ⟨List.mem_of_getElem? (i := 1055) rfl, rfl⟩
set_option maxRecDepth 100000 in
theorem zmc_167 : zTb_has (.code (zy 167) (zb 167) (zn 167) (zr 167)) := ⟨List.mem_of_getElem? (i := 1062) rfl, rfl⟩
set_option maxRecDepth 100000 in
theorem zmc_168 : zTb_has (.code (zy 168) (zb 168) (zn 168) (zr 168)) := ⟨List.mem_of_getElem? (i := 1066) rfl, rfl⟩
set_option maxRecDepth 100000 in
theorem zmc_169 : zTb_has (.code (zy 169) (zb 169) (zn 169) (zr 169)) := ⟨List.mem_of_getElem? (i := 1070) rfl, rfl⟩
set_option maxRecDepth 100000 in
theorem zmc_170 : zTb_has (.code (zy 170) (zb 170) (zn 170) (zr 170)) := ⟨List.mem_of_getElem? (i := 1110) rfl, rfl⟩
set_option maxRecDepth 100000 in
theorem zmc_171 : zTb_has (.code (zy 171) (zb 171) (zn 171) (zr 171)) := ⟨List.mem_of_getElem? (i := 1106) rfl, rfl⟩
set_option maxRecDepth 100000 in
theorem zmc_172 : zTb_has (.code (zy 172) (zb 172) (zn 172) (zr 172)) := ⟨List.mem_of_getElem? (i := 1115) rfl, rfl⟩
set_option maxRecDepth 100000 in
theorem zmc_173 : zTb_has (.code (zy 173) (zb 173) (zn 173) (zr 173)) := ⟨List.mem_of_getElem? (i := 1119) rfl, rfl⟩
set_option maxRecDepth 100000 in
theorem zmc_174 : zTb_has (.code (zy 174) (zb 174) (zn 174) (zr 174)) := ⟨List.mem_of_getElem? (i := 1127) rfl, rfl⟩
set_option maxRecDepth 100000 in
theorem zmc_175 : zTb_has (.code (zy 175) (zb 175) (zn 175) (zr 175)) := ⟨List.mem_of_getElem? (i := 1123) rfl, rfl⟩
set_option maxRecDepth 100000 in
theorem zmc_176 : zTb_has (.code (zy 176) (zb 176) (zn 176) (zr 176)) := ⟨List.mem_of_getElem? (i := 1135) rfl, rfl⟩
set_option maxRecDepth 100000 in
theorem zmc_177 : zTb_has (.code (zy 177) (zb 177) (zn 177) (zr 177)) := ⟨List.mem_of_getElem? (i := 1131) rfl, rfl⟩
set_option maxRecDepth 100000 in
theorem zmc_178 : zTb_has (.code (zy 178) (zb 178) (zn 178) (zr 178)) := ⟨List.mem_of_getElem? (i := 1147) rfl, rfl⟩
set_option maxRecDepth 100000 in
theorem zmc_179 : zTb_has (.code (zy 179) (zb 179) (zn 179) (zr 179)) := ⟨List.mem_of_getElem? (i := 1151) rfl, rfl⟩
set_option maxRecDepth 100000 in
theorem zmc_180 : zTb_has (.code (zy 180) (zb 180) (zn 180) (zr 180)) := ⟨List.mem_of_getElem? (i := 1143) rfl, rfl⟩
set_option maxRecDepth 100000 in
theorem zmc_181 : zTb_has (.code (zy 181) (zb 181) (zn 181) (zr 181)) := ⟨List.mem_of_getElem? (i := 1158) rfl, rfl⟩
set_option maxRecDepth 100000 in
theorem zmc_182 : zTb_has (.code (zy 182) (zb 182) (zn 182) (zr 182)) := ⟨List.mem_of_getElem? (i := 1139) rfl, rfl⟩
set_option maxRecDepth 100000 in
theorem zmc_183 : zTb_has (.code (zy 183) (zb 183) (zn 183) (zr 183)) := ⟨List.mem_of_getElem? (i := 1155) rfl, rfl⟩
set_option maxRecDepth 100000 in
theorem zmc_184 : zTb_has (.code (zy 184) (zb 184) (zn 184) (zr 184)) := ⟨List.mem_of_getElem? (i := 1166) rfl, rfl⟩
set_option maxRecDepth 100000 in
theorem zmc_185 : zTb_has (.code (zy 185) (zb 185) (zn 185) (zr 185)) := ⟨List.mem_of_getElem? (i := 1162) rfl, rfl⟩
set_option maxRecDepth 100000 in
theorem zmc_186 : zTb_has (.code (zy 186) (zb 186) (zn 186) (zr 186)) := ⟨List.mem_of_getElem? (i := 1170) rfl, rfl⟩
set_option maxRecDepth 100000 in
theorem zmc_187 : zTb_has (.code (zy 187) (zb 187) (zn 187) (zr 187)) := ⟨List.mem_of_getElem? (i := 1182) rfl, rfl⟩
set_option maxRecDepth 100000 in
theorem zmc_188 : zTb_has (.code (zy 188) (zb 188) (zn 188) (zr 188)) := ⟨List.mem_of_getElem? (i := 1190) rfl, rfl⟩
set_option maxRecDepth 100000 in
theorem zmc_189 : zTb_has (.code (zy 189) (zb 189) (zn 189) (zr 189)) := ⟨List.mem_of_getElem? (i := 1198) rfl, rfl⟩
set_option maxRecDepth 100000 in
theorem zmc_190 : zTb_has (.code (zy 190) (zb 190) (zn 190) (zr 190)) := ⟨List.mem_of_getElem? (i := 1194) rfl, rfl⟩
set_option maxRecDepth 100000 in
theorem zmc_191 : zTb_has (.code (zy 191) (zb 191) (zn 191) (zr 191)) := ⟨List.mem_of_getElem? (i := 1206) rfl, rfl⟩
set_option maxRecDepth 100000 in
theorem zmc_192 : zTb_has (.code (zy 192) (zb 192) (zn 192) (zr 192)) := ⟨List.mem_of_getElem? (i := 1202) rfl, rfl⟩
set_option maxRecDepth 100000 in
theorem zmc_193 : zTb_has (.code (zy 193) (zb 193) (zn 193) (zr 193)) := ⟨List.mem_of_getElem? (i := 1213) rfl, rfl⟩
set_option maxRecDepth 100000 in
theorem zmc_194 : zTb_has (.code (zy 194) (zb 194) (zn 194) (zr 194)) := ⟨List.mem_of_getElem? (i := 1210) rfl, rfl⟩
set_option maxRecDepth 100000 in
theorem zmc_195 : zTb_has (.code (zy 195) (zb 195) (zn 195) (zr 195)) := ⟨List.mem_of_getElem? (i := 1217) rfl, rfl⟩
set_option maxRecDepth 100000 in
theorem zmc_196 : zTb_has (.code (zy 196) (zb 196) (zn 196) (zr 196)) := ⟨List.mem_of_getElem? (i := 1236) rfl, rfl⟩
set_option maxRecDepth 100000 in
theorem zmc_197 : zTb_has (.code (zy 197) (zb 197) (zn 197) (zr 197)) := ⟨List.mem_of_getElem? (i := 1035) rfl, rfl⟩
set_option maxRecDepth 100000 in
theorem zmc_198 : zTb_has (.code (zy 198) (zb 198) (zn 198) (zr 198)) := ⟨List.mem_of_getElem? (i := 1228) rfl, rfl⟩
set_option maxRecDepth 100000 in
theorem zmc_199 : zTb_has (.code (zy 199) (zb 199) (zn 199) (zr 199)) := ⟨List.mem_of_getElem? (i := 1244) rfl, rfl⟩
set_option maxRecDepth 100000 in
theorem zmc_200 : zTb_has (.code (zy 200) (zb 200) (zn 200) (zr 200)) := ⟨List.mem_of_getElem? (i := 1232) rfl, rfl⟩
set_option maxRecDepth 100000 in
theorem zmc_201 : zTb_has (.code (zy 201) (zb 201) (zn 201) (zr 201)) := ⟨List.mem_of_getElem? (i := 1240) rfl, rfl⟩
set_option maxRecDepth 100000 in
theorem zmc_202 : zTb_has (.code (zy 202) (zb 202) (zn 202) (zr 202)) := ⟨List.mem_of_getElem? (i := 1248) rfl, rfl⟩
set_option maxRecDepth 100000 in
theorem zmc_203 : zTb_has (.code (zy 203) (zb 203) (zn 203) (zr 203)) := ⟨List.mem_of_getElem? (i := 1252) rfl, rfl⟩
set_option maxRecDepth 100000 in
theorem zmc_204 : zTb_has (.code (zy 204) (zb 204) (zn 204) (zr 204)) := ⟨List.mem_of_getElem? (i := 1224) rfl, rfl⟩
set_option maxRecDepth 100000 in
theorem zmc_205 : zTb_has (.code (zy 205) (zb 205) (zn 205) (zr 205)) := ⟨List.mem_of_getElem? (i := 1256) rfl, rfl⟩
set_option maxRecDepth 100000 in
theorem zmc_206 : zTb_has (.code (zy 206) (zb 206) (zn 206) (zr 206)) := ⟨List.mem_of_getElem? (i := 1220) rfl, rfl⟩
set_option maxRecDepth 100000 in
theorem zmc_207 : zTb_has (.code (zy 207) (zb 207) (zn 207) (zr 207)) := ⟨List.mem_of_getElem? (i := 1260) rfl, rfl⟩
set_option maxRecDepth 100000 in
theorem zmc_208 : zTb_has (.code (zy 208) (zb 208) (zn 208) (zr 208)) := ⟨List.mem_of_getElem? (i := 1264) rfl, rfl⟩
set_option maxRecDepth 100000 in
theorem zmc_209 : zTb_has (.code (zy 209) (zb 209) (zn 209) (zr 209)) := ⟨List.mem_of_getElem? (i := 1268) rfl, rfl⟩
set_option maxRecDepth 100000 in
theorem zmc_210 : zTb_has (.code (zy 210) (zb 210) (zn 210) (zr 210)) := ⟨List.mem_of_getElem? (i := 1276) rfl, rfl⟩
set_option maxRecDepth 100000 in
theorem zmc_211 : zTb_has (.code (zy 211) (zb 211) (zn 211) (zr 211)) := ⟨List.mem_of_getElem? (i := 1272) rfl, rfl⟩
set_option maxRecDepth 100000 in
theorem zmc_212 : zTb_has (.code (zy 212) (zb 212) (zn 212) (zr 212)) := ⟨List.mem_of_getElem? (i := 1280) rfl, rfl⟩
set_option maxRecDepth 100000 in
theorem zmc_213 : zTb_has (.code (zy 213) (zb 213) (zn 213) (zr 213)) := ⟨List.mem_of_getElem? (i := 1284) rfl, rfl⟩
set_option maxRecDepth 100000 in
theorem zmc_214 : zTb_has (.code (zy 214) (zb 214) (zn 214) (zr 214)) := ⟨List.mem_of_getElem? (i := 1291) rfl, rfl⟩
set_option maxRecDepth 100000 in
theorem zmc_215 : zTb_has (.code (zy 215) (zb 215) (zn 215) (zr 215)) := ⟨List.mem_of_getElem? (i := 1295) rfl, rfl⟩
set_option maxRecDepth 100000 in
theorem zmc_216 : zTb_has (.code (zy 216) (zb 216) (zn 216) (zr 216)) := ⟨List.mem_of_getElem? (i := 1299) rfl, rfl⟩
set_option maxRecDepth 100000 in
theorem zmc_217 : zTb_has (.code (zy 217) (zb 217) (zn 217) (zr 217)) := ⟨List.mem_of_getElem? (i := 1303) rfl, rfl⟩
set_option maxRecDepth 100000 in
theorem zmc_218 : zTb_has (.code (zy 218) (zb 218) (zn 218) (zr 218)) := ⟨List.mem_of_getElem? (i := 1311) rfl, rfl⟩
set_option maxRecDepth 100000 in
theorem zmc_219 : zTb_has (.code (zy 219) (zb 219) (zn 219) (zr 219)) := ⟨List.mem_of_getElem? (i := 646) rfl, rfl⟩
set_option maxRecDepth 100000 in
theorem zmc_220 : zTb_has (.code (zy 220) (zb 220) (zn 220) (zr 220)) := ⟨List.mem_of_getElem? (i := 396) rfl, rfl⟩
set_option maxRecDepth 100000 in
theorem zmc_221 : zTb_has (.code (zy 221) (zb 221) (zn 221) (zr 221)) := ⟨List.mem_of_getElem? (i := 369) rfl, rfl⟩
set_option maxRecDepth 100000 in
theorem zmc_222 : zTb_has (.code (zy 222) (zb 222) (zn 222) (zr 222)) := ⟨List.mem_of_getElem? (i := 402) rfl, rfl⟩
set_option maxRecDepth 100000 in
theorem zmc_223 : zTb_has (.code (zy 223) (zb 223) (zn 223) (zr 223)) := ⟨List.mem_of_getElem? (i := 399) rfl, rfl⟩
theorem zmcc_0 : ∀ mj, 0 ≤ mj → mj < 25 → zTb_has (.code (zy mj) (zb mj) (zn mj) (zr mj)) := by
  intro mj h1 h2
  have h : mj = 0 ∨ mj = 1 ∨ mj = 2 ∨ mj = 3 ∨ mj = 4 ∨ mj = 5 ∨ mj = 6 ∨ mj = 7 ∨ mj = 8 ∨ mj = 9 ∨ mj = 10 ∨ mj = 11 ∨ mj = 12 ∨ mj = 13 ∨ mj = 14 ∨ mj = 15 ∨ mj = 16 ∨ mj = 17 ∨ mj = 18 ∨ mj = 19 ∨ mj = 20 ∨ mj = 21 ∨ mj = 22 ∨ mj = 23 ∨ mj = 24 := by omega
  rcases h with rfl | rfl | rfl | rfl | rfl | rfl | rfl | rfl | rfl | rfl | rfl | rfl | rfl | rfl | rfl | rfl | rfl | rfl | rfl | rfl | rfl | rfl | rfl | rfl | rfl
  · exact zmc_0
  · exact zmc_1
  · exact zmc_2
  · exact zmc_3
  · exact zmc_4
  · exact zmc_5
  · exact zmc_6
  · exact zmc_7
  · exact zmc_8
  · exact zmc_9
  · exact zmc_10
  · exact zmc_11
  · exact zmc_12
  · exact zmc_13
  · exact zmc_14
  · exact zmc_15
  · exact zmc_16
  · exact zmc_17
  · exact zmc_18
  · exact zmc_19
  · exact zmc_20
  · exact zmc_21
  · exact zmc_22
  · exact zmc_23
  · exact zmc_24
theorem zmcc_1 : ∀ mj, 25 ≤ mj → mj < 50 → zTb_has (.code (zy mj) (zb mj) (zn mj) (zr mj)) := by
  intro mj h1 h2
  have h : mj = 25 ∨ mj = 26 ∨ mj = 27 ∨ mj = 28 ∨ mj = 29 ∨ mj = 30 ∨ mj = 31 ∨ mj = 32 ∨ mj = 33 ∨ mj = 34 ∨ mj = 35 ∨ mj = 36 ∨ mj = 37 ∨ mj = 38 ∨ mj = 39 ∨ mj = 40 ∨ mj = 41 ∨ mj = 42 ∨ mj = 43 ∨ mj = 44 ∨ mj = 45 ∨ mj = 46 ∨ mj = 47 ∨ mj = 48 ∨ mj = 49 := by omega
  rcases h with rfl | rfl | rfl | rfl | rfl | rfl | rfl | rfl | rfl | rfl | rfl | rfl | rfl | rfl | rfl | rfl | rfl | rfl | rfl | rfl | rfl | rfl | rfl | rfl | rfl
  · exact zmc_25
  · exact zmc_26
  · exact zmc_27
  · exact zmc_28
  · exact zmc_29
  · exact zmc_30
  · exact zmc_31
  · exact zmc_32
  · exact zmc_33
  · exact zmc_34
  · exact zmc_35
  · exact zmc_36
  · exact zmc_37
  · exact zmc_38
  · exact zmc_39
  · exact zmc_40
  · exact zmc_41
  · exact zmc_42
  · exact zmc_43
  · exact zmc_44
  · exact zmc_45
  · exact zmc_46
  · exact zmc_47
  · exact zmc_48
  · exact zmc_49
theorem zmcc_2 : ∀ mj, 50 ≤ mj → mj < 75 → zTb_has (.code (zy mj) (zb mj) (zn mj) (zr mj)) := by
  intro mj h1 h2
  have h : mj = 50 ∨ mj = 51 ∨ mj = 52 ∨ mj = 53 ∨ mj = 54 ∨ mj = 55 ∨ mj = 56 ∨ mj = 57 ∨ mj = 58 ∨ mj = 59 ∨ mj = 60 ∨ mj = 61 ∨ mj = 62 ∨ mj = 63 ∨ mj = 64 ∨ mj = 65 ∨ mj = 66 ∨ mj = 67 ∨ mj = 68 ∨ mj = 69 ∨ mj = 70 ∨ mj = 71 ∨ mj = 72 ∨ mj = 73 ∨ mj = 74 := by omega
  rcases h with rfl | rfl | rfl | rfl | rfl | rfl | rfl | rfl | rfl | rfl | rfl | rfl | rfl | rfl | rfl | rfl | rfl | rfl | rfl | rfl | rfl | rfl | rfl | rfl | rfl
  · exact zmc_50
  · exact zmc_51
  · exact zmc_52
  · exact zmc_53
  · exact zmc_54
  · exact zmc_55
  · exact zmc_56
  · exact zmc_57
  · exact zmc_58
  · exact zmc_59
  · exact zmc_60
  · exact zmc_61
  · exact zmc_62
  · exact zmc_63
  · exact zmc_64
  · exact zmc_65
  · exact zmc_66
  · exact zmc_67
  · exact zmc_68
  · exact zmc_69
  · exact zmc_70
  · exact zmc_71
  · exact zmc_72
  · exact zmc_73
  · exact zmc_74
theorem zmcc_3 : ∀ mj, 75 ≤ mj → mj < 100 → zTb_has (.code (zy mj) (zb mj) (zn mj) (zr mj)) := by
  intro mj h1 h2
  have h : mj = 75 ∨ mj = 76 ∨ mj = 77 ∨ mj = 78 ∨ mj = 79 ∨ mj = 80 ∨ mj = 81 ∨ mj = 82 ∨ mj = 83 ∨ mj = 84 ∨ mj = 85 ∨ mj = 86 ∨ mj = 87 ∨ mj = 88 ∨ mj = 89 ∨ mj = 90 ∨ mj = 91 ∨ mj = 92 ∨ mj = 93 ∨ mj = 94 ∨ mj = 95 ∨ mj = 96 ∨ mj = 97 ∨ mj = 98 ∨ mj = 99 := by omega
  rcases h with rfl | rfl | rfl | rfl | rfl | rfl | rfl | rfl | rfl | rfl | rfl | rfl | rfl | rfl | rfl | rfl | rfl | rfl | rfl | rfl | rfl | rfl | rfl | rfl | rfl
  · exact zmc_75
  · exact zmc_76
  · exact zmc_77
  · exact zmc_78
  · exact zmc_79
  · exact zmc_80
  · exact zmc_81
  · exact zmc_82
  · exact zmc_83
  · exact zmc_84
  · exact zmc_85
  · exact zmc_86
  · exact zmc_87
  · exact zmc_88
  · exact zmc_89
  · exact zmc_90
  · exact zmc_91
  · exact zmc_92
  · exact zmc_93
  · exact zmc_94
  · exact zmc_95
  · exact zmc_96
  · exact zmc_97
  · exact zmc_98
  · exact zmc_99
theorem zmcc_4 : ∀ mj, 100 ≤ mj → mj < 125 → zTb_has (.code (zy mj) (zb mj) (zn mj) (zr mj)) := by
  intro mj h1 h2
  have h : mj = 100 ∨ mj = 101 ∨ mj = 102 ∨ mj = 103 ∨ mj = 104 ∨ mj = 105 ∨ mj = 106 ∨ mj = 107 ∨ mj = 108 ∨ mj = 109 ∨ mj = 110 ∨ mj = 111 ∨ mj = 112 ∨ mj = 113 ∨ mj = 114 ∨ mj = 115 ∨ mj = 116 ∨ mj = 117 ∨ mj = 118 ∨ mj = 119 ∨ mj = 120 ∨ mj = 121 ∨ mj = 122 ∨ mj = 123 ∨ mj = 124 := by omega
  rcases h with rfl | rfl | rfl | rfl | rfl | rfl | rfl | rfl | rfl | rfl | rfl | rfl | rfl | rfl | rfl | rfl | rfl | rfl | rfl | rfl | rfl | rfl | rfl | rfl | rfl
  · exact zmc_100
  · exact zmc_101
  · exact zmc_102
  · exact zmc_103
  · exact zmc_104
  · exact zmc_105
  · exact zmc_106
  · exact zmc_107
  · exact zmc_108
  · exact zmc_109
  · exact zmc_110
  · exact zmc_111
  · exact zmc_112
  · exact zmc_113
  · exact zmc_114
  · exact zmc_115
  · exact zmc_116
  · exact zmc_117
  · exact zmc_118
  · exact zmc_119
  · exact zmc_120
  · exact zmc_121
  · exact zmc_122
  · exact zmc_123
  · exact zmc_124
theorem zmcc_5 : ∀ mj, 125 ≤ mj → mj < 150 → zTb_has (.code (zy mj) (zb mj) (zn mj) (zr mj)) := by
  intro mj h1 h2
  have h : mj = 125 ∨ mj = 126 ∨ mj = 127 ∨ mj = 128 ∨ mj = 129 ∨ mj = 130 ∨ mj = 131 ∨ mj = 132 ∨ mj = 133 ∨ mj = 134 ∨ mj = 135 ∨ mj = 136 ∨ mj = 137 ∨ mj = 138 ∨ mj = 139 ∨ mj = 140 ∨ mj = 141 ∨ mj = 142 ∨ mj = 143 ∨ mj = 144 ∨ mj = 145 ∨ mj = 146 ∨ mj = 147 ∨ mj = 148 ∨ mj = 149 := by omega
  rcases h with rfl | rfl | rfl | rfl | rfl | rfl | rfl | rfl | rfl | rfl | rfl | rfl | rfl | rfl | rfl | rfl | rfl | rfl | rfl | rfl | rfl | rfl | rfl | rfl | rfl
  · exact zmc_125
  · exact zmc_126
  · exact zmc_127
  · exact zmc_128
  · exact zmc_129
  · exact zmc_130
  · exact zmc_131
  · exact zmc_132
  · exact zmc_133
  · exact zmc_134
  · exact zmc_135
  · exact zmc_136
  · exact zmc_137
  · exact zmc_138
  · exact zmc_139
  · exact zmc_140
  · exact zmc_141
  · exact zmc_142
  · exact zmc_143
  · exact zmc_144
  · exact zmc_145
  · exact zmc_146
  · exact zmc_147
  · exact zmc_148
  · exact zmc_149
theorem zmcc_6 : ∀ mj, 150 ≤ mj → mj < 175 → zTb_has (.code (zy mj) (zb mj) (zn mj) (zr mj)) := by
  intro mj h1 h2
  have h : mj = 150 ∨ mj = 151 ∨ mj = 152 ∨ mj = 153 ∨ mj = 154 ∨ mj = 155 ∨ mj = 156 ∨ mj = 157 ∨ mj = 158 ∨ mj = 159 ∨ mj = 160 ∨ mj = 161 ∨ mj = 162 ∨ mj = 163 ∨ mj = 164 ∨ mj = 165 ∨ mj = 166 ∨ mj = 167 ∨ mj = 168 ∨ mj = 169 ∨ mj = 170 ∨ mj = 171 ∨ mj = 172 ∨ mj = 173 ∨ mj = 174 := by omega
  rcases h with rfl | rfl | rfl | rfl | rfl | rfl | rfl | rfl | rfl | rfl | rfl | rfl | rfl | rfl | rfl | rfl | rfl | rfl | rfl | rfl | rfl | rfl | rfl | rfl | rfl
  · exact zmc_150
  · exact zmc_151
  · exact zmc_152
  · exact zmc_153
  · exact zmc_154
  · exact zmc_155
  · exact zmc_156
  · exact zmc_157
  · exact zmc_158
  · exact zmc_159
  · exact zmc_160
  · exact zmc_161
  · exact zmc_162
  · exact zmc_163
  · exact zmc_164
  · exact zmc_165
  · exact zmc_166
  · exact zmc_167
  · exact zmc_168
  · exact zmc_169
  · exact zmc_170
  · exact zmc_171
  · exact zmc_172
  · exact zmc_173
  · exact zmc_174
theorem zmcc_7 : ∀ mj, 175 ≤ mj → mj < 200 → zTb_has (.code (zy mj) (zb mj) (zn mj) (zr mj)) := by
  intro mj h1 h2
  have h : mj = 175 ∨ mj = 176 ∨ mj = 177 ∨ mj = 178 ∨ mj = 179 ∨ mj = 180 ∨ mj = 181 ∨ mj = 182 ∨ mj = 183 ∨ mj = 184 ∨ mj = 185 ∨ mj = 186 ∨ mj = 187 ∨ mj = 188 ∨ mj = 189 ∨ mj = 190 ∨ mj = 191 ∨ mj = 192 ∨ mj = 193 ∨ mj = 194 ∨ mj = 195 ∨ mj = 196 ∨ mj = 197 ∨ mj = 198 ∨ mj = 199 := by omega
  rcases h with rfl | rfl | rfl | rfl | rfl | rfl | rfl | rfl | rfl | rfl | rfl | rfl | rfl | rfl | rfl | rfl | rfl | rfl | rfl | rfl | rfl | rfl | rfl | rfl | rfl
  · exact zmc_175
  · exact zmc_176
  · exact zmc_177
  · exact zmc_178
  · exact zmc_179
  · exact zmc_180
  · exact zmc_181
  · exact zmc_182
  · exact zmc_183
  · exact zmc_184
  · exact zmc_185
  · exact zmc_186
  · exact zmc_187
  · exact zmc_188
  · exact zmc_189
  · exact zmc_190
  · exact zmc_191
  · exact zmc_192
  · exact zmc_193
  · exact zmc_194
  · exact zmc_195
  · exact zmc_196
  · exact zmc_197
  · exact zmc_198
  · exact zmc_199
theorem zmcc_8 : ∀ mj, 200 ≤ mj → mj < 224 → zTb_has (.code (zy mj) (zb mj) (zn mj) (zr mj)) := by
  intro mj h1 h2
  have h : mj = 200 ∨ mj = 201 ∨ mj = 202 ∨ mj = 203 ∨ mj = 204 ∨ mj = 205 ∨ mj = 206 ∨ mj = 207 ∨ mj = 208 ∨ mj = 209 ∨ mj = 210 ∨ mj = 211 ∨ mj = 212 ∨ mj = 213 ∨ mj = 214 ∨ mj = 215 ∨ mj = 216 ∨ mj = 217 ∨ mj = 218 ∨ mj = 219 ∨ mj = 220 ∨ mj = 221 ∨ mj = 222 ∨ mj = 223 := by omega
  rcases h with rfl | rfl | rfl | rfl | rfl | rfl | rfl | rfl | rfl | rfl | rfl | rfl | rfl | rfl | rfl | rfl | rfl | rfl | rfl | rfl | rfl | rfl | rfl | rfl
  · exact zmc_200
  · exact zmc_201
  · exact zmc_202
  · exact zmc_203
  · exact zmc_204
  · exact zmc_205
  · exact zmc_206
  · exact zmc_207
  · exact zmc_208
  · exact zmc_209
  · exact zmc_210
  · exact zmc_211
  · exact zmc_212
  · exact zmc_213
  · exact zmc_214
  · exact zmc_215
  · exact zmc_216
  · exact zmc_217
  · exact zmc_218
  · exact zmc_219
  · exact zmc_220
  · exact zmc_221
  · exact zmc_222
  · exact zmc_223
theorem zm_code {mj : Nat} (h : mj < zMN) (h9 : zo mj ≠ 9) : Cond.code (zy mj) (zb mj) (zn mj) (zr mj) ∈ zTb := by
  have h : mj < 225 := h
  by_cases c0 : mj < 25
  · exact zTb_has_in (zmcc_0 mj (by omega) c0)
  by_cases c1 : mj < 50
  · exact zTb_has_in (zmcc_1 mj (by omega) c1)
  by_cases c2 : mj < 75
  · exact zTb_has_in (zmcc_2 mj (by omega) c2)
  by_cases c3 : mj < 100
  · exact zTb_has_in (zmcc_3 mj (by omega) c3)
  by_cases c4 : mj < 125
  · exact zTb_has_in (zmcc_4 mj (by omega) c4)
  by_cases c5 : mj < 150
  · exact zTb_has_in (zmcc_5 mj (by omega) c5)
  by_cases c6 : mj < 175
  · exact zTb_has_in (zmcc_6 mj (by omega) c6)
  by_cases c7 : mj < 200
  · exact zTb_has_in (zmcc_7 mj (by omega) c7)
  by_cases c8 : mj < 224
  · exact zTb_has_in (zmcc_8 mj (by omega) c8)
  exact absurd (by have : mj = 224 := by omega
                   subst this; rfl) h9
end
section
theorem zmT_ok2 : ∀ q ∈ zmT, lw_tbl[q.2.2.2.2.1]? = some (.initialized (zC (zo q.1))) ∧ goodWord (.initialized (zC (zo q.1))) = true ∧ (zy q.1).cls = zC (zo q.1) ∧ (zy q.1).cls ≠ "java/lang/invoke/MethodHandle" ∧ (zy q.1).cls ≠ "java/lang/invoke/VarHandle" := by decide +kernel
theorem zmT_plain : ∀ q ∈ zmT, plainFor (zy q.1) = true := by decide +kernel
theorem zmT_ok3 : ∀ q ∈ zmT, zst q.1 = q.2.1 ∧ zna q.1 = q.2.2.1 ∧ (parseMethodDescriptor (zy q.1).desc).map (fun d => d.parameters.length) = some (if q.2.1 then zna q.1 else zna q.1 - 1) ∧ (q.2.1 = false → 1 ≤ zna q.1) := by decide +kernel
theorem zmT_ok4 : ∀ q ∈ zmT, if q.2.1 = true then lw_tbl[q.2.2.2.2.2.1]? = some (.static (zy q.1)) ∧ goodWord (.static (zy q.1)) = true else (lw_tbl[q.2.2.2.2.2.1]? = some (.instanceMethod (zy q.1)) ∧ goodWord (.instanceMethod (zy q.1)) = true) ∧ (lw_tbl[q.2.2.2.2.2.2]? = some (.selects (zC (zo q.1)) (zy q.1) (zy q.1)) ∧ goodWord (.selects (zC (zo q.1)) (zy q.1) (zy q.1)) = true ∧ zo q.1 < 9) := by decide +kernel
theorem zmT_all : ∀ mj, mj < zMN → zo mj ≠ 9 → ∃ q ∈ zmT, q.1 = mj := by decide +kernel
end
section
/-! One step of the small machine is a step of the JVM's. -/
def zA0 (hb : Nat) : Nat → Prop := fun q => hb ≤ q
def zWd (D : va_G) (cI cS : ClassId) (ad : Nat → Nat → Nat) (hb : Nat) (σ : zS) (H : Heap) : Prop := va_P D vwCl (zwl cI cS ad σ) H ∧ va_D (zA0 hb) (zwl cI cS ad σ)
def zTy (cI cS : ClassId) : List (ClassId × FieldType) := [(cI, .int), (cS, .object "ApronStrings$Sheet")]
def zGood (D : va_G) (cI cS : ClassId) (ad : Nat → Nat → Nat) (hb L : Nat) (ρ : zS) (U : State) (H : Heap) : Prop :=
  va_K D vwCl (zTy cI cS) U ∧ va_T .int (ad 50 0) L (fun j => .int (ρ 50 0 j)) (zA0 hb) U H ∧ va_T .char (ad 51 0) 6 (fun j => .int (ρ 51 0 j)) (zA0 hb) U H ∧ va_T .int (ad 52 0) 7 (fun j => .int (ρ 52 0 j)) (zA0 hb) U H ∧ va_T .int (ad 53 0) 28 (fun j => .int (ρ 53 0 j)) (zA0 hb) U H ∧ (∀ t, 51 ≤ t → t < 54 → va_Z (zsC t).1 (zsC t).2.1 (zsC t).2.2 (.ref (ad t 0)) (zA0 hb) U H) ∧ (ρ 50 1 0).toNatClampNeg = L
theorem zGood.moved {D : va_G} {cI cS : ClassId} {ad : Nat → Nat → Nat} {hb L : Nat} {ρ : zS} {u U : State} {H0 H : Heap} (hvm : u.vm.Alike U.vm) (hq : ∀ a : Nat, a < H0.size → ¬ zA0 hb a → H[a]? = H0[a]?) (h : zGood D cI cS ad hb L ρ u H0) : zGood D cI cS ad hb L ρ U H := by
  obtain ⟨h1, h2, h3, h4, h5, h6, h7⟩ := h
  exact ⟨h1.moved hvm, (h2.kept hq).moved hvm, (h3.kept hq).moved hvm, (h4.kept hq).moved hvm, (h5.kept hq).moved hvm, fun t a b => ((h6 t a b).kept hq).moved hvm, h7⟩
/-- all that holds between two instructions -/
def zSt (D : va_G) (cI cS : ClassId) (ad : Nat → Nat → Nat) (hb : Nat) (ρ : zS) (s : State) (nL : Nat) (H : Heap) (locs : List Loc) (lsA : Array Slot) (ls : zO) (st : List zA) (σ : zS) : Prop :=
  zWd D cI cS ad hb σ H ∧ va_S (zA0 hb) s.heap H locs ∧ (∀ c i k, 50 ≤ c → σ c i k = ρ c i k) ∧ (ls.length = nL ∧ lv_has lsA nL (zpr ad 0 ls)) ∧ (∀ v ∈ st, zok v) ∧ (∀ v, some v ∈ ls → zok v)
section ZS
variable {p : Program} {l : Launch} {e : Env} {R : Room} {s : State} {m : MethodId} {args : Array Value} {below : List Frame} {meth : Method} {c : Code} {cells slots : Nat} {Q : State → Prop}
variable {D : va_G} {cI cS : ClassId} {ad : Nat → Nat → Nat} {hb L : Nat} {ρ : zS} {nL : Nat} {cc : ByteArray}
theorem zSt.st {H : Heap} {locs : List Loc} {lsA : Array Slot} {ls : zO} {st st' : List zA} {σ : zS} (h : zSt D cI cS ad hb ρ s nL H locs lsA ls st σ) (hs : ∀ v ∈ st', zok v) : zSt D cI cS ad hb ρ s nL H locs lsA ls st' σ := ⟨h.1, h.2.1, h.2.2.1, h.2.2.2.1, hs, h.2.2.2.2.2⟩
theorem zok_cons {v : zA} {st : List zA} (h : ∀ w ∈ v :: st, zok w) : zok v ∧ ∀ w ∈ st, zok w := ⟨h v List.mem_cons_self, fun w hw => h w (List.mem_cons_of_mem _ hw)⟩
theorem zok_push {v : zA} {st : List zA} (hv : zok v) (h : ∀ w ∈ st, zok w) : ∀ w ∈ v :: st, zok w := fun w hw => by
  rcases List.mem_cons.mp hw with rfl | hw
  · exact hv
  · exact h w hw
theorem zget_ok {ls : zO} {k : Nat} {v : zA} (h : ∀ v, some v ∈ ls → zok v) (hk : zget ls k = some v) : zok v := h v (List.mem_of_getElem? (zget_some hk))
theorem ztg_eq {pc t : Nat} {off : Int} (h : ztg pc off = some t) : (pc : Int) + off = (t : Int) := by
  unfold ztg at h
  split at h
  · cases h
    omega
  · cases h
theorem zbin_inv {f : Int32 → Int32 → Int32} {pc : Nat} {ls : zO} {st : List zA} {σ : zS} {q : Nat × zO × List zA × zS} (h : zbin f pc ls st σ = some q) : ∃ x y r, st = zI y :: zI x :: r ∧ q = (pc + 1, ls, zI (f x y) :: r, σ) := by
  unfold zbin at h
  split at h
  · cases h
    exact ⟨_, _, _, rfl, rfl⟩
  · cases h
theorem zbr1_inv {f : Int32 → Bool} {off : Int} {pc : Nat} {ls : zO} {st : List zA} {σ : zS} {q : Nat × zO × List zA × zS} (h : zbr1 f off pc ls st σ = some q) : ∃ (x : Int32) (r : List zA) (t : Nat), st = zI x :: r ∧ (pc : Int) + off = (t : Int) ∧ q = (if f x then t else pc + 3, ls, r, σ) := by
  unfold zbr1 at h
  split at h
  · split at h
    · rename_i t ht
      cases h
      exact ⟨_, _, t, rfl, ztg_eq ht, rfl⟩
    · cases h
  · cases h
theorem zbr2_inv {f : Int32 → Int32 → Bool} {off : Int} {pc : Nat} {ls : zO} {st : List zA} {σ : zS} {q : Nat × zO × List zA × zS} (h : zbr2 f off pc ls st σ = some q) : ∃ (x y : Int32) (r : List zA) (t : Nat), st = zI y :: zI x :: r ∧ (pc : Int) + off = (t : Int) ∧ q = (if f x y then t else pc + 3, ls, r, σ) := by
  unfold zbr2 at h
  split at h
  · split at h
    · rename_i t ht
      cases h
      exact ⟨_, _, _, t, rfl, ztg_eq ht, rfl⟩
    · cases h
  · cases h
theorem zldi_inv {k ln pc : Nat} {ls : zO} {st : List zA} {σ : zS} {q : Nat × zO × List zA × zS} (h : zldi k ln pc ls st σ = some q) : ∃ x, zget ls k = some (zI x) ∧ q = (pc + ln, ls, zI x :: st, σ) := by
  unfold zldi at h
  split at h
  · rename_i x hx
    cases h
    exact ⟨x, hx, rfl⟩
  · cases h
theorem zlda_inv {k ln pc : Nat} {ls : zO} {st : List zA} {σ : zS} {q : Nat × zO × List zA × zS} (h : zlda k ln pc ls st σ = some q) : ∃ a i, zget ls k = some (zR a i) ∧ q = (pc + ln, ls, zR a i :: st, σ) := by
  unfold zlda at h
  split at h
  · rename_i x hx
    cases h
    exact ⟨x.1, x.2, hx, rfl⟩
  · cases h
theorem zsti_inv {k ln pc : Nat} {ls : zO} {st : List zA} {σ : zS} {q : Nat × zO × List zA × zS} (h : zsti k ln pc ls st σ = some q) : ∃ x r ls', st = zI x :: r ∧ zset ls k (zI x) = some ls' ∧ q = (pc + ln, ls', r, σ) := by
  unfold zsti at h
  split at h
  · split at h
    · rename_i ls' hs
      cases h
      exact ⟨_, _, ls', rfl, hs, rfl⟩
    · cases h
  · cases h
theorem zsta_inv {k ln pc : Nat} {ls : zO} {st : List zA} {σ : zS} {q : Nat × zO × List zA × zS} (h : zsta k ln pc ls st σ = some q) : ∃ a i r ls', st = zR a i :: r ∧ zset ls k (zR a i) = some ls' ∧ q = (pc + ln, ls', r, σ) := by
  unfold zsta at h
  split at h
  · split at h
    · rename_i ls' hs
      cases h
      exact ⟨_, _, _, ls', rfl, hs, rfl⟩
    · cases h
  · cases h
theorem zSt.set {H : Heap} {locs : List Loc} {lsA lsB : Array Slot} {ls ls' : zO} {k : Nat} {v : zA} {st : List zA} {σ : zS} (h : zSt D cI cS ad hb ρ s nL H locs lsA ls st σ) (hs : zset ls k v = some ls') (hv : zok v) (hB : lv_has lsB nL ((k, zenc ad v) :: (zpr ad 0 ls).filter (fun q => !(q.1 == k) && !(q.1 + 1 == k && q.2.category == 2)))) : zSt D cI cS ad hb ρ s nL H locs lsB ls' st σ := by
  refine ⟨h.1, h.2.1, h.2.2.1, ⟨(zset_len hs).trans h.2.2.2.1.1, zls_set hs hB⟩, h.2.2.2.2.1, fun w hw => ?_⟩
  rcases zset_mem hs hw with rfl | hw
  · exact hv
  · exact h.2.2.2.2.2 w hw
theorem zset_lt {ls ls' : zO} {k : Nat} {v : zA} (hs : zset ls k v = some ls') (hl : ls.length = nL) : k < nL := by
  rw [← hl]
  exact (zset_some hs).1
theorem zW_zpush {H : Heap} {locs : List Loc} {lsA : Array Slot} {ls : zO} {st : List zA} {σ : zS} {v : zA} (S : zSt D cI cS ad hb ρ s nL H locs lsA ls st σ) (hv : zok v) : zSt D cI cS ad hb ρ s nL H locs lsA ls (v :: st) σ := S.st (zok_push hv S.2.2.2.2.1)
theorem zia_cases {c : Nat} (h : zia c = true) : ¬ c < 9 ∧ ¬ c = 25 ∧ c < 50 ∧ ∀ σ i, zln σ c i = zlen c i := by
  simp only [zia, Bool.and_eq_true, decide_eq_true_eq, bne_iff_ne, ne_eq] at h
  obtain ⟨⟨h1, h2⟩, h3⟩ := h
  refine ⟨by omega, h3, by omega, fun σ i => ?_⟩
  unfold zln
  split <;> first | omega | rfl
theorem zcell_ia {σ : zS} {a i : Nat} (h : zia a = true) : zcell cI cS ad σ a i = .inl (cI, zln σ a i, .inl (σ a i)) := by
  obtain ⟨h1, h2, h3, h4⟩ := zia_cases h
  rw [zcell, if_neg h1, if_neg h2, h4]
theorem zcell_obj {σ : zS} {a i : Nat} (h : a < 9) : zcell cI cS ad σ a i = .inr (a, (List.range (znf a)).map (fun k => zenc ad (zfv σ a i k))) := by
  rw [zcell, if_pos h]
  congr 2
  apply List.map_congr_left
  intro k _
  unfold zfv
  cases h2 : zfr a k i <;> rfl
theorem zWd.set {σ σ' : zS} {k a i : Nat} (hk : zpls[k]? = some (a, i)) (hn : ∀ c' i', (c', i') ≠ (a, i) → σ' c' i' = σ c' i') {H1 : Heap} (hP : va_P D vwCl ((zwl cI cS ad σ).set k (ad a i, zcell cI cS ad σ' a i)) H1) (hD : va_D (zA0 hb) ((zwl cI cS ad σ).set k (ad a i, zcell cI cS ad σ' a i))) : zWd D cI cS ad hb σ' H1 := by
  rw [zwl_set hk hn] at hP hD
  exact ⟨hP, hD⟩
abbrev zGoal (p : Program) (l : Launch) (e : Env) (R : Room) (s : State) (m : MethodId) (args : Array Value) (below : List Frame) (meth : Method) (c : Code) (cells slots : Nat) (Q : State → Prop) (ad : Nat → Nat → Nat) (H : Heap) (locs : List Loc) (lsA : Array Slot) (pc : Nat) (st : List zA) : Prop := W p l e R s m args below meth c H locs cells slots Q (F0 m pc lsA (st.map (zenc ad)))
theorem zs_bin {f : Int32 → Int32 → Int32} {pc : Nat} {ls : zO} {st : List zA} {σ : zS} {q : Nat × zO × List zA × zS} (h : zbin f pc ls st σ = some q) {H : Heap} {locs : List Loc} {lsA : Array Slot} (S : zSt D cI cS ad hb ρ s nL H locs lsA ls st σ)
    (K : ∀ H1 locs1 lsA1, zSt D cI cS ad hb ρ s nL H1 locs1 lsA1 q.2.1 q.2.2.1 q.2.2.2 → zGoal p l e R s m args below meth c cells slots Q ad H1 locs1 lsA1 q.1 q.2.2.1)
    (row : ∀ (x y : Int32) (rest : List Value), W p l e R s m args below meth c H locs cells slots Q (F0 m (pc + 1) lsA (.int (f x y) :: rest)) → W p l e R s m args below meth c H locs cells slots Q (F0 m pc lsA (.int y :: .int x :: rest))) : zGoal p l e R s m args below meth c cells slots Q ad H locs lsA pc st := by
  obtain ⟨x, y, r, rfl, rfl⟩ := zbin_inv h
  exact row x y _ (K H locs lsA (S.st (zok_push trivial (zok_cons (zok_cons S.2.2.2.2.1).2).2)))
theorem zs_br1 {f : Int32 → Bool} {off : Int} {pc : Nat} {ls : zO} {st : List zA} {σ : zS} {q : Nat × zO × List zA × zS} (h : zbr1 f off pc ls st σ = some q) {H : Heap} {locs : List Loc} {lsA : Array Slot} (S : zSt D cI cS ad hb ρ s nL H locs lsA ls st σ)
    (K : ∀ H1 locs1 lsA1, zSt D cI cS ad hb ρ s nL H1 locs1 lsA1 q.2.1 q.2.2.1 q.2.2.2 → zGoal p l e R s m args below meth c cells slots Q ad H1 locs1 lsA1 q.1 q.2.2.1)
    (row : ∀ (x : Int32) (t : Nat) (rest : List Value), (pc : Int) + off = (t : Int) → (f x = true → W p l e R s m args below meth c H locs cells slots Q (F0 m t lsA rest)) → (¬ f x = true → W p l e R s m args below meth c H locs cells slots Q (F0 m (pc + 3) lsA rest)) → W p l e R s m args below meth c H locs cells slots Q (F0 m pc lsA (.int x :: rest))) : zGoal p l e R s m args below meth c cells slots Q ad H locs lsA pc st := by
  obtain ⟨x, r, t, rfl, ht, rfl⟩ := zbr1_inv h
  have k := K H locs lsA (S.st (zok_cons S.2.2.2.2.1).2)
  refine row x t _ ht (fun hf => ?_) (fun hf => ?_)
  · simpa only [hf, if_true] using k
  · dsimp only at k
    rw [if_neg hf] at k
    exact k
theorem zs_br2 {f : Int32 → Int32 → Bool} {off : Int} {pc : Nat} {ls : zO} {st : List zA} {σ : zS} {q : Nat × zO × List zA × zS} (h : zbr2 f off pc ls st σ = some q) {H : Heap} {locs : List Loc} {lsA : Array Slot} (S : zSt D cI cS ad hb ρ s nL H locs lsA ls st σ)
    (K : ∀ H1 locs1 lsA1, zSt D cI cS ad hb ρ s nL H1 locs1 lsA1 q.2.1 q.2.2.1 q.2.2.2 → zGoal p l e R s m args below meth c cells slots Q ad H1 locs1 lsA1 q.1 q.2.2.1)
    (row : ∀ (x y : Int32) (t : Nat) (rest : List Value), (pc : Int) + off = (t : Int) → (f x y = true → W p l e R s m args below meth c H locs cells slots Q (F0 m t lsA rest)) → (¬ f x y = true → W p l e R s m args below meth c H locs cells slots Q (F0 m (pc + 3) lsA rest)) → W p l e R s m args below meth c H locs cells slots Q (F0 m pc lsA (.int y :: .int x :: rest))) : zGoal p l e R s m args below meth c cells slots Q ad H locs lsA pc st := by
  obtain ⟨x, y, r, t, rfl, ht, rfl⟩ := zbr2_inv h
  have k := K H locs lsA (S.st (zok_cons (zok_cons S.2.2.2.2.1).2).2)
  refine row x y t _ ht (fun hf => ?_) (fun hf => ?_)
  · simpa only [hf, if_true] using k
  · dsimp only at k
    rw [if_neg hf] at k
    exact k
theorem zsw_in {x : Int32} : ∀ (offs : List Int) (lo d : Int), (¬ x.toInt < lo → ∀ o, offs[(x.toInt - lo).toNat]? = some o → zsw x lo offs d = o) ∧ (x.toInt < lo → zsw x lo offs d = d) ∧ (lo + offs.length ≤ x.toInt → zsw x lo offs d = d) := by
  intro offs
  induction offs with
  | nil => intro lo d; exact ⟨fun _ o h => by simp at h, fun _ => rfl, fun _ => rfl⟩
  | cons a r ih =>
    intro lo d
    obtain ⟨i1, i2, i3⟩ := ih (lo + 1) d
    refine ⟨fun h o ho => ?_, fun h => ?_, fun h => ?_⟩
    · unfold zsw
      by_cases e : x.toInt = lo
      · rw [if_pos e]
        rw [e, Int.sub_self] at ho
        simpa using ho
      · rw [if_neg e]
        refine i1 (by omega) o ?_
        rw [show (x.toInt - lo).toNat = (x.toInt - (lo + 1)).toNat + 1 by omega] at ho
        simpa using ho
    · unfold zsw
      rw [if_neg (by omega)]
      exact i2 (by omega)
    · unfold zsw
      simp only [List.length_cons] at h
      rw [if_neg (by omega)]
      exact i3 (by omega)
theorem zlk_eq {x : Int32} : ∀ (ps : List (Int × Int)) (d : Int), zlk x ps d = Op.lookupswitch.offset ps d x.toInt := by
  intro ps
  induction ps with
  | nil => intro d; rfl
  | cons q r ih =>
    intro d
    obtain ⟨a, b⟩ := q
    show (if x.toInt = a then b else zlk x r d) = _
    rw [ih]
    simp only [Op.lookupswitch.offset]
    by_cases e : x.toInt = a
    · simp [e]
    · have e2 : ¬ a = x.toInt := fun h => e h.symm
      simp [e, e2]
end ZS
end
section
section ZT
variable {p : Program} {l : Launch} {e : Env} {R : Room} {s : State} {m : MethodId} {args : Array Value} {below : List Frame} {meth : Method} {c : Code} {cells slots : Nat} {Q : State → Prop}
variable {D : va_G} {cI cS : ClassId} {ad : Nat → Nat → Nat} {hb L : Nat} {ρ : zS} {nL : Nat} {cc : ByteArray}
theorem zx1 {v : Int32} {ty : FieldType} {c k i : Nat} (hc : c < 9) (hk : k < znf c) (hi : i < 4) (hf : zfr c k i = none) (hz : zfb c k = true → v = 0 ∨ v = 1) (hd : parseFieldDescriptor (zT c k).2.2.1 = some ty) : narrow ty (.int v) = .int v ∧ fits ty (.int v) = true := by
  have h1 := zty_ok hc k hk
  have h2 := zty_i hc k hk i hi hf
  have h3 : ty = zty c k := Option.some.inj (hd.symm.trans h1)
  rw [h3, h2]
  by_cases hb : zfb c k = true
  · rw [if_pos hb]
    rcases hz hb with rfl | rfl <;> exact ⟨rfl, rfl⟩
  · rw [if_neg hb]
    exact ⟨rfl, rfl⟩
set_option maxHeartbeats 4000000 in
theorem zstep_sound {o : Nat} {i : Instr} {ln pc : Nat} {ls : zO} {st : List zA} {σ : zS} {q : Nat × zO × List zA × zS} (h : zstep o i ln pc ls st σ = some q) (hlo : zlo i ln = true)
    (hx : p.tables.exec = Jvm.exec) (hb9 : c.code = cc) (hml : c.maxLocals = nL) (hown : s.vm.findClass (zC o) = some m.cls) (hts : ∀ w ∈ zTb, w.before args s = true) (hG : zGood D cI cS ad hb L ρ s s.heap) (hd : decode cc pc = .ok (i, ln)) (hR : 1 ≤ R.frames ∧ 60 ≤ R.locals)
    {H : Heap} {locs : List Loc} {lsA : Array Slot} (S : zSt D cI cS ad hb ρ s nL H locs lsA ls st σ)
    (K : ∀ H1 locs1 lsA1, zSt D cI cS ad hb ρ s nL H1 locs1 lsA1 q.2.1 q.2.2.1 q.2.2.2 → zGoal p l e R s m args below meth c cells slots Q ad H1 locs1 lsA1 q.1 q.2.2.1) : zGoal p l e R s m args below meth c cells slots Q ad H locs lsA pc st := by
  cases i with
  | iconst n =>
    obtain rfl : ln = 1 := by simpa [zlo] using hlo
    cases h
    exact lv_iconst hx hb9 hd rfl (K H locs lsA (zW_zpush S trivial))
  | bipush n =>
    obtain rfl : ln = 2 := by simpa [zlo] using hlo
    cases h
    exact lv_bipush hx hb9 hd rfl (K H locs lsA (zW_zpush S trivial))
  | sipush n =>
    obtain rfl : ln = 3 := by simpa [zlo] using hlo
    cases h
    exact lv_sipush hx hb9 hd rfl (K H locs lsA (zW_zpush S trivial))
  | ldc x =>
    obtain rfl : ln = 2 := by simpa [zlo] using hlo
    simp only [zstep] at h
    split at h
    · rename_i v hv
      cases h
      exact lv_ldc hx hb9 hown (hts _ (zk_ok hv)) hd (K H locs lsA (zW_zpush S trivial))
    · cases h
  | ldc_w x =>
    obtain rfl : ln = 3 := by simpa [zlo] using hlo
    simp only [zstep] at h
    split at h
    · rename_i v hv
      cases h
      exact lv_ldcw hx hb9 hown (hts _ (zk_ok hv)) hd (K H locs lsA (zW_zpush S trivial))
    · cases h
  | ldc2_w x =>
    obtain rfl : ln = 3 := by simpa [zlo] using hlo
    simp only [zstep] at h
    split at h
    · rename_i v hv
      cases h
      exact lv_ldc2 hx hb9 hown (hts _ (zkL_ok hv)) hd (K H locs lsA (zW_zpush S trivial))
    · cases h
  | iload k =>
    obtain rfl : ln = 2 := by simpa [zlo] using hlo
    obtain ⟨x, hk, rfl⟩ := zldi_inv h
    exact lv_iload hx hb9 hd (zls_get S.2.2.2.1.2 hk) (K H locs lsA (zW_zpush S trivial))
  | iload_n k =>
    obtain rfl : ln = 1 := by simpa [zlo] using hlo
    obtain ⟨x, hk, rfl⟩ := zldi_inv h
    exact lv_iload_n hx hb9 hd rfl (zls_get S.2.2.2.1.2 hk) (K H locs lsA (zW_zpush S trivial))
  | lload_n k =>
    obtain rfl : ln = 1 := by simpa [zlo] using hlo
    simp only [zstep] at h
    split at h
    · rename_i x hk
      cases h
      exact lv_lload_n hx hb9 hd rfl (zls_get S.2.2.2.1.2 hk) (K H locs lsA (zW_zpush S trivial))
    · cases h
  | aload k =>
    obtain rfl : ln = 2 := by simpa [zlo] using hlo
    obtain ⟨a, i, hk, rfl⟩ := zlda_inv h
    exact lv_aload hx hb9 hd (zls_get S.2.2.2.1.2 hk) (K H locs lsA (zW_zpush S (zget_ok S.2.2.2.2.2 hk)))
  | aload_n k =>
    obtain rfl : ln = 1 := by simpa [zlo] using hlo
    obtain ⟨a, i, hk, rfl⟩ := zlda_inv h
    exact lv_aload_n hx hb9 hd rfl (zls_get S.2.2.2.1.2 hk) (K H locs lsA (zW_zpush S (zget_ok S.2.2.2.2.2 hk)))
  | istore k =>
    obtain rfl : ln = 2 := by simpa [zlo] using hlo
    obtain ⟨x, r, ls', rfl, hs, rfl⟩ := zsti_inv h
    have S2 := S.st (zok_cons S.2.2.2.2.1).2
    exact lv_istore hx hb9 hd S.2.2.2.1.2 (zset_lt hs S.2.2.2.1.1) rfl (fun lsB hB => K H locs lsB (S2.set hs trivial hB))
  | istore_n k =>
    obtain rfl : ln = 1 := by simpa [zlo] using hlo
    obtain ⟨x, r, ls', rfl, hs, rfl⟩ := zsti_inv h
    have S2 := S.st (zok_cons S.2.2.2.2.1).2
    exact lv_istore_n hx hb9 hd rfl S.2.2.2.1.2 (zset_lt hs S.2.2.2.1.1) rfl (fun lsB hB => K H locs lsB (S2.set hs trivial hB))
  | astore k =>
    obtain rfl : ln = 2 := by simpa [zlo] using hlo
    obtain ⟨a, i, r, ls', rfl, hs, rfl⟩ := zsta_inv h
    have S2 := S.st (zok_cons S.2.2.2.2.1).2
    exact lv_astore hx hb9 hd S.2.2.2.1.2 (zset_lt hs S.2.2.2.1.1) rfl (fun lsB hB => K H locs lsB (S2.set hs (zok_cons S.2.2.2.2.1).1 hB))
  | astore_n k =>
    obtain rfl : ln = 1 := by simpa [zlo] using hlo
    obtain ⟨a, i, r, ls', rfl, hs, rfl⟩ := zsta_inv h
    have S2 := S.st (zok_cons S.2.2.2.2.1).2
    exact lv_astore_n hx hb9 hd rfl S.2.2.2.1.2 (zset_lt hs S.2.2.2.1.1) rfl (fun lsB hB => K H locs lsB (S2.set hs (zok_cons S.2.2.2.2.1).1 hB))
  | iinc k n =>
    obtain rfl : ln = 3 := by simpa [zlo] using hlo
    simp only [zstep, if_true] at h
    split at h
    · rename_i x hk
      split at h
      · rename_i ls' hs
        cases h
        obtain ⟨k0, hk0⟩ : ∃ k0 : Nat, (zpr ad 0 ls)[k0]? = some (k, .int x) := List.getElem?_of_mem ((zpr_mem ls 0 k (.int x)).mpr ⟨k, zI x, by omega, zget_some hk, rfl⟩)
        exact lv_iinc hx hb9 hd S.2.2.2.1.2 hk0 rfl (zset_lt hs S.2.2.2.1.1) rfl (fun lsB hB => K H locs lsB (S.set hs trivial hB))
      · cases h
    · cases h
  | iadd => obtain rfl : ln = 1 := by simpa [zlo] using hlo
            exact zs_bin h S K (fun x y rest k => lv_iadd hx hb9 hd k)
  | isub => obtain rfl : ln = 1 := by simpa [zlo] using hlo
            exact zs_bin h S K (fun x y rest k => lv_isub hx hb9 hd k)
  | imul => obtain rfl : ln = 1 := by simpa [zlo] using hlo
            exact zs_bin h S K (fun x y rest k => lv_imul hx hb9 hd k)
  | iand => obtain rfl : ln = 1 := by simpa [zlo] using hlo
            exact zs_bin h S K (fun x y rest k => lv_iand hx hb9 hd k)
  | ior => obtain rfl : ln = 1 := by simpa [zlo] using hlo
           exact zs_bin h S K (fun x y rest k => lv_ior hx hb9 hd k)
  | ixor => obtain rfl : ln = 1 := by simpa [zlo] using hlo
            exact zs_bin h S K (fun x y rest k => lv_ixor hx hb9 hd k)
  | ishl => obtain rfl : ln = 1 := by simpa [zlo] using hlo
            exact zs_bin h S K (fun x y rest k => lv_ishl hx hb9 hd k)
  | ishr => obtain rfl : ln = 1 := by simpa [zlo] using hlo
            exact zs_bin h S K (fun x y rest k => lv_ishr hx hb9 hd k)
  | iushr => obtain rfl : ln = 1 := by simpa [zlo] using hlo
             exact zs_bin h S K (fun x y rest k => lv_iushr hx hb9 hd rfl k)
  | idiv =>
    obtain rfl : ln = 1 := by simpa [zlo] using hlo
    simp only [zstep] at h
    split at h
    · split at h
      · cases h
      · rename_i hne
        cases h
        exact lv_idiv hx hb9 hd hne (K H locs lsA (S.st (zok_push trivial (zok_cons (zok_cons S.2.2.2.2.1).2).2)))
    · cases h
  | irem =>
    obtain rfl : ln = 1 := by simpa [zlo] using hlo
    simp only [zstep] at h
    split at h
    · split at h
      · cases h
      · rename_i hne
        cases h
        exact lv_irem hx hb9 hd hne (K H locs lsA (S.st (zok_push trivial (zok_cons (zok_cons S.2.2.2.2.1).2).2)))
    · cases h
  | ineg =>
    obtain rfl : ln = 1 := by simpa [zlo] using hlo
    simp only [zstep] at h
    split at h
    · cases h
      exact lv_ineg hx hb9 hd (K H locs lsA (S.st (zok_push trivial (zok_cons S.2.2.2.2.1).2)))
    · cases h
  | i2l =>
    obtain rfl : ln = 1 := by simpa [zlo] using hlo
    simp only [zstep] at h
    split at h
    · cases h
      exact lv_i2l hx hb9 hd rfl (K H locs lsA (S.st (zok_push trivial (zok_cons S.2.2.2.2.1).2)))
    · cases h
  | l2i =>
    obtain rfl : ln = 1 := by simpa [zlo] using hlo
    simp only [zstep] at h
    split at h
    · cases h
      exact lv_l2i hx hb9 hd rfl (K H locs lsA (S.st (zok_push trivial (zok_cons S.2.2.2.2.1).2)))
    · cases h
  | land =>
    obtain rfl : ln = 1 := by simpa [zlo] using hlo
    simp only [zstep] at h
    split at h
    · cases h
      exact lv_land hx hb9 hd (K H locs lsA (S.st (zok_push trivial (zok_cons (zok_cons S.2.2.2.2.1).2).2)))
    · cases h
  | lor =>
    obtain rfl : ln = 1 := by simpa [zlo] using hlo
    simp only [zstep] at h
    split at h
    · cases h
      exact lv_lor hx hb9 hd (K H locs lsA (S.st (zok_push trivial (zok_cons (zok_cons S.2.2.2.2.1).2).2)))
    · cases h
  | lshl =>
    obtain rfl : ln = 1 := by simpa [zlo] using hlo
    simp only [zstep] at h
    split at h
    · cases h
      exact lv_lshl hx hb9 hd rfl (K H locs lsA (S.st (zok_push trivial (zok_cons (zok_cons S.2.2.2.2.1).2).2)))
    · cases h
  | lshr =>
    obtain rfl : ln = 1 := by simpa [zlo] using hlo
    simp only [zstep] at h
    split at h
    · cases h
      exact lv_lshr hx hb9 hd rfl (K H locs lsA (S.st (zok_push trivial (zok_cons (zok_cons S.2.2.2.2.1).2).2)))
    · cases h
  | lushr =>
    obtain rfl : ln = 1 := by simpa [zlo] using hlo
    simp only [zstep] at h
    split at h
    · cases h
      exact lv_lushr hx hb9 hd rfl (K H locs lsA (S.st (zok_push trivial (zok_cons (zok_cons S.2.2.2.2.1).2).2)))
    · cases h
  | dup =>
    obtain rfl : ln = 1 := by simpa [zlo] using hlo
    simp only [zstep] at h
    split at h
    · split at h
      · cases h
      · rename_i v r hl
        cases h
        exact lv_dup hx hb9 hd (zlong_cat (by simpa using hl)) (K H locs lsA (S.st (zok_push (zok_cons S.2.2.2.2.1).1 S.2.2.2.2.1)))
    · cases h
  | dup2 =>
    obtain rfl : ln = 1 := by simpa [zlo] using hlo
    simp only [zstep] at h
    split at h
    · split at h
      · cases h
      · rename_i v w r hl
        cases h
        simp only [Bool.or_eq_true, not_or, Bool.not_eq_true] at hl
        have o1 := zok_cons S.2.2.2.2.1
        have o2 := zok_cons o1.2
        exact lv_dup2_11 hx hb9 hd (zlong_cat hl.1) (zlong_cat hl.2) (K H locs lsA (S.st (zok_push o1.1 (zok_push o2.1 S.2.2.2.2.1))))
    · cases h
  | getfield x =>
    obtain rfl : ln = 3 := by simpa [zlo] using hlo
    simp only [zstep] at h
    split at h
    · rename_i w r
      split at h
      · rename_i c0 k hf
        split at h
        · rename_i hq
          cases h
          obtain ⟨⟨h9, hk, hT⟩, hw⟩ := zf_ok hf
          obtain ⟨a0, i0⟩ := w
          simp only at hq
          subst hq
          have hok : zokp a0 i0 := (zok_cons S.2.2.2.2.1).1
          have hi : i0 < zcnt a0 := by
            rcases hok with h | ⟨h, -⟩
            · exact h
            · omega
          obtain ⟨n, hn⟩ := zpl_at hi
          have he := zwl_at (cI := cI) (cS := cS) (ad := ad) (σ := σ) hn
          rw [zcell_obj h9] at he
          refine va_get (own := zC o) (C := zC a0) (T := zT a0) (N := znf a0) hx hb9 hts (zlay h9) hown hG.1 S.1.1 n he (zcl_at h9) k hk (hts _ hw) (fun y hy => by rw [← hT]; exact hy) (v := zenc ad (zfv σ a0 i0 k)) (by simp [List.getElem?_map, List.getElem?_range hk]) hd ?_
          refine K H locs lsA (S.st (zok_push ?_ (zok_cons S.2.2.2.2.1).2))
          unfold zfv
          cases hr : zfr a0 k i0 with
          | none => trivial
          | some q =>
            exact Or.inl (zfr_ok h9 k hk i0 hi q hr)
        · cases h
      · cases h
    · cases h
  | putfield x =>
    obtain rfl : ln = 3 := by simpa [zlo] using hlo
    simp only [zstep] at h
    split at h
    · rename_i v w r
      split at h
      · rename_i c0 k hf
        split at h
        · rename_i hq
          cases h
          obtain ⟨⟨h9, hk, hT⟩, hw⟩ := zf_ok hf
          obtain ⟨a0, i0⟩ := w
          obtain ⟨hq, hfr, hfin, hz⟩ := hq
          simp only at hq
          subst hq
          have o1 := zok_cons S.2.2.2.2.1
          have hok : zokp a0 i0 := (zok_cons o1.2).1
          have hi : i0 < zcnt a0 := by
            rcases hok with h | ⟨h, -⟩
            · exact h
            · omega
          obtain ⟨n, hn⟩ := zpl_at hi
          have he := zwl_at (cI := cI) (cS := cS) (ad := ad) (σ := σ) hn
          rw [zcell_obj h9] at he
          have hty := zty_ok h9 k hk
          obtain ⟨hn1, hn2⟩ := zx1 (v := v) h9 hk (zcnt_big hi).2 hfr hz hty
          have hset : zcell cI cS ad (zup σ a0 i0 k v) a0 i0 = .inr (a0, ((List.range (znf a0)).map (fun k => zenc ad (zfv σ a0 i0 k))).set k (.int v)) := by
            rw [zcell_obj h9]
            congr 2
            apply List.ext_getElem?
            intro j
            by_cases hj : k = j
            · subst hj
              rw [List.getElem?_set_self (by simpa using hk)]
              simp [List.getElem?_map, List.getElem?_range hk, zfv, hfr, zup, zenc]
            · rw [List.getElem?_set_ne hj]
              simp only [List.getElem?_map]
              cases hr : (List.range (znf a0))[j]? with
              | none => rfl
              | some j' =>
                have : j' = j := by
                  obtain ⟨h1, h2⟩ := List.getElem?_eq_some_iff.mp hr
                  simpa using h2.symm
                subst this
                simp only [Option.map_some, Option.some.injEq]
                congr 1
                unfold zfv
                cases zfr a0 j' i0 with
                | none =>
                  have hj2 : ¬ j' = k := fun q => hj q.symm
                  simp [zup, hj2]
                | some q => rfl
          refine va_put (own := zC o) (C := zC a0) (T := zT a0) (N := znf a0) hx hb9 hts (zlay h9) (zty a0) (zty_ok h9) (znm_ok h9) hown hG.1 S.1.1 S.1.2 S.2.1 n he (zcl_at h9) k hk (hts _ hw) (fun y hy => by rw [← hT]; exact hy) hfin hty hn1 hn2 (by simpa using hk) hd (fun H1 locs1 hP hD hS => ?_)
          change va_P D vwCl ((zwl cI cS ad σ).set n (ad a0 i0, .inr (a0, ((List.range (znf a0)).map (fun k => zenc ad (zfv σ a0 i0 k))).set k (.int v)))) H1 at hP
          change va_D (zA0 hb) ((zwl cI cS ad σ).set n (ad a0 i0, .inr (a0, ((List.range (znf a0)).map (fun k => zenc ad (zfv σ a0 i0 k))).set k (.int v)))) at hD
          rw [← hset] at hP hD
          refine K H1 locs1 lsA ⟨zWd.set hn (fun c' i' hne => zup_ne hne) hP hD, hS, fun c' i' k' hc => ?_, S.2.2.2.1, (zok_cons o1.2).2, S.2.2.2.2.2⟩
          show zup σ a0 i0 k v c' i' k' = _
          rw [show zup σ a0 i0 k v c' i' = σ c' i' from zup_ne (fun q => by cases q; omega)]
          exact S.2.2.1 c' i' k' hc
        · cases h
      · cases h
    · cases h
  | getstatic x =>
    obtain rfl : ln = 3 := by simpa [zlo] using hlo
    simp only [zstep] at h
    split at h
    · rename_i t ht
      cases h
      obtain ⟨⟨h1, h2⟩, hw⟩ := zg_ok ht
      exact va_gets (own := zC o) hx hb9 (hG.2.2.2.2.2.1 t h1 h2) S.2.1 hown (hts _ hw) (fun _ hy => hy) hd (K H locs lsA (zW_zpush S (Or.inr ⟨by omega, h2, rfl⟩)))
    · cases h
  | iaload =>
    obtain rfl : ln = 1 := by simpa [zlo] using hlo
    simp only [zstep] at h
    split at h
    · rename_i j w r
      split at h
      · rename_i hq
        cases h
        obtain ⟨a0, i0⟩ := w
        obtain ⟨hq, hin⟩ := hq
        simp only at hq hin
        have o1 := zok_cons S.2.2.2.2.1
        have hok : zokp a0 i0 := (zok_cons o1.2).1
        have k2 := K H locs lsA (S.st (zok_push trivial (zok_cons o1.2).2))
        rcases hq with hq | hq | hq | hq
        · have hi : i0 < zcnt a0 := by
            have := (zia_cases hq).2.2.1
            rcases hok with h | ⟨h, -⟩
            · exact h
            · omega
          obtain ⟨n, hn⟩ := zpl_at hi
          have he := zwl_at (cI := cI) (cS := cS) (ad := ad) (σ := σ) hn
          rw [zcell_ia hq] at he
          exact va_iald hx hb9 hG.1 S.1.1 n 0 he rfl hin hd k2
        · subst hq
          obtain rfl : i0 = 0 := by
            rcases hok with h | ⟨-, -, h⟩
            · exact absurd (zcnt_big h).1 (by omega)
            · exact h
          refine va_ti hx hb9 hG.2.1 S.2.1 (i := j) ?_ rfl hd ?_
          · have : zln σ 50 0 = L := by
              show (σ 50 1 0).toNatClampNeg = L
              rw [S.2.2.1 50 1 0 (by omega)]
              exact hG.2.2.2.2.2.2
            rw [this] at hin
            exact hin
          · rw [← S.2.2.1 50 0 j.toNatClampNeg (by omega)]
            exact k2
        · subst hq
          obtain rfl : i0 = 0 := by
            rcases hok with h | ⟨-, -, h⟩
            · exact absurd (zcnt_big h).1 (by omega)
            · exact h
          refine va_ti hx hb9 hG.2.2.2.1 S.2.1 (i := j) hin rfl hd ?_
          rw [← S.2.2.1 52 0 j.toNatClampNeg (by omega)]
          exact k2
        · subst hq
          obtain rfl : i0 = 0 := by
            rcases hok with h | ⟨-, -, h⟩
            · exact absurd (zcnt_big h).1 (by omega)
            · exact h
          refine va_ti hx hb9 hG.2.2.2.2.1 S.2.1 (i := j) hin rfl hd ?_
          rw [← S.2.2.1 53 0 j.toNatClampNeg (by omega)]
          exact k2
      · cases h
    · cases h
  | caload =>
    obtain rfl : ln = 1 := by simpa [zlo] using hlo
    simp only [zstep] at h
    split at h
    · rename_i j w r
      split at h
      · rename_i hq
        cases h
        obtain ⟨a0, i0⟩ := w
        obtain ⟨hq, hin⟩ := hq
        simp only at hq hin
        have o1 := zok_cons S.2.2.2.2.1
        have hok : zokp a0 i0 := (zok_cons o1.2).1
        subst hq
        obtain rfl : i0 = 0 := by
          rcases hok with h | ⟨-, -, h⟩
          · exact absurd (zcnt_big h).1 (by omega)
          · exact h
        refine va_tc hx hb9 hG.2.2.1 S.2.1 (i := j) hin rfl hd ?_
        rw [← S.2.2.1 51 0 j.toNatClampNeg (by omega)]
        exact K H locs lsA (S.st (zok_push trivial (zok_cons o1.2).2))
      · cases h
    · cases h
  | aaload =>
    obtain rfl : ln = 1 := by simpa [zlo] using hlo
    simp only [zstep] at h
    split at h
    · rename_i j w r
      split at h
      · rename_i hq
        cases h
        obtain ⟨a0, i0⟩ := w
        obtain ⟨hq, hin⟩ := hq
        simp only at hq hin
        subst hq
        have o1 := zok_cons S.2.2.2.2.1
        have hok : zokp 25 i0 := (zok_cons o1.2).1
        have hi : i0 < zcnt 25 := by
          rcases hok with h | ⟨h, -⟩
          · exact h
          · omega
        obtain ⟨n, hn⟩ := zpl_at hi
        have he := zwl_at (cI := cI) (cS := cS) (ad := ad) (σ := σ) hn
        have hj : j.toNatClampNeg < 4 := Nat.not_le.mp fun q => hin (Or.inr q)
        exact va_aldq hx hb9 hG.1 S.1.1 n 1 (C := "ApronStrings$Sheet") he rfl hin hd (K H locs lsA (S.st (zok_push (Or.inl hj) (zok_cons o1.2).2)))
      · cases h
    · cases h
  | iastore =>
    obtain rfl : ln = 1 := by simpa [zlo] using hlo
    simp only [zstep] at h
    split at h
    · rename_i v j w r
      split at h
      · rename_i hq
        cases h
        obtain ⟨a0, i0⟩ := w
        obtain ⟨hq, hin⟩ := hq
        simp only at hq hin
        have o1 := zok_cons S.2.2.2.2.1
        have o2 := zok_cons o1.2
        have hok : zokp a0 i0 := (zok_cons o2.2).1
        have h50 := (zia_cases hq).2.2.1
        have hi : i0 < zcnt a0 := by
          rcases hok with h | ⟨h, -⟩
          · exact h
          · omega
        obtain ⟨n, hn⟩ := zpl_at hi
        have he := zwl_at (cI := cI) (cS := cS) (ad := ad) (σ := σ) hn
        rw [zcell_ia hq] at he
        have hset : zcell cI cS ad (zup σ a0 i0 j.toNatClampNeg v) a0 i0 = .inl (cI, zln σ a0 i0, .inl (upd (σ a0 i0) j.toNatClampNeg v)) := by
          rw [zcell_ia hq, zup_self, (zia_cases hq).2.2.2, (zia_cases hq).2.2.2]
        refine va_iast hx hb9 hG.1 S.1.1 S.1.2 S.2.1 n 0 he rfl hin hd (fun H1 locs1 hP hD hS => ?_)
        rw [← hset] at hP hD
        refine K H1 locs1 lsA ⟨zWd.set hn (fun c' i' hne => zup_ne hne) hP hD, hS, fun c' i' k' hc => ?_, S.2.2.2.1, (zok_cons o2.2).2, S.2.2.2.2.2⟩
        show zup σ a0 i0 j.toNatClampNeg v c' i' k' = _
        rw [show zup σ a0 i0 j.toNatClampNeg v c' i' = σ c' i' from zup_ne (fun q => by cases q; omega)]
        exact S.2.2.1 c' i' k' hc
      · cases h
    · cases h
  | arraylength =>
    obtain rfl : ln = 1 := by simpa [zlo] using hlo
    simp only [zstep] at h
    split at h
    · rename_i w r
      split at h
      · rename_i hq
        cases h
        obtain ⟨a0, i0⟩ := w
        simp only at hq
        have o1 := zok_cons S.2.2.2.2.1
        have hok : zokp a0 i0 := o1.1
        have k2 := K H locs lsA (S.st (zok_push trivial o1.2))
        have hz : 50 ≤ a0 → i0 = 0 := fun h5 => by
          rcases hok with h | ⟨-, -, h⟩
          · exact absurd (zcnt_big h).1 (by omega)
          · exact h
        rcases hq with hq | hq | hq | hq | hq
        · have hi : i0 < zcnt a0 := by
            have := (zia_cases hq).2.2.1
            rcases hok with h | ⟨h, -⟩
            · exact h
            · omega
          obtain ⟨n, hn⟩ := zpl_at hi
          have he := zwl_at (cI := cI) (cS := cS) (ad := ad) (σ := σ) hn
          rw [zcell_ia hq] at he
          exact va_alen hx hb9 hG.1 S.1.1 n 0 he rfl rfl hd k2
        · subst hq
          obtain rfl := hz (by omega)
          refine va_tlen hx hb9 hG.2.1 S.2.1 ?_ hd k2
          show _ = Int32.ofNat (σ 50 1 0).toNatClampNeg
          rw [S.2.2.1 50 1 0 (by omega), hG.2.2.2.2.2.2]
        · subst hq
          obtain rfl := hz (by omega)
          exact va_tlen hx hb9 hG.2.2.2.1 S.2.1 rfl hd k2
        · subst hq
          obtain rfl := hz (by omega)
          exact va_tlen hx hb9 hG.2.2.2.2.1 S.2.1 rfl hd k2
        · subst hq
          obtain rfl := hz (by omega)
          exact va_tlen hx hb9 hG.2.2.1 S.2.1 rfl hd k2
      · cases h
    · cases h
  | ifCond cd off =>
    obtain rfl : ln = 3 := by simpa [zlo] using hlo
    cases cd with
    | eq => exact zs_br1 h S K (fun x t rest ht kt kf => lv_if_eq hx hb9 hd ht (fun hc => kt (by simpa using hc)) (fun hc => kf (by simpa using hc)))
    | ne => exact zs_br1 h S K (fun x t rest ht kt kf => lv_if_ne hx hb9 hd ht (fun hc => kt (by simpa using hc)) (fun hc => kf (by simpa using hc)))
    | lt => exact zs_br1 h S K (fun x t rest ht kt kf => lv_if_lt hx hb9 hd ht (fun hc => kt (by simpa only [decide_eq_true_eq] using hc)) (fun hc => kf (by simpa only [decide_eq_true_eq] using hc)))
    | ge => exact zs_br1 h S K (fun x t rest ht kt kf => lv_if_ge hx hb9 hd ht (fun hc => kt (by simpa only [decide_eq_true_eq] using hc)) (fun hc => kf (by simpa only [decide_eq_true_eq] using hc)))
    | gt => exact zs_br1 h S K (fun x t rest ht kt kf => lv_if_gt hx hb9 hd ht (fun hc => kt (by simpa only [decide_eq_true_eq] using hc)) (fun hc => kf (by simpa only [decide_eq_true_eq] using hc)))
    | le => exact zs_br1 h S K (fun x t rest ht kt kf => lv_if_le hx hb9 hd ht (fun hc => kt (by simpa only [decide_eq_true_eq] using hc)) (fun hc => kf (by simpa only [decide_eq_true_eq] using hc)))
  | if_icmp cd off =>
    obtain rfl : ln = 3 := by simpa [zlo] using hlo
    cases cd with
    | eq => exact zs_br2 h S K (fun x y t rest ht kt kf => lv_icmp_eq hx hb9 hd ht (fun hc => kt (by simpa using hc)) (fun hc => kf (by simpa using hc)))
    | ne => exact zs_br2 h S K (fun x y t rest ht kt kf => lv_icmp_ne hx hb9 hd ht (fun hc => kt (by simpa using hc)) (fun hc => kf (by simpa using hc)))
    | lt => exact zs_br2 h S K (fun x y t rest ht kt kf => lv_icmp_lt hx hb9 hd ht (fun hc => kt (by simpa only [decide_eq_true_eq] using hc)) (fun hc => kf (by simpa only [decide_eq_true_eq] using hc)))
    | ge => exact zs_br2 h S K (fun x y t rest ht kt kf => lv_icmp_ge hx hb9 hd ht (fun hc => kt (by simpa only [decide_eq_true_eq] using hc)) (fun hc => kf (by simpa only [decide_eq_true_eq] using hc)))
    | gt => exact zs_br2 h S K (fun x y t rest ht kt kf => lv_icmp_gt hx hb9 hd ht (fun hc => kt (by simpa only [decide_eq_true_eq] using hc)) (fun hc => kf (by simpa only [decide_eq_true_eq] using hc)))
    | le => exact zs_br2 h S K (fun x y t rest ht kt kf => lv_icmp_le hx hb9 hd ht (fun hc => kt (by simpa only [decide_eq_true_eq] using hc)) (fun hc => kf (by simpa only [decide_eq_true_eq] using hc)))
  | goto off =>
    obtain rfl : ln = 3 := by simpa [zlo] using hlo
    simp only [zstep] at h
    split at h
    · rename_i t ht
      cases h
      exact lv_goto hx hb9 hd (ztg_eq ht) (K H locs lsA S)
    · cases h
  | tableswitch d lo hi offs =>
    simp only [zstep] at h
    split at h
    · rename_i x r
      split at h
      · rename_i hsz
        split at h
        · rename_i t ht
          cases h
          have k2 := K H locs lsA (S.st (zok_cons S.2.2.2.2.1).2)
          obtain ⟨g1, g2, g3⟩ := zsw_in (x := x) offs.toList lo d
          have hl : offs.toList.length = offs.size := Array.length_toList
          by_cases hlo2 : x.toInt < lo
          · rw [g2 hlo2] at ht
            exact lv_tableOut hx hb9 hd (Or.inl hlo2) (ztg_eq ht) k2
          · by_cases hhi : hi < x.toInt
            · rw [g3 (by omega)] at ht
              exact lv_tableOut hx hb9 hd (Or.inr hhi) (ztg_eq ht) k2
            · have hlt : (x.toInt - lo).toNat < offs.size := by omega
              have ho : offs[(x.toInt - lo).toNat]? = some offs[(x.toInt - lo).toNat] := Array.getElem?_eq_getElem hlt
              rw [g1 hlo2 _ (by rw [Array.getElem?_toList]; exact ho)] at ht
              exact lv_tableIn hx hb9 hd hlo2 hhi ho (ztg_eq ht) k2
        · cases h
      · cases h
    · cases h
  | lookupswitch d ps =>
    simp only [zstep] at h
    split at h
    · rename_i x r
      split at h
      · rename_i hp
        split at h
        · rename_i t ht
          cases h
          rw [zlk_eq] at ht
          exact lv_lookup hx hb9 hd hp rfl (ztg_eq ht) (K H locs lsA (S.st (zok_cons S.2.2.2.2.1).2))
        · cases h
      · cases h
    · cases h
  | invokestatic x =>
    obtain rfl : ln = 3 := by simpa [zlo] using hlo
    simp only [zstep] at h
    split at h
    · rename_i hza
      split at h
      · rename_i n dp w2 sp w1 r
        split at h
        · rename_i hq
          cases h
          obtain ⟨a1, i1⟩ := w1
          obtain ⟨a2, i2⟩ := w2
          obtain ⟨q1, q2, q3, q4, q5, q6, q7, q8⟩ := hq
          simp only at q1 q2 q6 q7
          have o1 := zok_cons S.2.2.2.2.1
          have o2 := zok_cons o1.2
          have o3 := zok_cons o2.2
          have o4 := zok_cons o3.2
          have o5 := zok_cons o4.2
          have v2 : zokp a2 i2 := o3.1
          have v1 : zokp a1 i1 := o5.1
          have b1 := (zia_cases q1).2.2.1
          have b2 := (zia_cases q2).2.2.1
          have j1 : i1 < zcnt a1 := by
            rcases v1 with h | ⟨h, -⟩
            · exact h
            · omega
          have j2 : i2 < zcnt a2 := by
            rcases v2 with h | ⟨h, -⟩
            · exact h
            · omega
          obtain ⟨n1, hn1⟩ := zpl_at j1
          obtain ⟨n2, hn2⟩ := zpl_at j2
          have e1 := zwl_at (cI := cI) (cS := cS) (ad := ad) (σ := σ) hn1
          have e2 := zwl_at (cI := cI) (cS := cS) (ad := ad) (σ := σ) hn2
          rw [zcell_ia q1] at e1
          rw [zcell_ia q2] at e2
          have hset : zcell cI cS ad (zcp σ a1 i1 a2 i2 sp.toNatClampNeg dp.toNatClampNeg n.toNatClampNeg) a2 i2 = .inl (cI, zln σ a2 i2, .inl (va_cpy (σ a1 i1) (σ a2 i2) sp.toNatClampNeg dp.toNatClampNeg n.toNatClampNeg)) := by
            rw [zcell_ia q2, zcp_self, (zia_cases q2).2.2.2, (zia_cases q2).2.2.2]
          have hmls : c.maxLocals = lsA.size := hml.trans S.2.2.2.1.2.1.symm
          refine va_copyi (own := zC o) hx hb9 hmls hown (hts _ (za_ok hza)) (hts _ zcopy_words.1) (hts _ zcopy_words.2.1) (hts _ zcopy_words.2.2) hG.1 S.1.1 S.1.2 S.2.1 n1 n2 0 0 e1 e2 rfl rfl rfl q3 q4 q5 q6 q7 (fun _ _ => rfl) hR.1 ?_ hd (fun H1 locs1 hP hD hS => ?_)
          · rw [zcat_sum]
            have : nativeFrameWords "java/lang/System" "arraycopy" 5 = 7 := by decide +kernel
            rw [this]
            have := hR.2
            omega
          · rw [← hset] at hP hD
            refine K H1 locs1 lsA ⟨zWd.set hn2 (fun c' i' hne => zcp_ne hne) hP hD, hS, fun c' i' k' hc => ?_, S.2.2.2.1, o5.2, S.2.2.2.2.2⟩
            show zcp σ a1 i1 a2 i2 sp.toNatClampNeg dp.toNatClampNeg n.toNatClampNeg c' i' k' = _
            rw [show zcp σ a1 i1 a2 i2 sp.toNatClampNeg dp.toNatClampNeg n.toNatClampNeg c' i' = σ c' i' from zcp_ne (fun q => by cases q; omega)]
            exact S.2.2.1 c' i' k' hc
        · cases h
      · cases h
    · cases h
  | _ => exact absurd h (by simp [zstep])
end ZT
end
section
/-! A run of the small machine is a run of the JVM's. -/
def zrm (d : Nat) : Room := { frames := d + 1, cells := 0, slots := 0, locals := 60 * (d + 1) }
def zws (mj : Nat) : List Cond := .code (zy mj) (zb mj) (zn mj) (zr mj) :: zTb
theorem zn_le : ∀ mj, mj < zMN → zn mj ≤ 41 := by decide +kernel
theorem zws_good {mj : Nat} (h : mj < zMN) (h9 : zo mj ≠ 9) : GoodIn zTb (zws mj) := by
  intro w hw
  rcases List.mem_cons.mp hw with rfl | hw
  · exact zTb_good _ (zm_code h h9)
  · exact zTb_good _ hw
/-- the words of a call -/
theorem zm_init {mj : Nat} (h : mj < zMN) (h9 : zo mj ≠ 9) : Cond.initialized (zC (zo mj)) ∈ zTb ∧ (zy mj).cls = zC (zo mj) ∧ (zy mj).cls ≠ "java/lang/invoke/MethodHandle" ∧ (zy mj).cls ≠ "java/lang/invoke/VarHandle" ∧ plainFor (zy mj) = true := by
  obtain ⟨q, hq, rfl⟩ := zmT_all mj h h9
  have h2 := zmT_ok2 q hq
  exact ⟨zTb_of h2.1 h2.2.1, h2.2.2.1, h2.2.2.2.1, h2.2.2.2.2, zmT_plain q hq⟩
theorem zm_st {mj : Nat} (h : mj < zMN) (h9 : zo mj ≠ 9) (hs : zst mj = true) : Cond.static (zy mj) ∈ zTb ∧ (parseMethodDescriptor (zy mj).desc).map (fun d => d.parameters.length) = some (zna mj) := by
  obtain ⟨q, hq, rfl⟩ := zmT_all mj h h9
  have h3 := zmT_ok3 q hq
  have h4 := zmT_ok4 q hq
  have e : q.2.1 = true := h3.1.symm.trans hs
  rw [e, if_pos rfl] at h4
  have h5 := h3.2.2.1
  rw [e, if_pos rfl] at h5
  exact ⟨zTb_of h4.1 h4.2, h5⟩
theorem zm_vi {mj : Nat} (h : mj < zMN) (h9 : zo mj ≠ 9) (hs : zst mj = false) : Cond.instanceMethod (zy mj) ∈ zTb ∧ Cond.selects (zC (zo mj)) (zy mj) (zy mj) ∈ zTb ∧ zo mj < 9 ∧ 1 ≤ zna mj ∧ (parseMethodDescriptor (zy mj).desc).map (fun d => d.parameters.length) = some (zna mj - 1) := by
  obtain ⟨q, hq, rfl⟩ := zmT_all mj h h9
  have h3 := zmT_ok3 q hq
  have h4 := zmT_ok4 q hq
  have e : q.2.1 = false := h3.1.symm.trans hs
  have e2 : ¬ q.2.1 = true := by rw [e]; decide
  rw [if_neg e2] at h4
  have h5 := h3.2.2.1
  rw [if_neg e2] at h5
  exact ⟨zTb_of h4.1.1 h4.1.2, zTb_of h4.2.1 h4.2.2.1, h4.2.2.2, h3.2.2.2 e, h5⟩
/-- a method's start, and its end -/
def zPc (D : va_G) (cI cS : ClassId) (ad : Nat → Nat → Nat) (hb L : Nat) (ρ σ : zS) (as : List zA) : Array Value → State → Prop := va_Pc (as.map (zenc ad)) (fun U => hb ≤ U.heap.size ∧ zWd D cI cS ad hb σ U.heap ∧ zGood D cI cS ad hb L ρ U U.heap)
def zQc (D : va_G) (cI cS : ClassId) (ad : Nat → Nat → Nat) (hb : Nat) (ρ : zS) (out : Option zA × zS) : Array Value → State → Outcome → State → Prop := fun _ st oc t => ((oc = .returned (out.1.map (zenc ad)) ∧ zWd D cI cS ad hb out.2 t.heap) ∧ (∀ c i k, 50 ≤ c → out.2 c i k = ρ c i k) ∧ ∀ v, out.1 = some v → zok v) ∧ va_F (zA0 hb) st t
section ZU
variable {p : Program} {l : Launch} {e : Env} {R : Room} {s : State} {m : MethodId} {args : Array Value} {below : List Frame} {meth : Method} {c : Code} {cells slots : Nat} {Q : State → Prop}
variable {D : va_G} {cI cS : ClassId} {ad : Nat → Nat → Nat} {hb L : Nat} {ρ : zS} {nL : Nat} {cc : ByteArray}
theorem zPc_blind {σ : zS} {as : List zA} : FrameBlind (zPc D cI cS ad hb L ρ σ as) := by
  intro a U g mk h
  obtain ⟨h1, h2, h3, h4⟩ := h
  exact ⟨h1, h2, h3, zGood.moved (u := U) (U := U.calling g mk a) (Vm.Alike.refl U.vm) (fun _ _ _ => rfl) h4⟩
theorem zcallW {H : Heap} {locs : List Loc} {pc : Nat} {lsA : Array Slot} {st0 rest : List Value} {out : Option zA × zS} {a : Array Value}
    (hr : va_Run p l e R s m args below meth c H locs cells slots 0 0 (F0 m pc lsA st0) rest (zQc D cI cS ad hb ρ out a) (zA0 hb)) (hS : va_S (zA0 hb) s.heap H locs)
    (kk : ∀ (H1 : Heap) (locs1 : List Loc), zWd D cI cS ad hb out.2 H1 → va_S (zA0 hb) s.heap H1 locs1 → (∀ c i k, 50 ≤ c → out.2 c i k = ρ c i k) → (∀ v, out.1 = some v → zok v) → W p l e R s m args below meth c H1 locs1 cells slots Q (F0 m (pc + 3) lsA ((out.1.map (zenc ad)).toList ++ rest))) : W p l e R s m args below meth c H locs cells slots Q (F0 m pc lsA st0) := by
  intro T hT X
  obtain ⟨v, st₀, t, T', L2, h0, X', hL, e1, e2, ⟨⟨⟨hv, hb2⟩, hρ, hv1⟩, hz, hk⟩, st⟩ := hr T hT X
  cases hv
  rw [h0] at hz hk
  obtain ⟨t2, a1, b1⟩ := kk T'.heap (locs ++ L2) (by rw [e1]; exact hb2)
    ⟨Nat.le_trans hS.1 (by rw [e1]; exact hz), fun q h1 h2 => by rw [e1, hk q (Nat.lt_of_lt_of_le h1 hS.1) h2]; exact hS.2.1 q h1 h2, fun q hq => by
      rcases List.mem_append.mp hq with h | h
      · exact hS.2.2 q h
      · exact hL q h⟩ hρ hv1 T' rfl X'
  exact ⟨t2, st t2 a1, b1⟩
end ZU
theorem zel_len_map {ad : Nat → Nat → Nat} (as : List zA) : (as.map (zenc ad)).length = as.length := List.length_map _
theorem zret_inv {mi : Nat} {i : Instr} {st : List zA} {r : Option zA} (h : zret mi i st = some r) : (i = .ireturn ∧ ∃ x, st = [zI x] ∧ r = some (zI x) ∧ (zr mi = some .int ∨ (zr mi = some .boolean ∧ (x = 0 ∨ x = 1)))) ∨ (i = .areturn ∧ ∃ a k nm, st = [zR a k] ∧ r = some (zR a k) ∧ zr mi = some (.object nm)) ∨ (i = .return_ ∧ st = [] ∧ r = none ∧ zr mi = none) := by
  cases i with
  | ireturn =>
    left
    refine ⟨rfl, ?_⟩
    rcases st with _ | ⟨a, _ | ⟨b, r2⟩⟩
    · simp [zret] at h
    · rcases a with x | x | q
      · cases hz : zr mi with
        | none => simp [zret, hz] at h
        | some ty =>
          cases ty with
          | int =>
            simp [zret, hz] at h
            exact ⟨x, rfl, h.symm, Or.inl rfl⟩
          | boolean =>
            simp [zret, hz] at h
            exact ⟨x, rfl, h.2.symm, Or.inr ⟨rfl, h.1⟩⟩
          | _ => simp [zret, hz] at h
      · simp [zret] at h
      · simp [zret] at h
    · rcases a with x | x | q <;> simp [zret] at h
  | areturn =>
    right; left
    refine ⟨rfl, ?_⟩
    rcases st with _ | ⟨a, _ | ⟨b, r2⟩⟩
    · simp [zret] at h
    · rcases a with x | x | q
      · simp [zret] at h
      · simp [zret] at h
      · cases hz : zr mi with
        | none => simp [zret, hz] at h
        | some ty =>
          cases ty with
          | object nm =>
            simp [zret, hz] at h
            exact ⟨q.1, q.2, nm, rfl, h.symm, rfl⟩
          | _ => simp [zret, hz] at h
    · rcases a with x | x | q <;> simp [zret] at h
  | return_ =>
    right; right
    refine ⟨rfl, ?_⟩
    rcases st with _ | ⟨a, r2⟩
    · cases hz : zr mi with
      | none =>
        simp [zret, hz] at h
        exact ⟨rfl, h.symm, rfl⟩
      | some ty => simp [zret, hz] at h
    · simp [zret] at h
  | _ => simp [zret] at h
theorem zcall_inv {o : Nat} {i : Instr} {st as rest : List zA} {mj : Nat} (h : zcall o i st = some (mj, as, rest)) : ((∃ x, i = .invokestatic x ∧ zc o x = some mj ∧ zst mj = true) ∨ (∃ x, i = .invokevirtual x ∧ zc o x = some mj ∧ zst mj = false ∧ zrcv mj as = true)) ∧ zna mj ≤ st.length ∧ (rest.map zcat).sum ≤ 8 ∧ (zel as).length ≤ zn mj ∧ as = (st.take (zna mj)).reverse ∧ rest = st.drop (zna mj) := by
  cases i with
  | invokestatic x =>
    simp only [zcall] at h
    split at h
    · rename_i mk hk
      split at h
      · rename_i hc
        cases h
        exact ⟨Or.inl ⟨x, rfl, hk, hc.1⟩, hc.2.1, hc.2.2.1, hc.2.2.2, rfl, rfl⟩
      · cases h
    · cases h
  | invokevirtual x =>
    simp only [zcall] at h
    split at h
    · rename_i mk hk
      split at h
      · rename_i hc
        cases h
        exact ⟨Or.inr ⟨x, rfl, hk, hc.1, hc.2.2.2.2⟩, hc.2.1, hc.2.2.1, hc.2.2.2.1, rfl, rfl⟩
      · cases h
    · cases h
  | _ => simp [zcall] at h
set_option maxHeartbeats 4000000 in
theorem zrun_sound (l : Launch) (D : va_G) (cI cS : ClassId) (ad : Nat → Nat → Nat) (hb L : Nat) (ρ : zS) : ∀ (n d mi pc : Nat) (ls : zO) (st : List zA) (σ : zS) (out : Option zA × zS), zrun n d mi pc ls st σ = some out →
    ∀ (p : Program) (e : Env) (R : Room) (s : State) (m : MethodId) (args : Array Value) (below : List Frame) (meth : Method) (c : Code) (cells slots : Nat) (Q : State → Prop) (H : Heap) (locs : List Loc) (lsA : Array Slot),
    p.tables.exec = Jvm.exec → c.code = zb mi → c.maxLocals = zn mi → s.vm.findClass (zC (zo mi)) = some m.cls → (∀ w ∈ zTb, w.before args s = true) → zGood D cI cS ad hb L ρ s s.heap → hb ≤ s.heap.size → (d + 1 ≤ R.frames ∧ 60 * (d + 1) ≤ R.locals ∧ cells ≤ R.cells ∧ slots ≤ R.slots) →
    zSt D cI cS ad hb ρ s (zn mi) H locs lsA ls st σ →
    (∀ (pc : Nat) (i : Instr) (ln : Nat) (H : Heap) (locs : List Loc) (lsA : Array Slot) (ls : zO) (st : List zA), decode (zb mi) pc = .ok (i, ln) → zlo i ln = true → zret mi i st = some out.1 → zSt D cI cS ad hb ρ s (zn mi) H locs lsA ls st out.2 → zGoal p l e R s m args below meth c cells slots Q ad H locs lsA pc st) →
    zGoal p l e R s m args below meth c cells slots Q ad H locs lsA pc st := by
  intro n
  induction n with
  | zero =>
    intro d mi pc ls st σ out h
    simp [zrun] at h
  | succ n ih =>
    intro d mi pc ls st σ out h p e R s m args below meth c cells slots Q H locs lsA hx hb9 hml hown hts hG hbs hR S hret
    simp only [zrun] at h
    split at h
    · cases h
    · rename_i i ln hd
      split at h
      · cases h
      · rename_i hlo
        have hlo : zlo i ln = true := by simpa using hlo
        split at h
        · rename_i pc' ls' st' σ' hs
          exact zstep_sound hs hlo hx hb9 hml hown hts hG hd ⟨by omega, by omega⟩ S (fun H1 locs1 lsA1 S1 => ih d mi pc' ls' st' σ' out h p e R s m args below meth c cells slots Q H1 locs1 lsA1 hx hb9 hml hown hts hG hbs hR S1 hret)
        · split at h
          · rename_i r hr
            cases h
            exact hret pc i ln H locs lsA ls st hd hlo hr S
          · split at h
            · cases h
            · rename_i mj as rest hc
              split at h
              · cases h
              · rename_i d' 
                split at h
                · cases h
                · rename_i r σ' hrun
                  -- the contract of the method called
                  have key : ∀ (hj : mj < zMN) (hj9 : zo mj ≠ 9) (hlen : (zel as).length ≤ zn mj) (hok : ∀ v ∈ as, zok v), Met l (zy mj) (zws mj) (zrm d') (zPc D cI cS ad hb L ρ σ as) (zQc D cI cS ad hb ρ (r, σ')) 0 0 (zA0 hb) := by
                    intro hj hj9 hlen hok
                    refine va_MetF (cc := zb mj) (maxL := zn mj) (ret := zr mj) (zm_init hj hj9).2.2.2.2 rfl ?_
                    intro p e s m args below meth c s₁ B hml hv
                    obtain ⟨rfl, hbs, hW, hG⟩ := hv
                    have hts0 := atoms_spec (ws := zws mj) B.pre
                    have hts : ∀ w ∈ zTb, w.before _ s = true := fun w hw => hts0 w (List.mem_cons_of_mem _ hw)
                    have hown : s.vm.findClass (zC (zo mj)) = some m.cls := by
                      rw [← (zm_init hj hj9).2.1]
                      exact findClass_of_methodNamed B.named
                    have hlocks := B.notSynchronized
                    rw [lg_entry_eq]
                    refine ih d' mj 0 (zent as (zn mj)) [] σ (r, σ') hrun p e _ s m _ below meth c 0 0 _ s.heap [] _ B.exec B.bytes hml hown hts hG hbs ⟨Nat.le_refl _, Nat.le_refl _, Nat.zero_le _, Nat.zero_le _⟩ ⟨hW, va_S.rf, ?_, ⟨zent_len hlen, zent_has hlen⟩, fun v hv => absurd hv List.not_mem_nil, fun v hv => hok v (zent_mem hv)⟩ ?_
                    · exact S.2.2.1
                    · intro pc i ln H locs lsA ls st hd hlo hr S
                      have hq : ∀ (v : Option Value), v = r.map (zenc ad) → ∀ t : State, t.heap = H → s.WarmedH t.vm → zQc D cI cS ad hb ρ (r, σ') ((as.map (zenc ad)).toArray) s (.returned v) t := fun v hv t ht _ => ⟨⟨⟨by rw [hv], by rw [ht]; exact S.1⟩, S.2.2.1, fun v hv => by
                        rcases zret_inv hr with ⟨-, x, -, h2, -⟩ | ⟨-, a, k, nm, h1, h2, -⟩ | ⟨-, -, h2, -⟩
                        · cases h2.symm.trans hv; trivial
                        · cases h2.symm.trans hv
                          exact S.2.2.2.2.1 _ (by rw [h1]; exact List.mem_cons_self)
                        · cases h2.symm.trans hv⟩, S.2.1.F ht⟩
                      rcases zret_inv hr with ⟨rfl, x, rfl, h2, h3⟩ | ⟨rfl, a, k, nm, rfl, h2, h3⟩ | ⟨rfl, rfl, h2, h3⟩
                      · obtain rfl : ln = 1 := by simpa [zlo] using hlo
                        have h2 : r = some (zI x) := h2
                        rcases h3 with h3 | ⟨h3, h4⟩
                        · exact W.iret (v := x) B.exec B.bytes (B.returns.trans h3) (hq _ (by rw [h2]; rfl)) S.2.1.2.2 hd
                        · exact W.zret (v := x) B.exec B.bytes (B.returns.trans h3) (by rcases h4 with rfl | rfl <;> rfl) (hq _ (by rw [h2]; rfl)) S.2.1.2.2 hd
                      · obtain rfl : ln = 1 := by simpa [zlo] using hlo
                        have h2 : r = some (zR a k) := h2
                        exact W.aret (v := .ref (ad a k)) B.exec B.bytes (B.returns.trans h3) (Or.inl ⟨nm, rfl⟩) (Or.inr ⟨_, rfl⟩) (hq _ (by rw [h2]; rfl)) S.2.1.2.2 hd
                      · obtain rfl : ln = 1 := by simpa [zlo] using hlo
                        have h2 : r = none := h2
                        exact W.vret B.exec B.bytes (B.returns.trans h3) (hq _ (by rw [h2]; rfl)) S.2.1.2.2 hd
                  -- behind the call
                  have kk : ∀ (H1 : Heap) (locs1 : List Loc), (∀ v ∈ rest, zok v) → zWd D cI cS ad hb σ' H1 → va_S (zA0 hb) s.heap H1 locs1 → (∀ c i k, 50 ≤ c → σ' c i k = ρ c i k) → (∀ v, r = some v → zok v) → W p l e R s m args below meth c H1 locs1 cells slots Q (F0 m (pc + 3) lsA ((r.map (zenc ad)).toList ++ rest.map (zenc ad))) := by
                    intro H1 locs1 hrest hW1 hS1 hρ hrv
                    have hst : ∀ v ∈ r.toList ++ rest, zok v := by
                      intro v hv
                      rcases List.mem_append.mp hv with hv | hv
                      · exact hrv v (Option.mem_toList.mp hv)
                      · exact hrest v hv
                    have := ih (d' + 1) mi (pc + 3) ls (r.toList ++ rest) σ' out h p e R s m args below meth c cells slots Q H1 locs1 lsA hx hb9 hml hown hts hG hbs hR ⟨hW1, hS1, hρ, S.2.2.2.1, hst, S.2.2.2.2.2⟩ hret
                    have e1 : (r.toList ++ rest).map (zenc ad) = (r.map (zenc ad)).toList ++ rest.map (zenc ad) := by
                      cases r <;> simp
                    rw [← e1]
                    exact this
                  obtain ⟨hkind, hlen0, hsum, hlen, has, hrest⟩ := zcall_inv hc
                  have hokas : ∀ v ∈ as, zok v := fun v hv => S.2.2.2.2.1 v (List.mem_of_mem_take (List.mem_reverse.mp (has ▸ hv)))
                  have hokr : ∀ v ∈ rest, zok v := fun v hv => S.2.2.2.2.1 v (List.mem_of_mem_drop (hrest ▸ hv))
                  have hstk : st.map (zenc ad) = (as.map (zenc ad)).reverse ++ rest.map (zenc ad) := by
                    rw [has, hrest, ← List.map_reverse, List.reverse_reverse, ← List.map_append, List.take_append_drop]
                  have haslen : as.length = zna mj := by
                    rw [has, List.length_reverse, List.length_take]
                    omega
                  have hmlz : ∀ hj : mj < zMN, (zrm d').frames + 1 ≤ R.frames ∧ 8 + (zn mj + 11) + (zrm d').locals ≤ R.locals := fun hj => by
                    have := zn_le mj hj
                    show d' + 1 + 1 ≤ R.frames ∧ 8 + (zn mj + 11) + 60 * (d' + 1) ≤ R.locals
                    omega
                  have hPU : ∀ U : State, U.heap = H → s.WarmedH U.vm → zPc D cI cS ad hb L ρ σ as ((as.map (zenc ad)).toArray) U := fun U hU hW => ⟨rfl, by
                    show hb ≤ U.heap.size ∧ zWd D cI cS ad hb σ U.heap ∧ zGood D cI cS ad hb L ρ U U.heap
                    rw [hU]
                    exact ⟨Nat.le_trans hbs S.2.1.1, S.1, hG.moved hW.alike S.2.1.2.1⟩⟩
                  rcases hkind with ⟨x, rfl, hcx, hstat⟩ | ⟨x, rfl, hcx, hstat, hrcv⟩
                  · obtain rfl : ln = 3 := by simpa [zlo] using hlo
                    obtain ⟨hj, hj9, hlink⟩ := zc_ok hcx
                    obtain ⟨hst1, hst2⟩ := zm_st hj hj9 hstat
                    obtain ⟨i1, i2, i3, i4, -⟩ := zm_init hj hj9
                    show W p l e R s m args below meth c H locs cells slots Q (F0 m pc lsA (st.map (zenc ad)))
                    rw [hstk]
                    refine zcallW (va_runS (own := zC (zo mi)) (n := zna mj) (As := as.map (zenc ad)) (rest := rest.map (zenc ad)) ⟨hx, hb9, hml, hown, hts⟩ (key hj hj9 hlen hokas) ⟨callB_of (ws' := zTb) (zna mj) hts (zws_good hj hj9) rfl rfl rfl (by rw [i2]; exact hts _ i1) (hts _ hlink) ⟨i3, i4, hst2⟩ (hmlz hj), hts _ hst1⟩ ⟨zPc_blind, hPU⟩ rfl (by rw [List.length_map]; exact haslen) S.2.2.2.1.2.1 rfl (lv_room (by rw [zcat_sum]; exact hsum)) hd ⟨by omega, by omega⟩) S.2.1 (fun H1 locs1 hW1 hS1 hρ1 hv1 => kk H1 locs1 hokr hW1 hS1 hρ1 hv1)
                  · obtain rfl : ln = 3 := by simpa [zlo] using hlo
                    obtain ⟨hj, hj9, hlink⟩ := zc_ok hcx
                    obtain ⟨v1, v2, v3, v4, v5⟩ := zm_vi hj hj9 hstat
                    obtain ⟨i1, i2, i3, i4, -⟩ := zm_init hj hj9
                    obtain ⟨b0, as', hb0⟩ : ∃ b0 as', as = zR (zo mj) b0 :: as' := by
                      unfold zrcv at hrcv
                      split at hrcv
                      · rename_i q t
                        obtain ⟨q1, q2⟩ := q
                        have : q1 = zo mj := by simpa using hrcv
                        subst this
                        exact ⟨q2, t, rfl⟩
                      · cases hrcv
                    have hok0 : zokp (zo mj) b0 := hokas (zR (zo mj) b0) (by rw [hb0]; exact List.mem_cons_self)
                    have hi : b0 < zcnt (zo mj) := by
                      rcases hok0 with h | ⟨h, -⟩
                      · exact h
                      · omega
                    obtain ⟨n0, hn0⟩ := zpl_at hi
                    have he := zwl_at (cI := cI) (cS := cS) (ad := ad) (σ := σ) hn0
                    rw [zcell_obj v3] at he
                    have hrc := va_recv hG.1 S.1.1 (zcl_at v3) he
                    show W p l e R s m args below meth c H locs cells slots Q (F0 m pc lsA (st.map (zenc ad)))
                    have hstk2 : st.map (zenc ad) = (as'.map (zenc ad)).reverse ++ Value.ref (ad (zo mj) b0) :: rest.map (zenc ad) := by
                      rw [hstk, hb0]
                      simp [zenc]
                    have hcw := callB_of (R := R) (ret := zr mj) (bytes := zb mj) (maxL := zn mj) (rm := zrm d') (mc := 0) (ms := 0) (ws' := zTb) (zna mj - 1) hts (zws_good hj hj9) rfl rfl rfl (by rw [i2]; exact hts _ i1) (hts _ hlink) ⟨i3, i4, v5⟩ (hmlz hj)
                    have e9 : (as.map (zenc ad)).toArray = (Value.ref (ad (zo mj) b0) :: as'.map (zenc ad)).toArray := by
                      rw [hb0]
                      rfl
                    rw [e9] at hPU
                    rw [hstk2]
                    refine zcallW (va_runV (C := zC (zo mj)) (own := zC (zo mi)) (n := zna mj - 1) (As := as'.map (zenc ad)) (rest := rest.map (zenc ad)) ⟨hx, hb9, hml, hown, hts⟩ (key hj hj9 hlen hokas) ⟨hcw, hts _ v1, hts _ v2⟩ ⟨zPc_blind, hrc, hPU⟩ rfl (by
                      rw [List.length_map]
                      rw [hb0, List.length_cons] at haslen
                      omega) S.2.2.2.1.2.1 rfl (lv_room (by rw [zcat_sum]; exact hsum)) hd ⟨by omega, by omega⟩) S.2.1 (fun H1 locs1 hW1 hS1 hρ1 hv1 => kk H1 locs1 hokr hW1 hS1 hρ1 hv1)
end
section
/-! Runs, without counting. -/
def zfetch (mi pc : Nat) : Option (Nat × Instr × Nat) := match decode (zb mi) pc with
  | .ok (i, ln) => if zlo i ln = true then some (zo mi, i, ln) else none
  | .error _ => none
theorem zfetch_inv {mi pc o ln : Nat} {i : Instr} (h : zfetch mi pc = some (o, i, ln)) : decode (zb mi) pc = .ok (i, ln) ∧ zlo i ln = true ∧ zo mi = o := by
  unfold zfetch at h
  split at h
  · rename_i i' ln' hd
    split at h
    · rename_i hl
      cases h
      exact ⟨hd, hl, rfl⟩
    · cases h
  · cases h
theorem zrun_one {n d mi pc o ln : Nat} {i : Instr} {ls : zO} {st : List zA} {σ : zS} (h : zfetch mi pc = some (o, i, ln)) : zrun (n + 1) d mi pc ls st σ = (match zstep o i ln pc ls st σ with
      | some (pc', ls', st', σ') => zrun n d mi pc' ls' st' σ'
      | none =>
        match zret mi i st with
        | some r => some (r, σ)
        | none =>
          match zcall o i st with
          | none => none
          | some (mj, as, rest) =>
            match d with
            | 0 => none
            | d' + 1 =>
              match zrun n d' mj 0 (zent as (zn mj)) [] σ with
              | none => none
              | some (r, σ') => zrun n (d' + 1) mi (pc + 3) ls (r.toList ++ rest) σ') := by
  obtain ⟨h1, h2, h3⟩ := zfetch_inv h
  subst h3
  simp only [zrun, h1, h2]
  rw [if_neg (by decide)]
  rfl
theorem zrun_none {n d mi pc : Nat} {ls : zO} {st : List zA} {σ : zS} (h : zfetch mi pc = none) : zrun (n + 1) d mi pc ls st σ = none := by
  unfold zfetch at h
  rw [zrun]
  split at h
  · rename_i i ln hd
    split at h
    · cases h
    · rename_i hl
      simp only [hd]
      rw [if_pos (by simpa using hl)]
  · rename_i er hd
    simp only [hd]
theorem zrun_mono : ∀ (n d mi pc : Nat) (ls : zO) (st : List zA) (σ : zS) (out : Option zA × zS), zrun n d mi pc ls st σ = some out → zrun (n + 1) d mi pc ls st σ = some out := by
  intro n
  induction n with
  | zero => intro d mi pc ls st σ out h; simp [zrun] at h
  | succ n ih =>
    intro d mi pc ls st σ out h
    cases hf : zfetch mi pc with
    | none =>
      rw [zrun_none hf] at h
      cases h
    | some q =>
      obtain ⟨o, i, ln⟩ := q
      rw [zrun_one hf] at h ⊢
      cases hs : zstep o i ln pc ls st σ with
      | some q =>
        simp only [hs] at h ⊢
        exact ih _ _ _ _ _ _ _ h
      | none =>
        simp only [hs] at h ⊢
        cases hr : zret mi i st with
        | some r =>
          simp only [hr] at h ⊢
          exact h
        | none =>
          simp only [hr] at h ⊢
          cases hc : zcall o i st with
          | none =>
            simp only [hc] at h
            cases h
          | some q =>
            obtain ⟨mj, as, rest⟩ := q
            simp only [hc] at h ⊢
            cases d with
            | zero => cases h
            | succ d =>
              simp only at h ⊢
              cases hrun : zrun n d mj 0 (zent as (zn mj)) [] σ with
              | none =>
                rw [hrun] at h
                cases h
              | some q =>
                rw [hrun] at h
                rw [ih _ _ _ _ _ _ _ hrun]
                exact ih _ _ _ _ _ _ _ h
theorem zrun_le {n k d mi pc : Nat} {ls : zO} {st : List zA} {σ : zS} {out : Option zA × zS} (h : zrun n d mi pc ls st σ = some out) (hk : n ≤ k) : zrun k d mi pc ls st σ = some out := by
  induction hk with
  | refl => exact h
  | step _ ih => exact zrun_mono _ _ _ _ _ _ _ _ ih
def zEv (d mi pc : Nat) (ls : zO) (st : List zA) (σ : zS) (out : Option zA × zS) : Prop := ∃ n, zrun n d mi pc ls st σ = some out
def zlt {α β : Type} (a : α) (f : α → Option β) : Option β := f a
def zgd {β : Type} (p : Prop) [Decidable p] (f : Option β) : Option β := if p then f else none
def zb2 {α β γ : Type} (a : Option (α × γ)) (f : α → γ → Option β) : Option β := a.bind (fun v => f v.1 v.2)
def zld (c : Nat) : Bool := zia c || c == 50 || c == 52 || c == 53
section EV
variable {d mi pc o ln : Nat} {i : Instr} {ls : zO} {st : List zA} {σ : zS} {out : Option zA × zS}
theorem ev_s (hf : zfetch mi pc = some (o, i, ln)) {p : Nat} {l : zO} {t : List zA} {s : zS} (hs : zstep o i ln pc ls st σ = some (p, l, t, s)) (E : zEv d mi p l t s out) : zEv d mi pc ls st σ out := by
  obtain ⟨n, h⟩ := E
  refine ⟨n + 1, ?_⟩
  rw [zrun_one hf, hs]
  exact h
theorem ev_ret (hf : zfetch mi pc = some (o, i, ln)) {r : Option zA} (hs : zstep o i ln pc ls st σ = none) (hr : zret mi i st = some r) : zEv d mi pc ls st σ (r, σ) := by
  refine ⟨1, ?_⟩
  rw [zrun_one hf, hs, hr]
theorem ev_let {α : Type} {x : Int32} {F : Int32 → Option α} {w : α} (h : zlt x F = some w) (A : ∀ y, y = x → F y = some w → zEv d mi pc ls (zI y :: st) σ out) : zEv d mi pc ls (zI x :: st) σ out := A x rfl h
theorem ev_lets {α : Type} {F : zS → Option α} {w : α} (h : zlt σ F = some w) (A : ∀ s, s = σ → F s = some w → zEv d mi pc ls st s out) : zEv d mi pc ls st σ out := A σ rfl h
theorem ev_iinc {k : Nat} {n : Int} {v x : Int32} (hf : zfetch mi pc = some (o, .iinc k n, 3)) (hv : Int32.ofInt n = v) (hg : zget ls k = some (zI x)) {l : zO} (hs : zset ls k (zI (x + v)) = some l) {p : Nat} (hp : pc + 3 = p) (E : zEv d mi p l st σ out) : zEv d mi pc ls st σ out := by
  subst hp
  refine ev_s hf (p := pc + 3) (l := l) (t := st) (s := σ) ?_ E
  subst hv
  simp only [zstep, if_true, hg, hs]
theorem ztg_of {pc t : Nat} {off : Int} (h : (pc : Int) + off = (t : Int)) : ztg pc off = some t := by
  unfold ztg
  rw [h]
  simp
section BR
variable {α : Type} {F G : Option α} {w : α} {x y : Int32} {off : Int} {r : List zA} {t p : Nat}
theorem ev_ifeq (hf : zfetch mi pc = some (o, .ifCond .eq off, 3)) (ht : (pc : Int) + off = (t : Int)) (hp : pc + 3 = p) (h : (if x = 0 then F else G) = some w) (A : x = 0 → F = some w → zEv d mi t ls r σ out) (B : ¬ x = 0 → G = some w → zEv d mi p ls r σ out) : zEv d mi pc ls (zI x :: r) σ out := by
  subst hp
  refine ev_s hf (p := if x = 0 then t else pc + 3) (l := ls) (t := r) (s := σ) (by simp [zstep, zbr1, ztg_of ht]) ?_
  by_cases c : x = 0
  · rw [if_pos c] at h ⊢; exact A c h
  · rw [if_neg c] at h ⊢; exact B c h
theorem ev_ifne (hf : zfetch mi pc = some (o, .ifCond .ne off, 3)) (ht : (pc : Int) + off = (t : Int)) (hp : pc + 3 = p) (h : (if x = 0 then F else G) = some w) (A : x = 0 → F = some w → zEv d mi p ls r σ out) (B : ¬ x = 0 → G = some w → zEv d mi t ls r σ out) : zEv d mi pc ls (zI x :: r) σ out := by
  subst hp
  refine ev_s hf (p := if x = 0 then pc + 3 else t) (l := ls) (t := r) (s := σ) (by by_cases c : x = 0 <;> simp [zstep, zbr1, ztg_of ht, c]) ?_
  by_cases c : x = 0
  · rw [if_pos c] at h ⊢; exact A c h
  · rw [if_neg c] at h ⊢; exact B c h
theorem ev_iflt (hf : zfetch mi pc = some (o, .ifCond .lt off, 3)) (ht : (pc : Int) + off = (t : Int)) (hp : pc + 3 = p) (h : (if x < 0 then F else G) = some w) (A : x < 0 → F = some w → zEv d mi t ls r σ out) (B : ¬ x < 0 → G = some w → zEv d mi p ls r σ out) : zEv d mi pc ls (zI x :: r) σ out := by
  subst hp
  refine ev_s hf (p := if x < 0 then t else pc + 3) (l := ls) (t := r) (s := σ) (by by_cases c : x < 0 <;> simp only [zstep, zbr1, ztg_of ht, c, decide_true, decide_false, if_true, if_false] <;> rfl) ?_
  by_cases c : x < 0
  · rw [if_pos c] at h ⊢; exact A c h
  · rw [if_neg c] at h ⊢; exact B c h
theorem ev_ifge (hf : zfetch mi pc = some (o, .ifCond .ge off, 3)) (ht : (pc : Int) + off = (t : Int)) (hp : pc + 3 = p) (h : (if 0 ≤ x then F else G) = some w) (A : 0 ≤ x → F = some w → zEv d mi t ls r σ out) (B : ¬ 0 ≤ x → G = some w → zEv d mi p ls r σ out) : zEv d mi pc ls (zI x :: r) σ out := by
  subst hp
  refine ev_s hf (p := if 0 ≤ x then t else pc + 3) (l := ls) (t := r) (s := σ) (by by_cases c : 0 ≤ x <;> simp only [zstep, zbr1, ztg_of ht, c, decide_true, decide_false, if_true, if_false] <;> rfl) ?_
  by_cases c : 0 ≤ x
  · rw [if_pos c] at h ⊢; exact A c h
  · rw [if_neg c] at h ⊢; exact B c h
theorem ev_ifle (hf : zfetch mi pc = some (o, .ifCond .le off, 3)) (ht : (pc : Int) + off = (t : Int)) (hp : pc + 3 = p) (h : (if x ≤ 0 then F else G) = some w) (A : x ≤ 0 → F = some w → zEv d mi t ls r σ out) (B : ¬ x ≤ 0 → G = some w → zEv d mi p ls r σ out) : zEv d mi pc ls (zI x :: r) σ out := by
  subst hp
  refine ev_s hf (p := if x ≤ 0 then t else pc + 3) (l := ls) (t := r) (s := σ) (by by_cases c : x ≤ 0 <;> simp only [zstep, zbr1, ztg_of ht, c, decide_true, decide_false, if_true, if_false] <;> rfl) ?_
  by_cases c : x ≤ 0
  · rw [if_pos c] at h ⊢; exact A c h
  · rw [if_neg c] at h ⊢; exact B c h
theorem ev_cmpeq (hf : zfetch mi pc = some (o, .if_icmp .eq off, 3)) (ht : (pc : Int) + off = (t : Int)) (hp : pc + 3 = p) (h : (if x = y then F else G) = some w) (A : x = y → F = some w → zEv d mi t ls r σ out) (B : ¬ x = y → G = some w → zEv d mi p ls r σ out) : zEv d mi pc ls (zI y :: zI x :: r) σ out := by
  subst hp
  refine ev_s hf (p := if x = y then t else pc + 3) (l := ls) (t := r) (s := σ) (by by_cases c : x = y <;> simp [zstep, zbr2, ztg_of ht, c]) ?_
  by_cases c : x = y
  · rw [if_pos c] at h ⊢; exact A c h
  · rw [if_neg c] at h ⊢; exact B c h
theorem ev_cmpne (hf : zfetch mi pc = some (o, .if_icmp .ne off, 3)) (ht : (pc : Int) + off = (t : Int)) (hp : pc + 3 = p) (h : (if x = y then F else G) = some w) (A : x = y → F = some w → zEv d mi p ls r σ out) (B : ¬ x = y → G = some w → zEv d mi t ls r σ out) : zEv d mi pc ls (zI y :: zI x :: r) σ out := by
  subst hp
  refine ev_s hf (p := if x = y then pc + 3 else t) (l := ls) (t := r) (s := σ) (by by_cases c : x = y <;> simp [zstep, zbr2, ztg_of ht, c]) ?_
  by_cases c : x = y
  · rw [if_pos c] at h ⊢; exact A c h
  · rw [if_neg c] at h ⊢; exact B c h
theorem ev_cmplt (hf : zfetch mi pc = some (o, .if_icmp .lt off, 3)) (ht : (pc : Int) + off = (t : Int)) (hp : pc + 3 = p) (h : (if x < y then F else G) = some w) (A : x < y → F = some w → zEv d mi t ls r σ out) (B : ¬ x < y → G = some w → zEv d mi p ls r σ out) : zEv d mi pc ls (zI y :: zI x :: r) σ out := by
  subst hp
  refine ev_s hf (p := if x < y then t else pc + 3) (l := ls) (t := r) (s := σ) (by by_cases c : x < y <;> simp only [zstep, zbr2, ztg_of ht, c, decide_true, decide_false, if_true, if_false] <;> rfl) ?_
  by_cases c : x < y
  · rw [if_pos c] at h ⊢; exact A c h
  · rw [if_neg c] at h ⊢; exact B c h
theorem ev_cmpge (hf : zfetch mi pc = some (o, .if_icmp .ge off, 3)) (ht : (pc : Int) + off = (t : Int)) (hp : pc + 3 = p) (h : (if y ≤ x then F else G) = some w) (A : y ≤ x → F = some w → zEv d mi t ls r σ out) (B : ¬ y ≤ x → G = some w → zEv d mi p ls r σ out) : zEv d mi pc ls (zI y :: zI x :: r) σ out := by
  subst hp
  refine ev_s hf (p := if y ≤ x then t else pc + 3) (l := ls) (t := r) (s := σ) (by by_cases c : y ≤ x <;> simp only [zstep, zbr2, ztg_of ht, c, decide_true, decide_false, if_true, if_false] <;> rfl) ?_
  by_cases c : y ≤ x
  · rw [if_pos c] at h ⊢; exact A c h
  · rw [if_neg c] at h ⊢; exact B c h
theorem ev_cmpgt (hf : zfetch mi pc = some (o, .if_icmp .gt off, 3)) (ht : (pc : Int) + off = (t : Int)) (hp : pc + 3 = p) (h : (if y < x then F else G) = some w) (A : y < x → F = some w → zEv d mi t ls r σ out) (B : ¬ y < x → G = some w → zEv d mi p ls r σ out) : zEv d mi pc ls (zI y :: zI x :: r) σ out := by
  subst hp
  refine ev_s hf (p := if y < x then t else pc + 3) (l := ls) (t := r) (s := σ) (by by_cases c : y < x <;> simp only [zstep, zbr2, ztg_of ht, c, decide_true, decide_false, if_true, if_false] <;> rfl) ?_
  by_cases c : y < x
  · rw [if_pos c] at h ⊢; exact A c h
  · rw [if_neg c] at h ⊢; exact B c h
theorem ev_cmple (hf : zfetch mi pc = some (o, .if_icmp .le off, 3)) (ht : (pc : Int) + off = (t : Int)) (hp : pc + 3 = p) (h : (if x ≤ y then F else G) = some w) (A : x ≤ y → F = some w → zEv d mi t ls r σ out) (B : ¬ x ≤ y → G = some w → zEv d mi p ls r σ out) : zEv d mi pc ls (zI y :: zI x :: r) σ out := by
  subst hp
  refine ev_s hf (p := if x ≤ y then t else pc + 3) (l := ls) (t := r) (s := σ) (by by_cases c : x ≤ y <;> simp only [zstep, zbr2, ztg_of ht, c, decide_true, decide_false, if_true, if_false] <;> rfl) ?_
  by_cases c : x ≤ y
  · rw [if_pos c] at h ⊢; exact A c h
  · rw [if_neg c] at h ⊢; exact B c h
theorem ev_goto (hf : zfetch mi pc = some (o, .goto off, 3)) (ht : (pc : Int) + off = (t : Int)) (E : zEv d mi t ls st σ out) : zEv d mi pc ls st σ out :=
  ev_s hf (by simp only [zstep, ztg_of ht]) E
/-- a switch by places, the goal read off the list of its targets -/
theorem ev_tsw {dd lo hi : Int} {offs : Array Int} (hf : zfetch mi pc = some (o, .tableswitch dd lo hi offs, ln)) (hsz : hi + 1 = lo + offs.size) (ht : (pc : Int) + zsw x lo offs.toList dd = (t : Int)) (E : zEv d mi t ls r σ out) : zEv d mi pc ls (zI x :: r) σ out :=
  ev_s hf (by simp only [zstep, if_pos hsz, ztg_of ht]) E
theorem ev_lsw {dd : Int} {ps : Array (Int × Int)} (hf : zfetch mi pc = some (o, .lookupswitch dd ps, ln)) (hsz : (ps.toList.zip (ps.toList.drop 1)).all (fun (a, next) => a.1 < next.1) = true) (ht : (pc : Int) + zlk x ps.toList dd = (t : Int)) (E : zEv d mi t ls r σ out) : zEv d mi pc ls (zI x :: r) σ out :=
  ev_s hf (by simp only [zstep, if_pos hsz, ztg_of ht]) E
end BR
section AC
variable {α : Type} {F : Option α} {w : α} {x y v : Int32} {r : List zA} {c k n p i0 : Nat} {j : Int32}
theorem ev_idiv (hf : zfetch mi pc = some (o, .idiv, 1)) (hp : pc + 1 = p) (h : zgd (¬ y = 0) F = some w) (A : ¬ y = 0 → F = some w → zEv d mi p ls (zI (x / y) :: r) σ out) : zEv d mi pc ls (zI y :: zI x :: r) σ out := by
  subst hp
  unfold zgd at h
  split at h
  · rename_i hy
    exact ev_s hf (by simp only [zstep, if_neg hy]) (A hy h)
  · cases h
theorem ev_irem (hf : zfetch mi pc = some (o, .irem, 1)) (hp : pc + 1 = p) (h : zgd (¬ y = 0) F = some w) (A : ¬ y = 0 → F = some w → zEv d mi p ls (zI (x - x / y * y) :: r) σ out) : zEv d mi pc ls (zI y :: zI x :: r) σ out := by
  subst hp
  unfold zgd at h
  split at h
  · rename_i hy
    exact ev_s hf (by simp only [zstep, if_neg hy]) (A hy h)
  · cases h
theorem ev_idivK (hf : zfetch mi pc = some (o, .idiv, 1)) (hp : pc + 1 = p) (hy : ¬ y = 0) (A : zEv d mi p ls (zI (x / y) :: r) σ out) : zEv d mi pc ls (zI y :: zI x :: r) σ out := by
  subst hp
  exact ev_s hf (by simp only [zstep, if_neg hy]) A
theorem ev_iremK (hf : zfetch mi pc = some (o, .irem, 1)) (hp : pc + 1 = p) (hy : ¬ y = 0) (A : zEv d mi p ls (zI (x - x / y * y) :: r) σ out) : zEv d mi pc ls (zI y :: zI x :: r) σ out := by
  subst hp
  exact ev_s hf (by simp only [zstep, if_neg hy]) A
theorem ev_getf {z : Nat} (hf : zfetch mi pc = some (o, .getfield z, 3)) (hz : zf o z = some (c, k)) {u : zA} (hu : zfv σ c i0 k = u) (hp : pc + 3 = p) (E : zEv d mi p ls (u :: r) σ out) : zEv d mi pc ls (zR c i0 :: r) σ out := by
  subst hp
  subst hu
  refine ev_s hf (p := pc + 3) (l := ls) (t := zfv σ c i0 k :: r) (s := σ) ?_ E
  simp only [zstep, hz, if_true]
theorem ev_putf {z : Nat} (hf : zfetch mi pc = some (o, .putfield z, 3)) (hz : zf o z = some (c, k)) (h1 : zfr c k i0 = none) (h2 : (zT c k).2.2.2 = false) (h3 : zfb c k = false) (hp : pc + 3 = p) (E : zEv d mi p ls r (zup σ c i0 k v) out) : zEv d mi pc ls (zI v :: zR c i0 :: r) σ out := by
  subst hp
  refine ev_s hf (p := pc + 3) (l := ls) (t := r) (s := zup σ c i0 k v) ?_ E
  have h4 : True ∧ zfr c k i0 = none ∧ (zT c k).2.2.2 = false ∧ (zfb c k = true → v = 0 ∨ v = 1) := ⟨trivial, h1, h2, fun q => by rw [h3] at q; cases q⟩
  simp only [zstep, hz]
  rw [if_pos h4]
theorem ev_putz {z : Nat} (hf : zfetch mi pc = some (o, .putfield z, 3)) (hz : zf o z = some (c, k)) (h1 : zfr c k i0 = none) (h2 : (zT c k).2.2.2 = false) (hp : pc + 3 = p) (h : zgd (v = 0 ∨ v = 1) F = some w) (E : (v = 0 ∨ v = 1) → F = some w → zEv d mi p ls r (zup σ c i0 k v) out) : zEv d mi pc ls (zI v :: zR c i0 :: r) σ out := by
  subst hp
  unfold zgd at h
  split at h
  · rename_i hv
    refine ev_s hf (p := pc + 3) (l := ls) (t := r) (s := zup σ c i0 k v) ?_ (E hv h)
    have h4 : True ∧ zfr c k i0 = none ∧ (zT c k).2.2.2 = false ∧ (zfb c k = true → v = 0 ∨ v = 1) := ⟨trivial, h1, h2, fun _ => hv⟩
    simp only [zstep, hz]
    rw [if_pos h4]
  · cases h
theorem ev_putzK {z : Nat} (hf : zfetch mi pc = some (o, .putfield z, 3)) (hz : zf o z = some (c, k)) (h1 : zfr c k i0 = none) (h2 : (zT c k).2.2.2 = false) (hv : v = 0 ∨ v = 1) (hp : pc + 3 = p) (E : zEv d mi p ls r (zup σ c i0 k v) out) : zEv d mi pc ls (zI v :: zR c i0 :: r) σ out := by
  subst hp
  refine ev_s hf (p := pc + 3) (l := ls) (t := r) (s := zup σ c i0 k v) ?_ E
  have h4 : True ∧ zfr c k i0 = none ∧ (zT c k).2.2.2 = false ∧ (zfb c k = true → v = 0 ∨ v = 1) := ⟨trivial, h1, h2, fun _ => hv⟩
  simp only [zstep, hz]
  rw [if_pos h4]
theorem ev_gets {z t : Nat} (hf : zfetch mi pc = some (o, .getstatic z, 3)) (hz : zg o z = some t) (hp : pc + 3 = p) (E : zEv d mi p ls (zR t 0 :: st) σ out) : zEv d mi pc ls st σ out := by
  subst hp
  exact ev_s hf (by simp only [zstep, hz]) E
theorem zld_or {c : Nat} (h : zld c = true) : zia c = true ∨ c = 50 ∨ c = 52 ∨ c = 53 := by
  simp only [zld, Bool.or_eq_true, beq_iff_eq] at h
  rcases h with ((h | h) | h) | h
  · exact Or.inl h
  · exact Or.inr (Or.inl h)
  · exact Or.inr (Or.inr (Or.inl h))
  · exact Or.inr (Or.inr (Or.inr h))
theorem ev_ialdK (hf : zfetch mi pc = some (o, .iaload, 1)) (hz : zld c = true) (hn : zln σ c i0 = n) (hj : zin j n) (hp : pc + 1 = p) (A : zEv d mi p ls (zI (σ c i0 j.toNatClampNeg) :: r) σ out) : zEv d mi pc ls (zI j :: zR c i0 :: r) σ out := by
  subst hp
  subst hn
  refine ev_s hf (p := pc + 1) (l := ls) (t := zI (σ c i0 j.toNatClampNeg) :: r) (s := σ) ?_ A
  simp only [zstep]
  rw [if_pos ⟨zld_or hz, hj⟩]
theorem ev_iald (hf : zfetch mi pc = some (o, .iaload, 1)) (hz : zld c = true) (hn : zln σ c i0 = n) (hp : pc + 1 = p) (h : zgd (zin j n) F = some w) (A : zin j n → F = some w → zEv d mi p ls (zI (σ c i0 j.toNatClampNeg) :: r) σ out) : zEv d mi pc ls (zI j :: zR c i0 :: r) σ out := by
  unfold zgd at h
  split at h
  · rename_i hj
    exact ev_ialdK hf hz hn hj hp (A hj h)
  · cases h
theorem ev_cald (hf : zfetch mi pc = some (o, .caload, 1)) (hp : pc + 1 = p) (h : zgd (zin j 6) F = some w) (A : zin j 6 → F = some w → zEv d mi p ls (zI (σ 51 i0 j.toNatClampNeg) :: r) σ out) : zEv d mi pc ls (zI j :: zR 51 i0 :: r) σ out := by
  subst hp
  unfold zgd at h
  split at h
  · rename_i hj
    refine ev_s hf (p := pc + 1) (l := ls) (t := zI (σ 51 i0 j.toNatClampNeg) :: r) (s := σ) ?_ (A hj h)
    simp only [zstep]
    rw [if_pos ⟨trivial, hj⟩]
  · cases h
theorem ev_aald (hf : zfetch mi pc = some (o, .aaload, 1)) (hp : pc + 1 = p) (h : zgd (zin j 4) F = some w) (A : zin j 4 → F = some w → zEv d mi p ls (zR 4 j.toNatClampNeg :: r) σ out) : zEv d mi pc ls (zI j :: zR 25 i0 :: r) σ out := by
  subst hp
  unfold zgd at h
  split at h
  · rename_i hj
    refine ev_s hf (p := pc + 1) (l := ls) (t := zR 4 j.toNatClampNeg :: r) (s := σ) ?_ (A hj h)
    simp only [zstep]
    rw [if_pos ⟨trivial, hj⟩]
  · cases h
theorem ev_iastK (hf : zfetch mi pc = some (o, .iastore, 1)) (hz : zia c = true) (hn : zln σ c i0 = n) (hj : zin j n) (hp : pc + 1 = p) (A : zEv d mi p ls r (zup σ c i0 j.toNatClampNeg v) out) : zEv d mi pc ls (zI v :: zI j :: zR c i0 :: r) σ out := by
  subst hp
  subst hn
  refine ev_s hf (p := pc + 1) (l := ls) (t := r) (s := zup σ c i0 j.toNatClampNeg v) ?_ A
  simp only [zstep]
  rw [if_pos ⟨hz, hj⟩]
theorem ev_iast (hf : zfetch mi pc = some (o, .iastore, 1)) (hz : zia c = true) (hn : zln σ c i0 = n) (hp : pc + 1 = p) (h : zgd (zin j n) F = some w) (A : zin j n → F = some w → zEv d mi p ls r (zup σ c i0 j.toNatClampNeg v) out) : zEv d mi pc ls (zI v :: zI j :: zR c i0 :: r) σ out := by
  unfold zgd at h
  split at h
  · rename_i hj
    exact ev_iastK hf hz hn hj hp (A hj h)
  · cases h
theorem ev_alen (hf : zfetch mi pc = some (o, .arraylength, 1)) (hz : zld c = true) (hn : Int32.ofNat (zln σ c i0) = v) (hp : pc + 1 = p) (A : zEv d mi p ls (zI v :: r) σ out) : zEv d mi pc ls (zR c i0 :: r) σ out := by
  subst hp
  subst hn
  refine ev_s hf (p := pc + 1) (l := ls) (t := zI (Int32.ofNat (zln σ c i0)) :: r) (s := σ) ?_ A
  simp only [zstep]
  rw [if_pos]
  rcases zld_or hz with h | h | h | h
  · exact Or.inl h
  · exact Or.inr (Or.inl h)
  · exact Or.inr (Or.inr (Or.inl h))
  · exact Or.inr (Or.inr (Or.inr (Or.inl h)))
/-- System.arraycopy -/
theorem ev_copy {z c1 c2 i1 i2 n1 n2 : Nat} {sp dp nn : Int32} (hf : zfetch mi pc = some (o, .invokestatic z, 3)) (hz : za o z = true) (h1 : zia c1 = true) (h2 : zia c2 = true) (hn1 : zln σ c1 i1 = n1) (hn2 : zln σ c2 i2 = n2) (h8 : (r.map zcat).sum ≤ 8) (hp : pc + 3 = p)
    (h : zgd (¬ sp < 0 ∧ ¬ dp < 0 ∧ ¬ nn < 0 ∧ sp.toNatClampNeg + nn.toNatClampNeg ≤ n1 ∧ dp.toNatClampNeg + nn.toNatClampNeg ≤ n2) F = some w)
    (A : F = some w → zEv d mi p ls r (zcp σ c1 i1 c2 i2 sp.toNatClampNeg dp.toNatClampNeg nn.toNatClampNeg) out) : zEv d mi pc ls (zI nn :: zI dp :: zR c2 i2 :: zI sp :: zR c1 i1 :: r) σ out := by
  subst hp
  subst hn1
  subst hn2
  unfold zgd at h
  split at h
  · rename_i hg
    refine ev_s hf (p := pc + 3) (l := ls) (t := r) (s := zcp σ c1 i1 c2 i2 sp.toNatClampNeg dp.toNatClampNeg nn.toNatClampNeg) ?_ (A h)
    simp only [zstep, hz, if_true]
    rw [if_pos ⟨h1, h2, hg.1, hg.2.1, hg.2.2.1, hg.2.2.2.1, hg.2.2.2.2, h8⟩]
  · cases h
theorem ev_iret (hf : zfetch mi pc = some (o, .ireturn, 1)) (hr : zr mi = some .int) : zEv d mi pc ls [zI x] σ (some (zI x), σ) :=
  ev_ret hf rfl (by simp only [zret, hr])
theorem ev_zret (hf : zfetch mi pc = some (o, .ireturn, 1)) (hr : zr mi = some .boolean) (hx : x = 0 ∨ x = 1) : zEv d mi pc ls [zI x] σ (some (zI x), σ) :=
  ev_ret hf rfl (by simp only [zret, hr, if_pos hx])
theorem ev_aret {nm : String} {a b : Nat} (hf : zfetch mi pc = some (o, .areturn, 1)) (hr : zr mi = some (.object nm)) : zEv d mi pc ls [zR a b] σ (some (zR a b), σ) :=
  ev_ret hf rfl (by simp only [zret, hr])
theorem ev_vret (hf : zfetch mi pc = some (o, .return_, 1)) (hr : zr mi = none) : zEv d mi pc ls [] σ (none, σ) :=
  ev_ret hf rfl (by simp only [zret, hr])
end AC
section CA
variable {z mj : Nat} {as rest : List zA} {l0 : zO} {p : Nat}
theorem ev_callE (hf : zfetch mi pc = some (o, i, 3)) (hs : zstep o i 3 pc ls st σ = none) (hr : zret mi i st = none) (hc : zcall o i st = some (mj, as, rest)) (hd : 0 < d) (he : zent as (zn mj) = l0) {r : Option zA} {σ1 : zS} (hE : zEv (d - 1) mj 0 l0 [] σ (r, σ1)) (E : zEv d mi (pc + 3) ls (r.toList ++ rest) σ1 out) : zEv d mi pc ls st σ out := by
  subst he
  obtain ⟨d', rfl⟩ : ∃ d', d = d' + 1 := ⟨d - 1, by omega⟩
  obtain ⟨n1, h1⟩ := hE
  obtain ⟨n2, h2⟩ := E
  refine ⟨max n1 n2 + 1, ?_⟩
  rw [zrun_one hf, hs, hr, hc]
  have e1 := zrun_le h1 (Nat.le_max_left n1 n2)
  have e2 := zrun_le h2 (Nat.le_max_right n1 n2)
  rw [Nat.add_sub_cancel] at e1
  simp only [e1]
  exact e2
theorem zstep_vi {o z pc : Nat} {ls : zO} {st : List zA} {σ : zS} : zstep o (.invokevirtual z) 3 pc ls st σ = none := rfl
theorem zstep_st {o z pc : Nat} {ls : zO} {st : List zA} {σ : zS} (h : za o z = false) : zstep o (.invokestatic z) 3 pc ls st σ = none := by
  simp only [zstep, h]
  rfl
theorem ev_callS (hf : zfetch mi pc = some (o, .invokestatic z, 3)) (hza : za o z = false) (hz : zc o z = some mj) {na nl : Nat} (hm : zst mj = true ∧ zna mj = na ∧ zn mj = nl) (hst : st.take na = as.reverse) (hre : st.drop na = rest) (hsz : na ≤ st.length) (h8 : (rest.map zcat).sum ≤ 8) (hl : (zel as).length ≤ nl) (hd : 0 < d) (he : zent as nl = l0) (hp : pc + 3 = p) {r : Option zA} {σ1 : zS} (hE : zEv (d - 1) mj 0 l0 [] σ (r, σ1)) (E : zEv d mi p ls (r.toList ++ rest) σ1 out) : zEv d mi pc ls st σ out := by
  obtain ⟨m1, m2, m3⟩ := hm
  subst m2 m3 hp
  refine ev_callE hf (zstep_st hza) rfl (as := as) (rest := rest) ?_ hd he hE E
  simp only [zcall, hz]
  rw [hst, hre, List.reverse_reverse, if_pos ⟨m1, hsz, h8, hl⟩]
theorem ev_callV (hf : zfetch mi pc = some (o, .invokevirtual z, 3)) (hz : zc o z = some mj) {na nl oj : Nat} (hm : zst mj = false ∧ zna mj = na ∧ zn mj = nl) (ho : zo mj = oj) {i0 : Nat} {as' : List zA} (hst : st.take na = (zR oj i0 :: as').reverse) (hre : st.drop na = rest) (hsz : na ≤ st.length) (h8 : (rest.map zcat).sum ≤ 8) (hl : (zel (zR oj i0 :: as')).length ≤ nl) (hd : 0 < d) (he : zent (zR oj i0 :: as') nl = l0) (hp : pc + 3 = p) {r : Option zA} {σ1 : zS} (hE : zEv (d - 1) mj 0 l0 [] σ (r, σ1)) (E : zEv d mi p ls (r.toList ++ rest) σ1 out) : zEv d mi pc ls st σ out := by
  obtain ⟨m1, m2, m3⟩ := hm
  subst m2 m3 hp ho
  refine ev_callE hf zstep_vi rfl (as := zR (zo mj) i0 :: as') (rest := rest) ?_ hd he hE E
  simp only [zcall, hz]
  rw [hst, hre, List.reverse_reverse, if_pos ⟨m1, hsz, h8, hl, by simp [zrcv]⟩]
theorem bd_some {α β : Type} {a : Option α} {f : α → Option β} {w : β} (h : a.bind f = some w) : ∃ v, a = some v ∧ f v = some w := Option.bind_eq_some_iff.mp h
theorem b2_some {α β γ : Type} {a : Option (α × γ)} {f : α → γ → Option β} {w : β} (h : zb2 a f = some w) : ∃ v s, a = some (v, s) ∧ f v s = some w := by
  obtain ⟨q, h1, h2⟩ := Option.bind_eq_some_iff.mp h
  exact ⟨q.1, q.2, h1, h2⟩
end CA
end EV
end
section
theorem i0_0 : zfetch 0 0 = some (0, .iconst 0, 1) := by decide +kernel
theorem i0_1 : zfetch 0 1 = some (0, .istore_n 3, 1) := by decide +kernel
theorem i0_2 : zfetch 0 2 = some (0, .iload_n 3, 1) := by decide +kernel
theorem i0_3 : zfetch 0 3 = some (0, .iload_n 2, 1) := by decide +kernel
theorem i0_4 : zfetch 0 4 = some (0, .if_icmp .ge 30, 3) := by decide +kernel
theorem i0_7 : zfetch 0 7 = some (0, .iload_n 3, 1) := by decide +kernel
theorem i0_8 : zfetch 0 8 = some (0, .bipush 60, 2) := by decide +kernel
theorem i0_10 : zfetch 0 10 = some (0, .if_icmp .ge 24, 3) := by decide +kernel
theorem i0_13 : zfetch 0 13 = some (0, .iload_n 3, 1) := by decide +kernel
theorem i0_14 : zfetch 0 14 = some (0, .aload_n 1, 1) := by decide +kernel
theorem i0_15 : zfetch 0 15 = some (0, .arraylength, 1) := by decide +kernel
theorem i0_16 : zfetch 0 16 = some (0, .if_icmp .ge 18, 3) := by decide +kernel
theorem i0_19 : zfetch 0 19 = some (0, .aload_n 0, 1) := by decide +kernel
theorem i0_20 : zfetch 0 20 = some (0, .getfield 9, 3) := by decide +kernel
theorem i0_23 : zfetch 0 23 = some (0, .iload_n 3, 1) := by decide +kernel
theorem i0_24 : zfetch 0 24 = some (0, .aload_n 1, 1) := by decide +kernel
theorem i0_25 : zfetch 0 25 = some (0, .iload_n 3, 1) := by decide +kernel
theorem i0_26 : zfetch 0 26 = some (0, .iaload, 1) := by decide +kernel
theorem i0_27 : zfetch 0 27 = some (0, .iastore, 1) := by decide +kernel
theorem i0_28 : zfetch 0 28 = some (0, .iinc 3 1, 3) := by decide +kernel
theorem i0_31 : zfetch 0 31 = some (0, .goto (-29), 3) := by decide +kernel
theorem i0_34 : zfetch 0 34 = some (0, .aload_n 0, 1) := by decide +kernel
theorem i0_35 : zfetch 0 35 = some (0, .iload_n 2, 1) := by decide +kernel
theorem i0_36 : zfetch 0 36 = some (0, .putfield 22, 3) := by decide +kernel
theorem i0_39 : zfetch 0 39 = some (0, .return_, 1) := by decide +kernel
theorem i1_0 : zfetch 1 0 = some (0, .iconst 0, 1) := by decide +kernel
theorem i1_1 : zfetch 1 1 = some (0, .istore 4, 2) := by decide +kernel
theorem i1_3 : zfetch 1 3 = some (0, .iconst 0, 1) := by decide +kernel
theorem i1_4 : zfetch 1 4 = some (0, .istore 5, 2) := by decide +kernel
theorem i1_6 : zfetch 1 6 = some (0, .iload 5, 2) := by decide +kernel
theorem i1_8 : zfetch 1 8 = some (0, .aload_n 0, 1) := by decide +kernel
theorem i1_9 : zfetch 1 9 = some (0, .getfield 22, 3) := by decide +kernel
theorem i1_12 : zfetch 1 12 = some (0, .if_icmp .ge 179, 3) := by decide +kernel
theorem i1_15 : zfetch 1 15 = some (0, .iload 5, 2) := by decide +kernel
theorem i1_17 : zfetch 1 17 = some (0, .bipush 60, 2) := by decide +kernel
theorem i1_19 : zfetch 1 19 = some (0, .if_icmp .ge 172, 3) := by decide +kernel
theorem i1_22 : zfetch 1 22 = some (0, .aload_n 0, 1) := by decide +kernel
theorem i1_23 : zfetch 1 23 = some (0, .getfield 9, 3) := by decide +kernel
theorem i1_26 : zfetch 1 26 = some (0, .iload 5, 2) := by decide +kernel
theorem i1_28 : zfetch 1 28 = some (0, .iaload, 1) := by decide +kernel
theorem i1_29 : zfetch 1 29 = some (0, .istore 6, 2) := by decide +kernel
theorem i1_31 : zfetch 1 31 = some (0, .iload 6, 2) := by decide +kernel
theorem i1_33 : zfetch 1 33 = some (0, .sipush 10000, 3) := by decide +kernel
theorem i1_36 : zfetch 1 36 = some (0, .if_icmp .ge 18, 3) := by decide +kernel
theorem i1_39 : zfetch 1 39 = some (0, .aload_n 0, 1) := by decide +kernel
theorem i1_40 : zfetch 1 40 = some (0, .getfield 15, 3) := by decide +kernel
theorem i1_43 : zfetch 1 43 = some (0, .iload 4, 2) := by decide +kernel
theorem i1_45 : zfetch 1 45 = some (0, .iload 6, 2) := by decide +kernel
theorem i1_47 : zfetch 1 47 = some (0, .iastore, 1) := by decide +kernel
theorem i1_48 : zfetch 1 48 = some (0, .iinc 4 1, 3) := by decide +kernel
theorem i1_51 : zfetch 1 51 = some (0, .goto 134, 3) := by decide +kernel
theorem i1_54 : zfetch 1 54 = some (0, .iload 6, 2) := by decide +kernel
theorem i1_56 : zfetch 1 56 = some (0, .sipush 20000, 3) := by decide +kernel
theorem i1_59 : zfetch 1 59 = some (0, .if_icmp .ge 41, 3) := by decide +kernel
theorem i1_62 : zfetch 1 62 = some (0, .aload_n 0, 1) := by decide +kernel
theorem i1_63 : zfetch 1 63 = some (0, .getfield 15, 3) := by decide +kernel
theorem i1_66 : zfetch 1 66 = some (0, .iload 4, 2) := by decide +kernel
theorem i1_68 : zfetch 1 68 = some (0, .iload 6, 2) := by decide +kernel
theorem i1_70 : zfetch 1 70 = some (0, .sipush 10000, 3) := by decide +kernel
theorem i1_73 : zfetch 1 73 = some (0, .if_icmp .ne 7, 3) := by decide +kernel
theorem i1_76 : zfetch 1 76 = some (0, .iload_n 1, 1) := by decide +kernel
theorem i1_77 : zfetch 1 77 = some (0, .goto 16, 3) := by decide +kernel
theorem i1_80 : zfetch 1 80 = some (0, .iload 6, 2) := by decide +kernel
theorem i1_82 : zfetch 1 82 = some (0, .sipush 10001, 3) := by decide +kernel
theorem i1_85 : zfetch 1 85 = some (0, .if_icmp .ne 7, 3) := by decide +kernel
theorem i1_88 : zfetch 1 88 = some (0, .iload_n 2, 1) := by decide +kernel
theorem i1_89 : zfetch 1 89 = some (0, .goto 4, 3) := by decide +kernel
theorem i1_92 : zfetch 1 92 = some (0, .iload_n 3, 1) := by decide +kernel
theorem i1_93 : zfetch 1 93 = some (0, .iastore, 1) := by decide +kernel
theorem i1_94 : zfetch 1 94 = some (0, .iinc 4 1, 3) := by decide +kernel
theorem i1_97 : zfetch 1 97 = some (0, .goto 88, 3) := by decide +kernel
theorem i1_100 : zfetch 1 100 = some (0, .iload 6, 2) := by decide +kernel
theorem i1_102 : zfetch 1 102 = some (0, .sipush 20033, 3) := by decide +kernel
theorem i1_105 : zfetch 1 105 = some (0, .if_icmp .ne 37, 3) := by decide +kernel
theorem i1_108 : zfetch 1 108 = some (0, .iload 4, 2) := by decide +kernel
theorem i1_110 : zfetch 1 110 = some (0, .ifCond .le 75, 3) := by decide +kernel
theorem i1_113 : zfetch 1 113 = some (0, .aload_n 0, 1) := by decide +kernel
theorem i1_114 : zfetch 1 114 = some (0, .getfield 15, 3) := by decide +kernel
theorem i1_117 : zfetch 1 117 = some (0, .iload 4, 2) := by decide +kernel
theorem i1_119 : zfetch 1 119 = some (0, .iconst 1, 1) := by decide +kernel
theorem i1_120 : zfetch 1 120 = some (0, .isub, 1) := by decide +kernel
theorem i1_121 : zfetch 1 121 = some (0, .aload_n 0, 1) := by decide +kernel
theorem i1_122 : zfetch 1 122 = some (0, .getfield 15, 3) := by decide +kernel
theorem i1_125 : zfetch 1 125 = some (0, .iload 4, 2) := by decide +kernel
theorem i1_127 : zfetch 1 127 = some (0, .iconst 1, 1) := by decide +kernel
theorem i1_128 : zfetch 1 128 = some (0, .isub, 1) := by decide +kernel
theorem i1_129 : zfetch 1 129 = some (0, .iaload, 1) := by decide +kernel
theorem i1_130 : zfetch 1 130 = some (0, .ifCond .ne 7, 3) := by decide +kernel
theorem i1_133 : zfetch 1 133 = some (0, .iconst 1, 1) := by decide +kernel
theorem i1_134 : zfetch 1 134 = some (0, .goto 4, 3) := by decide +kernel
theorem i1_137 : zfetch 1 137 = some (0, .iconst 0, 1) := by decide +kernel
theorem i1_138 : zfetch 1 138 = some (0, .iastore, 1) := by decide +kernel
theorem i1_139 : zfetch 1 139 = some (0, .goto 46, 3) := by decide +kernel
theorem i1_142 : zfetch 1 142 = some (0, .iload 4, 2) := by decide +kernel
theorem i1_144 : zfetch 1 144 = some (0, .iconst 1, 1) := by decide +kernel
theorem i1_145 : zfetch 1 145 = some (0, .if_icmp .le 40, 3) := by decide +kernel
theorem i1_148 : zfetch 1 148 = some (0, .iinc 4 (-1), 3) := by decide +kernel
theorem i1_151 : zfetch 1 151 = some (0, .aload_n 0, 1) := by decide +kernel
theorem i1_152 : zfetch 1 152 = some (0, .getfield 15, 3) := by decide +kernel
theorem i1_155 : zfetch 1 155 = some (0, .iload 4, 2) := by decide +kernel
theorem i1_157 : zfetch 1 157 = some (0, .iconst 1, 1) := by decide +kernel
theorem i1_158 : zfetch 1 158 = some (0, .isub, 1) := by decide +kernel
theorem i1_159 : zfetch 1 159 = some (0, .iload 6, 2) := by decide +kernel
theorem i1_161 : zfetch 1 161 = some (0, .sipush 20000, 3) := by decide +kernel
theorem i1_164 : zfetch 1 164 = some (0, .isub, 1) := by decide +kernel
theorem i1_165 : zfetch 1 165 = some (0, .aload_n 0, 1) := by decide +kernel
theorem i1_166 : zfetch 1 166 = some (0, .getfield 15, 3) := by decide +kernel
theorem i1_169 : zfetch 1 169 = some (0, .iload 4, 2) := by decide +kernel
theorem i1_171 : zfetch 1 171 = some (0, .iconst 1, 1) := by decide +kernel
theorem i1_172 : zfetch 1 172 = some (0, .isub, 1) := by decide +kernel
theorem i1_173 : zfetch 1 173 = some (0, .iaload, 1) := by decide +kernel
theorem i1_174 : zfetch 1 174 = some (0, .aload_n 0, 1) := by decide +kernel
theorem i1_175 : zfetch 1 175 = some (0, .getfield 15, 3) := by decide +kernel
theorem i1_178 : zfetch 1 178 = some (0, .iload 4, 2) := by decide +kernel
theorem i1_180 : zfetch 1 180 = some (0, .iaload, 1) := by decide +kernel
theorem i1_181 : zfetch 1 181 = some (0, .invokestatic 25, 3) := by decide +kernel
theorem i1_184 : zfetch 1 184 = some (0, .iastore, 1) := by decide +kernel
theorem i1_185 : zfetch 1 185 = some (0, .iinc 5 1, 3) := by decide +kernel
theorem i1_188 : zfetch 1 188 = some (0, .goto (-182), 3) := by decide +kernel
theorem i1_191 : zfetch 1 191 = some (0, .aload_n 0, 1) := by decide +kernel
theorem i1_192 : zfetch 1 192 = some (0, .getfield 22, 3) := by decide +kernel
theorem i1_195 : zfetch 1 195 = some (0, .ifCond .le 12, 3) := by decide +kernel
theorem i1_198 : zfetch 1 198 = some (0, .aload_n 0, 1) := by decide +kernel
theorem i1_199 : zfetch 1 199 = some (0, .getfield 15, 3) := by decide +kernel
theorem i1_202 : zfetch 1 202 = some (0, .iconst 0, 1) := by decide +kernel
theorem i1_203 : zfetch 1 203 = some (0, .iaload, 1) := by decide +kernel
theorem i1_204 : zfetch 1 204 = some (0, .goto 4, 3) := by decide +kernel
theorem i1_207 : zfetch 1 207 = some (0, .iload_n 1, 1) := by decide +kernel
theorem i1_208 : zfetch 1 208 = some (0, .istore 5, 2) := by decide +kernel
theorem i1_210 : zfetch 1 210 = some (0, .aload_n 0, 1) := by decide +kernel
theorem i1_211 : zfetch 1 211 = some (0, .getfield 18, 3) := by decide +kernel
theorem i1_214 : zfetch 1 214 = some (0, .ifCond .ne 12, 3) := by decide +kernel
theorem i1_217 : zfetch 1 217 = some (0, .iload 5, 2) := by decide +kernel
theorem i1_219 : zfetch 1 219 = some (0, .iconst 4, 1) := by decide +kernel
theorem i1_220 : zfetch 1 220 = some (0, .invokestatic 29, 3) := by decide +kernel
theorem i1_223 : zfetch 1 223 = some (0, .goto 14, 3) := by decide +kernel
theorem i1_226 : zfetch 1 226 = some (0, .iconst 0, 1) := by decide +kernel
theorem i1_227 : zfetch 1 227 = some (0, .bipush 9, 2) := by decide +kernel
theorem i1_229 : zfetch 1 229 = some (0, .iload 5, 2) := by decide +kernel
theorem i1_231 : zfetch 1 231 = some (0, .invokestatic 35, 3) := by decide +kernel
theorem i1_234 : zfetch 1 234 = some (0, .invokestatic 38, 3) := by decide +kernel
theorem i1_237 : zfetch 1 237 = some (0, .ireturn, 1) := by decide +kernel
theorem i2_0 : zfetch 2 0 = some (0, .iload_n 0, 1) := by decide +kernel
theorem i2_1 : zfetch 2 1 = some (0, .lookupswitch 168 #[(38, 97), (42, 152), (43, 144), (45, 148), (47, 156), (60, 111), (61, 122), (62, 133), (124, 83)], 83) := by decide +kernel
theorem i2_84 : zfetch 2 84 = some (0, .iload_n 1, 1) := by decide +kernel
theorem i2_85 : zfetch 2 85 = some (0, .ifCond .ne 7, 3) := by decide +kernel
theorem i2_88 : zfetch 2 88 = some (0, .iload_n 2, 1) := by decide +kernel
theorem i2_89 : zfetch 2 89 = some (0, .ifCond .eq 7, 3) := by decide +kernel
theorem i2_92 : zfetch 2 92 = some (0, .iconst 1, 1) := by decide +kernel
theorem i2_93 : zfetch 2 93 = some (0, .goto 4, 3) := by decide +kernel
theorem i2_96 : zfetch 2 96 = some (0, .iconst 0, 1) := by decide +kernel
theorem i2_97 : zfetch 2 97 = some (0, .ireturn, 1) := by decide +kernel
theorem i2_98 : zfetch 2 98 = some (0, .iload_n 1, 1) := by decide +kernel
theorem i2_99 : zfetch 2 99 = some (0, .ifCond .eq 11, 3) := by decide +kernel
theorem i2_102 : zfetch 2 102 = some (0, .iload_n 2, 1) := by decide +kernel
theorem i2_103 : zfetch 2 103 = some (0, .ifCond .eq 7, 3) := by decide +kernel
theorem i2_106 : zfetch 2 106 = some (0, .iconst 1, 1) := by decide +kernel
theorem i2_107 : zfetch 2 107 = some (0, .goto 4, 3) := by decide +kernel
theorem i2_110 : zfetch 2 110 = some (0, .iconst 0, 1) := by decide +kernel
theorem i2_111 : zfetch 2 111 = some (0, .ireturn, 1) := by decide +kernel
theorem i2_112 : zfetch 2 112 = some (0, .iload_n 1, 1) := by decide +kernel
theorem i2_113 : zfetch 2 113 = some (0, .iload_n 2, 1) := by decide +kernel
theorem i2_114 : zfetch 2 114 = some (0, .if_icmp .ge 7, 3) := by decide +kernel
theorem i2_117 : zfetch 2 117 = some (0, .iconst 1, 1) := by decide +kernel
theorem i2_118 : zfetch 2 118 = some (0, .goto 4, 3) := by decide +kernel
theorem i2_121 : zfetch 2 121 = some (0, .iconst 0, 1) := by decide +kernel
theorem i2_122 : zfetch 2 122 = some (0, .ireturn, 1) := by decide +kernel
theorem i2_123 : zfetch 2 123 = some (0, .iload_n 1, 1) := by decide +kernel
theorem i2_124 : zfetch 2 124 = some (0, .iload_n 2, 1) := by decide +kernel
theorem i2_125 : zfetch 2 125 = some (0, .if_icmp .ne 7, 3) := by decide +kernel
theorem i2_128 : zfetch 2 128 = some (0, .iconst 1, 1) := by decide +kernel
theorem i2_129 : zfetch 2 129 = some (0, .goto 4, 3) := by decide +kernel
theorem i2_132 : zfetch 2 132 = some (0, .iconst 0, 1) := by decide +kernel
theorem i2_133 : zfetch 2 133 = some (0, .ireturn, 1) := by decide +kernel
theorem i2_134 : zfetch 2 134 = some (0, .iload_n 1, 1) := by decide +kernel
theorem i2_135 : zfetch 2 135 = some (0, .iload_n 2, 1) := by decide +kernel
theorem i2_136 : zfetch 2 136 = some (0, .if_icmp .le 7, 3) := by decide +kernel
theorem i2_139 : zfetch 2 139 = some (0, .iconst 1, 1) := by decide +kernel
theorem i2_140 : zfetch 2 140 = some (0, .goto 4, 3) := by decide +kernel
theorem i2_143 : zfetch 2 143 = some (0, .iconst 0, 1) := by decide +kernel
theorem i2_144 : zfetch 2 144 = some (0, .ireturn, 1) := by decide +kernel
theorem i2_145 : zfetch 2 145 = some (0, .iload_n 1, 1) := by decide +kernel
theorem i2_146 : zfetch 2 146 = some (0, .iload_n 2, 1) := by decide +kernel
theorem i2_147 : zfetch 2 147 = some (0, .iadd, 1) := by decide +kernel
theorem i2_148 : zfetch 2 148 = some (0, .ireturn, 1) := by decide +kernel
theorem i2_149 : zfetch 2 149 = some (0, .iload_n 1, 1) := by decide +kernel
theorem i2_150 : zfetch 2 150 = some (0, .iload_n 2, 1) := by decide +kernel
theorem i2_151 : zfetch 2 151 = some (0, .isub, 1) := by decide +kernel
theorem i2_152 : zfetch 2 152 = some (0, .ireturn, 1) := by decide +kernel
theorem i2_153 : zfetch 2 153 = some (0, .iload_n 1, 1) := by decide +kernel
theorem i2_154 : zfetch 2 154 = some (0, .iload_n 2, 1) := by decide +kernel
theorem i2_155 : zfetch 2 155 = some (0, .imul, 1) := by decide +kernel
theorem i2_156 : zfetch 2 156 = some (0, .ireturn, 1) := by decide +kernel
theorem i2_157 : zfetch 2 157 = some (0, .iload_n 2, 1) := by decide +kernel
theorem i2_158 : zfetch 2 158 = some (0, .ifCond .ne 7, 3) := by decide +kernel
theorem i2_161 : zfetch 2 161 = some (0, .iconst 0, 1) := by decide +kernel
theorem i2_162 : zfetch 2 162 = some (0, .goto 6, 3) := by decide +kernel
theorem i2_165 : zfetch 2 165 = some (0, .iload_n 1, 1) := by decide +kernel
theorem i2_166 : zfetch 2 166 = some (0, .iload_n 2, 1) := by decide +kernel
theorem i2_167 : zfetch 2 167 = some (0, .idiv, 1) := by decide +kernel
theorem i2_168 : zfetch 2 168 = some (0, .ireturn, 1) := by decide +kernel
theorem i2_169 : zfetch 2 169 = some (0, .iload_n 2, 1) := by decide +kernel
theorem i2_170 : zfetch 2 170 = some (0, .ifCond .ne 7, 3) := by decide +kernel
theorem i2_173 : zfetch 2 173 = some (0, .iconst 0, 1) := by decide +kernel
theorem i2_174 : zfetch 2 174 = some (0, .goto 6, 3) := by decide +kernel
theorem i2_177 : zfetch 2 177 = some (0, .iload_n 1, 1) := by decide +kernel
theorem i2_178 : zfetch 2 178 = some (0, .iload_n 2, 1) := by decide +kernel
theorem i2_179 : zfetch 2 179 = some (0, .irem, 1) := by decide +kernel
theorem i2_180 : zfetch 2 180 = some (0, .ireturn, 1) := by decide +kernel
theorem i3_0 : zfetch 3 0 = some (1, .aload_n 0, 1) := by decide +kernel
theorem i3_1 : zfetch 3 1 = some (1, .iconst 0, 1) := by decide +kernel
theorem i3_2 : zfetch 3 2 = some (1, .putfield 18, 3) := by decide +kernel
theorem i3_5 : zfetch 3 5 = some (1, .aload_n 0, 1) := by decide +kernel
theorem i3_6 : zfetch 3 6 = some (1, .iconst 0, 1) := by decide +kernel
theorem i3_7 : zfetch 3 7 = some (1, .putfield 22, 3) := by decide +kernel
theorem i3_10 : zfetch 3 10 = some (1, .aload_n 0, 1) := by decide +kernel
theorem i3_11 : zfetch 3 11 = some (1, .iconst 0, 1) := by decide +kernel
theorem i3_12 : zfetch 3 12 = some (1, .putfield 25, 3) := by decide +kernel
theorem i3_15 : zfetch 3 15 = some (1, .aload_n 0, 1) := by decide +kernel
theorem i3_16 : zfetch 3 16 = some (1, .iconst 1, 1) := by decide +kernel
theorem i3_17 : zfetch 3 17 = some (1, .putfield 28, 3) := by decide +kernel
theorem i3_20 : zfetch 3 20 = some (1, .iconst 0, 1) := by decide +kernel
theorem i3_21 : zfetch 3 21 = some (1, .istore_n 3, 1) := by decide +kernel
theorem i3_22 : zfetch 3 22 = some (1, .iconst 0, 1) := by decide +kernel
theorem i3_23 : zfetch 3 23 = some (1, .istore 4, 2) := by decide +kernel
theorem i3_25 : zfetch 3 25 = some (1, .iload 4, 2) := by decide +kernel
theorem i3_27 : zfetch 3 27 = some (1, .bipush 60, 2) := by decide +kernel
theorem i3_29 : zfetch 3 29 = some (1, .if_icmp .ge 58, 3) := by decide +kernel
theorem i3_32 : zfetch 3 32 = some (1, .iload_n 3, 1) := by decide +kernel
theorem i3_33 : zfetch 3 33 = some (1, .aload_n 1, 1) := by decide +kernel
theorem i3_34 : zfetch 3 34 = some (1, .getfield 32, 3) := by decide +kernel
theorem i3_37 : zfetch 3 37 = some (1, .if_icmp .ge 50, 3) := by decide +kernel
theorem i3_40 : zfetch 3 40 = some (1, .aload_n 0, 1) := by decide +kernel
theorem i3_41 : zfetch 3 41 = some (1, .getfield 28, 3) := by decide +kernel
theorem i3_44 : zfetch 3 44 = some (1, .ifCond .eq 13, 3) := by decide +kernel
theorem i3_47 : zfetch 3 47 = some (1, .aload_n 0, 1) := by decide +kernel
theorem i3_48 : zfetch 3 48 = some (1, .aload_n 1, 1) := by decide +kernel
theorem i3_49 : zfetch 3 49 = some (1, .iload_n 3, 1) := by decide +kernel
theorem i3_50 : zfetch 3 50 = some (1, .iload_n 2, 1) := by decide +kernel
theorem i3_51 : zfetch 3 51 = some (1, .invokevirtual 35, 3) := by decide +kernel
theorem i3_54 : zfetch 3 54 = some (1, .goto 13, 3) := by decide +kernel
theorem i3_57 : zfetch 3 57 = some (1, .aload_n 0, 1) := by decide +kernel
theorem i3_58 : zfetch 3 58 = some (1, .aload_n 1, 1) := by decide +kernel
theorem i3_59 : zfetch 3 59 = some (1, .getfield 39, 3) := by decide +kernel
theorem i3_62 : zfetch 3 62 = some (1, .iload_n 3, 1) := by decide +kernel
theorem i3_63 : zfetch 3 63 = some (1, .iaload, 1) := by decide +kernel
theorem i3_64 : zfetch 3 64 = some (1, .invokevirtual 42, 3) := by decide +kernel
theorem i3_67 : zfetch 3 67 = some (1, .istore 5, 2) := by decide +kernel
theorem i3_69 : zfetch 3 69 = some (1, .iload 5, 2) := by decide +kernel
theorem i3_71 : zfetch 3 71 = some (1, .ifCond .ne 5, 3) := by decide +kernel
theorem i3_74 : zfetch 3 74 = some (1, .iload_n 3, 1) := by decide +kernel
theorem i3_75 : zfetch 3 75 = some (1, .ireturn, 1) := by decide +kernel
theorem i3_76 : zfetch 3 76 = some (1, .iload_n 3, 1) := by decide +kernel
theorem i3_77 : zfetch 3 77 = some (1, .iload 5, 2) := by decide +kernel
theorem i3_79 : zfetch 3 79 = some (1, .iadd, 1) := by decide +kernel
theorem i3_80 : zfetch 3 80 = some (1, .istore_n 3, 1) := by decide +kernel
theorem i3_81 : zfetch 3 81 = some (1, .iinc 4 1, 3) := by decide +kernel
theorem i3_84 : zfetch 3 84 = some (1, .goto (-59), 3) := by decide +kernel
theorem i3_87 : zfetch 3 87 = some (1, .aload_n 0, 1) := by decide +kernel
theorem i3_88 : zfetch 3 88 = some (1, .getfield 28, 3) := by decide +kernel
theorem i3_91 : zfetch 3 91 = some (1, .ifCond .eq 8, 3) := by decide +kernel
theorem i3_94 : zfetch 3 94 = some (1, .aload_n 1, 1) := by decide +kernel
theorem i3_95 : zfetch 3 95 = some (1, .getfield 32, 3) := by decide +kernel
theorem i3_98 : zfetch 3 98 = some (1, .ireturn, 1) := by decide +kernel
theorem i3_99 : zfetch 3 99 = some (1, .aload_n 0, 1) := by decide +kernel
theorem i3_100 : zfetch 3 100 = some (1, .iconst 1, 1) := by decide +kernel
theorem i3_101 : zfetch 3 101 = some (1, .invokevirtual 46, 3) := by decide +kernel
theorem i3_104 : zfetch 3 104 = some (1, .aload_n 0, 1) := by decide +kernel
theorem i3_105 : zfetch 3 105 = some (1, .getfield 22, 3) := by decide +kernel
theorem i3_108 : zfetch 3 108 = some (1, .ifCond .le 10, 3) := by decide +kernel
theorem i3_111 : zfetch 3 111 = some (1, .aload_n 1, 1) := by decide +kernel
theorem i3_112 : zfetch 3 112 = some (1, .getfield 32, 3) := by decide +kernel
theorem i3_115 : zfetch 3 115 = some (1, .goto 4, 3) := by decide +kernel
theorem i3_118 : zfetch 3 118 = some (1, .iconst (-1), 1) := by decide +kernel
theorem i3_119 : zfetch 3 119 = some (1, .ireturn, 1) := by decide +kernel
theorem i4_0 : zfetch 4 0 = some (1, .aload_n 1, 1) := by decide +kernel
theorem i4_1 : zfetch 4 1 = some (1, .getfield 39, 3) := by decide +kernel
theorem i4_4 : zfetch 4 4 = some (1, .iload_n 2, 1) := by decide +kernel
theorem i4_5 : zfetch 4 5 = some (1, .iaload, 1) := by decide +kernel
theorem i4_6 : zfetch 4 6 = some (1, .istore 4, 2) := by decide +kernel
theorem i4_8 : zfetch 4 8 = some (1, .iload 4, 2) := by decide +kernel
theorem i4_10 : zfetch 4 10 = some (1, .bipush 33, 2) := by decide +kernel
theorem i4_12 : zfetch 4 12 = some (1, .if_icmp .eq 10, 3) := by decide +kernel
theorem i4_15 : zfetch 4 15 = some (1, .iload 4, 2) := by decide +kernel
theorem i4_17 : zfetch 4 17 = some (1, .bipush 40, 2) := by decide +kernel
theorem i4_19 : zfetch 4 19 = some (1, .if_icmp .ne 10, 3) := by decide +kernel
theorem i4_22 : zfetch 4 22 = some (1, .aload_n 0, 1) := by decide +kernel
theorem i4_23 : zfetch 4 23 = some (1, .iload 4, 2) := by decide +kernel
theorem i4_25 : zfetch 4 25 = some (1, .invokevirtual 50, 3) := by decide +kernel
theorem i4_28 : zfetch 4 28 = some (1, .ireturn, 1) := by decide +kernel
theorem i4_29 : zfetch 4 29 = some (1, .aload_n 1, 1) := by decide +kernel
theorem i4_30 : zfetch 4 30 = some (1, .iload_n 2, 1) := by decide +kernel
theorem i4_31 : zfetch 4 31 = some (1, .invokestatic 53, 3) := by decide +kernel
theorem i4_34 : zfetch 4 34 = some (1, .istore 5, 2) := by decide +kernel
theorem i4_36 : zfetch 4 36 = some (1, .iload 5, 2) := by decide +kernel
theorem i4_38 : zfetch 4 38 = some (1, .ifCond .le 17, 3) := by decide +kernel
theorem i4_41 : zfetch 4 41 = some (1, .aload_n 0, 1) := by decide +kernel
theorem i4_42 : zfetch 4 42 = some (1, .aload_n 1, 1) := by decide +kernel
theorem i4_43 : zfetch 4 43 = some (1, .iload_n 2, 1) := by decide +kernel
theorem i4_44 : zfetch 4 44 = some (1, .iload 5, 2) := by decide +kernel
theorem i4_46 : zfetch 4 46 = some (1, .invokestatic 57, 3) := by decide +kernel
theorem i4_49 : zfetch 4 49 = some (1, .invokevirtual 60, 3) := by decide +kernel
theorem i4_52 : zfetch 4 52 = some (1, .goto 31, 3) := by decide +kernel
theorem i4_55 : zfetch 4 55 = some (1, .iload 4, 2) := by decide +kernel
theorem i4_57 : zfetch 4 57 = some (1, .iload_n 3, 1) := by decide +kernel
theorem i4_58 : zfetch 4 58 = some (1, .invokestatic 63, 3) := by decide +kernel
theorem i4_61 : zfetch 4 61 = some (1, .istore 6, 2) := by decide +kernel
theorem i4_63 : zfetch 4 63 = some (1, .iload 6, 2) := by decide +kernel
theorem i4_65 : zfetch 4 65 = some (1, .ifCond .ge 5, 3) := by decide +kernel
theorem i4_68 : zfetch 4 68 = some (1, .iconst 0, 1) := by decide +kernel
theorem i4_69 : zfetch 4 69 = some (1, .ireturn, 1) := by decide +kernel
theorem i4_70 : zfetch 4 70 = some (1, .aload_n 0, 1) := by decide +kernel
theorem i4_71 : zfetch 4 71 = some (1, .sipush 10000, 3) := by decide +kernel
theorem i4_74 : zfetch 4 74 = some (1, .iload 6, 2) := by decide +kernel
theorem i4_76 : zfetch 4 76 = some (1, .iadd, 1) := by decide +kernel
theorem i4_77 : zfetch 4 77 = some (1, .invokevirtual 60, 3) := by decide +kernel
theorem i4_80 : zfetch 4 80 = some (1, .iconst 1, 1) := by decide +kernel
theorem i4_81 : zfetch 4 81 = some (1, .istore 5, 2) := by decide +kernel
theorem i4_83 : zfetch 4 83 = some (1, .aload_n 0, 1) := by decide +kernel
theorem i4_84 : zfetch 4 84 = some (1, .invokevirtual 69, 3) := by decide +kernel
theorem i4_87 : zfetch 4 87 = some (1, .iload 5, 2) := by decide +kernel
theorem i4_89 : zfetch 4 89 = some (1, .ireturn, 1) := by decide +kernel
theorem i5_0 : zfetch 5 0 = some (1, .aload_n 0, 1) := by decide +kernel
theorem i5_1 : zfetch 5 1 = some (1, .getfield 25, 3) := by decide +kernel
theorem i5_4 : zfetch 5 4 = some (1, .iconst 5, 1) := by decide +kernel
theorem i5_5 : zfetch 5 5 = some (1, .if_icmp .lt 5, 3) := by decide +kernel
theorem i5_8 : zfetch 5 8 = some (1, .iconst 0, 1) := by decide +kernel
theorem i5_9 : zfetch 5 9 = some (1, .ireturn, 1) := by decide +kernel
theorem i5_10 : zfetch 5 10 = some (1, .aload_n 0, 1) := by decide +kernel
theorem i5_11 : zfetch 5 11 = some (1, .dup, 1) := by decide +kernel
theorem i5_12 : zfetch 5 12 = some (1, .getfield 25, 3) := by decide +kernel
theorem i5_15 : zfetch 5 15 = some (1, .iconst 1, 1) := by decide +kernel
theorem i5_16 : zfetch 5 16 = some (1, .iadd, 1) := by decide +kernel
theorem i5_17 : zfetch 5 17 = some (1, .putfield 25, 3) := by decide +kernel
theorem i5_20 : zfetch 5 20 = some (1, .aload_n 0, 1) := by decide +kernel
theorem i5_21 : zfetch 5 21 = some (1, .iload_n 1, 1) := by decide +kernel
theorem i5_22 : zfetch 5 22 = some (1, .invokevirtual 72, 3) := by decide +kernel
theorem i5_25 : zfetch 5 25 = some (1, .iconst 1, 1) := by decide +kernel
theorem i5_26 : zfetch 5 26 = some (1, .ireturn, 1) := by decide +kernel
theorem i6_0 : zfetch 6 0 = some (1, .iconst 0, 1) := by decide +kernel
theorem i6_1 : zfetch 6 1 = some (1, .istore_n 2, 1) := by decide +kernel
theorem i6_2 : zfetch 6 2 = some (1, .iload_n 1, 1) := by decide +kernel
theorem i6_3 : zfetch 6 3 = some (1, .istore_n 3, 1) := by decide +kernel
theorem i6_4 : zfetch 6 4 = some (1, .iload_n 3, 1) := by decide +kernel
theorem i6_5 : zfetch 6 5 = some (1, .aload_n 0, 1) := by decide +kernel
theorem i6_6 : zfetch 6 6 = some (1, .getfield 32, 3) := by decide +kernel
theorem i6_9 : zfetch 6 9 = some (1, .if_icmp .ge 29, 3) := by decide +kernel
theorem i6_12 : zfetch 6 12 = some (1, .iload_n 2, 1) := by decide +kernel
theorem i6_13 : zfetch 6 13 = some (1, .iconst 4, 1) := by decide +kernel
theorem i6_14 : zfetch 6 14 = some (1, .if_icmp .ge 24, 3) := by decide +kernel
theorem i6_17 : zfetch 6 17 = some (1, .aload_n 0, 1) := by decide +kernel
theorem i6_18 : zfetch 6 18 = some (1, .getfield 39, 3) := by decide +kernel
theorem i6_21 : zfetch 6 21 = some (1, .iload_n 3, 1) := by decide +kernel
theorem i6_22 : zfetch 6 22 = some (1, .iaload, 1) := by decide +kernel
theorem i6_23 : zfetch 6 23 = some (1, .invokestatic 75, 3) := by decide +kernel
theorem i6_26 : zfetch 6 26 = some (1, .ifCond .eq 12, 3) := by decide +kernel
theorem i6_29 : zfetch 6 29 = some (1, .iinc 2 1, 3) := by decide +kernel
theorem i6_32 : zfetch 6 32 = some (1, .iinc 3 1, 3) := by decide +kernel
theorem i6_35 : zfetch 6 35 = some (1, .goto (-31), 3) := by decide +kernel
theorem i6_38 : zfetch 6 38 = some (1, .iload_n 2, 1) := by decide +kernel
theorem i6_39 : zfetch 6 39 = some (1, .ireturn, 1) := by decide +kernel
theorem i7_0 : zfetch 7 0 = some (1, .iload_n 0, 1) := by decide +kernel
theorem i7_1 : zfetch 7 1 = some (1, .bipush 48, 2) := by decide +kernel
theorem i7_3 : zfetch 7 3 = some (1, .if_icmp .lt 13, 3) := by decide +kernel
theorem i7_6 : zfetch 7 6 = some (1, .iload_n 0, 1) := by decide +kernel
theorem i7_7 : zfetch 7 7 = some (1, .bipush 57, 2) := by decide +kernel
theorem i7_9 : zfetch 7 9 = some (1, .if_icmp .gt 7, 3) := by decide +kernel
theorem i7_12 : zfetch 7 12 = some (1, .iconst 1, 1) := by decide +kernel
theorem i7_13 : zfetch 7 13 = some (1, .goto 4, 3) := by decide +kernel
theorem i7_16 : zfetch 7 16 = some (1, .iconst 0, 1) := by decide +kernel
theorem i7_17 : zfetch 7 17 = some (1, .ireturn, 1) := by decide +kernel
theorem i8_0 : zfetch 8 0 = some (1, .iconst 0, 1) := by decide +kernel
theorem i8_1 : zfetch 8 1 = some (1, .istore_n 3, 1) := by decide +kernel
theorem i8_2 : zfetch 8 2 = some (1, .iload_n 1, 1) := by decide +kernel
theorem i8_3 : zfetch 8 3 = some (1, .istore 4, 2) := by decide +kernel
theorem i8_5 : zfetch 8 5 = some (1, .iload 4, 2) := by decide +kernel
theorem i8_7 : zfetch 8 7 = some (1, .iload_n 1, 1) := by decide +kernel
theorem i8_8 : zfetch 8 8 = some (1, .iload_n 2, 1) := by decide +kernel
theorem i8_9 : zfetch 8 9 = some (1, .iadd, 1) := by decide +kernel
theorem i8_10 : zfetch 8 10 = some (1, .if_icmp .ge 34, 3) := by decide +kernel
theorem i8_13 : zfetch 8 13 = some (1, .iload 4, 2) := by decide +kernel
theorem i8_15 : zfetch 8 15 = some (1, .aload_n 0, 1) := by decide +kernel
theorem i8_16 : zfetch 8 16 = some (1, .getfield 32, 3) := by decide +kernel
theorem i8_19 : zfetch 8 19 = some (1, .if_icmp .ge 25, 3) := by decide +kernel
theorem i8_22 : zfetch 8 22 = some (1, .iload_n 3, 1) := by decide +kernel
theorem i8_23 : zfetch 8 23 = some (1, .bipush 10, 2) := by decide +kernel
theorem i8_25 : zfetch 8 25 = some (1, .imul, 1) := by decide +kernel
theorem i8_26 : zfetch 8 26 = some (1, .aload_n 0, 1) := by decide +kernel
theorem i8_27 : zfetch 8 27 = some (1, .getfield 39, 3) := by decide +kernel
theorem i8_30 : zfetch 8 30 = some (1, .iload 4, 2) := by decide +kernel
theorem i8_32 : zfetch 8 32 = some (1, .iaload, 1) := by decide +kernel
theorem i8_33 : zfetch 8 33 = some (1, .iadd, 1) := by decide +kernel
theorem i8_34 : zfetch 8 34 = some (1, .bipush 48, 2) := by decide +kernel
theorem i8_36 : zfetch 8 36 = some (1, .isub, 1) := by decide +kernel
theorem i8_37 : zfetch 8 37 = some (1, .istore_n 3, 1) := by decide +kernel
theorem i8_38 : zfetch 8 38 = some (1, .iinc 4 1, 3) := by decide +kernel
theorem i8_41 : zfetch 8 41 = some (1, .goto (-36), 3) := by decide +kernel
theorem i8_44 : zfetch 8 44 = some (1, .iload_n 3, 1) := by decide +kernel
theorem i8_45 : zfetch 8 45 = some (1, .ireturn, 1) := by decide +kernel
theorem i9_0 : zfetch 9 0 = some (1, .iconst 0, 1) := by decide +kernel
theorem i9_1 : zfetch 9 1 = some (1, .istore_n 2, 1) := by decide +kernel
theorem i9_2 : zfetch 9 2 = some (1, .iload_n 2, 1) := by decide +kernel
theorem i9_3 : zfetch 9 3 = some (1, .iconst 3, 1) := by decide +kernel
theorem i9_4 : zfetch 9 4 = some (1, .if_icmp .ge 30, 3) := by decide +kernel
theorem i9_7 : zfetch 9 7 = some (1, .getstatic 79, 3) := by decide +kernel
theorem i9_10 : zfetch 9 10 = some (1, .iload_n 1, 1) := by decide +kernel
theorem i9_11 : zfetch 9 11 = some (1, .ifCond .ne 7, 3) := by decide +kernel
theorem i9_14 : zfetch 9 14 = some (1, .iload_n 2, 1) := by decide +kernel
theorem i9_15 : zfetch 9 15 = some (1, .goto 6, 3) := by decide +kernel
theorem i9_18 : zfetch 9 18 = some (1, .iconst 3, 1) := by decide +kernel
theorem i9_19 : zfetch 9 19 = some (1, .iload_n 2, 1) := by decide +kernel
theorem i9_20 : zfetch 9 20 = some (1, .iadd, 1) := by decide +kernel
theorem i9_21 : zfetch 9 21 = some (1, .caload, 1) := by decide +kernel
theorem i9_22 : zfetch 9 22 = some (1, .iload_n 0, 1) := by decide +kernel
theorem i9_23 : zfetch 9 23 = some (1, .if_icmp .ne 5, 3) := by decide +kernel
theorem i9_26 : zfetch 9 26 = some (1, .iload_n 2, 1) := by decide +kernel
theorem i9_27 : zfetch 9 27 = some (1, .ireturn, 1) := by decide +kernel
theorem i9_28 : zfetch 9 28 = some (1, .iinc 2 1, 3) := by decide +kernel
theorem i9_31 : zfetch 9 31 = some (1, .goto (-29), 3) := by decide +kernel
theorem i9_34 : zfetch 9 34 = some (1, .iconst (-1), 1) := by decide +kernel
theorem i9_35 : zfetch 9 35 = some (1, .ireturn, 1) := by decide +kernel
theorem i10_0 : zfetch 10 0 = some (1, .aload_n 0, 1) := by decide +kernel
theorem i10_1 : zfetch 10 1 = some (1, .iconst 0, 1) := by decide +kernel
theorem i10_2 : zfetch 10 2 = some (1, .putfield 28, 3) := by decide +kernel
theorem i10_5 : zfetch 10 5 = some (1, .aload_n 0, 1) := by decide +kernel
theorem i10_6 : zfetch 10 6 = some (1, .getfield 22, 3) := by decide +kernel
theorem i10_9 : zfetch 10 9 = some (1, .iconst 1, 1) := by decide +kernel
theorem i10_10 : zfetch 10 10 = some (1, .isub, 1) := by decide +kernel
theorem i10_11 : zfetch 10 11 = some (1, .istore_n 1, 1) := by decide +kernel
theorem i10_12 : zfetch 10 12 = some (1, .iload_n 1, 1) := by decide +kernel
theorem i10_13 : zfetch 10 13 = some (1, .ifCond .lt 47, 3) := by decide +kernel
theorem i10_16 : zfetch 10 16 = some (1, .aload_n 0, 1) := by decide +kernel
theorem i10_17 : zfetch 10 17 = some (1, .getfield 15, 3) := by decide +kernel
theorem i10_20 : zfetch 10 20 = some (1, .iload_n 1, 1) := by decide +kernel
theorem i10_21 : zfetch 10 21 = some (1, .iaload, 1) := by decide +kernel
theorem i10_22 : zfetch 10 22 = some (1, .bipush 33, 2) := by decide +kernel
theorem i10_24 : zfetch 10 24 = some (1, .if_icmp .ne 36, 3) := by decide +kernel
theorem i10_27 : zfetch 10 27 = some (1, .aload_n 0, 1) := by decide +kernel
theorem i10_28 : zfetch 10 28 = some (1, .sipush 20033, 3) := by decide +kernel
theorem i10_31 : zfetch 10 31 = some (1, .invokevirtual 60, 3) := by decide +kernel
theorem i10_34 : zfetch 10 34 = some (1, .aload_n 0, 1) := by decide +kernel
theorem i10_35 : zfetch 10 35 = some (1, .dup, 1) := by decide +kernel
theorem i10_36 : zfetch 10 36 = some (1, .getfield 22, 3) := by decide +kernel
theorem i10_39 : zfetch 10 39 = some (1, .iconst 1, 1) := by decide +kernel
theorem i10_40 : zfetch 10 40 = some (1, .isub, 1) := by decide +kernel
theorem i10_41 : zfetch 10 41 = some (1, .putfield 22, 3) := by decide +kernel
theorem i10_44 : zfetch 10 44 = some (1, .aload_n 0, 1) := by decide +kernel
theorem i10_45 : zfetch 10 45 = some (1, .dup, 1) := by decide +kernel
theorem i10_46 : zfetch 10 46 = some (1, .getfield 25, 3) := by decide +kernel
theorem i10_49 : zfetch 10 49 = some (1, .iconst 1, 1) := by decide +kernel
theorem i10_50 : zfetch 10 50 = some (1, .isub, 1) := by decide +kernel
theorem i10_51 : zfetch 10 51 = some (1, .putfield 25, 3) := by decide +kernel
theorem i10_54 : zfetch 10 54 = some (1, .iinc 1 (-1), 3) := by decide +kernel
theorem i10_57 : zfetch 10 57 = some (1, .goto (-45), 3) := by decide +kernel
theorem i10_60 : zfetch 10 60 = some (1, .return_, 1) := by decide +kernel
theorem i11_0 : zfetch 11 0 = some (1, .iload_n 1, 1) := by decide +kernel
theorem i11_1 : zfetch 11 1 = some (1, .bipush 41, 2) := by decide +kernel
theorem i11_3 : zfetch 11 3 = some (1, .if_icmp .ne 8, 3) := by decide +kernel
theorem i11_6 : zfetch 11 6 = some (1, .aload_n 0, 1) := by decide +kernel
theorem i11_7 : zfetch 11 7 = some (1, .invokevirtual 83, 3) := by decide +kernel
theorem i11_10 : zfetch 11 10 = some (1, .ireturn, 1) := by decide +kernel
theorem i11_11 : zfetch 11 11 = some (1, .iload_n 1, 1) := by decide +kernel
theorem i11_12 : zfetch 11 12 = some (1, .invokestatic 87, 3) := by decide +kernel
theorem i11_15 : zfetch 11 15 = some (1, .istore_n 2, 1) := by decide +kernel
theorem i11_16 : zfetch 11 16 = some (1, .iload_n 2, 1) := by decide +kernel
theorem i11_17 : zfetch 11 17 = some (1, .ifCond .ne 5, 3) := by decide +kernel
theorem i11_20 : zfetch 11 20 = some (1, .iconst 0, 1) := by decide +kernel
theorem i11_21 : zfetch 11 21 = some (1, .ireturn, 1) := by decide +kernel
theorem i11_22 : zfetch 11 22 = some (1, .iload_n 2, 1) := by decide +kernel
theorem i11_23 : zfetch 11 23 = some (1, .iconst 3, 1) := by decide +kernel
theorem i11_24 : zfetch 11 24 = some (1, .if_icmp .ne 35, 3) := by decide +kernel
theorem i11_27 : zfetch 11 27 = some (1, .aload_n 0, 1) := by decide +kernel
theorem i11_28 : zfetch 11 28 = some (1, .iconst 4, 1) := by decide +kernel
theorem i11_29 : zfetch 11 29 = some (1, .invokevirtual 46, 3) := by decide +kernel
theorem i11_32 : zfetch 11 32 = some (1, .aload_n 0, 1) := by decide +kernel
theorem i11_33 : zfetch 11 33 = some (1, .getfield 22, 3) := by decide +kernel
theorem i11_36 : zfetch 11 36 = some (1, .ifCond .le 28, 3) := by decide +kernel
theorem i11_39 : zfetch 11 39 = some (1, .aload_n 0, 1) := by decide +kernel
theorem i11_40 : zfetch 11 40 = some (1, .getfield 15, 3) := by decide +kernel
theorem i11_43 : zfetch 11 43 = some (1, .aload_n 0, 1) := by decide +kernel
theorem i11_44 : zfetch 11 44 = some (1, .getfield 22, 3) := by decide +kernel
theorem i11_47 : zfetch 11 47 = some (1, .iconst 1, 1) := by decide +kernel
theorem i11_48 : zfetch 11 48 = some (1, .isub, 1) := by decide +kernel
theorem i11_49 : zfetch 11 49 = some (1, .iaload, 1) := by decide +kernel
theorem i11_50 : zfetch 11 50 = some (1, .invokestatic 87, 3) := by decide +kernel
theorem i11_53 : zfetch 11 53 = some (1, .iconst 3, 1) := by decide +kernel
theorem i11_54 : zfetch 11 54 = some (1, .if_icmp .ne 10, 3) := by decide +kernel
theorem i11_57 : zfetch 11 57 = some (1, .iconst 0, 1) := by decide +kernel
theorem i11_58 : zfetch 11 58 = some (1, .ireturn, 1) := by decide +kernel
theorem i11_59 : zfetch 11 59 = some (1, .aload_n 0, 1) := by decide +kernel
theorem i11_60 : zfetch 11 60 = some (1, .iload_n 2, 1) := by decide +kernel
theorem i11_61 : zfetch 11 61 = some (1, .invokevirtual 46, 3) := by decide +kernel
theorem i11_64 : zfetch 11 64 = some (1, .aload_n 0, 1) := by decide +kernel
theorem i11_65 : zfetch 11 65 = some (1, .iload_n 1, 1) := by decide +kernel
theorem i11_66 : zfetch 11 66 = some (1, .invokevirtual 72, 3) := by decide +kernel
theorem i11_69 : zfetch 11 69 = some (1, .aload_n 0, 1) := by decide +kernel
theorem i11_70 : zfetch 11 70 = some (1, .iconst 1, 1) := by decide +kernel
theorem i11_71 : zfetch 11 71 = some (1, .putfield 28, 3) := by decide +kernel
theorem i11_74 : zfetch 11 74 = some (1, .iconst 1, 1) := by decide +kernel
theorem i11_75 : zfetch 11 75 = some (1, .ireturn, 1) := by decide +kernel
theorem i12_0 : zfetch 12 0 = some (1, .aload_n 0, 1) := by decide +kernel
theorem i12_1 : zfetch 12 1 = some (1, .iconst 1, 1) := by decide +kernel
theorem i12_2 : zfetch 12 2 = some (1, .invokevirtual 46, 3) := by decide +kernel
theorem i12_5 : zfetch 12 5 = some (1, .aload_n 0, 1) := by decide +kernel
theorem i12_6 : zfetch 12 6 = some (1, .getfield 22, 3) := by decide +kernel
theorem i12_9 : zfetch 12 9 = some (1, .ifCond .ne 5, 3) := by decide +kernel
theorem i12_12 : zfetch 12 12 = some (1, .iconst 0, 1) := by decide +kernel
theorem i12_13 : zfetch 12 13 = some (1, .ireturn, 1) := by decide +kernel
theorem i12_14 : zfetch 12 14 = some (1, .aload_n 0, 1) := by decide +kernel
theorem i12_15 : zfetch 12 15 = some (1, .dup, 1) := by decide +kernel
theorem i12_16 : zfetch 12 16 = some (1, .getfield 22, 3) := by decide +kernel
theorem i12_19 : zfetch 12 19 = some (1, .iconst 1, 1) := by decide +kernel
theorem i12_20 : zfetch 12 20 = some (1, .isub, 1) := by decide +kernel
theorem i12_21 : zfetch 12 21 = some (1, .putfield 22, 3) := by decide +kernel
theorem i12_24 : zfetch 12 24 = some (1, .aload_n 0, 1) := by decide +kernel
theorem i12_25 : zfetch 12 25 = some (1, .dup, 1) := by decide +kernel
theorem i12_26 : zfetch 12 26 = some (1, .getfield 25, 3) := by decide +kernel
theorem i12_29 : zfetch 12 29 = some (1, .iconst 1, 1) := by decide +kernel
theorem i12_30 : zfetch 12 30 = some (1, .isub, 1) := by decide +kernel
theorem i12_31 : zfetch 12 31 = some (1, .putfield 25, 3) := by decide +kernel
theorem i12_34 : zfetch 12 34 = some (1, .aload_n 0, 1) := by decide +kernel
theorem i12_35 : zfetch 12 35 = some (1, .invokevirtual 69, 3) := by decide +kernel
theorem i12_38 : zfetch 12 38 = some (1, .iconst 1, 1) := by decide +kernel
theorem i12_39 : zfetch 12 39 = some (1, .ireturn, 1) := by decide +kernel
theorem i13_0 : zfetch 13 0 = some (1, .aload_n 0, 1) := by decide +kernel
theorem i13_1 : zfetch 13 1 = some (1, .getfield 22, 3) := by decide +kernel
theorem i13_4 : zfetch 13 4 = some (1, .iconst 1, 1) := by decide +kernel
theorem i13_5 : zfetch 13 5 = some (1, .isub, 1) := by decide +kernel
theorem i13_6 : zfetch 13 6 = some (1, .istore_n 2, 1) := by decide +kernel
theorem i13_7 : zfetch 13 7 = some (1, .iload_n 2, 1) := by decide +kernel
theorem i13_8 : zfetch 13 8 = some (1, .ifCond .lt 46, 3) := by decide +kernel
theorem i13_11 : zfetch 13 11 = some (1, .aload_n 0, 1) := by decide +kernel
theorem i13_12 : zfetch 13 12 = some (1, .getfield 15, 3) := by decide +kernel
theorem i13_15 : zfetch 13 15 = some (1, .iload_n 2, 1) := by decide +kernel
theorem i13_16 : zfetch 13 16 = some (1, .iaload, 1) := by decide +kernel
theorem i13_17 : zfetch 13 17 = some (1, .invokestatic 87, 3) := by decide +kernel
theorem i13_20 : zfetch 13 20 = some (1, .iload_n 1, 1) := by decide +kernel
theorem i13_21 : zfetch 13 21 = some (1, .if_icmp .lt 33, 3) := by decide +kernel
theorem i13_24 : zfetch 13 24 = some (1, .aload_n 0, 1) := by decide +kernel
theorem i13_25 : zfetch 13 25 = some (1, .sipush 20000, 3) := by decide +kernel
theorem i13_28 : zfetch 13 28 = some (1, .aload_n 0, 1) := by decide +kernel
theorem i13_29 : zfetch 13 29 = some (1, .getfield 15, 3) := by decide +kernel
theorem i13_32 : zfetch 13 32 = some (1, .iload_n 2, 1) := by decide +kernel
theorem i13_33 : zfetch 13 33 = some (1, .iaload, 1) := by decide +kernel
theorem i13_34 : zfetch 13 34 = some (1, .iadd, 1) := by decide +kernel
theorem i13_35 : zfetch 13 35 = some (1, .invokevirtual 60, 3) := by decide +kernel
theorem i13_38 : zfetch 13 38 = some (1, .aload_n 0, 1) := by decide +kernel
theorem i13_39 : zfetch 13 39 = some (1, .dup, 1) := by decide +kernel
theorem i13_40 : zfetch 13 40 = some (1, .getfield 22, 3) := by decide +kernel
theorem i13_43 : zfetch 13 43 = some (1, .iconst 1, 1) := by decide +kernel
theorem i13_44 : zfetch 13 44 = some (1, .isub, 1) := by decide +kernel
theorem i13_45 : zfetch 13 45 = some (1, .putfield 22, 3) := by decide +kernel
theorem i13_48 : zfetch 13 48 = some (1, .iinc 2 (-1), 3) := by decide +kernel
theorem i13_51 : zfetch 13 51 = some (1, .goto (-44), 3) := by decide +kernel
theorem i13_54 : zfetch 13 54 = some (1, .return_, 1) := by decide +kernel
theorem i14_0 : zfetch 14 0 = some (1, .iload_n 0, 1) := by decide +kernel
theorem i14_1 : zfetch 14 1 = some (1, .lookupswitch 101 #[(37, 99), (38, 93), (42, 99), (43, 97), (45, 97), (47, 99), (60, 95), (61, 95), (62, 95), (124, 91)], 91) := by decide +kernel
theorem i14_92 : zfetch 14 92 = some (1, .iconst 1, 1) := by decide +kernel
theorem i14_93 : zfetch 14 93 = some (1, .ireturn, 1) := by decide +kernel
theorem i14_94 : zfetch 14 94 = some (1, .iconst 2, 1) := by decide +kernel
theorem i14_95 : zfetch 14 95 = some (1, .ireturn, 1) := by decide +kernel
theorem i14_96 : zfetch 14 96 = some (1, .iconst 3, 1) := by decide +kernel
theorem i14_97 : zfetch 14 97 = some (1, .ireturn, 1) := by decide +kernel
theorem i14_98 : zfetch 14 98 = some (1, .iconst 4, 1) := by decide +kernel
theorem i14_99 : zfetch 14 99 = some (1, .ireturn, 1) := by decide +kernel
theorem i14_100 : zfetch 14 100 = some (1, .iconst 5, 1) := by decide +kernel
theorem i14_101 : zfetch 14 101 = some (1, .ireturn, 1) := by decide +kernel
theorem i14_102 : zfetch 14 102 = some (1, .iconst 0, 1) := by decide +kernel
theorem i14_103 : zfetch 14 103 = some (1, .ireturn, 1) := by decide +kernel
theorem i15_0 : zfetch 15 0 = some (1, .aload_n 0, 1) := by decide +kernel
theorem i15_1 : zfetch 15 1 = some (1, .getfield 22, 3) := by decide +kernel
theorem i15_4 : zfetch 15 4 = some (1, .bipush 60, 2) := by decide +kernel
theorem i15_6 : zfetch 15 6 = some (1, .if_icmp .ge 23, 3) := by decide +kernel
theorem i15_9 : zfetch 15 9 = some (1, .aload_n 0, 1) := by decide +kernel
theorem i15_10 : zfetch 15 10 = some (1, .getfield 15, 3) := by decide +kernel
theorem i15_13 : zfetch 15 13 = some (1, .aload_n 0, 1) := by decide +kernel
theorem i15_14 : zfetch 15 14 = some (1, .getfield 22, 3) := by decide +kernel
theorem i15_17 : zfetch 15 17 = some (1, .iload_n 1, 1) := by decide +kernel
theorem i15_18 : zfetch 15 18 = some (1, .iastore, 1) := by decide +kernel
theorem i15_19 : zfetch 15 19 = some (1, .aload_n 0, 1) := by decide +kernel
theorem i15_20 : zfetch 15 20 = some (1, .dup, 1) := by decide +kernel
theorem i15_21 : zfetch 15 21 = some (1, .getfield 22, 3) := by decide +kernel
theorem i15_24 : zfetch 15 24 = some (1, .iconst 1, 1) := by decide +kernel
theorem i15_25 : zfetch 15 25 = some (1, .iadd, 1) := by decide +kernel
theorem i15_26 : zfetch 15 26 = some (1, .putfield 22, 3) := by decide +kernel
theorem i15_29 : zfetch 15 29 = some (1, .return_, 1) := by decide +kernel
theorem i16_0 : zfetch 16 0 = some (1, .aload_n 0, 1) := by decide +kernel
theorem i16_1 : zfetch 16 1 = some (1, .getfield 18, 3) := by decide +kernel
theorem i16_4 : zfetch 16 4 = some (1, .bipush 60, 2) := by decide +kernel
theorem i16_6 : zfetch 16 6 = some (1, .if_icmp .ge 23, 3) := by decide +kernel
theorem i16_9 : zfetch 16 9 = some (1, .aload_n 0, 1) := by decide +kernel
theorem i16_10 : zfetch 16 10 = some (1, .getfield 9, 3) := by decide +kernel
theorem i16_13 : zfetch 16 13 = some (1, .aload_n 0, 1) := by decide +kernel
theorem i16_14 : zfetch 16 14 = some (1, .getfield 18, 3) := by decide +kernel
theorem i16_17 : zfetch 16 17 = some (1, .iload_n 1, 1) := by decide +kernel
theorem i16_18 : zfetch 16 18 = some (1, .iastore, 1) := by decide +kernel
theorem i16_19 : zfetch 16 19 = some (1, .aload_n 0, 1) := by decide +kernel
theorem i16_20 : zfetch 16 20 = some (1, .dup, 1) := by decide +kernel
theorem i16_21 : zfetch 16 21 = some (1, .getfield 18, 3) := by decide +kernel
theorem i16_24 : zfetch 16 24 = some (1, .iconst 1, 1) := by decide +kernel
theorem i16_25 : zfetch 16 25 = some (1, .iadd, 1) := by decide +kernel
theorem i16_26 : zfetch 16 26 = some (1, .putfield 18, 3) := by decide +kernel
theorem i16_29 : zfetch 16 29 = some (1, .return_, 1) := by decide +kernel
theorem i17_0 : zfetch 17 0 = some (2, .aload_n 1, 1) := by decide +kernel
theorem i17_1 : zfetch 17 1 = some (2, .getfield 9, 3) := by decide +kernel
theorem i17_4 : zfetch 17 4 = some (2, .iconst 0, 1) := by decide +kernel
theorem i17_5 : zfetch 17 5 = some (2, .aload_n 0, 1) := by decide +kernel
theorem i17_6 : zfetch 17 6 = some (2, .getfield 9, 3) := by decide +kernel
theorem i17_9 : zfetch 17 9 = some (2, .iconst 0, 1) := by decide +kernel
theorem i17_10 : zfetch 17 10 = some (2, .bipush 8, 2) := by decide +kernel
theorem i17_12 : zfetch 17 12 = some (2, .invokestatic 47, 3) := by decide +kernel
theorem i17_15 : zfetch 17 15 = some (2, .aload_n 1, 1) := by decide +kernel
theorem i17_16 : zfetch 17 16 = some (2, .getfield 15, 3) := by decide +kernel
theorem i17_19 : zfetch 17 19 = some (2, .iconst 0, 1) := by decide +kernel
theorem i17_20 : zfetch 17 20 = some (2, .aload_n 0, 1) := by decide +kernel
theorem i17_21 : zfetch 17 21 = some (2, .getfield 15, 3) := by decide +kernel
theorem i17_24 : zfetch 17 24 = some (2, .iconst 0, 1) := by decide +kernel
theorem i17_25 : zfetch 17 25 = some (2, .bipush 8, 2) := by decide +kernel
theorem i17_27 : zfetch 17 27 = some (2, .invokestatic 47, 3) := by decide +kernel
theorem i17_30 : zfetch 17 30 = some (2, .aload_n 1, 1) := by decide +kernel
theorem i17_31 : zfetch 17 31 = some (2, .getfield 18, 3) := by decide +kernel
theorem i17_34 : zfetch 17 34 = some (2, .iconst 0, 1) := by decide +kernel
theorem i17_35 : zfetch 17 35 = some (2, .aload_n 0, 1) := by decide +kernel
theorem i17_36 : zfetch 17 36 = some (2, .getfield 18, 3) := by decide +kernel
theorem i17_39 : zfetch 17 39 = some (2, .iconst 0, 1) := by decide +kernel
theorem i17_40 : zfetch 17 40 = some (2, .bipush 8, 2) := by decide +kernel
theorem i17_42 : zfetch 17 42 = some (2, .invokestatic 47, 3) := by decide +kernel
theorem i17_45 : zfetch 17 45 = some (2, .aload_n 1, 1) := by decide +kernel
theorem i17_46 : zfetch 17 46 = some (2, .getfield 21, 3) := by decide +kernel
theorem i17_49 : zfetch 17 49 = some (2, .iconst 0, 1) := by decide +kernel
theorem i17_50 : zfetch 17 50 = some (2, .aload_n 0, 1) := by decide +kernel
theorem i17_51 : zfetch 17 51 = some (2, .getfield 21, 3) := by decide +kernel
theorem i17_54 : zfetch 17 54 = some (2, .iconst 0, 1) := by decide +kernel
theorem i17_55 : zfetch 17 55 = some (2, .bipush 8, 2) := by decide +kernel
theorem i17_57 : zfetch 17 57 = some (2, .invokestatic 47, 3) := by decide +kernel
theorem i17_60 : zfetch 17 60 = some (2, .aload_n 1, 1) := by decide +kernel
theorem i17_61 : zfetch 17 61 = some (2, .getfield 24, 3) := by decide +kernel
theorem i17_64 : zfetch 17 64 = some (2, .iconst 0, 1) := by decide +kernel
theorem i17_65 : zfetch 17 65 = some (2, .aload_n 0, 1) := by decide +kernel
theorem i17_66 : zfetch 17 66 = some (2, .getfield 24, 3) := by decide +kernel
theorem i17_69 : zfetch 17 69 = some (2, .iconst 0, 1) := by decide +kernel
theorem i17_70 : zfetch 17 70 = some (2, .bipush 8, 2) := by decide +kernel
theorem i17_72 : zfetch 17 72 = some (2, .invokestatic 47, 3) := by decide +kernel
theorem i17_75 : zfetch 17 75 = some (2, .aload_n 1, 1) := by decide +kernel
theorem i17_76 : zfetch 17 76 = some (2, .getfield 27, 3) := by decide +kernel
theorem i17_79 : zfetch 17 79 = some (2, .iconst 0, 1) := by decide +kernel
theorem i17_80 : zfetch 17 80 = some (2, .aload_n 0, 1) := by decide +kernel
theorem i17_81 : zfetch 17 81 = some (2, .getfield 27, 3) := by decide +kernel
theorem i17_84 : zfetch 17 84 = some (2, .iconst 0, 1) := by decide +kernel
theorem i17_85 : zfetch 17 85 = some (2, .bipush 8, 2) := by decide +kernel
theorem i17_87 : zfetch 17 87 = some (2, .invokestatic 47, 3) := by decide +kernel
theorem i17_90 : zfetch 17 90 = some (2, .aload_n 1, 1) := by decide +kernel
theorem i17_91 : zfetch 17 91 = some (2, .getfield 30, 3) := by decide +kernel
theorem i17_94 : zfetch 17 94 = some (2, .iconst 0, 1) := by decide +kernel
theorem i17_95 : zfetch 17 95 = some (2, .aload_n 0, 1) := by decide +kernel
theorem i17_96 : zfetch 17 96 = some (2, .getfield 30, 3) := by decide +kernel
theorem i17_99 : zfetch 17 99 = some (2, .iconst 0, 1) := by decide +kernel
theorem i17_100 : zfetch 17 100 = some (2, .bipush 6, 2) := by decide +kernel
theorem i17_102 : zfetch 17 102 = some (2, .invokestatic 47, 3) := by decide +kernel
theorem i17_105 : zfetch 17 105 = some (2, .aload_n 0, 1) := by decide +kernel
theorem i17_106 : zfetch 17 106 = some (2, .aload_n 1, 1) := by decide +kernel
theorem i17_107 : zfetch 17 107 = some (2, .getfield 53, 3) := by decide +kernel
theorem i17_110 : zfetch 17 110 = some (2, .putfield 53, 3) := by decide +kernel
theorem i17_113 : zfetch 17 113 = some (2, .aload_n 0, 1) := by decide +kernel
theorem i17_114 : zfetch 17 114 = some (2, .aload_n 1, 1) := by decide +kernel
theorem i17_115 : zfetch 17 115 = some (2, .getfield 56, 3) := by decide +kernel
theorem i17_118 : zfetch 17 118 = some (2, .putfield 56, 3) := by decide +kernel
theorem i17_121 : zfetch 17 121 = some (2, .aload_n 0, 1) := by decide +kernel
theorem i17_122 : zfetch 17 122 = some (2, .aload_n 1, 1) := by decide +kernel
theorem i17_123 : zfetch 17 123 = some (2, .getfield 59, 3) := by decide +kernel
theorem i17_126 : zfetch 17 126 = some (2, .putfield 59, 3) := by decide +kernel
theorem i17_129 : zfetch 17 129 = some (2, .aload_n 0, 1) := by decide +kernel
theorem i17_130 : zfetch 17 130 = some (2, .aload_n 1, 1) := by decide +kernel
theorem i17_131 : zfetch 17 131 = some (2, .getfield 33, 3) := by decide +kernel
theorem i17_134 : zfetch 17 134 = some (2, .putfield 33, 3) := by decide +kernel
theorem i17_137 : zfetch 17 137 = some (2, .return_, 1) := by decide +kernel
theorem i18_0 : zfetch 18 0 = some (2, .aload_n 0, 1) := by decide +kernel
theorem i18_1 : zfetch 18 1 = some (2, .getfield 53, 3) := by decide +kernel
theorem i18_4 : zfetch 18 4 = some (2, .istore 5, 2) := by decide +kernel
theorem i18_6 : zfetch 18 6 = some (2, .aload_n 0, 1) := by decide +kernel
theorem i18_7 : zfetch 18 7 = some (2, .getfield 9, 3) := by decide +kernel
theorem i18_10 : zfetch 18 10 = some (2, .iload 5, 2) := by decide +kernel
theorem i18_12 : zfetch 18 12 = some (2, .iload_n 1, 1) := by decide +kernel
theorem i18_13 : zfetch 18 13 = some (2, .bipush 10, 2) := by decide +kernel
theorem i18_15 : zfetch 18 15 = some (2, .idiv, 1) := by decide +kernel
theorem i18_16 : zfetch 18 16 = some (2, .iastore, 1) := by decide +kernel
theorem i18_17 : zfetch 18 17 = some (2, .aload_n 0, 1) := by decide +kernel
theorem i18_18 : zfetch 18 18 = some (2, .getfield 15, 3) := by decide +kernel
theorem i18_21 : zfetch 18 21 = some (2, .iload 5, 2) := by decide +kernel
theorem i18_23 : zfetch 18 23 = some (2, .iload_n 1, 1) := by decide +kernel
theorem i18_24 : zfetch 18 24 = some (2, .bipush 10, 2) := by decide +kernel
theorem i18_26 : zfetch 18 26 = some (2, .irem, 1) := by decide +kernel
theorem i18_27 : zfetch 18 27 = some (2, .iastore, 1) := by decide +kernel
theorem i18_28 : zfetch 18 28 = some (2, .aload_n 0, 1) := by decide +kernel
theorem i18_29 : zfetch 18 29 = some (2, .getfield 21, 3) := by decide +kernel
theorem i18_32 : zfetch 18 32 = some (2, .iload 5, 2) := by decide +kernel
theorem i18_34 : zfetch 18 34 = some (2, .iload_n 3, 1) := by decide +kernel
theorem i18_35 : zfetch 18 35 = some (2, .iastore, 1) := by decide +kernel
theorem i18_36 : zfetch 18 36 = some (2, .aload_n 0, 1) := by decide +kernel
theorem i18_37 : zfetch 18 37 = some (2, .getfield 18, 3) := by decide +kernel
theorem i18_40 : zfetch 18 40 = some (2, .iload 5, 2) := by decide +kernel
theorem i18_42 : zfetch 18 42 = some (2, .iload_n 2, 1) := by decide +kernel
theorem i18_43 : zfetch 18 43 = some (2, .iastore, 1) := by decide +kernel
theorem i18_44 : zfetch 18 44 = some (2, .aload_n 0, 1) := by decide +kernel
theorem i18_45 : zfetch 18 45 = some (2, .getfield 27, 3) := by decide +kernel
theorem i18_48 : zfetch 18 48 = some (2, .iload 5, 2) := by decide +kernel
theorem i18_50 : zfetch 18 50 = some (2, .iload_n 2, 1) := by decide +kernel
theorem i18_51 : zfetch 18 51 = some (2, .ifCond .lt 8, 3) := by decide +kernel
theorem i18_54 : zfetch 18 54 = some (2, .iload 4, 2) := by decide +kernel
theorem i18_56 : zfetch 18 56 = some (2, .goto 4, 3) := by decide +kernel
theorem i18_59 : zfetch 18 59 = some (2, .iconst 0, 1) := by decide +kernel
theorem i18_60 : zfetch 18 60 = some (2, .iastore, 1) := by decide +kernel
theorem i18_61 : zfetch 18 61 = some (2, .aload_n 0, 1) := by decide +kernel
theorem i18_62 : zfetch 18 62 = some (2, .getfield 24, 3) := by decide +kernel
theorem i18_65 : zfetch 18 65 = some (2, .iload 5, 2) := by decide +kernel
theorem i18_67 : zfetch 18 67 = some (2, .aload_n 0, 1) := by decide +kernel
theorem i18_68 : zfetch 18 68 = some (2, .iload 5, 2) := by decide +kernel
theorem i18_70 : zfetch 18 70 = some (2, .invokevirtual 62, 3) := by decide +kernel
theorem i18_73 : zfetch 18 73 = some (2, .iastore, 1) := by decide +kernel
theorem i18_74 : zfetch 18 74 = some (2, .aload_n 0, 1) := by decide +kernel
theorem i18_75 : zfetch 18 75 = some (2, .dup, 1) := by decide +kernel
theorem i18_76 : zfetch 18 76 = some (2, .getfield 53, 3) := by decide +kernel
theorem i18_79 : zfetch 18 79 = some (2, .iconst 1, 1) := by decide +kernel
theorem i18_80 : zfetch 18 80 = some (2, .iadd, 1) := by decide +kernel
theorem i18_81 : zfetch 18 81 = some (2, .putfield 53, 3) := by decide +kernel
theorem i18_84 : zfetch 18 84 = some (2, .iload 5, 2) := by decide +kernel
theorem i18_86 : zfetch 18 86 = some (2, .ireturn, 1) := by decide +kernel
theorem i19_0 : zfetch 19 0 = some (2, .aload_n 0, 1) := by decide +kernel
theorem i19_1 : zfetch 19 1 = some (2, .getfield 18, 3) := by decide +kernel
theorem i19_4 : zfetch 19 4 = some (2, .iload_n 1, 1) := by decide +kernel
theorem i19_5 : zfetch 19 5 = some (2, .iaload, 1) := by decide +kernel
theorem i19_6 : zfetch 19 6 = some (2, .ifCond .lt 7, 3) := by decide +kernel
theorem i19_9 : zfetch 19 9 = some (2, .iconst 1, 1) := by decide +kernel
theorem i19_10 : zfetch 19 10 = some (2, .goto 4, 3) := by decide +kernel
theorem i19_13 : zfetch 19 13 = some (2, .iconst 0, 1) := by decide +kernel
theorem i19_14 : zfetch 19 14 = some (2, .ireturn, 1) := by decide +kernel
theorem i20_0 : zfetch 20 0 = some (2, .iconst 0, 1) := by decide +kernel
theorem i20_1 : zfetch 20 1 = some (2, .istore_n 1, 1) := by decide +kernel
theorem i20_2 : zfetch 20 2 = some (2, .iconst 0, 1) := by decide +kernel
theorem i20_3 : zfetch 20 3 = some (2, .istore_n 2, 1) := by decide +kernel
theorem i20_4 : zfetch 20 4 = some (2, .iload_n 2, 1) := by decide +kernel
theorem i20_5 : zfetch 20 5 = some (2, .aload_n 0, 1) := by decide +kernel
theorem i20_6 : zfetch 20 6 = some (2, .getfield 53, 3) := by decide +kernel
theorem i20_9 : zfetch 20 9 = some (2, .if_icmp .ge 23, 3) := by decide +kernel
theorem i20_12 : zfetch 20 12 = some (2, .aload_n 0, 1) := by decide +kernel
theorem i20_13 : zfetch 20 13 = some (2, .iload_n 2, 1) := by decide +kernel
theorem i20_14 : zfetch 20 14 = some (2, .invokevirtual 66, 3) := by decide +kernel
theorem i20_17 : zfetch 20 17 = some (2, .ifCond .eq 9, 3) := by decide +kernel
theorem i20_20 : zfetch 20 20 = some (2, .iload_n 1, 1) := by decide +kernel
theorem i20_21 : zfetch 20 21 = some (2, .iconst 1, 1) := by decide +kernel
theorem i20_22 : zfetch 20 22 = some (2, .iload_n 2, 1) := by decide +kernel
theorem i20_23 : zfetch 20 23 = some (2, .ishl, 1) := by decide +kernel
theorem i20_24 : zfetch 20 24 = some (2, .ior, 1) := by decide +kernel
theorem i20_25 : zfetch 20 25 = some (2, .istore_n 1, 1) := by decide +kernel
theorem i20_26 : zfetch 20 26 = some (2, .iinc 2 1, 3) := by decide +kernel
theorem i20_29 : zfetch 20 29 = some (2, .goto (-25), 3) := by decide +kernel
theorem i20_32 : zfetch 20 32 = some (2, .iload_n 1, 1) := by decide +kernel
theorem i20_33 : zfetch 20 33 = some (2, .ireturn, 1) := by decide +kernel
theorem i21_0 : zfetch 21 0 = some (2, .aload_n 0, 1) := by decide +kernel
theorem i21_1 : zfetch 21 1 = some (2, .getfield 18, 3) := by decide +kernel
theorem i21_4 : zfetch 21 4 = some (2, .iload_n 1, 1) := by decide +kernel
theorem i21_5 : zfetch 21 5 = some (2, .iconst (-1), 1) := by decide +kernel
theorem i21_6 : zfetch 21 6 = some (2, .iastore, 1) := by decide +kernel
theorem i21_7 : zfetch 21 7 = some (2, .aload_n 0, 1) := by decide +kernel
theorem i21_8 : zfetch 21 8 = some (2, .getfield 24, 3) := by decide +kernel
theorem i21_11 : zfetch 21 11 = some (2, .iload_n 1, 1) := by decide +kernel
theorem i21_12 : zfetch 21 12 = some (2, .iconst 0, 1) := by decide +kernel
theorem i21_13 : zfetch 21 13 = some (2, .iastore, 1) := by decide +kernel
theorem i21_14 : zfetch 21 14 = some (2, .aload_n 0, 1) := by decide +kernel
theorem i21_15 : zfetch 21 15 = some (2, .getfield 27, 3) := by decide +kernel
theorem i21_18 : zfetch 21 18 = some (2, .iload_n 1, 1) := by decide +kernel
theorem i21_19 : zfetch 21 19 = some (2, .iconst 0, 1) := by decide +kernel
theorem i21_20 : zfetch 21 20 = some (2, .iastore, 1) := by decide +kernel
theorem i21_21 : zfetch 21 21 = some (2, .return_, 1) := by decide +kernel
theorem i22_0 : zfetch 22 0 = some (2, .aload_n 0, 1) := by decide +kernel
theorem i22_1 : zfetch 22 1 = some (2, .getfield 18, 3) := by decide +kernel
theorem i22_4 : zfetch 22 4 = some (2, .iload_n 1, 1) := by decide +kernel
theorem i22_5 : zfetch 22 5 = some (2, .iaload, 1) := by decide +kernel
theorem i22_6 : zfetch 22 6 = some (2, .istore_n 2, 1) := by decide +kernel
theorem i22_7 : zfetch 22 7 = some (2, .iload_n 2, 1) := by decide +kernel
theorem i22_8 : zfetch 22 8 = some (2, .ifCond .lt 22, 3) := by decide +kernel
theorem i22_11 : zfetch 22 11 = some (2, .aload_n 0, 1) := by decide +kernel
theorem i22_12 : zfetch 22 12 = some (2, .getfield 21, 3) := by decide +kernel
theorem i22_15 : zfetch 22 15 = some (2, .iload_n 1, 1) := by decide +kernel
theorem i22_16 : zfetch 22 16 = some (2, .iaload, 1) := by decide +kernel
theorem i22_17 : zfetch 22 17 = some (2, .aload_n 0, 1) := by decide +kernel
theorem i22_18 : zfetch 22 18 = some (2, .getfield 21, 3) := by decide +kernel
theorem i22_21 : zfetch 22 21 = some (2, .iload_n 2, 1) := by decide +kernel
theorem i22_22 : zfetch 22 22 = some (2, .iaload, 1) := by decide +kernel
theorem i22_23 : zfetch 22 23 = some (2, .isub, 1) := by decide +kernel
theorem i22_24 : zfetch 22 24 = some (2, .invokestatic 70, 3) := by decide +kernel
theorem i22_27 : zfetch 22 27 = some (2, .goto 4, 3) := by decide +kernel
theorem i22_30 : zfetch 22 30 = some (2, .iconst 0, 1) := by decide +kernel
theorem i22_31 : zfetch 22 31 = some (2, .ireturn, 1) := by decide +kernel
theorem i23_0 : zfetch 23 0 = some (2, .iconst 0, 1) := by decide +kernel
theorem i23_1 : zfetch 23 1 = some (2, .istore_n 2, 1) := by decide +kernel
theorem i23_2 : zfetch 23 2 = some (2, .iconst 0, 1) := by decide +kernel
theorem i23_3 : zfetch 23 3 = some (2, .istore_n 3, 1) := by decide +kernel
theorem i23_4 : zfetch 23 4 = some (2, .iload_n 3, 1) := by decide +kernel
theorem i23_5 : zfetch 23 5 = some (2, .aload_n 0, 1) := by decide +kernel
theorem i23_6 : zfetch 23 6 = some (2, .getfield 53, 3) := by decide +kernel
theorem i23_9 : zfetch 23 9 = some (2, .if_icmp .ge 15, 3) := by decide +kernel
theorem i23_12 : zfetch 23 12 = some (2, .iload_n 2, 1) := by decide +kernel
theorem i23_13 : zfetch 23 13 = some (2, .aload_n 1, 1) := by decide +kernel
theorem i23_14 : zfetch 23 14 = some (2, .iload_n 3, 1) := by decide +kernel
theorem i23_15 : zfetch 23 15 = some (2, .iaload, 1) := by decide +kernel
theorem i23_16 : zfetch 23 16 = some (2, .iadd, 1) := by decide +kernel
theorem i23_17 : zfetch 23 17 = some (2, .istore_n 2, 1) := by decide +kernel
theorem i23_18 : zfetch 23 18 = some (2, .iinc 3 1, 3) := by decide +kernel
theorem i23_21 : zfetch 23 21 = some (2, .goto (-17), 3) := by decide +kernel
theorem i23_24 : zfetch 23 24 = some (2, .iload_n 2, 1) := by decide +kernel
theorem i23_25 : zfetch 23 25 = some (2, .ireturn, 1) := by decide +kernel
theorem i24_0 : zfetch 24 0 = some (2, .iconst 0, 1) := by decide +kernel
theorem i24_1 : zfetch 24 1 = some (2, .istore_n 2, 1) := by decide +kernel
theorem i24_2 : zfetch 24 2 = some (2, .iload_n 1, 1) := by decide +kernel
theorem i24_3 : zfetch 24 3 = some (2, .istore_n 3, 1) := by decide +kernel
theorem i24_4 : zfetch 24 4 = some (2, .iconst 0, 1) := by decide +kernel
theorem i24_5 : zfetch 24 5 = some (2, .istore 4, 2) := by decide +kernel
theorem i24_7 : zfetch 24 7 = some (2, .iload 4, 2) := by decide +kernel
theorem i24_9 : zfetch 24 9 = some (2, .bipush 8, 2) := by decide +kernel
theorem i24_11 : zfetch 24 11 = some (2, .if_icmp .ge 26, 3) := by decide +kernel
theorem i24_14 : zfetch 24 14 = some (2, .iload_n 3, 1) := by decide +kernel
theorem i24_15 : zfetch 24 15 = some (2, .ifCond .lt 22, 3) := by decide +kernel
theorem i24_18 : zfetch 24 18 = some (2, .iload_n 2, 1) := by decide +kernel
theorem i24_19 : zfetch 24 19 = some (2, .iconst 1, 1) := by decide +kernel
theorem i24_20 : zfetch 24 20 = some (2, .iload_n 3, 1) := by decide +kernel
theorem i24_21 : zfetch 24 21 = some (2, .ishl, 1) := by decide +kernel
theorem i24_22 : zfetch 24 22 = some (2, .ior, 1) := by decide +kernel
theorem i24_23 : zfetch 24 23 = some (2, .istore_n 2, 1) := by decide +kernel
theorem i24_24 : zfetch 24 24 = some (2, .aload_n 0, 1) := by decide +kernel
theorem i24_25 : zfetch 24 25 = some (2, .getfield 18, 3) := by decide +kernel
theorem i24_28 : zfetch 24 28 = some (2, .iload_n 3, 1) := by decide +kernel
theorem i24_29 : zfetch 24 29 = some (2, .iaload, 1) := by decide +kernel
theorem i24_30 : zfetch 24 30 = some (2, .istore_n 3, 1) := by decide +kernel
theorem i24_31 : zfetch 24 31 = some (2, .iinc 4 1, 3) := by decide +kernel
theorem i24_34 : zfetch 24 34 = some (2, .goto (-27), 3) := by decide +kernel
theorem i24_37 : zfetch 24 37 = some (2, .iload_n 2, 1) := by decide +kernel
theorem i24_38 : zfetch 24 38 = some (2, .ireturn, 1) := by decide +kernel
theorem i25_0 : zfetch 25 0 = some (2, .iconst 0, 1) := by decide +kernel
theorem i25_1 : zfetch 25 1 = some (2, .istore_n 3, 1) := by decide +kernel
theorem i25_2 : zfetch 25 2 = some (2, .iload_n 1, 1) := by decide +kernel
theorem i25_3 : zfetch 25 3 = some (2, .istore 4, 2) := by decide +kernel
theorem i25_5 : zfetch 25 5 = some (2, .iconst 0, 1) := by decide +kernel
theorem i25_6 : zfetch 25 6 = some (2, .istore 5, 2) := by decide +kernel
theorem i25_8 : zfetch 25 8 = some (2, .iload 5, 2) := by decide +kernel
theorem i25_10 : zfetch 25 10 = some (2, .bipush 8, 2) := by decide +kernel
theorem i25_12 : zfetch 25 12 = some (2, .if_icmp .ge 42, 3) := by decide +kernel
theorem i25_15 : zfetch 25 15 = some (2, .iload 4, 2) := by decide +kernel
theorem i25_17 : zfetch 25 17 = some (2, .ifCond .lt 37, 3) := by decide +kernel
theorem i25_20 : zfetch 25 20 = some (2, .iload_n 2, 1) := by decide +kernel
theorem i25_21 : zfetch 25 21 = some (2, .iload 4, 2) := by decide +kernel
theorem i25_23 : zfetch 25 23 = some (2, .ishr, 1) := by decide +kernel
theorem i25_24 : zfetch 25 24 = some (2, .iconst 1, 1) := by decide +kernel
theorem i25_25 : zfetch 25 25 = some (2, .iand, 1) := by decide +kernel
theorem i25_26 : zfetch 25 26 = some (2, .ifCond .ne 28, 3) := by decide +kernel
theorem i25_29 : zfetch 25 29 = some (2, .iload_n 3, 1) := by decide +kernel
theorem i25_30 : zfetch 25 30 = some (2, .aload_n 0, 1) := by decide +kernel
theorem i25_31 : zfetch 25 31 = some (2, .getfield 24, 3) := by decide +kernel
theorem i25_34 : zfetch 25 34 = some (2, .iload 4, 2) := by decide +kernel
theorem i25_36 : zfetch 25 36 = some (2, .iaload, 1) := by decide +kernel
theorem i25_37 : zfetch 25 37 = some (2, .iadd, 1) := by decide +kernel
theorem i25_38 : zfetch 25 38 = some (2, .istore_n 3, 1) := by decide +kernel
theorem i25_39 : zfetch 25 39 = some (2, .aload_n 0, 1) := by decide +kernel
theorem i25_40 : zfetch 25 40 = some (2, .getfield 18, 3) := by decide +kernel
theorem i25_43 : zfetch 25 43 = some (2, .iload 4, 2) := by decide +kernel
theorem i25_45 : zfetch 25 45 = some (2, .iaload, 1) := by decide +kernel
theorem i25_46 : zfetch 25 46 = some (2, .istore 4, 2) := by decide +kernel
theorem i25_48 : zfetch 25 48 = some (2, .iinc 5 1, 3) := by decide +kernel
theorem i25_51 : zfetch 25 51 = some (2, .goto (-43), 3) := by decide +kernel
theorem i25_54 : zfetch 25 54 = some (2, .iload_n 3, 1) := by decide +kernel
theorem i25_55 : zfetch 25 55 = some (2, .ireturn, 1) := by decide +kernel
theorem i26_0 : zfetch 26 0 = some (2, .aload_n 0, 1) := by decide +kernel
theorem i26_1 : zfetch 26 1 = some (2, .getfield 18, 3) := by decide +kernel
theorem i26_4 : zfetch 26 4 = some (2, .iload_n 1, 1) := by decide +kernel
theorem i26_5 : zfetch 26 5 = some (2, .iaload, 1) := by decide +kernel
theorem i26_6 : zfetch 26 6 = some (2, .istore_n 2, 1) := by decide +kernel
theorem i26_7 : zfetch 26 7 = some (2, .iload_n 2, 1) := by decide +kernel
theorem i26_8 : zfetch 26 8 = some (2, .ifCond .lt 21, 3) := by decide +kernel
theorem i26_11 : zfetch 26 11 = some (2, .aload_n 0, 1) := by decide +kernel
theorem i26_12 : zfetch 26 12 = some (2, .getfield 21, 3) := by decide +kernel
theorem i26_15 : zfetch 26 15 = some (2, .iload_n 1, 1) := by decide +kernel
theorem i26_16 : zfetch 26 16 = some (2, .iaload, 1) := by decide +kernel
theorem i26_17 : zfetch 26 17 = some (2, .aload_n 0, 1) := by decide +kernel
theorem i26_18 : zfetch 26 18 = some (2, .getfield 21, 3) := by decide +kernel
theorem i26_21 : zfetch 26 21 = some (2, .iload_n 2, 1) := by decide +kernel
theorem i26_22 : zfetch 26 22 = some (2, .iaload, 1) := by decide +kernel
theorem i26_23 : zfetch 26 23 = some (2, .invokestatic 75, 3) := by decide +kernel
theorem i26_26 : zfetch 26 26 = some (2, .goto 9, 3) := by decide +kernel
theorem i26_29 : zfetch 26 29 = some (2, .aload_n 0, 1) := by decide +kernel
theorem i26_30 : zfetch 26 30 = some (2, .getfield 21, 3) := by decide +kernel
theorem i26_33 : zfetch 26 33 = some (2, .iload_n 1, 1) := by decide +kernel
theorem i26_34 : zfetch 26 34 = some (2, .iaload, 1) := by decide +kernel
theorem i26_35 : zfetch 26 35 = some (2, .ireturn, 1) := by decide +kernel
theorem i27_0 : zfetch 27 0 = some (2, .aload_n 0, 1) := by decide +kernel
theorem i27_1 : zfetch 27 1 = some (2, .iload_n 1, 1) := by decide +kernel
theorem i27_2 : zfetch 27 2 = some (2, .invokevirtual 79, 3) := by decide +kernel
theorem i27_5 : zfetch 27 5 = some (2, .aload_n 0, 1) := by decide +kernel
theorem i27_6 : zfetch 27 6 = some (2, .iload_n 1, 1) := by decide +kernel
theorem i27_7 : zfetch 27 7 = some (2, .invokevirtual 62, 3) := by decide +kernel
theorem i27_10 : zfetch 27 10 = some (2, .iadd, 1) := by decide +kernel
theorem i27_11 : zfetch 27 11 = some (2, .ireturn, 1) := by decide +kernel
theorem i28_0 : zfetch 28 0 = some (2, .iconst 0, 1) := by decide +kernel
theorem i28_1 : zfetch 28 1 = some (2, .istore_n 2, 1) := by decide +kernel
theorem i28_2 : zfetch 28 2 = some (2, .iconst 0, 1) := by decide +kernel
theorem i28_3 : zfetch 28 3 = some (2, .istore_n 3, 1) := by decide +kernel
theorem i28_4 : zfetch 28 4 = some (2, .iload_n 3, 1) := by decide +kernel
theorem i28_5 : zfetch 28 5 = some (2, .aload_n 0, 1) := by decide +kernel
theorem i28_6 : zfetch 28 6 = some (2, .getfield 53, 3) := by decide +kernel
theorem i28_9 : zfetch 28 9 = some (2, .if_icmp .ge 41, 3) := by decide +kernel
theorem i28_12 : zfetch 28 12 = some (2, .aload_n 0, 1) := by decide +kernel
theorem i28_13 : zfetch 28 13 = some (2, .iload_n 3, 1) := by decide +kernel
theorem i28_14 : zfetch 28 14 = some (2, .invokevirtual 66, 3) := by decide +kernel
theorem i28_17 : zfetch 28 17 = some (2, .ifCond .eq 27, 3) := by decide +kernel
theorem i28_20 : zfetch 28 20 = some (2, .aload_n 0, 1) := by decide +kernel
theorem i28_21 : zfetch 28 21 = some (2, .iload_n 3, 1) := by decide +kernel
theorem i28_22 : zfetch 28 22 = some (2, .invokevirtual 79, 3) := by decide +kernel
theorem i28_25 : zfetch 28 25 = some (2, .iload_n 1, 1) := by decide +kernel
theorem i28_26 : zfetch 28 26 = some (2, .if_icmp .gt 18, 3) := by decide +kernel
theorem i28_29 : zfetch 28 29 = some (2, .iload_n 1, 1) := by decide +kernel
theorem i28_30 : zfetch 28 30 = some (2, .aload_n 0, 1) := by decide +kernel
theorem i28_31 : zfetch 28 31 = some (2, .iload_n 3, 1) := by decide +kernel
theorem i28_32 : zfetch 28 32 = some (2, .invokevirtual 82, 3) := by decide +kernel
theorem i28_35 : zfetch 28 35 = some (2, .if_icmp .gt 9, 3) := by decide +kernel
theorem i28_38 : zfetch 28 38 = some (2, .iload_n 2, 1) := by decide +kernel
theorem i28_39 : zfetch 28 39 = some (2, .iconst 1, 1) := by decide +kernel
theorem i28_40 : zfetch 28 40 = some (2, .iload_n 3, 1) := by decide +kernel
theorem i28_41 : zfetch 28 41 = some (2, .ishl, 1) := by decide +kernel
theorem i28_42 : zfetch 28 42 = some (2, .ior, 1) := by decide +kernel
theorem i28_43 : zfetch 28 43 = some (2, .istore_n 2, 1) := by decide +kernel
theorem i28_44 : zfetch 28 44 = some (2, .iinc 3 1, 3) := by decide +kernel
theorem i28_47 : zfetch 28 47 = some (2, .goto (-43), 3) := by decide +kernel
theorem i28_50 : zfetch 28 50 = some (2, .iload_n 2, 1) := by decide +kernel
theorem i28_51 : zfetch 28 51 = some (2, .ireturn, 1) := by decide +kernel
theorem i29_0 : zfetch 29 0 = some (2, .aload_n 0, 1) := by decide +kernel
theorem i29_1 : zfetch 29 1 = some (2, .iload_n 1, 1) := by decide +kernel
theorem i29_2 : zfetch 29 2 = some (2, .invokevirtual 66, 3) := by decide +kernel
theorem i29_5 : zfetch 29 5 = some (2, .ifCond .eq 11, 3) := by decide +kernel
theorem i29_8 : zfetch 29 8 = some (2, .aload_n 0, 1) := by decide +kernel
theorem i29_9 : zfetch 29 9 = some (2, .iload_n 2, 1) := by decide +kernel
theorem i29_10 : zfetch 29 10 = some (2, .invokevirtual 66, 3) := by decide +kernel
theorem i29_13 : zfetch 29 13 = some (2, .ifCond .ne 5, 3) := by decide +kernel
theorem i29_16 : zfetch 29 16 = some (2, .iconst 0, 1) := by decide +kernel
theorem i29_17 : zfetch 29 17 = some (2, .ireturn, 1) := by decide +kernel
theorem i29_18 : zfetch 29 18 = some (2, .aload_n 0, 1) := by decide +kernel
theorem i29_19 : zfetch 29 19 = some (2, .iload_n 1, 1) := by decide +kernel
theorem i29_20 : zfetch 29 20 = some (2, .invokevirtual 79, 3) := by decide +kernel
theorem i29_23 : zfetch 29 23 = some (2, .aload_n 0, 1) := by decide +kernel
theorem i29_24 : zfetch 29 24 = some (2, .iload_n 2, 1) := by decide +kernel
theorem i29_25 : zfetch 29 25 = some (2, .invokevirtual 79, 3) := by decide +kernel
theorem i29_28 : zfetch 29 28 = some (2, .if_icmp .ge 33, 3) := by decide +kernel
theorem i29_31 : zfetch 29 31 = some (2, .aload_n 0, 1) := by decide +kernel
theorem i29_32 : zfetch 29 32 = some (2, .iload_n 2, 1) := by decide +kernel
theorem i29_33 : zfetch 29 33 = some (2, .invokevirtual 79, 3) := by decide +kernel
theorem i29_36 : zfetch 29 36 = some (2, .aload_n 0, 1) := by decide +kernel
theorem i29_37 : zfetch 29 37 = some (2, .iload_n 1, 1) := by decide +kernel
theorem i29_38 : zfetch 29 38 = some (2, .invokevirtual 82, 3) := by decide +kernel
theorem i29_41 : zfetch 29 41 = some (2, .if_icmp .ge 20, 3) := by decide +kernel
theorem i29_44 : zfetch 29 44 = some (2, .aload_n 0, 1) := by decide +kernel
theorem i29_45 : zfetch 29 45 = some (2, .iload_n 1, 1) := by decide +kernel
theorem i29_46 : zfetch 29 46 = some (2, .invokevirtual 82, 3) := by decide +kernel
theorem i29_49 : zfetch 29 49 = some (2, .aload_n 0, 1) := by decide +kernel
theorem i29_50 : zfetch 29 50 = some (2, .iload_n 2, 1) := by decide +kernel
theorem i29_51 : zfetch 29 51 = some (2, .invokevirtual 82, 3) := by decide +kernel
theorem i29_54 : zfetch 29 54 = some (2, .if_icmp .ge 7, 3) := by decide +kernel
theorem i29_57 : zfetch 29 57 = some (2, .iconst 1, 1) := by decide +kernel
theorem i29_58 : zfetch 29 58 = some (2, .goto 4, 3) := by decide +kernel
theorem i29_61 : zfetch 29 61 = some (2, .iconst 0, 1) := by decide +kernel
theorem i29_62 : zfetch 29 62 = some (2, .istore_n 3, 1) := by decide +kernel
theorem i29_63 : zfetch 29 63 = some (2, .aload_n 0, 1) := by decide +kernel
theorem i29_64 : zfetch 29 64 = some (2, .iload_n 2, 1) := by decide +kernel
theorem i29_65 : zfetch 29 65 = some (2, .invokevirtual 79, 3) := by decide +kernel
theorem i29_68 : zfetch 29 68 = some (2, .aload_n 0, 1) := by decide +kernel
theorem i29_69 : zfetch 29 69 = some (2, .iload_n 1, 1) := by decide +kernel
theorem i29_70 : zfetch 29 70 = some (2, .invokevirtual 79, 3) := by decide +kernel
theorem i29_73 : zfetch 29 73 = some (2, .if_icmp .ge 33, 3) := by decide +kernel
theorem i29_76 : zfetch 29 76 = some (2, .aload_n 0, 1) := by decide +kernel
theorem i29_77 : zfetch 29 77 = some (2, .iload_n 1, 1) := by decide +kernel
theorem i29_78 : zfetch 29 78 = some (2, .invokevirtual 79, 3) := by decide +kernel
theorem i29_81 : zfetch 29 81 = some (2, .aload_n 0, 1) := by decide +kernel
theorem i29_82 : zfetch 29 82 = some (2, .iload_n 2, 1) := by decide +kernel
theorem i29_83 : zfetch 29 83 = some (2, .invokevirtual 82, 3) := by decide +kernel
theorem i29_86 : zfetch 29 86 = some (2, .if_icmp .ge 20, 3) := by decide +kernel
theorem i29_89 : zfetch 29 89 = some (2, .aload_n 0, 1) := by decide +kernel
theorem i29_90 : zfetch 29 90 = some (2, .iload_n 2, 1) := by decide +kernel
theorem i29_91 : zfetch 29 91 = some (2, .invokevirtual 82, 3) := by decide +kernel
theorem i29_94 : zfetch 29 94 = some (2, .aload_n 0, 1) := by decide +kernel
theorem i29_95 : zfetch 29 95 = some (2, .iload_n 1, 1) := by decide +kernel
theorem i29_96 : zfetch 29 96 = some (2, .invokevirtual 82, 3) := by decide +kernel
theorem i29_99 : zfetch 29 99 = some (2, .if_icmp .ge 7, 3) := by decide +kernel
theorem i29_102 : zfetch 29 102 = some (2, .iconst 1, 1) := by decide +kernel
theorem i29_103 : zfetch 29 103 = some (2, .goto 4, 3) := by decide +kernel
theorem i29_106 : zfetch 29 106 = some (2, .iconst 0, 1) := by decide +kernel
theorem i29_107 : zfetch 29 107 = some (2, .istore 4, 2) := by decide +kernel
theorem i29_109 : zfetch 29 109 = some (2, .iload_n 3, 1) := by decide +kernel
theorem i29_110 : zfetch 29 110 = some (2, .ifCond .ne 8, 3) := by decide +kernel
theorem i29_113 : zfetch 29 113 = some (2, .iload 4, 2) := by decide +kernel
theorem i29_115 : zfetch 29 115 = some (2, .ifCond .eq 7, 3) := by decide +kernel
theorem i29_118 : zfetch 29 118 = some (2, .iconst 1, 1) := by decide +kernel
theorem i29_119 : zfetch 29 119 = some (2, .goto 4, 3) := by decide +kernel
theorem i29_122 : zfetch 29 122 = some (2, .iconst 0, 1) := by decide +kernel
theorem i29_123 : zfetch 29 123 = some (2, .ireturn, 1) := by decide +kernel
theorem i30_0 : zfetch 30 0 = some (2, .aload_n 0, 1) := by decide +kernel
theorem i30_1 : zfetch 30 1 = some (2, .getfield 40, 3) := by decide +kernel
theorem i30_4 : zfetch 30 4 = some (2, .aload_n 0, 1) := by decide +kernel
theorem i30_5 : zfetch 30 5 = some (2, .iload_n 1, 1) := by decide +kernel
theorem i30_6 : zfetch 30 6 = some (2, .invokevirtual 85, 3) := by decide +kernel
theorem i30_9 : zfetch 30 9 = some (2, .aload_n 0, 1) := by decide +kernel
theorem i30_10 : zfetch 30 10 = some (2, .getfield 27, 3) := by decide +kernel
theorem i30_13 : zfetch 30 13 = some (2, .iload_n 1, 1) := by decide +kernel
theorem i30_14 : zfetch 30 14 = some (2, .iaload, 1) := by decide +kernel
theorem i30_15 : zfetch 30 15 = some (2, .aload_n 0, 1) := by decide +kernel
theorem i30_16 : zfetch 30 16 = some (2, .getfield 56, 3) := by decide +kernel
theorem i30_19 : zfetch 30 19 = some (2, .bipush 8, 2) := by decide +kernel
theorem i30_21 : zfetch 30 21 = some (2, .irem, 1) := by decide +kernel
theorem i30_22 : zfetch 30 22 = some (2, .invokevirtual 88, 3) := by decide +kernel
theorem i30_25 : zfetch 30 25 = some (2, .ireturn, 1) := by decide +kernel
theorem i31_0 : zfetch 31 0 = some (2, .aload_n 0, 1) := by decide +kernel
theorem i31_1 : zfetch 31 1 = some (2, .getfield 44, 3) := by decide +kernel
theorem i31_4 : zfetch 31 4 = some (2, .aload_n 0, 1) := by decide +kernel
theorem i31_5 : zfetch 31 5 = some (2, .iload_n 1, 1) := by decide +kernel
theorem i31_6 : zfetch 31 6 = some (2, .invokevirtual 94, 3) := by decide +kernel
theorem i31_9 : zfetch 31 9 = some (2, .aload_n 0, 1) := by decide +kernel
theorem i31_10 : zfetch 31 10 = some (2, .getfield 24, 3) := by decide +kernel
theorem i31_13 : zfetch 31 13 = some (2, .iload_n 1, 1) := by decide +kernel
theorem i31_14 : zfetch 31 14 = some (2, .iaload, 1) := by decide +kernel
theorem i31_15 : zfetch 31 15 = some (2, .aload_n 0, 1) := by decide +kernel
theorem i31_16 : zfetch 31 16 = some (2, .getfield 56, 3) := by decide +kernel
theorem i31_19 : zfetch 31 19 = some (2, .bipush 8, 2) := by decide +kernel
theorem i31_21 : zfetch 31 21 = some (2, .irem, 1) := by decide +kernel
theorem i31_22 : zfetch 31 22 = some (2, .invokevirtual 88, 3) := by decide +kernel
theorem i31_25 : zfetch 31 25 = some (2, .ireturn, 1) := by decide +kernel
theorem i32_0 : zfetch 32 0 = some (2, .aload_n 0, 1) := by decide +kernel
theorem i32_1 : zfetch 32 1 = some (2, .getfield 9, 3) := by decide +kernel
theorem i32_4 : zfetch 32 4 = some (2, .iload_n 1, 1) := by decide +kernel
theorem i32_5 : zfetch 32 5 = some (2, .iaload, 1) := by decide +kernel
theorem i32_6 : zfetch 32 6 = some (2, .tableswitch 100 0 5 #[38, 40, 42, 57, 59, 73], 38) := by decide +kernel
theorem i32_44 : zfetch 32 44 = some (2, .iconst 0, 1) := by decide +kernel
theorem i32_45 : zfetch 32 45 = some (2, .ireturn, 1) := by decide +kernel
theorem i32_46 : zfetch 32 46 = some (2, .iconst 1, 1) := by decide +kernel
theorem i32_47 : zfetch 32 47 = some (2, .ireturn, 1) := by decide +kernel
theorem i32_48 : zfetch 32 48 = some (2, .aload_n 0, 1) := by decide +kernel
theorem i32_49 : zfetch 32 49 = some (2, .getfield 27, 3) := by decide +kernel
theorem i32_52 : zfetch 32 52 = some (2, .iload_n 1, 1) := by decide +kernel
theorem i32_53 : zfetch 32 53 = some (2, .iaload, 1) := by decide +kernel
theorem i32_54 : zfetch 32 54 = some (2, .ifCond .le 7, 3) := by decide +kernel
theorem i32_57 : zfetch 32 57 = some (2, .iconst 3, 1) := by decide +kernel
theorem i32_58 : zfetch 32 58 = some (2, .goto 4, 3) := by decide +kernel
theorem i32_61 : zfetch 32 61 = some (2, .iconst 0, 1) := by decide +kernel
theorem i32_62 : zfetch 32 62 = some (2, .ireturn, 1) := by decide +kernel
theorem i32_63 : zfetch 32 63 = some (2, .iconst 2, 1) := by decide +kernel
theorem i32_64 : zfetch 32 64 = some (2, .ireturn, 1) := by decide +kernel
theorem i32_65 : zfetch 32 65 = some (2, .aload_n 0, 1) := by decide +kernel
theorem i32_66 : zfetch 32 66 = some (2, .iload_n 1, 1) := by decide +kernel
theorem i32_67 : zfetch 32 67 = some (2, .invokevirtual 97, 3) := by decide +kernel
theorem i32_70 : zfetch 32 70 = some (2, .ifCond .eq 7, 3) := by decide +kernel
theorem i32_73 : zfetch 32 73 = some (2, .iconst 0, 1) := by decide +kernel
theorem i32_74 : zfetch 32 74 = some (2, .goto 4, 3) := by decide +kernel
theorem i32_77 : zfetch 32 77 = some (2, .iconst 1, 1) := by decide +kernel
theorem i32_78 : zfetch 32 78 = some (2, .ireturn, 1) := by decide +kernel
theorem i32_79 : zfetch 32 79 = some (2, .aload_n 0, 1) := by decide +kernel
theorem i32_80 : zfetch 32 80 = some (2, .getfield 15, 3) := by decide +kernel
theorem i32_83 : zfetch 32 83 = some (2, .iload_n 1, 1) := by decide +kernel
theorem i32_84 : zfetch 32 84 = some (2, .iaload, 1) := by decide +kernel
theorem i32_85 : zfetch 32 85 = some (2, .iconst 4, 1) := by decide +kernel
theorem i32_86 : zfetch 32 86 = some (2, .if_icmp .gt 5, 3) := by decide +kernel
theorem i32_89 : zfetch 32 89 = some (2, .iconst 2, 1) := by decide +kernel
theorem i32_90 : zfetch 32 90 = some (2, .ireturn, 1) := by decide +kernel
theorem i32_91 : zfetch 32 91 = some (2, .aload_n 0, 1) := by decide +kernel
theorem i32_92 : zfetch 32 92 = some (2, .getfield 27, 3) := by decide +kernel
theorem i32_95 : zfetch 32 95 = some (2, .iload_n 1, 1) := by decide +kernel
theorem i32_96 : zfetch 32 96 = some (2, .iaload, 1) := by decide +kernel
theorem i32_97 : zfetch 32 97 = some (2, .ifCond .le 7, 3) := by decide +kernel
theorem i32_100 : zfetch 32 100 = some (2, .iconst 3, 1) := by decide +kernel
theorem i32_101 : zfetch 32 101 = some (2, .goto 4, 3) := by decide +kernel
theorem i32_104 : zfetch 32 104 = some (2, .iconst 0, 1) := by decide +kernel
theorem i32_105 : zfetch 32 105 = some (2, .ireturn, 1) := by decide +kernel
theorem i32_106 : zfetch 32 106 = some (2, .aload_n 0, 1) := by decide +kernel
theorem i32_107 : zfetch 32 107 = some (2, .getfield 56, 3) := by decide +kernel
theorem i32_110 : zfetch 32 110 = some (2, .aload_n 0, 1) := by decide +kernel
theorem i32_111 : zfetch 32 111 = some (2, .getfield 15, 3) := by decide +kernel
theorem i32_114 : zfetch 32 114 = some (2, .iload_n 1, 1) := by decide +kernel
theorem i32_115 : zfetch 32 115 = some (2, .iaload, 1) := by decide +kernel
theorem i32_116 : zfetch 32 116 = some (2, .iadd, 1) := by decide +kernel
theorem i32_117 : zfetch 32 117 = some (2, .iconst 4, 1) := by decide +kernel
theorem i32_118 : zfetch 32 118 = some (2, .irem, 1) := by decide +kernel
theorem i32_119 : zfetch 32 119 = some (2, .ireturn, 1) := by decide +kernel
theorem i33_0 : zfetch 33 0 = some (2, .iload_n 1, 1) := by decide +kernel
theorem i33_1 : zfetch 33 1 = some (2, .iconst 1, 1) := by decide +kernel
theorem i33_2 : zfetch 33 2 = some (2, .iadd, 1) := by decide +kernel
theorem i33_3 : zfetch 33 3 = some (2, .istore_n 2, 1) := by decide +kernel
theorem i33_4 : zfetch 33 4 = some (2, .iload_n 2, 1) := by decide +kernel
theorem i33_5 : zfetch 33 5 = some (2, .aload_n 0, 1) := by decide +kernel
theorem i33_6 : zfetch 33 6 = some (2, .getfield 53, 3) := by decide +kernel
theorem i33_9 : zfetch 33 9 = some (2, .if_icmp .ge 21, 3) := by decide +kernel
theorem i33_12 : zfetch 33 12 = some (2, .aload_n 0, 1) := by decide +kernel
theorem i33_13 : zfetch 33 13 = some (2, .getfield 18, 3) := by decide +kernel
theorem i33_16 : zfetch 33 16 = some (2, .iload_n 2, 1) := by decide +kernel
theorem i33_17 : zfetch 33 17 = some (2, .iaload, 1) := by decide +kernel
theorem i33_18 : zfetch 33 18 = some (2, .iload_n 1, 1) := by decide +kernel
theorem i33_19 : zfetch 33 19 = some (2, .if_icmp .ne 5, 3) := by decide +kernel
theorem i33_22 : zfetch 33 22 = some (2, .iconst 1, 1) := by decide +kernel
theorem i33_23 : zfetch 33 23 = some (2, .ireturn, 1) := by decide +kernel
theorem i33_24 : zfetch 33 24 = some (2, .iinc 2 1, 3) := by decide +kernel
theorem i33_27 : zfetch 33 27 = some (2, .goto (-23), 3) := by decide +kernel
theorem i33_30 : zfetch 33 30 = some (2, .iconst 0, 1) := by decide +kernel
theorem i33_31 : zfetch 33 31 = some (2, .ireturn, 1) := by decide +kernel
theorem i34_0 : zfetch 34 0 = some (2, .aload_n 0, 1) := by decide +kernel
theorem i34_1 : zfetch 34 1 = some (2, .getfield 9, 3) := by decide +kernel
theorem i34_4 : zfetch 34 4 = some (2, .iload_n 1, 1) := by decide +kernel
theorem i34_5 : zfetch 34 5 = some (2, .iaload, 1) := by decide +kernel
theorem i34_6 : zfetch 34 6 = some (2, .tableswitch 78 0 5 #[38, 40, 49, 51, 60, 76], 38) := by decide +kernel
theorem i34_44 : zfetch 34 44 = some (2, .iconst 2, 1) := by decide +kernel
theorem i34_45 : zfetch 34 45 = some (2, .ireturn, 1) := by decide +kernel
theorem i34_46 : zfetch 34 46 = some (2, .iconst 2, 1) := by decide +kernel
theorem i34_47 : zfetch 34 47 = some (2, .aload_n 0, 1) := by decide +kernel
theorem i34_48 : zfetch 34 48 = some (2, .getfield 56, 3) := by decide +kernel
theorem i34_51 : zfetch 34 51 = some (2, .iconst 2, 1) := by decide +kernel
theorem i34_52 : zfetch 34 52 = some (2, .irem, 1) := by decide +kernel
theorem i34_53 : zfetch 34 53 = some (2, .iadd, 1) := by decide +kernel
theorem i34_54 : zfetch 34 54 = some (2, .ireturn, 1) := by decide +kernel
theorem i34_55 : zfetch 34 55 = some (2, .iconst 1, 1) := by decide +kernel
theorem i34_56 : zfetch 34 56 = some (2, .ireturn, 1) := by decide +kernel
theorem i34_57 : zfetch 34 57 = some (2, .aload_n 0, 1) := by decide +kernel
theorem i34_58 : zfetch 34 58 = some (2, .getfield 15, 3) := by decide +kernel
theorem i34_61 : zfetch 34 61 = some (2, .iload_n 1, 1) := by decide +kernel
theorem i34_62 : zfetch 34 62 = some (2, .iaload, 1) := by decide +kernel
theorem i34_63 : zfetch 34 63 = some (2, .iconst 5, 1) := by decide +kernel
theorem i34_64 : zfetch 34 64 = some (2, .idiv, 1) := by decide +kernel
theorem i34_65 : zfetch 34 65 = some (2, .ireturn, 1) := by decide +kernel
theorem i34_66 : zfetch 34 66 = some (2, .iconst 2, 1) := by decide +kernel
theorem i34_67 : zfetch 34 67 = some (2, .aload_n 0, 1) := by decide +kernel
theorem i34_68 : zfetch 34 68 = some (2, .getfield 56, 3) := by decide +kernel
theorem i34_71 : zfetch 34 71 = some (2, .iconst 2, 1) := by decide +kernel
theorem i34_72 : zfetch 34 72 = some (2, .irem, 1) := by decide +kernel
theorem i34_73 : zfetch 34 73 = some (2, .iadd, 1) := by decide +kernel
theorem i34_74 : zfetch 34 74 = some (2, .aload_n 0, 1) := by decide +kernel
theorem i34_75 : zfetch 34 75 = some (2, .getfield 15, 3) := by decide +kernel
theorem i34_78 : zfetch 34 78 = some (2, .iload_n 1, 1) := by decide +kernel
theorem i34_79 : zfetch 34 79 = some (2, .iaload, 1) := by decide +kernel
theorem i34_80 : zfetch 34 80 = some (2, .iadd, 1) := by decide +kernel
theorem i34_81 : zfetch 34 81 = some (2, .ireturn, 1) := by decide +kernel
theorem i34_82 : zfetch 34 82 = some (2, .iconst 4, 1) := by decide +kernel
theorem i34_83 : zfetch 34 83 = some (2, .ireturn, 1) := by decide +kernel
theorem i34_84 : zfetch 34 84 = some (2, .iconst 1, 1) := by decide +kernel
theorem i34_85 : zfetch 34 85 = some (2, .ireturn, 1) := by decide +kernel
theorem i35_0 : zfetch 35 0 = some (2, .iconst 0, 1) := by decide +kernel
theorem i35_1 : zfetch 35 1 = some (2, .istore_n 2, 1) := by decide +kernel
theorem i35_2 : zfetch 35 2 = some (2, .iload_n 2, 1) := by decide +kernel
theorem i35_3 : zfetch 35 3 = some (2, .iload_n 1, 1) := by decide +kernel
theorem i35_4 : zfetch 35 4 = some (2, .if_icmp .ge 13, 3) := by decide +kernel
theorem i35_7 : zfetch 35 7 = some (2, .aload_n 0, 1) := by decide +kernel
theorem i35_8 : zfetch 35 8 = some (2, .invokevirtual 100, 3) := by decide +kernel
theorem i35_11 : zfetch 35 11 = some (2, .iinc 2 1, 3) := by decide +kernel
theorem i35_14 : zfetch 35 14 = some (2, .goto (-12), 3) := by decide +kernel
theorem i35_17 : zfetch 35 17 = some (2, .return_, 1) := by decide +kernel
theorem i36_0 : zfetch 36 0 = some (2, .aload_n 0, 1) := by decide +kernel
theorem i36_1 : zfetch 36 1 = some (2, .getfield 30, 3) := by decide +kernel
theorem i36_4 : zfetch 36 4 = some (2, .aload_n 0, 1) := by decide +kernel
theorem i36_5 : zfetch 36 5 = some (2, .getfield 56, 3) := by decide +kernel
theorem i36_8 : zfetch 36 8 = some (2, .bipush 6, 2) := by decide +kernel
theorem i36_10 : zfetch 36 10 = some (2, .irem, 1) := by decide +kernel
theorem i36_11 : zfetch 36 11 = some (2, .iaload, 1) := by decide +kernel
theorem i36_12 : zfetch 36 12 = some (2, .istore_n 1, 1) := by decide +kernel
theorem i36_13 : zfetch 36 13 = some (2, .iload_n 1, 1) := by decide +kernel
theorem i36_14 : zfetch 36 14 = some (2, .bipush 10, 2) := by decide +kernel
theorem i36_16 : zfetch 36 16 = some (2, .idiv, 1) := by decide +kernel
theorem i36_17 : zfetch 36 17 = some (2, .istore_n 2, 1) := by decide +kernel
theorem i36_18 : zfetch 36 18 = some (2, .iload_n 2, 1) := by decide +kernel
theorem i36_19 : zfetch 36 19 = some (2, .aload_n 0, 1) := by decide +kernel
theorem i36_20 : zfetch 36 20 = some (2, .getfield 53, 3) := by decide +kernel
theorem i36_23 : zfetch 36 23 = some (2, .if_icmp .ge 43, 3) := by decide +kernel
theorem i36_26 : zfetch 36 26 = some (2, .aload_n 0, 1) := by decide +kernel
theorem i36_27 : zfetch 36 27 = some (2, .iload_n 2, 1) := by decide +kernel
theorem i36_28 : zfetch 36 28 = some (2, .invokevirtual 103, 3) := by decide +kernel
theorem i36_31 : zfetch 36 31 = some (2, .istore_n 3, 1) := by decide +kernel
theorem i36_32 : zfetch 36 32 = some (2, .iconst 1, 1) := by decide +kernel
theorem i36_33 : zfetch 36 33 = some (2, .istore 4, 2) := by decide +kernel
theorem i36_35 : zfetch 36 35 = some (2, .iconst 0, 1) := by decide +kernel
theorem i36_36 : zfetch 36 36 = some (2, .istore 5, 2) := by decide +kernel
theorem i36_38 : zfetch 36 38 = some (2, .iload 5, 2) := by decide +kernel
theorem i36_40 : zfetch 36 40 = some (2, .iload_n 3, 1) := by decide +kernel
theorem i36_41 : zfetch 36 41 = some (2, .if_icmp .ge 25, 3) := by decide +kernel
theorem i36_44 : zfetch 36 44 = some (2, .iload 4, 2) := by decide +kernel
theorem i36_46 : zfetch 36 46 = some (2, .ifCond .eq 20, 3) := by decide +kernel
theorem i36_49 : zfetch 36 49 = some (2, .aload_n 0, 1) := by decide +kernel
theorem i36_50 : zfetch 36 50 = some (2, .iload_n 2, 1) := by decide +kernel
theorem i36_51 : zfetch 36 51 = some (2, .iload_n 1, 1) := by decide +kernel
theorem i36_52 : zfetch 36 52 = some (2, .bipush 10, 2) := by decide +kernel
theorem i36_54 : zfetch 36 54 = some (2, .irem, 1) := by decide +kernel
theorem i36_55 : zfetch 36 55 = some (2, .invokevirtual 106, 3) := by decide +kernel
theorem i36_58 : zfetch 36 58 = some (2, .istore 4, 2) := by decide +kernel
theorem i36_60 : zfetch 36 60 = some (2, .iinc 5 1, 3) := by decide +kernel
theorem i36_63 : zfetch 36 63 = some (2, .goto (-25), 3) := by decide +kernel
theorem i36_66 : zfetch 36 66 = some (2, .aload_n 0, 1) := by decide +kernel
theorem i36_67 : zfetch 36 67 = some (2, .dup, 1) := by decide +kernel
theorem i36_68 : zfetch 36 68 = some (2, .getfield 56, 3) := by decide +kernel
theorem i36_71 : zfetch 36 71 = some (2, .iconst 1, 1) := by decide +kernel
theorem i36_72 : zfetch 36 72 = some (2, .iadd, 1) := by decide +kernel
theorem i36_73 : zfetch 36 73 = some (2, .putfield 56, 3) := by decide +kernel
theorem i36_76 : zfetch 36 76 = some (2, .return_, 1) := by decide +kernel
theorem i37_0 : zfetch 37 0 = some (2, .aload_n 0, 1) := by decide +kernel
theorem i37_1 : zfetch 37 1 = some (2, .invokevirtual 110, 3) := by decide +kernel
theorem i37_4 : zfetch 37 4 = some (2, .bipush 8, 2) := by decide +kernel
theorem i37_6 : zfetch 37 6 = some (2, .irem, 1) := by decide +kernel
theorem i37_7 : zfetch 37 7 = some (2, .istore_n 1, 1) := by decide +kernel
theorem i37_8 : zfetch 37 8 = some (2, .aload_n 0, 1) := by decide +kernel
theorem i37_9 : zfetch 37 9 = some (2, .invokevirtual 110, 3) := by decide +kernel
theorem i37_12 : zfetch 37 12 = some (2, .iconst 2, 1) := by decide +kernel
theorem i37_13 : zfetch 37 13 = some (2, .irem, 1) := by decide +kernel
theorem i37_14 : zfetch 37 14 = some (2, .istore_n 2, 1) := by decide +kernel
theorem i37_15 : zfetch 37 15 = some (2, .aload_n 0, 1) := by decide +kernel
theorem i37_16 : zfetch 37 16 = some (2, .getfield 30, 3) := by decide +kernel
theorem i37_19 : zfetch 37 19 = some (2, .aload_n 0, 1) := by decide +kernel
theorem i37_20 : zfetch 37 20 = some (2, .getfield 56, 3) := by decide +kernel
theorem i37_23 : zfetch 37 23 = some (2, .bipush 6, 2) := by decide +kernel
theorem i37_25 : zfetch 37 25 = some (2, .irem, 1) := by decide +kernel
theorem i37_26 : zfetch 37 26 = some (2, .bipush 10, 2) := by decide +kernel
theorem i37_28 : zfetch 37 28 = some (2, .iload_n 1, 1) := by decide +kernel
theorem i37_29 : zfetch 37 29 = some (2, .imul, 1) := by decide +kernel
theorem i37_30 : zfetch 37 30 = some (2, .iload_n 2, 1) := by decide +kernel
theorem i37_31 : zfetch 37 31 = some (2, .iadd, 1) := by decide +kernel
theorem i37_32 : zfetch 37 32 = some (2, .iastore, 1) := by decide +kernel
theorem i37_33 : zfetch 37 33 = some (2, .return_, 1) := by decide +kernel
theorem i38_0 : zfetch 38 0 = some (2, .aload_n 0, 1) := by decide +kernel
theorem i38_1 : zfetch 38 1 = some (2, .aload_n 0, 1) := by decide +kernel
theorem i38_2 : zfetch 38 2 = some (2, .getfield 33, 3) := by decide +kernel
theorem i38_5 : zfetch 38 5 = some (2, .ldc 114, 2) := by decide +kernel
theorem i38_7 : zfetch 38 7 = some (2, .imul, 1) := by decide +kernel
theorem i38_8 : zfetch 38 8 = some (2, .sipush 12345, 3) := by decide +kernel
theorem i38_11 : zfetch 38 11 = some (2, .iadd, 1) := by decide +kernel
theorem i38_12 : zfetch 38 12 = some (2, .putfield 33, 3) := by decide +kernel
theorem i38_15 : zfetch 38 15 = some (2, .aload_n 0, 1) := by decide +kernel
theorem i38_16 : zfetch 38 16 = some (2, .getfield 33, 3) := by decide +kernel
theorem i38_19 : zfetch 38 19 = some (2, .bipush 8, 2) := by decide +kernel
theorem i38_21 : zfetch 38 21 = some (2, .iushr, 1) := by decide +kernel
theorem i38_22 : zfetch 38 22 = some (2, .ireturn, 1) := by decide +kernel
theorem i39_0 : zfetch 39 0 = some (2, .iload_n 2, 1) := by decide +kernel
theorem i39_1 : zfetch 39 1 = some (2, .ifCond .ne 14, 3) := by decide +kernel
theorem i39_4 : zfetch 39 4 = some (2, .aload_n 0, 1) := by decide +kernel
theorem i39_5 : zfetch 39 5 = some (2, .getfield 21, 3) := by decide +kernel
theorem i39_8 : zfetch 39 8 = some (2, .iload_n 1, 1) := by decide +kernel
theorem i39_9 : zfetch 39 9 = some (2, .iaload, 1) := by decide +kernel
theorem i39_10 : zfetch 39 10 = some (2, .iconst 1, 1) := by decide +kernel
theorem i39_11 : zfetch 39 11 = some (2, .isub, 1) := by decide +kernel
theorem i39_12 : zfetch 39 12 = some (2, .goto 11, 3) := by decide +kernel
theorem i39_15 : zfetch 39 15 = some (2, .aload_n 0, 1) := by decide +kernel
theorem i39_16 : zfetch 39 16 = some (2, .getfield 21, 3) := by decide +kernel
theorem i39_19 : zfetch 39 19 = some (2, .iload_n 1, 1) := by decide +kernel
theorem i39_20 : zfetch 39 20 = some (2, .iaload, 1) := by decide +kernel
theorem i39_21 : zfetch 39 21 = some (2, .iconst 1, 1) := by decide +kernel
theorem i39_22 : zfetch 39 22 = some (2, .iadd, 1) := by decide +kernel
theorem i39_23 : zfetch 39 23 = some (2, .istore_n 3, 1) := by decide +kernel
theorem i39_24 : zfetch 39 24 = some (2, .iload_n 3, 1) := by decide +kernel
theorem i39_25 : zfetch 39 25 = some (2, .ifCond .lt 9, 3) := by decide +kernel
theorem i39_28 : zfetch 39 28 = some (2, .iload_n 3, 1) := by decide +kernel
theorem i39_29 : zfetch 39 29 = some (2, .bipush 63, 2) := by decide +kernel
theorem i39_31 : zfetch 39 31 = some (2, .if_icmp .le 5, 3) := by decide +kernel
theorem i39_34 : zfetch 39 34 = some (2, .iconst 0, 1) := by decide +kernel
theorem i39_35 : zfetch 39 35 = some (2, .ireturn, 1) := by decide +kernel
theorem i39_36 : zfetch 39 36 = some (2, .aload_n 0, 1) := by decide +kernel
theorem i39_37 : zfetch 39 37 = some (2, .invokevirtual 115, 3) := by decide +kernel
theorem i39_40 : zfetch 39 40 = some (2, .aload_n 0, 1) := by decide +kernel
theorem i39_41 : zfetch 39 41 = some (2, .getfield 21, 3) := by decide +kernel
theorem i39_44 : zfetch 39 44 = some (2, .iload_n 1, 1) := by decide +kernel
theorem i39_45 : zfetch 39 45 = some (2, .iload_n 3, 1) := by decide +kernel
theorem i39_46 : zfetch 39 46 = some (2, .iastore, 1) := by decide +kernel
theorem i39_47 : zfetch 39 47 = some (2, .aload_n 0, 1) := by decide +kernel
theorem i39_48 : zfetch 39 48 = some (2, .iconst 1, 1) := by decide +kernel
theorem i39_49 : zfetch 39 49 = some (2, .iload_n 1, 1) := by decide +kernel
theorem i39_50 : zfetch 39 50 = some (2, .ishl, 1) := by decide +kernel
theorem i39_51 : zfetch 39 51 = some (2, .putfield 118, 3) := by decide +kernel
theorem i39_54 : zfetch 39 54 = some (2, .iconst 0, 1) := by decide +kernel
theorem i39_55 : zfetch 39 55 = some (2, .istore 4, 2) := by decide +kernel
theorem i39_57 : zfetch 39 57 = some (2, .iload 4, 2) := by decide +kernel
theorem i39_59 : zfetch 39 59 = some (2, .sipush 10000, 3) := by decide +kernel
theorem i39_62 : zfetch 39 62 = some (2, .if_icmp .ge 90, 3) := by decide +kernel
theorem i39_65 : zfetch 39 65 = some (2, .aload_n 0, 1) := by decide +kernel
theorem i39_66 : zfetch 39 66 = some (2, .invokevirtual 121, 3) := by decide +kernel
theorem i39_69 : zfetch 39 69 = some (2, .istore 5, 2) := by decide +kernel
theorem i39_71 : zfetch 39 71 = some (2, .iload 5, 2) := by decide +kernel
theorem i39_73 : zfetch 39 73 = some (2, .ifCond .ge 5, 3) := by decide +kernel
theorem i39_76 : zfetch 39 76 = some (2, .iconst 1, 1) := by decide +kernel
theorem i39_77 : zfetch 39 77 = some (2, .ireturn, 1) := by decide +kernel
theorem i39_78 : zfetch 39 78 = some (2, .aload_n 0, 1) := by decide +kernel
theorem i39_79 : zfetch 39 79 = some (2, .getfield 27, 3) := by decide +kernel
theorem i39_82 : zfetch 39 82 = some (2, .iload 5, 2) := by decide +kernel
theorem i39_84 : zfetch 39 84 = some (2, .iaload, 1) := by decide +kernel
theorem i39_85 : zfetch 39 85 = some (2, .ifCond .le 14, 3) := by decide +kernel
theorem i39_88 : zfetch 39 88 = some (2, .aload_n 0, 1) := by decide +kernel
theorem i39_89 : zfetch 39 89 = some (2, .iload 5, 2) := by decide +kernel
theorem i39_91 : zfetch 39 91 = some (2, .iload 5, 2) := by decide +kernel
theorem i39_93 : zfetch 39 93 = some (2, .invokevirtual 124, 3) := by decide +kernel
theorem i39_96 : zfetch 39 96 = some (2, .goto 50, 3) := by decide +kernel
theorem i39_99 : zfetch 39 99 = some (2, .aload_n 0, 1) := by decide +kernel
theorem i39_100 : zfetch 39 100 = some (2, .iload 5, 2) := by decide +kernel
theorem i39_102 : zfetch 39 102 = some (2, .invokevirtual 128, 3) := by decide +kernel
theorem i39_105 : zfetch 39 105 = some (2, .istore 6, 2) := by decide +kernel
theorem i39_107 : zfetch 39 107 = some (2, .iload 6, 2) := by decide +kernel
theorem i39_109 : zfetch 39 109 = some (2, .ifCond .ge 7, 3) := by decide +kernel
theorem i39_112 : zfetch 39 112 = some (2, .iconst 1, 1) := by decide +kernel
theorem i39_113 : zfetch 39 113 = some (2, .goto 9, 3) := by decide +kernel
theorem i39_116 : zfetch 39 116 = some (2, .aload_n 0, 1) := by decide +kernel
theorem i39_117 : zfetch 39 117 = some (2, .iload 6, 2) := by decide +kernel
theorem i39_119 : zfetch 39 119 = some (2, .invokevirtual 131, 3) := by decide +kernel
theorem i39_122 : zfetch 39 122 = some (2, .istore 7, 2) := by decide +kernel
theorem i39_124 : zfetch 39 124 = some (2, .iload 7, 2) := by decide +kernel
theorem i39_126 : zfetch 39 126 = some (2, .iconst 2, 1) := by decide +kernel
theorem i39_127 : zfetch 39 127 = some (2, .if_icmp .ne 9, 3) := by decide +kernel
theorem i39_130 : zfetch 39 130 = some (2, .aload_n 0, 1) := by decide +kernel
theorem i39_131 : zfetch 39 131 = some (2, .invokevirtual 134, 3) := by decide +kernel
theorem i39_134 : zfetch 39 134 = some (2, .iconst 0, 1) := by decide +kernel
theorem i39_135 : zfetch 39 135 = some (2, .ireturn, 1) := by decide +kernel
theorem i39_136 : zfetch 39 136 = some (2, .aload_n 0, 1) := by decide +kernel
theorem i39_137 : zfetch 39 137 = some (2, .iload 5, 2) := by decide +kernel
theorem i39_139 : zfetch 39 139 = some (2, .iload 6, 2) := by decide +kernel
theorem i39_141 : zfetch 39 141 = some (2, .iload 7, 2) := by decide +kernel
theorem i39_143 : zfetch 39 143 = some (2, .invokevirtual 137, 3) := by decide +kernel
theorem i39_146 : zfetch 39 146 = some (2, .iinc 4 1, 3) := by decide +kernel
theorem i39_149 : zfetch 39 149 = some (2, .goto (-92), 3) := by decide +kernel
theorem i39_152 : zfetch 39 152 = some (2, .iconst 1, 1) := by decide +kernel
theorem i39_153 : zfetch 39 153 = some (2, .ireturn, 1) := by decide +kernel
theorem i40_0 : zfetch 40 0 = some (2, .aload_n 0, 1) := by decide +kernel
theorem i40_1 : zfetch 40 1 = some (2, .getfield 18, 3) := by decide +kernel
theorem i40_4 : zfetch 40 4 = some (2, .iconst 0, 1) := by decide +kernel
theorem i40_5 : zfetch 40 5 = some (2, .aload_n 0, 1) := by decide +kernel
theorem i40_6 : zfetch 40 6 = some (2, .getfield 37, 3) := by decide +kernel
theorem i40_9 : zfetch 40 9 = some (2, .iconst 0, 1) := by decide +kernel
theorem i40_10 : zfetch 40 10 = some (2, .bipush 8, 2) := by decide +kernel
theorem i40_12 : zfetch 40 12 = some (2, .invokestatic 47, 3) := by decide +kernel
theorem i40_15 : zfetch 40 15 = some (2, .aload_n 0, 1) := by decide +kernel
theorem i40_16 : zfetch 40 16 = some (2, .getfield 21, 3) := by decide +kernel
theorem i40_19 : zfetch 40 19 = some (2, .iconst 0, 1) := by decide +kernel
theorem i40_20 : zfetch 40 20 = some (2, .aload_n 0, 1) := by decide +kernel
theorem i40_21 : zfetch 40 21 = some (2, .getfield 37, 3) := by decide +kernel
theorem i40_24 : zfetch 40 24 = some (2, .bipush 8, 2) := by decide +kernel
theorem i40_26 : zfetch 40 26 = some (2, .bipush 8, 2) := by decide +kernel
theorem i40_28 : zfetch 40 28 = some (2, .invokestatic 47, 3) := by decide +kernel
theorem i40_31 : zfetch 40 31 = some (2, .aload_n 0, 1) := by decide +kernel
theorem i40_32 : zfetch 40 32 = some (2, .getfield 24, 3) := by decide +kernel
theorem i40_35 : zfetch 40 35 = some (2, .iconst 0, 1) := by decide +kernel
theorem i40_36 : zfetch 40 36 = some (2, .aload_n 0, 1) := by decide +kernel
theorem i40_37 : zfetch 40 37 = some (2, .getfield 37, 3) := by decide +kernel
theorem i40_40 : zfetch 40 40 = some (2, .bipush 16, 2) := by decide +kernel
theorem i40_42 : zfetch 40 42 = some (2, .bipush 8, 2) := by decide +kernel
theorem i40_44 : zfetch 40 44 = some (2, .invokestatic 47, 3) := by decide +kernel
theorem i40_47 : zfetch 40 47 = some (2, .aload_n 0, 1) := by decide +kernel
theorem i40_48 : zfetch 40 48 = some (2, .getfield 27, 3) := by decide +kernel
theorem i40_51 : zfetch 40 51 = some (2, .iconst 0, 1) := by decide +kernel
theorem i40_52 : zfetch 40 52 = some (2, .aload_n 0, 1) := by decide +kernel
theorem i40_53 : zfetch 40 53 = some (2, .getfield 37, 3) := by decide +kernel
theorem i40_56 : zfetch 40 56 = some (2, .bipush 24, 2) := by decide +kernel
theorem i40_58 : zfetch 40 58 = some (2, .bipush 8, 2) := by decide +kernel
theorem i40_60 : zfetch 40 60 = some (2, .invokestatic 47, 3) := by decide +kernel
theorem i40_63 : zfetch 40 63 = some (2, .aload_n 0, 1) := by decide +kernel
theorem i40_64 : zfetch 40 64 = some (2, .getfield 37, 3) := by decide +kernel
theorem i40_67 : zfetch 40 67 = some (2, .bipush 32, 2) := by decide +kernel
theorem i40_69 : zfetch 40 69 = some (2, .aload_n 0, 1) := by decide +kernel
theorem i40_70 : zfetch 40 70 = some (2, .getfield 59, 3) := by decide +kernel
theorem i40_73 : zfetch 40 73 = some (2, .iastore, 1) := by decide +kernel
theorem i40_74 : zfetch 40 74 = some (2, .return_, 1) := by decide +kernel
theorem i41_0 : zfetch 41 0 = some (2, .aload_n 0, 1) := by decide +kernel
theorem i41_1 : zfetch 41 1 = some (2, .getfield 37, 3) := by decide +kernel
theorem i41_4 : zfetch 41 4 = some (2, .iconst 0, 1) := by decide +kernel
theorem i41_5 : zfetch 41 5 = some (2, .aload_n 0, 1) := by decide +kernel
theorem i41_6 : zfetch 41 6 = some (2, .getfield 18, 3) := by decide +kernel
theorem i41_9 : zfetch 41 9 = some (2, .iconst 0, 1) := by decide +kernel
theorem i41_10 : zfetch 41 10 = some (2, .bipush 8, 2) := by decide +kernel
theorem i41_12 : zfetch 41 12 = some (2, .invokestatic 47, 3) := by decide +kernel
theorem i41_15 : zfetch 41 15 = some (2, .aload_n 0, 1) := by decide +kernel
theorem i41_16 : zfetch 41 16 = some (2, .getfield 37, 3) := by decide +kernel
theorem i41_19 : zfetch 41 19 = some (2, .bipush 8, 2) := by decide +kernel
theorem i41_21 : zfetch 41 21 = some (2, .aload_n 0, 1) := by decide +kernel
theorem i41_22 : zfetch 41 22 = some (2, .getfield 21, 3) := by decide +kernel
theorem i41_25 : zfetch 41 25 = some (2, .iconst 0, 1) := by decide +kernel
theorem i41_26 : zfetch 41 26 = some (2, .bipush 8, 2) := by decide +kernel
theorem i41_28 : zfetch 41 28 = some (2, .invokestatic 47, 3) := by decide +kernel
theorem i41_31 : zfetch 41 31 = some (2, .aload_n 0, 1) := by decide +kernel
theorem i41_32 : zfetch 41 32 = some (2, .getfield 37, 3) := by decide +kernel
theorem i41_35 : zfetch 41 35 = some (2, .bipush 16, 2) := by decide +kernel
theorem i41_37 : zfetch 41 37 = some (2, .aload_n 0, 1) := by decide +kernel
theorem i41_38 : zfetch 41 38 = some (2, .getfield 24, 3) := by decide +kernel
theorem i41_41 : zfetch 41 41 = some (2, .iconst 0, 1) := by decide +kernel
theorem i41_42 : zfetch 41 42 = some (2, .bipush 8, 2) := by decide +kernel
theorem i41_44 : zfetch 41 44 = some (2, .invokestatic 47, 3) := by decide +kernel
theorem i41_47 : zfetch 41 47 = some (2, .aload_n 0, 1) := by decide +kernel
theorem i41_48 : zfetch 41 48 = some (2, .getfield 37, 3) := by decide +kernel
theorem i41_51 : zfetch 41 51 = some (2, .bipush 24, 2) := by decide +kernel
theorem i41_53 : zfetch 41 53 = some (2, .aload_n 0, 1) := by decide +kernel
theorem i41_54 : zfetch 41 54 = some (2, .getfield 27, 3) := by decide +kernel
theorem i41_57 : zfetch 41 57 = some (2, .iconst 0, 1) := by decide +kernel
theorem i41_58 : zfetch 41 58 = some (2, .bipush 8, 2) := by decide +kernel
theorem i41_60 : zfetch 41 60 = some (2, .invokestatic 47, 3) := by decide +kernel
theorem i41_63 : zfetch 41 63 = some (2, .aload_n 0, 1) := by decide +kernel
theorem i41_64 : zfetch 41 64 = some (2, .aload_n 0, 1) := by decide +kernel
theorem i41_65 : zfetch 41 65 = some (2, .getfield 37, 3) := by decide +kernel
theorem i41_68 : zfetch 41 68 = some (2, .bipush 32, 2) := by decide +kernel
theorem i41_70 : zfetch 41 70 = some (2, .iaload, 1) := by decide +kernel
theorem i41_71 : zfetch 41 71 = some (2, .putfield 59, 3) := by decide +kernel
theorem i41_74 : zfetch 41 74 = some (2, .return_, 1) := by decide +kernel
theorem i42_0 : zfetch 42 0 = some (2, .iconst 0, 1) := by decide +kernel
theorem i42_1 : zfetch 42 1 = some (2, .istore_n 1, 1) := by decide +kernel
theorem i42_2 : zfetch 42 2 = some (2, .iload_n 1, 1) := by decide +kernel
theorem i42_3 : zfetch 42 3 = some (2, .aload_n 0, 1) := by decide +kernel
theorem i42_4 : zfetch 42 4 = some (2, .getfield 53, 3) := by decide +kernel
theorem i42_7 : zfetch 42 7 = some (2, .if_icmp .ge 47, 3) := by decide +kernel
theorem i42_10 : zfetch 42 10 = some (2, .aload_n 0, 1) := by decide +kernel
theorem i42_11 : zfetch 42 11 = some (2, .getfield 18, 3) := by decide +kernel
theorem i42_14 : zfetch 42 14 = some (2, .iload_n 1, 1) := by decide +kernel
theorem i42_15 : zfetch 42 15 = some (2, .iaload, 1) := by decide +kernel
theorem i42_16 : zfetch 42 16 = some (2, .istore_n 2, 1) := by decide +kernel
theorem i42_17 : zfetch 42 17 = some (2, .iload_n 2, 1) := by decide +kernel
theorem i42_18 : zfetch 42 18 = some (2, .ifCond .lt 30, 3) := by decide +kernel
theorem i42_21 : zfetch 42 21 = some (2, .aload_n 0, 1) := by decide +kernel
theorem i42_22 : zfetch 42 22 = some (2, .getfield 21, 3) := by decide +kernel
theorem i42_25 : zfetch 42 25 = some (2, .iload_n 1, 1) := by decide +kernel
theorem i42_26 : zfetch 42 26 = some (2, .iaload, 1) := by decide +kernel
theorem i42_27 : zfetch 42 27 = some (2, .aload_n 0, 1) := by decide +kernel
theorem i42_28 : zfetch 42 28 = some (2, .getfield 21, 3) := by decide +kernel
theorem i42_31 : zfetch 42 31 = some (2, .iload_n 2, 1) := by decide +kernel
theorem i42_32 : zfetch 42 32 = some (2, .iaload, 1) := by decide +kernel
theorem i42_33 : zfetch 42 33 = some (2, .isub, 1) := by decide +kernel
theorem i42_34 : zfetch 42 34 = some (2, .invokestatic 70, 3) := by decide +kernel
theorem i42_37 : zfetch 42 37 = some (2, .aload_n 0, 1) := by decide +kernel
theorem i42_38 : zfetch 42 38 = some (2, .getfield 24, 3) := by decide +kernel
theorem i42_41 : zfetch 42 41 = some (2, .iload_n 1, 1) := by decide +kernel
theorem i42_42 : zfetch 42 42 = some (2, .iaload, 1) := by decide +kernel
theorem i42_43 : zfetch 42 43 = some (2, .if_icmp .le 5, 3) := by decide +kernel
theorem i42_46 : zfetch 42 46 = some (2, .iload_n 1, 1) := by decide +kernel
theorem i42_47 : zfetch 42 47 = some (2, .ireturn, 1) := by decide +kernel
theorem i42_48 : zfetch 42 48 = some (2, .iinc 1 1, 3) := by decide +kernel
theorem i42_51 : zfetch 42 51 = some (2, .goto (-49), 3) := by decide +kernel
theorem i42_54 : zfetch 42 54 = some (2, .iconst (-1), 1) := by decide +kernel
theorem i42_55 : zfetch 42 55 = some (2, .ireturn, 1) := by decide +kernel
theorem i43_0 : zfetch 43 0 = some (2, .aload_n 0, 1) := by decide +kernel
theorem i43_1 : zfetch 43 1 = some (2, .getfield 118, 3) := by decide +kernel
theorem i43_4 : zfetch 43 4 = some (2, .iload_n 1, 1) := by decide +kernel
theorem i43_5 : zfetch 43 5 = some (2, .ishr, 1) := by decide +kernel
theorem i43_6 : zfetch 43 6 = some (2, .iconst 1, 1) := by decide +kernel
theorem i43_7 : zfetch 43 7 = some (2, .iand, 1) := by decide +kernel
theorem i43_8 : zfetch 43 8 = some (2, .ifCond .ne 5, 3) := by decide +kernel
theorem i43_11 : zfetch 43 11 = some (2, .iload_n 1, 1) := by decide +kernel
theorem i43_12 : zfetch 43 12 = some (2, .ireturn, 1) := by decide +kernel
theorem i43_13 : zfetch 43 13 = some (2, .aload_n 0, 1) := by decide +kernel
theorem i43_14 : zfetch 43 14 = some (2, .getfield 18, 3) := by decide +kernel
theorem i43_17 : zfetch 43 17 = some (2, .iload_n 1, 1) := by decide +kernel
theorem i43_18 : zfetch 43 18 = some (2, .iaload, 1) := by decide +kernel
theorem i43_19 : zfetch 43 19 = some (2, .istore_n 2, 1) := by decide +kernel
theorem i43_20 : zfetch 43 20 = some (2, .aload_n 0, 1) := by decide +kernel
theorem i43_21 : zfetch 43 21 = some (2, .getfield 118, 3) := by decide +kernel
theorem i43_24 : zfetch 43 24 = some (2, .iload_n 2, 1) := by decide +kernel
theorem i43_25 : zfetch 43 25 = some (2, .ishr, 1) := by decide +kernel
theorem i43_26 : zfetch 43 26 = some (2, .iconst 1, 1) := by decide +kernel
theorem i43_27 : zfetch 43 27 = some (2, .iand, 1) := by decide +kernel
theorem i43_28 : zfetch 43 28 = some (2, .ifCond .ne 7, 3) := by decide +kernel
theorem i43_31 : zfetch 43 31 = some (2, .iload_n 2, 1) := by decide +kernel
theorem i43_32 : zfetch 43 32 = some (2, .goto 4, 3) := by decide +kernel
theorem i43_35 : zfetch 43 35 = some (2, .iconst (-1), 1) := by decide +kernel
theorem i43_36 : zfetch 43 36 = some (2, .ireturn, 1) := by decide +kernel
theorem i44_0 : zfetch 44 0 = some (2, .iload_n 3, 1) := by decide +kernel
theorem i44_1 : zfetch 44 1 = some (2, .iconst 1, 1) := by decide +kernel
theorem i44_2 : zfetch 44 2 = some (2, .if_icmp .ne 11, 3) := by decide +kernel
theorem i44_5 : zfetch 44 5 = some (2, .aload_n 0, 1) := by decide +kernel
theorem i44_6 : zfetch 44 6 = some (2, .iload_n 1, 1) := by decide +kernel
theorem i44_7 : zfetch 44 7 = some (2, .invokevirtual 141, 3) := by decide +kernel
theorem i44_10 : zfetch 44 10 = some (2, .goto 51, 3) := by decide +kernel
theorem i44_13 : zfetch 44 13 = some (2, .iload_n 3, 1) := by decide +kernel
theorem i44_14 : zfetch 44 14 = some (2, .iconst 3, 1) := by decide +kernel
theorem i44_15 : zfetch 44 15 = some (2, .if_icmp .ne 26, 3) := by decide +kernel
theorem i44_18 : zfetch 44 18 = some (2, .iload_n 2, 1) := by decide +kernel
theorem i44_19 : zfetch 44 19 = some (2, .iload_n 1, 1) := by decide +kernel
theorem i44_20 : zfetch 44 20 = some (2, .if_icmp .eq 21, 3) := by decide +kernel
theorem i44_23 : zfetch 44 23 = some (2, .aload_n 0, 1) := by decide +kernel
theorem i44_24 : zfetch 44 24 = some (2, .getfield 27, 3) := by decide +kernel
theorem i44_27 : zfetch 44 27 = some (2, .iload_n 2, 1) := by decide +kernel
theorem i44_28 : zfetch 44 28 = some (2, .iaload, 1) := by decide +kernel
theorem i44_29 : zfetch 44 29 = some (2, .ifCond .le 12, 3) := by decide +kernel
theorem i44_32 : zfetch 44 32 = some (2, .aload_n 0, 1) := by decide +kernel
theorem i44_33 : zfetch 44 33 = some (2, .iload_n 1, 1) := by decide +kernel
theorem i44_34 : zfetch 44 34 = some (2, .iload_n 2, 1) := by decide +kernel
theorem i44_35 : zfetch 44 35 = some (2, .invokevirtual 124, 3) := by decide +kernel
theorem i44_38 : zfetch 44 38 = some (2, .goto 23, 3) := by decide +kernel
theorem i44_41 : zfetch 44 41 = some (2, .aload_n 0, 1) := by decide +kernel
theorem i44_42 : zfetch 44 42 = some (2, .iload_n 2, 1) := by decide +kernel
theorem i44_43 : zfetch 44 43 = some (2, .iload_n 2, 1) := by decide +kernel
theorem i44_44 : zfetch 44 44 = some (2, .iload_n 1, 1) := by decide +kernel
theorem i44_45 : zfetch 44 45 = some (2, .if_icmp .ne 12, 3) := by decide +kernel
theorem i44_48 : zfetch 44 48 = some (2, .aload_n 0, 1) := by decide +kernel
theorem i44_49 : zfetch 44 49 = some (2, .getfield 18, 3) := by decide +kernel
theorem i44_52 : zfetch 44 52 = some (2, .iload_n 1, 1) := by decide +kernel
theorem i44_53 : zfetch 44 53 = some (2, .iaload, 1) := by decide +kernel
theorem i44_54 : zfetch 44 54 = some (2, .goto 4, 3) := by decide +kernel
theorem i44_57 : zfetch 44 57 = some (2, .iload_n 1, 1) := by decide +kernel
theorem i44_58 : zfetch 44 58 = some (2, .invokevirtual 145, 3) := by decide +kernel
theorem i44_61 : zfetch 44 61 = some (2, .return_, 1) := by decide +kernel
theorem i45_0 : zfetch 45 0 = some (2, .aload_n 0, 1) := by decide +kernel
theorem i45_1 : zfetch 45 1 = some (2, .getfield 27, 3) := by decide +kernel
theorem i45_4 : zfetch 45 4 = some (2, .iload_n 2, 1) := by decide +kernel
theorem i45_5 : zfetch 45 5 = some (2, .dup2, 1) := by decide +kernel
theorem i45_6 : zfetch 45 6 = some (2, .iaload, 1) := by decide +kernel
theorem i45_7 : zfetch 45 7 = some (2, .iconst 1, 1) := by decide +kernel
theorem i45_8 : zfetch 45 8 = some (2, .isub, 1) := by decide +kernel
theorem i45_9 : zfetch 45 9 = some (2, .iastore, 1) := by decide +kernel
theorem i45_10 : zfetch 45 10 = some (2, .aload_n 0, 1) := by decide +kernel
theorem i45_11 : zfetch 45 11 = some (2, .getfield 24, 3) := by decide +kernel
theorem i45_14 : zfetch 45 14 = some (2, .iload_n 1, 1) := by decide +kernel
theorem i45_15 : zfetch 45 15 = some (2, .dup2, 1) := by decide +kernel
theorem i45_16 : zfetch 45 16 = some (2, .iaload, 1) := by decide +kernel
theorem i45_17 : zfetch 45 17 = some (2, .iconst 1, 1) := by decide +kernel
theorem i45_18 : zfetch 45 18 = some (2, .iadd, 1) := by decide +kernel
theorem i45_19 : zfetch 45 19 = some (2, .iastore, 1) := by decide +kernel
theorem i45_20 : zfetch 45 20 = some (2, .return_, 1) := by decide +kernel
theorem i46_0 : zfetch 46 0 = some (2, .aload_n 0, 1) := by decide +kernel
theorem i46_1 : zfetch 46 1 = some (2, .iload_n 1, 1) := by decide +kernel
theorem i46_2 : zfetch 46 2 = some (2, .invokevirtual 148, 3) := by decide +kernel
theorem i46_5 : zfetch 46 5 = some (2, .aload_n 0, 1) := by decide +kernel
theorem i46_6 : zfetch 46 6 = some (2, .getfield 59, 3) := by decide +kernel
theorem i46_9 : zfetch 46 9 = some (2, .sipush 9999, 3) := by decide +kernel
theorem i46_12 : zfetch 46 12 = some (2, .if_icmp .ge 13, 3) := by decide +kernel
theorem i46_15 : zfetch 46 15 = some (2, .aload_n 0, 1) := by decide +kernel
theorem i46_16 : zfetch 46 16 = some (2, .dup, 1) := by decide +kernel
theorem i46_17 : zfetch 46 17 = some (2, .getfield 59, 3) := by decide +kernel
theorem i46_20 : zfetch 46 20 = some (2, .iconst 1, 1) := by decide +kernel
theorem i46_21 : zfetch 46 21 = some (2, .iadd, 1) := by decide +kernel
theorem i46_22 : zfetch 46 22 = some (2, .putfield 59, 3) := by decide +kernel
theorem i46_25 : zfetch 46 25 = some (2, .return_, 1) := by decide +kernel
theorem i47_0 : zfetch 47 0 = some (2, .aload_n 0, 1) := by decide +kernel
theorem i47_1 : zfetch 47 1 = some (2, .getfield 21, 3) := by decide +kernel
theorem i47_4 : zfetch 47 4 = some (2, .iload_n 1, 1) := by decide +kernel
theorem i47_5 : zfetch 47 5 = some (2, .iaload, 1) := by decide +kernel
theorem i47_6 : zfetch 47 6 = some (2, .aload_n 0, 1) := by decide +kernel
theorem i47_7 : zfetch 47 7 = some (2, .getfield 21, 3) := by decide +kernel
theorem i47_10 : zfetch 47 10 = some (2, .iload_n 2, 1) := by decide +kernel
theorem i47_11 : zfetch 47 11 = some (2, .iaload, 1) := by decide +kernel
theorem i47_12 : zfetch 47 12 = some (2, .if_icmp .ge 16, 3) := by decide +kernel
theorem i47_15 : zfetch 47 15 = some (2, .aload_n 0, 1) := by decide +kernel
theorem i47_16 : zfetch 47 16 = some (2, .getfield 21, 3) := by decide +kernel
theorem i47_19 : zfetch 47 19 = some (2, .iload_n 1, 1) := by decide +kernel
theorem i47_20 : zfetch 47 20 = some (2, .dup2, 1) := by decide +kernel
theorem i47_21 : zfetch 47 21 = some (2, .iaload, 1) := by decide +kernel
theorem i47_22 : zfetch 47 22 = some (2, .iconst 1, 1) := by decide +kernel
theorem i47_23 : zfetch 47 23 = some (2, .iadd, 1) := by decide +kernel
theorem i47_24 : zfetch 47 24 = some (2, .iastore, 1) := by decide +kernel
theorem i47_25 : zfetch 47 25 = some (2, .goto 13, 3) := by decide +kernel
theorem i47_28 : zfetch 47 28 = some (2, .aload_n 0, 1) := by decide +kernel
theorem i47_29 : zfetch 47 29 = some (2, .getfield 21, 3) := by decide +kernel
theorem i47_32 : zfetch 47 32 = some (2, .iload_n 1, 1) := by decide +kernel
theorem i47_33 : zfetch 47 33 = some (2, .dup2, 1) := by decide +kernel
theorem i47_34 : zfetch 47 34 = some (2, .iaload, 1) := by decide +kernel
theorem i47_35 : zfetch 47 35 = some (2, .iconst 1, 1) := by decide +kernel
theorem i47_36 : zfetch 47 36 = some (2, .isub, 1) := by decide +kernel
theorem i47_37 : zfetch 47 37 = some (2, .iastore, 1) := by decide +kernel
theorem i47_38 : zfetch 47 38 = some (2, .aload_n 0, 1) := by decide +kernel
theorem i47_39 : zfetch 47 39 = some (2, .dup, 1) := by decide +kernel
theorem i47_40 : zfetch 47 40 = some (2, .getfield 118, 3) := by decide +kernel
theorem i47_43 : zfetch 47 43 = some (2, .iconst 1, 1) := by decide +kernel
theorem i47_44 : zfetch 47 44 = some (2, .iload_n 1, 1) := by decide +kernel
theorem i47_45 : zfetch 47 45 = some (2, .ishl, 1) := by decide +kernel
theorem i47_46 : zfetch 47 46 = some (2, .ior, 1) := by decide +kernel
theorem i47_47 : zfetch 47 47 = some (2, .putfield 118, 3) := by decide +kernel
theorem i47_50 : zfetch 47 50 = some (2, .return_, 1) := by decide +kernel
theorem i48_0 : zfetch 48 0 = some (3, .aload_n 0, 1) := by decide +kernel
theorem i48_1 : zfetch 48 1 = some (3, .getfield 13, 3) := by decide +kernel
theorem i48_4 : zfetch 48 4 = some (3, .aload_n 0, 1) := by decide +kernel
theorem i48_5 : zfetch 48 5 = some (3, .getfield 7, 3) := by decide +kernel
theorem i48_8 : zfetch 48 8 = some (3, .arraylength, 1) := by decide +kernel
theorem i48_9 : zfetch 48 9 = some (3, .if_icmp .ge 23, 3) := by decide +kernel
theorem i48_12 : zfetch 48 12 = some (3, .aload_n 0, 1) := by decide +kernel
theorem i48_13 : zfetch 48 13 = some (3, .getfield 7, 3) := by decide +kernel
theorem i48_16 : zfetch 48 16 = some (3, .aload_n 0, 1) := by decide +kernel
theorem i48_17 : zfetch 48 17 = some (3, .getfield 13, 3) := by decide +kernel
theorem i48_20 : zfetch 48 20 = some (3, .iload_n 1, 1) := by decide +kernel
theorem i48_21 : zfetch 48 21 = some (3, .iastore, 1) := by decide +kernel
theorem i48_22 : zfetch 48 22 = some (3, .aload_n 0, 1) := by decide +kernel
theorem i48_23 : zfetch 48 23 = some (3, .dup, 1) := by decide +kernel
theorem i48_24 : zfetch 48 24 = some (3, .getfield 13, 3) := by decide +kernel
theorem i48_27 : zfetch 48 27 = some (3, .iconst 1, 1) := by decide +kernel
theorem i48_28 : zfetch 48 28 = some (3, .iadd, 1) := by decide +kernel
theorem i48_29 : zfetch 48 29 = some (3, .putfield 13, 3) := by decide +kernel
theorem i48_32 : zfetch 48 32 = some (3, .return_, 1) := by decide +kernel
theorem i49_0 : zfetch 49 0 = some (3, .iconst 0, 1) := by decide +kernel
theorem i49_1 : zfetch 49 1 = some (3, .istore_n 2, 1) := by decide +kernel
theorem i49_2 : zfetch 49 2 = some (3, .iload_n 2, 1) := by decide +kernel
theorem i49_3 : zfetch 49 3 = some (3, .aload_n 1, 1) := by decide +kernel
theorem i49_4 : zfetch 49 4 = some (3, .getfield 13, 3) := by decide +kernel
theorem i49_7 : zfetch 49 7 = some (3, .if_icmp .ge 30, 3) := by decide +kernel
theorem i49_10 : zfetch 49 10 = some (3, .iload_n 2, 1) := by decide +kernel
theorem i49_11 : zfetch 49 11 = some (3, .aload_n 0, 1) := by decide +kernel
theorem i49_12 : zfetch 49 12 = some (3, .getfield 7, 3) := by decide +kernel
theorem i49_15 : zfetch 49 15 = some (3, .arraylength, 1) := by decide +kernel
theorem i49_16 : zfetch 49 16 = some (3, .if_icmp .ge 21, 3) := by decide +kernel
theorem i49_19 : zfetch 49 19 = some (3, .aload_n 0, 1) := by decide +kernel
theorem i49_20 : zfetch 49 20 = some (3, .getfield 7, 3) := by decide +kernel
theorem i49_23 : zfetch 49 23 = some (3, .iload_n 2, 1) := by decide +kernel
theorem i49_24 : zfetch 49 24 = some (3, .aload_n 1, 1) := by decide +kernel
theorem i49_25 : zfetch 49 25 = some (3, .getfield 7, 3) := by decide +kernel
theorem i49_28 : zfetch 49 28 = some (3, .iload_n 2, 1) := by decide +kernel
theorem i49_29 : zfetch 49 29 = some (3, .iaload, 1) := by decide +kernel
theorem i49_30 : zfetch 49 30 = some (3, .iastore, 1) := by decide +kernel
theorem i49_31 : zfetch 49 31 = some (3, .iinc 2 1, 3) := by decide +kernel
theorem i49_34 : zfetch 49 34 = some (3, .goto (-32), 3) := by decide +kernel
theorem i49_37 : zfetch 49 37 = some (3, .aload_n 0, 1) := by decide +kernel
theorem i49_38 : zfetch 49 38 = some (3, .aload_n 1, 1) := by decide +kernel
theorem i49_39 : zfetch 49 39 = some (3, .getfield 13, 3) := by decide +kernel
theorem i49_42 : zfetch 49 42 = some (3, .putfield 13, 3) := by decide +kernel
theorem i49_45 : zfetch 49 45 = some (3, .return_, 1) := by decide +kernel
theorem i50_0 : zfetch 50 0 = some (4, .aload_n 0, 1) := by decide +kernel
theorem i50_1 : zfetch 50 1 = some (4, .getfield 15, 3) := by decide +kernel
theorem i50_4 : zfetch 50 4 = some (4, .ifCond .ne 7, 3) := by decide +kernel
theorem i50_7 : zfetch 50 7 = some (4, .iconst 1, 1) := by decide +kernel
theorem i50_8 : zfetch 50 8 = some (4, .goto 4, 3) := by decide +kernel
theorem i50_11 : zfetch 50 11 = some (4, .iconst 0, 1) := by decide +kernel
theorem i50_12 : zfetch 50 12 = some (4, .ireturn, 1) := by decide +kernel
theorem i51_0 : zfetch 51 0 = some (4, .aload_n 0, 1) := by decide +kernel
theorem i51_1 : zfetch 51 1 = some (4, .iload_n 1, 1) := by decide +kernel
theorem i51_2 : zfetch 51 2 = some (4, .putfield 15, 3) := by decide +kernel
theorem i51_5 : zfetch 51 5 = some (4, .aload_n 0, 1) := by decide +kernel
theorem i51_6 : zfetch 51 6 = some (4, .iload_n 2, 1) := by decide +kernel
theorem i51_7 : zfetch 51 7 = some (4, .putfield 19, 3) := by decide +kernel
theorem i51_10 : zfetch 51 10 = some (4, .iconst 0, 1) := by decide +kernel
theorem i51_11 : zfetch 51 11 = some (4, .istore_n 3, 1) := by decide +kernel
theorem i51_12 : zfetch 51 12 = some (4, .iload_n 3, 1) := by decide +kernel
theorem i51_13 : zfetch 51 13 = some (4, .bipush 24, 2) := by decide +kernel
theorem i51_15 : zfetch 51 15 = some (4, .if_icmp .ge 16, 3) := by decide +kernel
theorem i51_18 : zfetch 51 18 = some (4, .aload_n 0, 1) := by decide +kernel
theorem i51_19 : zfetch 51 19 = some (4, .getfield 9, 3) := by decide +kernel
theorem i51_22 : zfetch 51 22 = some (4, .iload_n 3, 1) := by decide +kernel
theorem i51_23 : zfetch 51 23 = some (4, .iconst 0, 1) := by decide +kernel
theorem i51_24 : zfetch 51 24 = some (4, .iastore, 1) := by decide +kernel
theorem i51_25 : zfetch 51 25 = some (4, .iinc 3 1, 3) := by decide +kernel
theorem i51_28 : zfetch 51 28 = some (4, .goto (-16), 3) := by decide +kernel
theorem i51_31 : zfetch 51 31 = some (4, .return_, 1) := by decide +kernel
theorem i52_0 : zfetch 52 0 = some (4, .aload_n 0, 1) := by decide +kernel
theorem i52_1 : zfetch 52 1 = some (4, .getfield 9, 3) := by decide +kernel
theorem i52_4 : zfetch 52 4 = some (4, .iload_n 1, 1) := by decide +kernel
theorem i52_5 : zfetch 52 5 = some (4, .aload_n 0, 1) := by decide +kernel
theorem i52_6 : zfetch 52 6 = some (4, .getfield 15, 3) := by decide +kernel
theorem i52_9 : zfetch 52 9 = some (4, .bipush 32, 2) := by decide +kernel
theorem i52_11 : zfetch 52 11 = some (4, .if_icmp .ne 7, 3) := by decide +kernel
theorem i52_14 : zfetch 52 14 = some (4, .iload_n 2, 1) := by decide +kernel
theorem i52_15 : zfetch 52 15 = some (4, .goto 13, 3) := by decide +kernel
theorem i52_18 : zfetch 52 18 = some (4, .iload_n 2, 1) := by decide +kernel
theorem i52_19 : zfetch 52 19 = some (4, .iconst 1, 1) := by decide +kernel
theorem i52_20 : zfetch 52 20 = some (4, .aload_n 0, 1) := by decide +kernel
theorem i52_21 : zfetch 52 21 = some (4, .getfield 15, 3) := by decide +kernel
theorem i52_24 : zfetch 52 24 = some (4, .ishl, 1) := by decide +kernel
theorem i52_25 : zfetch 52 25 = some (4, .iconst 1, 1) := by decide +kernel
theorem i52_26 : zfetch 52 26 = some (4, .isub, 1) := by decide +kernel
theorem i52_27 : zfetch 52 27 = some (4, .iand, 1) := by decide +kernel
theorem i52_28 : zfetch 52 28 = some (4, .iastore, 1) := by decide +kernel
theorem i52_29 : zfetch 52 29 = some (4, .return_, 1) := by decide +kernel
theorem i53_0 : zfetch 53 0 = some (4, .iload_n 2, 1) := by decide +kernel
theorem i53_1 : zfetch 53 1 = some (4, .ifCond .lt 29, 3) := by decide +kernel
theorem i53_4 : zfetch 53 4 = some (4, .iload_n 1, 1) := by decide +kernel
theorem i53_5 : zfetch 53 5 = some (4, .ifCond .lt 25, 3) := by decide +kernel
theorem i53_8 : zfetch 53 8 = some (4, .iload_n 1, 1) := by decide +kernel
theorem i53_9 : zfetch 53 9 = some (4, .aload_n 0, 1) := by decide +kernel
theorem i53_10 : zfetch 53 10 = some (4, .getfield 19, 3) := by decide +kernel
theorem i53_13 : zfetch 53 13 = some (4, .if_icmp .gt 17, 3) := by decide +kernel
theorem i53_16 : zfetch 53 16 = some (4, .iload_n 2, 1) := by decide +kernel
theorem i53_17 : zfetch 53 17 = some (4, .aload_n 0, 1) := by decide +kernel
theorem i53_18 : zfetch 53 18 = some (4, .getfield 19, 3) := by decide +kernel
theorem i53_21 : zfetch 53 21 = some (4, .iload_n 1, 1) := by decide +kernel
theorem i53_22 : zfetch 53 22 = some (4, .isub, 1) := by decide +kernel
theorem i53_23 : zfetch 53 23 = some (4, .if_icmp .gt 7, 3) := by decide +kernel
theorem i53_26 : zfetch 53 26 = some (4, .iconst 1, 1) := by decide +kernel
theorem i53_27 : zfetch 53 27 = some (4, .goto 4, 3) := by decide +kernel
theorem i53_30 : zfetch 53 30 = some (4, .iconst 0, 1) := by decide +kernel
theorem i53_31 : zfetch 53 31 = some (4, .ireturn, 1) := by decide +kernel
theorem i54_0 : zfetch 54 0 = some (5, .aload_n 0, 1) := by decide +kernel
theorem i54_1 : zfetch 54 1 = some (5, .getfield 14, 3) := by decide +kernel
theorem i54_4 : zfetch 54 4 = some (5, .aload_n 1, 1) := by decide +kernel
theorem i54_5 : zfetch 54 5 = some (5, .getfield 14, 3) := by decide +kernel
theorem i54_8 : zfetch 54 8 = some (5, .getfield 42, 3) := by decide +kernel
theorem i54_11 : zfetch 54 11 = some (5, .aload_n 1, 1) := by decide +kernel
theorem i54_12 : zfetch 54 12 = some (5, .getfield 14, 3) := by decide +kernel
theorem i54_15 : zfetch 54 15 = some (5, .getfield 46, 3) := by decide +kernel
theorem i54_18 : zfetch 54 18 = some (5, .invokevirtual 50, 3) := by decide +kernel
theorem i54_21 : zfetch 54 21 = some (5, .aload_n 0, 1) := by decide +kernel
theorem i54_22 : zfetch 54 22 = some (5, .getfield 20, 3) := by decide +kernel
theorem i54_25 : zfetch 54 25 = some (5, .aload_n 1, 1) := by decide +kernel
theorem i54_26 : zfetch 54 26 = some (5, .getfield 20, 3) := by decide +kernel
theorem i54_29 : zfetch 54 29 = some (5, .getfield 42, 3) := by decide +kernel
theorem i54_32 : zfetch 54 32 = some (5, .aload_n 1, 1) := by decide +kernel
theorem i54_33 : zfetch 54 33 = some (5, .getfield 20, 3) := by decide +kernel
theorem i54_36 : zfetch 54 36 = some (5, .getfield 46, 3) := by decide +kernel
theorem i54_39 : zfetch 54 39 = some (5, .invokevirtual 50, 3) := by decide +kernel
theorem i54_42 : zfetch 54 42 = some (5, .aload_n 0, 1) := by decide +kernel
theorem i54_43 : zfetch 54 43 = some (5, .getfield 28, 3) := by decide +kernel
theorem i54_46 : zfetch 54 46 = some (5, .aload_n 1, 1) := by decide +kernel
theorem i54_47 : zfetch 54 47 = some (5, .getfield 28, 3) := by decide +kernel
theorem i54_50 : zfetch 54 50 = some (5, .invokevirtual 54, 3) := by decide +kernel
theorem i54_53 : zfetch 54 53 = some (5, .aload_n 0, 1) := by decide +kernel
theorem i54_54 : zfetch 54 54 = some (5, .getfield 35, 3) := by decide +kernel
theorem i54_57 : zfetch 54 57 = some (5, .aload_n 1, 1) := by decide +kernel
theorem i54_58 : zfetch 54 58 = some (5, .getfield 35, 3) := by decide +kernel
theorem i54_61 : zfetch 54 61 = some (5, .invokevirtual 58, 3) := by decide +kernel
theorem i54_64 : zfetch 54 64 = some (5, .aload_n 0, 1) := by decide +kernel
theorem i54_65 : zfetch 54 65 = some (5, .getfield 39, 3) := by decide +kernel
theorem i54_68 : zfetch 54 68 = some (5, .aload_n 1, 1) := by decide +kernel
theorem i54_69 : zfetch 54 69 = some (5, .getfield 39, 3) := by decide +kernel
theorem i54_72 : zfetch 54 72 = some (5, .invokevirtual 58, 3) := by decide +kernel
theorem i54_75 : zfetch 54 75 = some (5, .return_, 1) := by decide +kernel
theorem i55_0 : zfetch 55 0 = some (6, .iload_n 0, 1) := by decide +kernel
theorem i55_1 : zfetch 55 1 = some (6, .istore_n 2, 1) := by decide +kernel
theorem i55_2 : zfetch 55 2 = some (6, .iconst 0, 1) := by decide +kernel
theorem i55_3 : zfetch 55 3 = some (6, .istore_n 3, 1) := by decide +kernel
theorem i55_4 : zfetch 55 4 = some (6, .iload_n 3, 1) := by decide +kernel
theorem i55_5 : zfetch 55 5 = some (6, .bipush 6, 2) := by decide +kernel
theorem i55_7 : zfetch 55 7 = some (6, .if_icmp .gt 26, 3) := by decide +kernel
theorem i55_10 : zfetch 55 10 = some (6, .iload_n 2, 1) := by decide +kernel
theorem i55_11 : zfetch 55 11 = some (6, .ifCond .lt 22, 3) := by decide +kernel
theorem i55_14 : zfetch 55 14 = some (6, .iload_n 2, 1) := by decide +kernel
theorem i55_15 : zfetch 55 15 = some (6, .iload_n 1, 1) := by decide +kernel
theorem i55_16 : zfetch 55 16 = some (6, .if_icmp .ne 5, 3) := by decide +kernel
theorem i55_19 : zfetch 55 19 = some (6, .iconst 1, 1) := by decide +kernel
theorem i55_20 : zfetch 55 20 = some (6, .ireturn, 1) := by decide +kernel
theorem i55_21 : zfetch 55 21 = some (6, .getstatic 15, 3) := by decide +kernel
theorem i55_24 : zfetch 55 24 = some (6, .iload_n 2, 1) := by decide +kernel
theorem i55_25 : zfetch 55 25 = some (6, .iaload, 1) := by decide +kernel
theorem i55_26 : zfetch 55 26 = some (6, .istore_n 2, 1) := by decide +kernel
theorem i55_27 : zfetch 55 27 = some (6, .iinc 3 1, 3) := by decide +kernel
theorem i55_30 : zfetch 55 30 = some (6, .goto (-26), 3) := by decide +kernel
theorem i55_33 : zfetch 55 33 = some (6, .iconst 0, 1) := by decide +kernel
theorem i55_34 : zfetch 55 34 = some (6, .ireturn, 1) := by decide +kernel
theorem i56_0 : zfetch 56 0 = some (6, .aload_n 0, 1) := by decide +kernel
theorem i56_1 : zfetch 56 1 = some (6, .iload_n 1, 1) := by decide +kernel
theorem i56_2 : zfetch 56 2 = some (6, .putfield 18, 3) := by decide +kernel
theorem i56_5 : zfetch 56 5 = some (6, .aload_n 0, 1) := by decide +kernel
theorem i56_6 : zfetch 56 6 = some (6, .iload_n 2, 1) := by decide +kernel
theorem i56_7 : zfetch 56 7 = some (6, .putfield 22, 3) := by decide +kernel
theorem i56_10 : zfetch 56 10 = some (6, .aload_n 0, 1) := by decide +kernel
theorem i56_11 : zfetch 56 11 = some (6, .iload_n 3, 1) := by decide +kernel
theorem i56_12 : zfetch 56 12 = some (6, .putfield 25, 3) := by decide +kernel
theorem i56_15 : zfetch 56 15 = some (6, .aload_n 0, 1) := by decide +kernel
theorem i56_16 : zfetch 56 16 = some (6, .iconst 0, 1) := by decide +kernel
theorem i56_17 : zfetch 56 17 = some (6, .putfield 28, 3) := by decide +kernel
theorem i56_20 : zfetch 56 20 = some (6, .aload_n 0, 1) := by decide +kernel
theorem i56_21 : zfetch 56 21 = some (6, .iconst 0, 1) := by decide +kernel
theorem i56_22 : zfetch 56 22 = some (6, .putfield 32, 3) := by decide +kernel
theorem i56_25 : zfetch 56 25 = some (6, .aload_n 0, 1) := by decide +kernel
theorem i56_26 : zfetch 56 26 = some (6, .aload_n 0, 1) := by decide +kernel
theorem i56_27 : zfetch 56 27 = some (6, .getfield 18, 3) := by decide +kernel
theorem i56_30 : zfetch 56 30 = some (6, .iload 4, 2) := by decide +kernel
theorem i56_32 : zfetch 56 32 = some (6, .iload 5, 2) := by decide +kernel
theorem i56_34 : zfetch 56 34 = some (6, .iconst 0, 1) := by decide +kernel
theorem i56_35 : zfetch 56 35 = some (6, .invokevirtual 35, 3) := by decide +kernel
theorem i56_38 : zfetch 56 38 = some (6, .ireturn, 1) := by decide +kernel
theorem i57_0 : zfetch 57 0 = some (6, .iload_n 1, 1) := by decide +kernel
theorem i57_1 : zfetch 57 1 = some (6, .iload_n 2, 1) := by decide +kernel
theorem i57_2 : zfetch 57 2 = some (6, .invokestatic 39, 3) := by decide +kernel
theorem i57_5 : zfetch 57 5 = some (6, .istore 5, 2) := by decide +kernel
theorem i57_7 : zfetch 57 7 = some (6, .iload 4, 2) := by decide +kernel
theorem i57_9 : zfetch 57 9 = some (6, .bipush 40, 2) := by decide +kernel
theorem i57_11 : zfetch 57 11 = some (6, .if_icmp .gt 8, 3) := by decide +kernel
theorem i57_14 : zfetch 57 14 = some (6, .iload 5, 2) := by decide +kernel
theorem i57_16 : zfetch 57 16 = some (6, .ifCond .ne 5, 3) := by decide +kernel
theorem i57_19 : zfetch 57 19 = some (6, .iconst 0, 1) := by decide +kernel
theorem i57_20 : zfetch 57 20 = some (6, .ireturn, 1) := by decide +kernel
theorem i57_21 : zfetch 57 21 = some (6, .aload_n 0, 1) := by decide +kernel
theorem i57_22 : zfetch 57 22 = some (6, .getfield 32, 3) := by decide +kernel
theorem i57_25 : zfetch 57 25 = some (6, .bipush 30, 2) := by decide +kernel
theorem i57_27 : zfetch 57 27 = some (6, .if_icmp .ge 24, 3) := by decide +kernel
theorem i57_30 : zfetch 57 30 = some (6, .aload_n 0, 1) := by decide +kernel
theorem i57_31 : zfetch 57 31 = some (6, .getfield 11, 3) := by decide +kernel
theorem i57_34 : zfetch 57 34 = some (6, .aload_n 0, 1) := by decide +kernel
theorem i57_35 : zfetch 57 35 = some (6, .getfield 32, 3) := by decide +kernel
theorem i57_38 : zfetch 57 38 = some (6, .iload 5, 2) := by decide +kernel
theorem i57_40 : zfetch 57 40 = some (6, .iastore, 1) := by decide +kernel
theorem i57_41 : zfetch 57 41 = some (6, .aload_n 0, 1) := by decide +kernel
theorem i57_42 : zfetch 57 42 = some (6, .dup, 1) := by decide +kernel
theorem i57_43 : zfetch 57 43 = some (6, .getfield 32, 3) := by decide +kernel
theorem i57_46 : zfetch 57 46 = some (6, .iconst 1, 1) := by decide +kernel
theorem i57_47 : zfetch 57 47 = some (6, .iadd, 1) := by decide +kernel
theorem i57_48 : zfetch 57 48 = some (6, .putfield 32, 3) := by decide +kernel
theorem i57_51 : zfetch 57 51 = some (6, .iload 5, 2) := by decide +kernel
theorem i57_53 : zfetch 57 53 = some (6, .bipush 20, 2) := by decide +kernel
theorem i57_55 : zfetch 57 55 = some (6, .if_icmp .ge 17, 3) := by decide +kernel
theorem i57_58 : zfetch 57 58 = some (6, .aload_n 0, 1) := by decide +kernel
theorem i57_59 : zfetch 57 59 = some (6, .iload 5, 2) := by decide +kernel
theorem i57_61 : zfetch 57 61 = some (6, .iload_n 3, 1) := by decide +kernel
theorem i57_62 : zfetch 57 62 = some (6, .iload 4, 2) := by decide +kernel
theorem i57_64 : zfetch 57 64 = some (6, .iconst 1, 1) := by decide +kernel
theorem i57_65 : zfetch 57 65 = some (6, .iadd, 1) := by decide +kernel
theorem i57_66 : zfetch 57 66 = some (6, .invokevirtual 43, 3) := by decide +kernel
theorem i57_69 : zfetch 57 69 = some (6, .goto 14, 3) := by decide +kernel
theorem i57_72 : zfetch 57 72 = some (6, .aload_n 0, 1) := by decide +kernel
theorem i57_73 : zfetch 57 73 = some (6, .iload 5, 2) := by decide +kernel
theorem i57_75 : zfetch 57 75 = some (6, .iload_n 3, 1) := by decide +kernel
theorem i57_76 : zfetch 57 76 = some (6, .iload 4, 2) := by decide +kernel
theorem i57_78 : zfetch 57 78 = some (6, .iconst 1, 1) := by decide +kernel
theorem i57_79 : zfetch 57 79 = some (6, .iadd, 1) := by decide +kernel
theorem i57_80 : zfetch 57 80 = some (6, .invokevirtual 47, 3) := by decide +kernel
theorem i57_83 : zfetch 57 83 = some (6, .ireturn, 1) := by decide +kernel
theorem i58_0 : zfetch 58 0 = some (6, .iload_n 1, 1) := by decide +kernel
theorem i58_1 : zfetch 58 1 = some (6, .tableswitch 65 10 12 #[27, 34, 48], 27) := by decide +kernel
theorem i58_28 : zfetch 58 28 = some (6, .iload_n 2, 1) := by decide +kernel
theorem i58_29 : zfetch 58 29 = some (6, .aload_n 0, 1) := by decide +kernel
theorem i58_30 : zfetch 58 30 = some (6, .getfield 22, 3) := by decide +kernel
theorem i58_33 : zfetch 58 33 = some (6, .iadd, 1) := by decide +kernel
theorem i58_34 : zfetch 58 34 = some (6, .ireturn, 1) := by decide +kernel
theorem i58_35 : zfetch 58 35 = some (6, .aload_n 0, 1) := by decide +kernel
theorem i58_36 : zfetch 58 36 = some (6, .aload_n 0, 1) := by decide +kernel
theorem i58_37 : zfetch 58 37 = some (6, .getfield 18, 3) := by decide +kernel
theorem i58_40 : zfetch 58 40 = some (6, .iconst 0, 1) := by decide +kernel
theorem i58_41 : zfetch 58 41 = some (6, .iload_n 2, 1) := by decide +kernel
theorem i58_42 : zfetch 58 42 = some (6, .iload_n 3, 1) := by decide +kernel
theorem i58_43 : zfetch 58 43 = some (6, .invokevirtual 35, 3) := by decide +kernel
theorem i58_46 : zfetch 58 46 = some (6, .iconst 2, 1) := by decide +kernel
theorem i58_47 : zfetch 58 47 = some (6, .imul, 1) := by decide +kernel
theorem i58_48 : zfetch 58 48 = some (6, .ireturn, 1) := by decide +kernel
theorem i58_49 : zfetch 58 49 = some (6, .aload_n 0, 1) := by decide +kernel
theorem i58_50 : zfetch 58 50 = some (6, .aload_n 0, 1) := by decide +kernel
theorem i58_51 : zfetch 58 51 = some (6, .getfield 18, 3) := by decide +kernel
theorem i58_54 : zfetch 58 54 = some (6, .iconst 1, 1) := by decide +kernel
theorem i58_55 : zfetch 58 55 = some (6, .iload_n 2, 1) := by decide +kernel
theorem i58_56 : zfetch 58 56 = some (6, .iload_n 3, 1) := by decide +kernel
theorem i58_57 : zfetch 58 57 = some (6, .invokevirtual 35, 3) := by decide +kernel
theorem i58_60 : zfetch 58 60 = some (6, .aload_n 0, 1) := by decide +kernel
theorem i58_61 : zfetch 58 61 = some (6, .getfield 25, 3) := by decide +kernel
theorem i58_64 : zfetch 58 64 = some (6, .isub, 1) := by decide +kernel
theorem i58_65 : zfetch 58 65 = some (6, .ireturn, 1) := by decide +kernel
theorem i58_66 : zfetch 58 66 = some (6, .aload_n 0, 1) := by decide +kernel
theorem i58_67 : zfetch 58 67 = some (6, .getfield 25, 3) := by decide +kernel
theorem i58_70 : zfetch 58 70 = some (6, .aload_n 0, 1) := by decide +kernel
theorem i58_71 : zfetch 58 71 = some (6, .getfield 22, 3) := by decide +kernel
theorem i58_74 : zfetch 58 74 = some (6, .if_icmp .ne 10, 3) := by decide +kernel
theorem i58_77 : zfetch 58 77 = some (6, .aload_n 0, 1) := by decide +kernel
theorem i58_78 : zfetch 58 78 = some (6, .iconst 1, 1) := by decide +kernel
theorem i58_79 : zfetch 58 79 = some (6, .putfield 28, 3) := by decide +kernel
theorem i58_82 : zfetch 58 82 = some (6, .iconst 0, 1) := by decide +kernel
theorem i58_83 : zfetch 58 83 = some (6, .ireturn, 1) := by decide +kernel
theorem i58_84 : zfetch 58 84 = some (6, .iload_n 2, 1) := by decide +kernel
theorem i58_85 : zfetch 58 85 = some (6, .aload_n 0, 1) := by decide +kernel
theorem i58_86 : zfetch 58 86 = some (6, .getfield 25, 3) := by decide +kernel
theorem i58_89 : zfetch 58 89 = some (6, .aload_n 0, 1) := by decide +kernel
theorem i58_90 : zfetch 58 90 = some (6, .getfield 22, 3) := by decide +kernel
theorem i58_93 : zfetch 58 93 = some (6, .isub, 1) := by decide +kernel
theorem i58_94 : zfetch 58 94 = some (6, .idiv, 1) := by decide +kernel
theorem i58_95 : zfetch 58 95 = some (6, .ireturn, 1) := by decide +kernel
theorem i59_0 : zfetch 59 0 = some (6, .getstatic 15, 3) := by decide +kernel
theorem i59_3 : zfetch 59 3 = some (6, .iload_n 1, 1) := by decide +kernel
theorem i59_4 : zfetch 59 4 = some (6, .bipush 10, 2) := by decide +kernel
theorem i59_6 : zfetch 59 6 = some (6, .idiv, 1) := by decide +kernel
theorem i59_7 : zfetch 59 7 = some (6, .iconst 1, 1) := by decide +kernel
theorem i59_8 : zfetch 59 8 = some (6, .isub, 1) := by decide +kernel
theorem i59_9 : zfetch 59 9 = some (6, .iaload, 1) := by decide +kernel
theorem i59_10 : zfetch 59 10 = some (6, .istore 4, 2) := by decide +kernel
theorem i59_12 : zfetch 59 12 = some (6, .iload_n 1, 1) := by decide +kernel
theorem i59_13 : zfetch 59 13 = some (6, .lookupswitch 190 #[(20, 75), (21, 87), (30, 124), (40, 136), (50, 148), (51, 160), (60, 175), (70, 187)], 75) := by decide +kernel
theorem i59_88 : zfetch 59 88 = some (6, .aload_n 0, 1) := by decide +kernel
theorem i59_89 : zfetch 59 89 = some (6, .iload 4, 2) := by decide +kernel
theorem i59_91 : zfetch 59 91 = some (6, .iconst 0, 1) := by decide +kernel
theorem i59_92 : zfetch 59 92 = some (6, .iload_n 2, 1) := by decide +kernel
theorem i59_93 : zfetch 59 93 = some (6, .iload_n 3, 1) := by decide +kernel
theorem i59_94 : zfetch 59 94 = some (6, .invokevirtual 35, 3) := by decide +kernel
theorem i59_97 : zfetch 59 97 = some (6, .iconst 4, 1) := by decide +kernel
theorem i59_98 : zfetch 59 98 = some (6, .isub, 1) := by decide +kernel
theorem i59_99 : zfetch 59 99 = some (6, .ireturn, 1) := by decide +kernel
theorem i59_100 : zfetch 59 100 = some (6, .aload_n 0, 1) := by decide +kernel
theorem i59_101 : zfetch 59 101 = some (6, .iload 4, 2) := by decide +kernel
theorem i59_103 : zfetch 59 103 = some (6, .iconst 3, 1) := by decide +kernel
theorem i59_104 : zfetch 59 104 = some (6, .iload_n 2, 1) := by decide +kernel
theorem i59_105 : zfetch 59 105 = some (6, .iload_n 3, 1) := by decide +kernel
theorem i59_106 : zfetch 59 106 = some (6, .invokevirtual 35, 3) := by decide +kernel
theorem i59_109 : zfetch 59 109 = some (6, .istore 5, 2) := by decide +kernel
theorem i59_111 : zfetch 59 111 = some (6, .aload_n 0, 1) := by decide +kernel
theorem i59_112 : zfetch 59 112 = some (6, .getfield 28, 3) := by decide +kernel
theorem i59_115 : zfetch 59 115 = some (6, .ifCond .eq 7, 3) := by decide +kernel
theorem i59_118 : zfetch 59 118 = some (6, .iconst 0, 1) := by decide +kernel
theorem i59_119 : zfetch 59 119 = some (6, .goto 17, 3) := by decide +kernel
theorem i59_122 : zfetch 59 122 = some (6, .iload 5, 2) := by decide +kernel
theorem i59_124 : zfetch 59 124 = some (6, .aload_n 0, 1) := by decide +kernel
theorem i59_125 : zfetch 59 125 = some (6, .aload_n 0, 1) := by decide +kernel
theorem i59_126 : zfetch 59 126 = some (6, .getfield 18, 3) := by decide +kernel
theorem i59_129 : zfetch 59 129 = some (6, .iconst 1, 1) := by decide +kernel
theorem i59_130 : zfetch 59 130 = some (6, .iconst 1, 1) := by decide +kernel
theorem i59_131 : zfetch 59 131 = some (6, .iload_n 3, 1) := by decide +kernel
theorem i59_132 : zfetch 59 132 = some (6, .invokevirtual 35, 3) := by decide +kernel
theorem i59_135 : zfetch 59 135 = some (6, .iadd, 1) := by decide +kernel
theorem i59_136 : zfetch 59 136 = some (6, .ireturn, 1) := by decide +kernel
theorem i59_137 : zfetch 59 137 = some (6, .iconst 0, 1) := by decide +kernel
theorem i59_138 : zfetch 59 138 = some (6, .aload_n 0, 1) := by decide +kernel
theorem i59_139 : zfetch 59 139 = some (6, .iload 4, 2) := by decide +kernel
theorem i59_141 : zfetch 59 141 = some (6, .iconst 1, 1) := by decide +kernel
theorem i59_142 : zfetch 59 142 = some (6, .iload_n 2, 1) := by decide +kernel
theorem i59_143 : zfetch 59 143 = some (6, .iload_n 3, 1) := by decide +kernel
theorem i59_144 : zfetch 59 144 = some (6, .invokevirtual 35, 3) := by decide +kernel
theorem i59_147 : zfetch 59 147 = some (6, .isub, 1) := by decide +kernel
theorem i59_148 : zfetch 59 148 = some (6, .ireturn, 1) := by decide +kernel
theorem i59_149 : zfetch 59 149 = some (6, .aload_n 0, 1) := by decide +kernel
theorem i59_150 : zfetch 59 150 = some (6, .iload 4, 2) := by decide +kernel
theorem i59_152 : zfetch 59 152 = some (6, .iconst 2, 1) := by decide +kernel
theorem i59_153 : zfetch 59 153 = some (6, .iload_n 2, 1) := by decide +kernel
theorem i59_154 : zfetch 59 154 = some (6, .iconst 2, 1) := by decide +kernel
theorem i59_155 : zfetch 59 155 = some (6, .idiv, 1) := by decide +kernel
theorem i59_156 : zfetch 59 156 = some (6, .iload_n 3, 1) := by decide +kernel
theorem i59_157 : zfetch 59 157 = some (6, .invokevirtual 35, 3) := by decide +kernel
theorem i59_160 : zfetch 59 160 = some (6, .ireturn, 1) := by decide +kernel
theorem i59_161 : zfetch 59 161 = some (6, .aload_n 0, 1) := by decide +kernel
theorem i59_162 : zfetch 59 162 = some (6, .iload 4, 2) := by decide +kernel
theorem i59_164 : zfetch 59 164 = some (6, .iconst 0, 1) := by decide +kernel
theorem i59_165 : zfetch 59 165 = some (6, .iload_n 2, 1) := by decide +kernel
theorem i59_166 : zfetch 59 166 = some (6, .iload_n 3, 1) := by decide +kernel
theorem i59_167 : zfetch 59 167 = some (6, .invokevirtual 35, 3) := by decide +kernel
theorem i59_170 : zfetch 59 170 = some (6, .iconst 3, 1) := by decide +kernel
theorem i59_171 : zfetch 59 171 = some (6, .imul, 1) := by decide +kernel
theorem i59_172 : zfetch 59 172 = some (6, .ireturn, 1) := by decide +kernel
theorem i59_173 : zfetch 59 173 = some (6, .aload_n 0, 1) := by decide +kernel
theorem i59_174 : zfetch 59 174 = some (6, .iload 4, 2) := by decide +kernel
theorem i59_176 : zfetch 59 176 = some (6, .iconst 2, 1) := by decide +kernel
theorem i59_177 : zfetch 59 177 = some (6, .iload_n 2, 1) := by decide +kernel
theorem i59_178 : zfetch 59 178 = some (6, .iload_n 3, 1) := by decide +kernel
theorem i59_179 : zfetch 59 179 = some (6, .invokevirtual 35, 3) := by decide +kernel
theorem i59_182 : zfetch 59 182 = some (6, .aload_n 0, 1) := by decide +kernel
theorem i59_183 : zfetch 59 183 = some (6, .getfield 22, 3) := by decide +kernel
theorem i59_186 : zfetch 59 186 = some (6, .ixor, 1) := by decide +kernel
theorem i59_187 : zfetch 59 187 = some (6, .ireturn, 1) := by decide +kernel
theorem i59_188 : zfetch 59 188 = some (6, .aload_n 0, 1) := by decide +kernel
theorem i59_189 : zfetch 59 189 = some (6, .iload 4, 2) := by decide +kernel
theorem i59_191 : zfetch 59 191 = some (6, .iconst 1, 1) := by decide +kernel
theorem i59_192 : zfetch 59 192 = some (6, .iload_n 2, 1) := by decide +kernel
theorem i59_193 : zfetch 59 193 = some (6, .iconst 1, 1) := by decide +kernel
theorem i59_194 : zfetch 59 194 = some (6, .iadd, 1) := by decide +kernel
theorem i59_195 : zfetch 59 195 = some (6, .iload_n 3, 1) := by decide +kernel
theorem i59_196 : zfetch 59 196 = some (6, .invokevirtual 35, 3) := by decide +kernel
theorem i59_199 : zfetch 59 199 = some (6, .ireturn, 1) := by decide +kernel
theorem i59_200 : zfetch 59 200 = some (6, .bipush 9, 2) := by decide +kernel
theorem i59_202 : zfetch 59 202 = some (6, .ireturn, 1) := by decide +kernel
theorem i59_203 : zfetch 59 203 = some (6, .aload_n 0, 1) := by decide +kernel
theorem i59_204 : zfetch 59 204 = some (6, .iload 4, 2) := by decide +kernel
theorem i59_206 : zfetch 59 206 = some (6, .iconst 1, 1) := by decide +kernel
theorem i59_207 : zfetch 59 207 = some (6, .iload_n 2, 1) := by decide +kernel
theorem i59_208 : zfetch 59 208 = some (6, .iload_n 3, 1) := by decide +kernel
theorem i59_209 : zfetch 59 209 = some (6, .invokevirtual 35, 3) := by decide +kernel
theorem i59_212 : zfetch 59 212 = some (6, .aload_n 0, 1) := by decide +kernel
theorem i59_213 : zfetch 59 213 = some (6, .getfield 25, 3) := by decide +kernel
theorem i59_216 : zfetch 59 216 = some (6, .iadd, 1) := by decide +kernel
theorem i59_217 : zfetch 59 217 = some (6, .ireturn, 1) := by decide +kernel
theorem i60_0 : zfetch 60 0 = some (6, .iload_n 0, 1) := by decide +kernel
theorem i60_1 : zfetch 60 1 = some (6, .istore_n 2, 1) := by decide +kernel
theorem i60_2 : zfetch 60 2 = some (6, .iconst 0, 1) := by decide +kernel
theorem i60_3 : zfetch 60 3 = some (6, .istore_n 3, 1) := by decide +kernel
theorem i60_4 : zfetch 60 4 = some (6, .iload_n 3, 1) := by decide +kernel
theorem i60_5 : zfetch 60 5 = some (6, .bipush 6, 2) := by decide +kernel
theorem i60_7 : zfetch 60 7 = some (6, .if_icmp .gt 38, 3) := by decide +kernel
theorem i60_10 : zfetch 60 10 = some (6, .iload_n 2, 1) := by decide +kernel
theorem i60_11 : zfetch 60 11 = some (6, .ifCond .lt 34, 3) := by decide +kernel
theorem i60_14 : zfetch 60 14 = some (6, .getstatic 50, 3) := by decide +kernel
theorem i60_17 : zfetch 60 17 = some (6, .iconst 4, 1) := by decide +kernel
theorem i60_18 : zfetch 60 18 = some (6, .iload_n 2, 1) := by decide +kernel
theorem i60_19 : zfetch 60 19 = some (6, .imul, 1) := by decide +kernel
theorem i60_20 : zfetch 60 20 = some (6, .iload_n 1, 1) := by decide +kernel
theorem i60_21 : zfetch 60 21 = some (6, .iadd, 1) := by decide +kernel
theorem i60_22 : zfetch 60 22 = some (6, .iaload, 1) := by decide +kernel
theorem i60_23 : zfetch 60 23 = some (6, .istore 4, 2) := by decide +kernel
theorem i60_25 : zfetch 60 25 = some (6, .iload 4, 2) := by decide +kernel
theorem i60_27 : zfetch 60 27 = some (6, .ifCond .eq 6, 3) := by decide +kernel
theorem i60_30 : zfetch 60 30 = some (6, .iload 4, 2) := by decide +kernel
theorem i60_32 : zfetch 60 32 = some (6, .ireturn, 1) := by decide +kernel
theorem i60_33 : zfetch 60 33 = some (6, .getstatic 15, 3) := by decide +kernel
theorem i60_36 : zfetch 60 36 = some (6, .iload_n 2, 1) := by decide +kernel
theorem i60_37 : zfetch 60 37 = some (6, .iaload, 1) := by decide +kernel
theorem i60_38 : zfetch 60 38 = some (6, .istore_n 2, 1) := by decide +kernel
theorem i60_39 : zfetch 60 39 = some (6, .iinc 3 1, 3) := by decide +kernel
theorem i60_42 : zfetch 60 42 = some (6, .goto (-38), 3) := by decide +kernel
theorem i60_45 : zfetch 60 45 = some (6, .iconst 0, 1) := by decide +kernel
theorem i60_46 : zfetch 60 46 = some (6, .ireturn, 1) := by decide +kernel
theorem i61_0 : zfetch 61 0 = some (7, .iload_n 3, 1) := by decide +kernel
theorem i61_1 : zfetch 61 1 = some (7, .bipush 63, 2) := by decide +kernel
theorem i61_3 : zfetch 61 3 = some (7, .invokestatic 64, 3) := by decide +kernel
theorem i61_6 : zfetch 61 6 = some (7, .ifCond .eq 17, 3) := by decide +kernel
theorem i61_9 : zfetch 61 9 = some (7, .iload 4, 2) := by decide +kernel
theorem i61_11 : zfetch 61 11 = some (7, .bipush 99, 2) := by decide +kernel
theorem i61_13 : zfetch 61 13 = some (7, .invokestatic 64, 3) := by decide +kernel
theorem i61_16 : zfetch 61 16 = some (7, .ifCond .eq 7, 3) := by decide +kernel
theorem i61_19 : zfetch 61 19 = some (7, .iconst 1, 1) := by decide +kernel
theorem i61_20 : zfetch 61 20 = some (7, .goto 4, 3) := by decide +kernel
theorem i61_23 : zfetch 61 23 = some (7, .iconst 0, 1) := by decide +kernel
theorem i61_24 : zfetch 61 24 = some (7, .istore 5, 2) := by decide +kernel
theorem i61_26 : zfetch 61 26 = some (7, .iload_n 1, 1) := by decide +kernel
theorem i61_27 : zfetch 61 27 = some (7, .bipush 69, 2) := by decide +kernel
theorem i61_29 : zfetch 61 29 = some (7, .invokestatic 64, 3) := by decide +kernel
theorem i61_32 : zfetch 61 32 = some (7, .ifCond .eq 21, 3) := by decide +kernel
theorem i61_35 : zfetch 61 35 = some (7, .iload_n 2, 1) := by decide +kernel
theorem i61_36 : zfetch 61 36 = some (7, .iconst (-1), 1) := by decide +kernel
theorem i61_37 : zfetch 61 37 = some (7, .if_icmp .eq 11, 3) := by decide +kernel
theorem i61_40 : zfetch 61 40 = some (7, .aload_n 0, 1) := by decide +kernel
theorem i61_41 : zfetch 61 41 = some (7, .iload_n 2, 1) := by decide +kernel
theorem i61_42 : zfetch 61 42 = some (7, .invokevirtual 68, 3) := by decide +kernel
theorem i61_45 : zfetch 61 45 = some (7, .ifCond .eq 8, 3) := by decide +kernel
theorem i61_48 : zfetch 61 48 = some (7, .iload 5, 2) := by decide +kernel
theorem i61_50 : zfetch 61 50 = some (7, .ifCond .ne 9, 3) := by decide +kernel
theorem i61_53 : zfetch 61 53 = some (7, .aload_n 0, 1) := by decide +kernel
theorem i61_54 : zfetch 61 54 = some (7, .iconst 1, 1) := by decide +kernel
theorem i61_55 : zfetch 61 55 = some (7, .invokevirtual 72, 3) := by decide +kernel
theorem i61_58 : zfetch 61 58 = some (7, .ireturn, 1) := by decide +kernel
theorem i61_59 : zfetch 61 59 = some (7, .aload_n 0, 1) := by decide +kernel
theorem i61_60 : zfetch 61 60 = some (7, .getfield 47, 3) := by decide +kernel
theorem i61_63 : zfetch 61 63 = some (7, .getfield 76, 3) := by decide +kernel
theorem i61_66 : zfetch 61 66 = some (7, .bipush 8, 2) := by decide +kernel
theorem i61_68 : zfetch 61 68 = some (7, .if_icmp .lt 9, 3) := by decide +kernel
theorem i61_71 : zfetch 61 71 = some (7, .aload_n 0, 1) := by decide +kernel
theorem i61_72 : zfetch 61 72 = some (7, .iconst 4, 1) := by decide +kernel
theorem i61_73 : zfetch 61 73 = some (7, .invokevirtual 72, 3) := by decide +kernel
theorem i61_76 : zfetch 61 76 = some (7, .ireturn, 1) := by decide +kernel
theorem i61_77 : zfetch 61 77 = some (7, .aload_n 0, 1) := by decide +kernel
theorem i61_78 : zfetch 61 78 = some (7, .getfield 47, 3) := by decide +kernel
theorem i61_81 : zfetch 61 81 = some (7, .iload_n 1, 1) := by decide +kernel
theorem i61_82 : zfetch 61 82 = some (7, .iload_n 2, 1) := by decide +kernel
theorem i61_83 : zfetch 61 83 = some (7, .iload_n 3, 1) := by decide +kernel
theorem i61_84 : zfetch 61 84 = some (7, .iload 4, 2) := by decide +kernel
theorem i61_86 : zfetch 61 86 = some (7, .invokevirtual 80, 3) := by decide +kernel
theorem i61_89 : zfetch 61 89 = some (7, .ireturn, 1) := by decide +kernel
theorem i62_0 : zfetch 62 0 = some (7, .aload_n 0, 1) := by decide +kernel
theorem i62_1 : zfetch 62 1 = some (7, .iload_n 1, 1) := by decide +kernel
theorem i62_2 : zfetch 62 2 = some (7, .invokevirtual 68, 3) := by decide +kernel
theorem i62_5 : zfetch 62 5 = some (7, .ifCond .ne 9, 3) := by decide +kernel
theorem i62_8 : zfetch 62 8 = some (7, .aload_n 0, 1) := by decide +kernel
theorem i62_9 : zfetch 62 9 = some (7, .iconst 1, 1) := by decide +kernel
theorem i62_10 : zfetch 62 10 = some (7, .invokevirtual 72, 3) := by decide +kernel
theorem i62_13 : zfetch 62 13 = some (7, .ireturn, 1) := by decide +kernel
theorem i62_14 : zfetch 62 14 = some (7, .iload_n 2, 1) := by decide +kernel
theorem i62_15 : zfetch 62 15 = some (7, .tableswitch 136 0 8 #[49, 59, 69, 79, 89, 99, 109, 118, 127], 49) := by decide +kernel
theorem i62_64 : zfetch 62 64 = some (7, .aload_n 0, 1) := by decide +kernel
theorem i62_65 : zfetch 62 65 = some (7, .getfield 47, 3) := by decide +kernel
theorem i62_68 : zfetch 62 68 = some (7, .getfield 84, 3) := by decide +kernel
theorem i62_71 : zfetch 62 71 = some (7, .iload_n 1, 1) := by decide +kernel
theorem i62_72 : zfetch 62 72 = some (7, .iaload, 1) := by decide +kernel
theorem i62_73 : zfetch 62 73 = some (7, .ireturn, 1) := by decide +kernel
theorem i62_74 : zfetch 62 74 = some (7, .aload_n 0, 1) := by decide +kernel
theorem i62_75 : zfetch 62 75 = some (7, .getfield 47, 3) := by decide +kernel
theorem i62_78 : zfetch 62 78 = some (7, .getfield 87, 3) := by decide +kernel
theorem i62_81 : zfetch 62 81 = some (7, .iload_n 1, 1) := by decide +kernel
theorem i62_82 : zfetch 62 82 = some (7, .iaload, 1) := by decide +kernel
theorem i62_83 : zfetch 62 83 = some (7, .ireturn, 1) := by decide +kernel
theorem i62_84 : zfetch 62 84 = some (7, .aload_n 0, 1) := by decide +kernel
theorem i62_85 : zfetch 62 85 = some (7, .getfield 47, 3) := by decide +kernel
theorem i62_88 : zfetch 62 88 = some (7, .getfield 90, 3) := by decide +kernel
theorem i62_91 : zfetch 62 91 = some (7, .iload_n 1, 1) := by decide +kernel
theorem i62_92 : zfetch 62 92 = some (7, .iaload, 1) := by decide +kernel
theorem i62_93 : zfetch 62 93 = some (7, .ireturn, 1) := by decide +kernel
theorem i62_94 : zfetch 62 94 = some (7, .aload_n 0, 1) := by decide +kernel
theorem i62_95 : zfetch 62 95 = some (7, .getfield 47, 3) := by decide +kernel
theorem i62_98 : zfetch 62 98 = some (7, .getfield 93, 3) := by decide +kernel
theorem i62_101 : zfetch 62 101 = some (7, .iload_n 1, 1) := by decide +kernel
theorem i62_102 : zfetch 62 102 = some (7, .iaload, 1) := by decide +kernel
theorem i62_103 : zfetch 62 103 = some (7, .ireturn, 1) := by decide +kernel
theorem i62_104 : zfetch 62 104 = some (7, .aload_n 0, 1) := by decide +kernel
theorem i62_105 : zfetch 62 105 = some (7, .getfield 47, 3) := by decide +kernel
theorem i62_108 : zfetch 62 108 = some (7, .getfield 96, 3) := by decide +kernel
theorem i62_111 : zfetch 62 111 = some (7, .iload_n 1, 1) := by decide +kernel
theorem i62_112 : zfetch 62 112 = some (7, .iaload, 1) := by decide +kernel
theorem i62_113 : zfetch 62 113 = some (7, .ireturn, 1) := by decide +kernel
theorem i62_114 : zfetch 62 114 = some (7, .aload_n 0, 1) := by decide +kernel
theorem i62_115 : zfetch 62 115 = some (7, .getfield 47, 3) := by decide +kernel
theorem i62_118 : zfetch 62 118 = some (7, .getfield 99, 3) := by decide +kernel
theorem i62_121 : zfetch 62 121 = some (7, .iload_n 1, 1) := by decide +kernel
theorem i62_122 : zfetch 62 122 = some (7, .iaload, 1) := by decide +kernel
theorem i62_123 : zfetch 62 123 = some (7, .ireturn, 1) := by decide +kernel
theorem i62_124 : zfetch 62 124 = some (7, .aload_n 0, 1) := by decide +kernel
theorem i62_125 : zfetch 62 125 = some (7, .getfield 47, 3) := by decide +kernel
theorem i62_128 : zfetch 62 128 = some (7, .iload_n 1, 1) := by decide +kernel
theorem i62_129 : zfetch 62 129 = some (7, .invokevirtual 102, 3) := by decide +kernel
theorem i62_132 : zfetch 62 132 = some (7, .ireturn, 1) := by decide +kernel
theorem i62_133 : zfetch 62 133 = some (7, .aload_n 0, 1) := by decide +kernel
theorem i62_134 : zfetch 62 134 = some (7, .getfield 47, 3) := by decide +kernel
theorem i62_137 : zfetch 62 137 = some (7, .iload_n 1, 1) := by decide +kernel
theorem i62_138 : zfetch 62 138 = some (7, .invokevirtual 105, 3) := by decide +kernel
theorem i62_141 : zfetch 62 141 = some (7, .ireturn, 1) := by decide +kernel
theorem i62_142 : zfetch 62 142 = some (7, .aload_n 0, 1) := by decide +kernel
theorem i62_143 : zfetch 62 143 = some (7, .getfield 47, 3) := by decide +kernel
theorem i62_146 : zfetch 62 146 = some (7, .iload_n 1, 1) := by decide +kernel
theorem i62_147 : zfetch 62 147 = some (7, .invokevirtual 108, 3) := by decide +kernel
theorem i62_150 : zfetch 62 150 = some (7, .ireturn, 1) := by decide +kernel
theorem i62_151 : zfetch 62 151 = some (7, .aload_n 0, 1) := by decide +kernel
theorem i62_152 : zfetch 62 152 = some (7, .iconst 1, 1) := by decide +kernel
theorem i62_153 : zfetch 62 153 = some (7, .invokevirtual 72, 3) := by decide +kernel
theorem i62_156 : zfetch 62 156 = some (7, .ireturn, 1) := by decide +kernel
theorem i63_0 : zfetch 63 0 = some (7, .aload_n 0, 1) := by decide +kernel
theorem i63_1 : zfetch 63 1 = some (7, .iload_n 1, 1) := by decide +kernel
theorem i63_2 : zfetch 63 2 = some (7, .invokevirtual 68, 3) := by decide +kernel
theorem i63_5 : zfetch 63 5 = some (7, .ifCond .eq 12, 3) := by decide +kernel
theorem i63_8 : zfetch 63 8 = some (7, .iload_n 2, 1) := by decide +kernel
theorem i63_9 : zfetch 63 9 = some (7, .bipush 69, 2) := by decide +kernel
theorem i63_11 : zfetch 63 11 = some (7, .invokestatic 64, 3) := by decide +kernel
theorem i63_14 : zfetch 63 14 = some (7, .ifCond .ne 9, 3) := by decide +kernel
theorem i63_17 : zfetch 63 17 = some (7, .aload_n 0, 1) := by decide +kernel
theorem i63_18 : zfetch 63 18 = some (7, .iconst 1, 1) := by decide +kernel
theorem i63_19 : zfetch 63 19 = some (7, .invokevirtual 72, 3) := by decide +kernel
theorem i63_22 : zfetch 63 22 = some (7, .ireturn, 1) := by decide +kernel
theorem i63_23 : zfetch 63 23 = some (7, .aload_n 0, 1) := by decide +kernel
theorem i63_24 : zfetch 63 24 = some (7, .getfield 47, 3) := by decide +kernel
theorem i63_27 : zfetch 63 27 = some (7, .getfield 84, 3) := by decide +kernel
theorem i63_30 : zfetch 63 30 = some (7, .iload_n 1, 1) := by decide +kernel
theorem i63_31 : zfetch 63 31 = some (7, .iaload, 1) := by decide +kernel
theorem i63_32 : zfetch 63 32 = some (7, .istore_n 3, 1) := by decide +kernel
theorem i63_33 : zfetch 63 33 = some (7, .aload_n 0, 1) := by decide +kernel
theorem i63_34 : zfetch 63 34 = some (7, .getfield 47, 3) := by decide +kernel
theorem i63_37 : zfetch 63 37 = some (7, .getfield 84, 3) := by decide +kernel
theorem i63_40 : zfetch 63 40 = some (7, .iload_n 1, 1) := by decide +kernel
end
section
theorem i63_41 : zfetch 63 41 = some (7, .iload_n 2, 1) := by decide +kernel
theorem i63_42 : zfetch 63 42 = some (7, .bipush 10, 2) := by decide +kernel
theorem i63_44 : zfetch 63 44 = some (7, .idiv, 1) := by decide +kernel
theorem i63_45 : zfetch 63 45 = some (7, .iastore, 1) := by decide +kernel
theorem i63_46 : zfetch 63 46 = some (7, .aload_n 0, 1) := by decide +kernel
theorem i63_47 : zfetch 63 47 = some (7, .getfield 47, 3) := by decide +kernel
theorem i63_50 : zfetch 63 50 = some (7, .getfield 87, 3) := by decide +kernel
theorem i63_53 : zfetch 63 53 = some (7, .iload_n 1, 1) := by decide +kernel
theorem i63_54 : zfetch 63 54 = some (7, .iload_n 2, 1) := by decide +kernel
theorem i63_55 : zfetch 63 55 = some (7, .bipush 10, 2) := by decide +kernel
theorem i63_57 : zfetch 63 57 = some (7, .irem, 1) := by decide +kernel
theorem i63_58 : zfetch 63 58 = some (7, .iastore, 1) := by decide +kernel
theorem i63_59 : zfetch 63 59 = some (7, .iload_n 3, 1) := by decide +kernel
theorem i63_60 : zfetch 63 60 = some (7, .ireturn, 1) := by decide +kernel
theorem i64_0 : zfetch 64 0 = some (7, .aload_n 0, 1) := by decide +kernel
theorem i64_1 : zfetch 64 1 = some (7, .iload_n 1, 1) := by decide +kernel
theorem i64_2 : zfetch 64 2 = some (7, .invokevirtual 68, 3) := by decide +kernel
theorem i64_5 : zfetch 64 5 = some (7, .ifCond .eq 12, 3) := by decide +kernel
theorem i64_8 : zfetch 64 8 = some (7, .iload_n 2, 1) := by decide +kernel
theorem i64_9 : zfetch 64 9 = some (7, .bipush 6, 2) := by decide +kernel
theorem i64_11 : zfetch 64 11 = some (7, .invokestatic 64, 3) := by decide +kernel
theorem i64_14 : zfetch 64 14 = some (7, .ifCond .ne 9, 3) := by decide +kernel
theorem i64_17 : zfetch 64 17 = some (7, .aload_n 0, 1) := by decide +kernel
theorem i64_18 : zfetch 64 18 = some (7, .iconst 1, 1) := by decide +kernel
theorem i64_19 : zfetch 64 19 = some (7, .invokevirtual 72, 3) := by decide +kernel
theorem i64_22 : zfetch 64 22 = some (7, .ireturn, 1) := by decide +kernel
theorem i64_23 : zfetch 64 23 = some (7, .aload_n 0, 1) := by decide +kernel
theorem i64_24 : zfetch 64 24 = some (7, .getfield 47, 3) := by decide +kernel
theorem i64_27 : zfetch 64 27 = some (7, .getfield 84, 3) := by decide +kernel
theorem i64_30 : zfetch 64 30 = some (7, .iload_n 1, 1) := by decide +kernel
theorem i64_31 : zfetch 64 31 = some (7, .iaload, 1) := by decide +kernel
theorem i64_32 : zfetch 64 32 = some (7, .iload_n 2, 1) := by decide +kernel
theorem i64_33 : zfetch 64 33 = some (7, .invokestatic 111, 3) := by decide +kernel
theorem i64_36 : zfetch 64 36 = some (7, .ifCond .eq 15, 3) := by decide +kernel
theorem i64_39 : zfetch 64 39 = some (7, .aload_n 0, 1) := by decide +kernel
theorem i64_40 : zfetch 64 40 = some (7, .getfield 47, 3) := by decide +kernel
theorem i64_43 : zfetch 64 43 = some (7, .getfield 87, 3) := by decide +kernel
theorem i64_46 : zfetch 64 46 = some (7, .iload_n 1, 1) := by decide +kernel
theorem i64_47 : zfetch 64 47 = some (7, .iaload, 1) := by decide +kernel
theorem i64_48 : zfetch 64 48 = some (7, .goto 8, 3) := by decide +kernel
theorem i64_51 : zfetch 64 51 = some (7, .aload_n 0, 1) := by decide +kernel
theorem i64_52 : zfetch 64 52 = some (7, .iconst 5, 1) := by decide +kernel
theorem i64_53 : zfetch 64 53 = some (7, .invokevirtual 72, 3) := by decide +kernel
theorem i64_56 : zfetch 64 56 = some (7, .ireturn, 1) := by decide +kernel
theorem i65_0 : zfetch 65 0 = some (7, .aload_n 0, 1) := by decide +kernel
theorem i65_1 : zfetch 65 1 = some (7, .iload_n 1, 1) := by decide +kernel
theorem i65_2 : zfetch 65 2 = some (7, .invokevirtual 68, 3) := by decide +kernel
theorem i65_5 : zfetch 65 5 = some (7, .ifCond .eq 12, 3) := by decide +kernel
theorem i65_8 : zfetch 65 8 = some (7, .iload_n 2, 1) := by decide +kernel
theorem i65_9 : zfetch 65 9 = some (7, .bipush 99, 2) := by decide +kernel
theorem i65_11 : zfetch 65 11 = some (7, .invokestatic 64, 3) := by decide +kernel
theorem i65_14 : zfetch 65 14 = some (7, .ifCond .ne 9, 3) := by decide +kernel
theorem i65_17 : zfetch 65 17 = some (7, .aload_n 0, 1) := by decide +kernel
theorem i65_18 : zfetch 65 18 = some (7, .iconst 1, 1) := by decide +kernel
theorem i65_19 : zfetch 65 19 = some (7, .invokevirtual 72, 3) := by decide +kernel
theorem i65_22 : zfetch 65 22 = some (7, .ireturn, 1) := by decide +kernel
theorem i65_23 : zfetch 65 23 = some (7, .aload_n 0, 1) := by decide +kernel
theorem i65_24 : zfetch 65 24 = some (7, .getfield 47, 3) := by decide +kernel
theorem i65_27 : zfetch 65 27 = some (7, .iload_n 1, 1) := by decide +kernel
theorem i65_28 : zfetch 65 28 = some (7, .invokevirtual 114, 3) := by decide +kernel
theorem i65_31 : zfetch 65 31 = some (7, .ifCond .ne 9, 3) := by decide +kernel
theorem i65_34 : zfetch 65 34 = some (7, .aload_n 0, 1) := by decide +kernel
theorem i65_35 : zfetch 65 35 = some (7, .iconst 3, 1) := by decide +kernel
theorem i65_36 : zfetch 65 36 = some (7, .invokevirtual 72, 3) := by decide +kernel
theorem i65_39 : zfetch 65 39 = some (7, .ireturn, 1) := by decide +kernel
theorem i65_40 : zfetch 65 40 = some (7, .aload_n 0, 1) := by decide +kernel
theorem i65_41 : zfetch 65 41 = some (7, .getfield 47, 3) := by decide +kernel
theorem i65_44 : zfetch 65 44 = some (7, .getfield 99, 3) := by decide +kernel
theorem i65_47 : zfetch 65 47 = some (7, .iload_n 1, 1) := by decide +kernel
theorem i65_48 : zfetch 65 48 = some (7, .iaload, 1) := by decide +kernel
theorem i65_49 : zfetch 65 49 = some (7, .istore_n 3, 1) := by decide +kernel
theorem i65_50 : zfetch 65 50 = some (7, .aload_n 0, 1) := by decide +kernel
theorem i65_51 : zfetch 65 51 = some (7, .getfield 47, 3) := by decide +kernel
theorem i65_54 : zfetch 65 54 = some (7, .getfield 99, 3) := by decide +kernel
theorem i65_57 : zfetch 65 57 = some (7, .iload_n 1, 1) := by decide +kernel
theorem i65_58 : zfetch 65 58 = some (7, .iload_n 2, 1) := by decide +kernel
theorem i65_59 : zfetch 65 59 = some (7, .iastore, 1) := by decide +kernel
theorem i65_60 : zfetch 65 60 = some (7, .iload_n 3, 1) := by decide +kernel
theorem i65_61 : zfetch 65 61 = some (7, .ireturn, 1) := by decide +kernel
theorem i66_0 : zfetch 66 0 = some (7, .aload_n 0, 1) := by decide +kernel
theorem i66_1 : zfetch 66 1 = some (7, .iload_n 1, 1) := by decide +kernel
theorem i66_2 : zfetch 66 2 = some (7, .invokevirtual 68, 3) := by decide +kernel
theorem i66_5 : zfetch 66 5 = some (7, .ifCond .ne 9, 3) := by decide +kernel
theorem i66_8 : zfetch 66 8 = some (7, .aload_n 0, 1) := by decide +kernel
theorem i66_9 : zfetch 66 9 = some (7, .iconst 1, 1) := by decide +kernel
theorem i66_10 : zfetch 66 10 = some (7, .invokevirtual 72, 3) := by decide +kernel
theorem i66_13 : zfetch 66 13 = some (7, .ireturn, 1) := by decide +kernel
theorem i66_14 : zfetch 66 14 = some (7, .aload_n 0, 1) := by decide +kernel
theorem i66_15 : zfetch 66 15 = some (7, .getfield 47, 3) := by decide +kernel
theorem i66_18 : zfetch 66 18 = some (7, .iload_n 1, 1) := by decide +kernel
theorem i66_19 : zfetch 66 19 = some (7, .invokevirtual 114, 3) := by decide +kernel
theorem i66_22 : zfetch 66 22 = some (7, .ifCond .ne 9, 3) := by decide +kernel
theorem i66_25 : zfetch 66 25 = some (7, .aload_n 0, 1) := by decide +kernel
theorem i66_26 : zfetch 66 26 = some (7, .iconst 3, 1) := by decide +kernel
theorem i66_27 : zfetch 66 27 = some (7, .invokevirtual 72, 3) := by decide +kernel
theorem i66_30 : zfetch 66 30 = some (7, .ireturn, 1) := by decide +kernel
theorem i66_31 : zfetch 66 31 = some (7, .aload_n 0, 1) := by decide +kernel
theorem i66_32 : zfetch 66 32 = some (7, .getfield 47, 3) := by decide +kernel
theorem i66_35 : zfetch 66 35 = some (7, .getfield 90, 3) := by decide +kernel
theorem i66_38 : zfetch 66 38 = some (7, .iload_n 1, 1) := by decide +kernel
theorem i66_39 : zfetch 66 39 = some (7, .iaload, 1) := by decide +kernel
theorem i66_40 : zfetch 66 40 = some (7, .istore_n 2, 1) := by decide +kernel
theorem i66_41 : zfetch 66 41 = some (7, .aload_n 0, 1) := by decide +kernel
theorem i66_42 : zfetch 66 42 = some (7, .getfield 47, 3) := by decide +kernel
theorem i66_45 : zfetch 66 45 = some (7, .iload_n 1, 1) := by decide +kernel
theorem i66_46 : zfetch 66 46 = some (7, .invokevirtual 117, 3) := by decide +kernel
theorem i66_49 : zfetch 66 49 = some (7, .iload_n 2, 1) := by decide +kernel
theorem i66_50 : zfetch 66 50 = some (7, .ireturn, 1) := by decide +kernel
theorem i67_0 : zfetch 67 0 = some (7, .iload_n 1, 1) := by decide +kernel
theorem i67_1 : zfetch 67 1 = some (7, .iconst 5, 1) := by decide +kernel
theorem i67_2 : zfetch 67 2 = some (7, .invokestatic 64, 3) := by decide +kernel
theorem i67_5 : zfetch 67 5 = some (7, .ifCond .eq 20, 3) := by decide +kernel
theorem i67_8 : zfetch 67 8 = some (7, .iload_n 2, 1) := by decide +kernel
theorem i67_9 : zfetch 67 9 = some (7, .bipush 7, 2) := by decide +kernel
theorem i67_11 : zfetch 67 11 = some (7, .invokestatic 64, 3) := by decide +kernel
theorem i67_14 : zfetch 67 14 = some (7, .ifCond .eq 11, 3) := by decide +kernel
theorem i67_17 : zfetch 67 17 = some (7, .iload_n 3, 1) := by decide +kernel
theorem i67_18 : zfetch 67 18 = some (7, .iconst 1, 1) := by decide +kernel
theorem i67_19 : zfetch 67 19 = some (7, .invokestatic 64, 3) := by decide +kernel
theorem i67_22 : zfetch 67 22 = some (7, .ifCond .ne 9, 3) := by decide +kernel
theorem i67_25 : zfetch 67 25 = some (7, .aload_n 0, 1) := by decide +kernel
theorem i67_26 : zfetch 67 26 = some (7, .iconst 1, 1) := by decide +kernel
theorem i67_27 : zfetch 67 27 = some (7, .invokevirtual 72, 3) := by decide +kernel
theorem i67_30 : zfetch 67 30 = some (7, .ireturn, 1) := by decide +kernel
theorem i67_31 : zfetch 67 31 = some (7, .aload_n 0, 1) := by decide +kernel
theorem i67_32 : zfetch 67 32 = some (7, .getfield 47, 3) := by decide +kernel
theorem i67_35 : zfetch 67 35 = some (7, .getfield 121, 3) := by decide +kernel
theorem i67_38 : zfetch 67 38 = some (7, .iload_n 1, 1) := by decide +kernel
theorem i67_39 : zfetch 67 39 = some (7, .iaload, 1) := by decide +kernel
theorem i67_40 : zfetch 67 40 = some (7, .istore 4, 2) := by decide +kernel
theorem i67_42 : zfetch 67 42 = some (7, .aload_n 0, 1) := by decide +kernel
theorem i67_43 : zfetch 67 43 = some (7, .getfield 47, 3) := by decide +kernel
theorem i67_46 : zfetch 67 46 = some (7, .getfield 121, 3) := by decide +kernel
theorem i67_49 : zfetch 67 49 = some (7, .iload_n 1, 1) := by decide +kernel
theorem i67_50 : zfetch 67 50 = some (7, .bipush 10, 2) := by decide +kernel
theorem i67_52 : zfetch 67 52 = some (7, .iload_n 2, 1) := by decide +kernel
theorem i67_53 : zfetch 67 53 = some (7, .imul, 1) := by decide +kernel
theorem i67_54 : zfetch 67 54 = some (7, .iload_n 3, 1) := by decide +kernel
theorem i67_55 : zfetch 67 55 = some (7, .iadd, 1) := by decide +kernel
theorem i67_56 : zfetch 67 56 = some (7, .iastore, 1) := by decide +kernel
theorem i67_57 : zfetch 67 57 = some (7, .iload 4, 2) := by decide +kernel
theorem i67_59 : zfetch 67 59 = some (7, .ireturn, 1) := by decide +kernel
theorem i68_0 : zfetch 68 0 = some (7, .iload_n 1, 1) := by decide +kernel
theorem i68_1 : zfetch 68 1 = some (7, .iconst 5, 1) := by decide +kernel
theorem i68_2 : zfetch 68 2 = some (7, .invokestatic 64, 3) := by decide +kernel
theorem i68_5 : zfetch 68 5 = some (7, .ifCond .eq 15, 3) := by decide +kernel
theorem i68_8 : zfetch 68 8 = some (7, .aload_n 0, 1) := by decide +kernel
theorem i68_9 : zfetch 68 9 = some (7, .getfield 47, 3) := by decide +kernel
theorem i68_12 : zfetch 68 12 = some (7, .getfield 121, 3) := by decide +kernel
theorem i68_15 : zfetch 68 15 = some (7, .iload_n 1, 1) := by decide +kernel
theorem i68_16 : zfetch 68 16 = some (7, .iaload, 1) := by decide +kernel
theorem i68_17 : zfetch 68 17 = some (7, .goto 8, 3) := by decide +kernel
theorem i68_20 : zfetch 68 20 = some (7, .aload_n 0, 1) := by decide +kernel
theorem i68_21 : zfetch 68 21 = some (7, .iconst 1, 1) := by decide +kernel
theorem i68_22 : zfetch 68 22 = some (7, .invokevirtual 72, 3) := by decide +kernel
theorem i68_25 : zfetch 68 25 = some (7, .ireturn, 1) := by decide +kernel
theorem i69_0 : zfetch 69 0 = some (7, .iload_n 3, 1) := by decide +kernel
theorem i69_1 : zfetch 69 1 = some (7, .iconst 1, 1) := by decide +kernel
theorem i69_2 : zfetch 69 2 = some (7, .if_icmp .lt 9, 3) := by decide +kernel
theorem i69_5 : zfetch 69 5 = some (7, .iload_n 3, 1) := by decide +kernel
theorem i69_6 : zfetch 69 6 = some (7, .bipush 8, 2) := by decide +kernel
theorem i69_8 : zfetch 69 8 = some (7, .if_icmp .le 9, 3) := by decide +kernel
theorem i69_11 : zfetch 69 11 = some (7, .aload_n 0, 1) := by decide +kernel
theorem i69_12 : zfetch 69 12 = some (7, .iconst 1, 1) := by decide +kernel
theorem i69_13 : zfetch 69 13 = some (7, .invokevirtual 72, 3) := by decide +kernel
theorem i69_16 : zfetch 69 16 = some (7, .ireturn, 1) := by decide +kernel
theorem i69_17 : zfetch 69 17 = some (7, .iload_n 3, 1) := by decide +kernel
theorem i69_18 : zfetch 69 18 = some (7, .bipush 60, 2) := by decide +kernel
theorem i69_20 : zfetch 69 20 = some (7, .aload_n 0, 1) := by decide +kernel
theorem i69_21 : zfetch 69 21 = some (7, .getfield 10, 3) := by decide +kernel
theorem i69_24 : zfetch 69 24 = some (7, .getfield 124, 3) := by decide +kernel
theorem i69_27 : zfetch 69 27 = some (7, .getfield 128, 3) := by decide +kernel
theorem i69_30 : zfetch 69 30 = some (7, .isub, 1) := by decide +kernel
theorem i69_31 : zfetch 69 31 = some (7, .if_icmp .le 9, 3) := by decide +kernel
theorem i69_34 : zfetch 69 34 = some (7, .aload_n 0, 1) := by decide +kernel
theorem i69_35 : zfetch 69 35 = some (7, .iconst 4, 1) := by decide +kernel
theorem i69_36 : zfetch 69 36 = some (7, .invokevirtual 72, 3) := by decide +kernel
theorem i69_39 : zfetch 69 39 = some (7, .ireturn, 1) := by decide +kernel
theorem i69_40 : zfetch 69 40 = some (7, .iconst 0, 1) := by decide +kernel
theorem i69_41 : zfetch 69 41 = some (7, .istore 4, 2) := by decide +kernel
theorem i69_43 : zfetch 69 43 = some (7, .iload 4, 2) := by decide +kernel
theorem i69_45 : zfetch 69 45 = some (7, .iload_n 3, 1) := by decide +kernel
theorem i69_46 : zfetch 69 46 = some (7, .if_icmp .ge 31, 3) := by decide +kernel
theorem i69_49 : zfetch 69 49 = some (7, .aload_n 0, 1) := by decide +kernel
theorem i69_50 : zfetch 69 50 = some (7, .getfield 10, 3) := by decide +kernel
theorem i69_53 : zfetch 69 53 = some (7, .getfield 124, 3) := by decide +kernel
theorem i69_56 : zfetch 69 56 = some (7, .lload_n 1, 1) := by decide +kernel
theorem i69_57 : zfetch 69 57 = some (7, .bipush 8, 2) := by decide +kernel
theorem i69_59 : zfetch 69 59 = some (7, .iload 4, 2) := by decide +kernel
theorem i69_61 : zfetch 69 61 = some (7, .imul, 1) := by decide +kernel
theorem i69_62 : zfetch 69 62 = some (7, .lushr, 1) := by decide +kernel
theorem i69_63 : zfetch 69 63 = some (7, .l2i, 1) := by decide +kernel
theorem i69_64 : zfetch 69 64 = some (7, .sipush 255, 3) := by decide +kernel
theorem i69_67 : zfetch 69 67 = some (7, .iand, 1) := by decide +kernel
theorem i69_68 : zfetch 69 68 = some (7, .invokevirtual 133, 3) := by decide +kernel
theorem i69_71 : zfetch 69 71 = some (7, .iinc 4 1, 3) := by decide +kernel
theorem i69_74 : zfetch 69 74 = some (7, .goto (-31), 3) := by decide +kernel
theorem i69_77 : zfetch 69 77 = some (7, .aload_n 0, 1) := by decide +kernel
theorem i69_78 : zfetch 69 78 = some (7, .getfield 10, 3) := by decide +kernel
theorem i69_81 : zfetch 69 81 = some (7, .getfield 124, 3) := by decide +kernel
theorem i69_84 : zfetch 69 84 = some (7, .getfield 128, 3) := by decide +kernel
theorem i69_87 : zfetch 69 87 = some (7, .ireturn, 1) := by decide +kernel
theorem i70_0 : zfetch 70 0 = some (7, .iload_n 1, 1) := by decide +kernel
theorem i70_1 : zfetch 70 1 = some (7, .iconst 1, 1) := by decide +kernel
theorem i70_2 : zfetch 70 2 = some (7, .invokestatic 64, 3) := by decide +kernel
theorem i70_5 : zfetch 70 5 = some (7, .ifCond .ne 9, 3) := by decide +kernel
theorem i70_8 : zfetch 70 8 = some (7, .aload_n 0, 1) := by decide +kernel
theorem i70_9 : zfetch 70 9 = some (7, .iconst 1, 1) := by decide +kernel
theorem i70_10 : zfetch 70 10 = some (7, .invokevirtual 72, 3) := by decide +kernel
theorem i70_13 : zfetch 70 13 = some (7, .ireturn, 1) := by decide +kernel
theorem i70_14 : zfetch 70 14 = some (7, .aload_n 0, 1) := by decide +kernel
theorem i70_15 : zfetch 70 15 = some (7, .getfield 22, 3) := by decide +kernel
theorem i70_18 : zfetch 70 18 = some (7, .aload_n 0, 1) := by decide +kernel
theorem i70_19 : zfetch 70 19 = some (7, .getfield 10, 3) := by decide +kernel
theorem i70_22 : zfetch 70 22 = some (7, .getfield 124, 3) := by decide +kernel
theorem i70_25 : zfetch 70 25 = some (7, .iload_n 1, 1) := by decide +kernel
theorem i70_26 : zfetch 70 26 = some (7, .invokevirtual 135, 3) := by decide +kernel
theorem i70_29 : zfetch 70 29 = some (7, .istore_n 2, 1) := by decide +kernel
theorem i70_30 : zfetch 70 30 = some (7, .aload_n 0, 1) := by decide +kernel
theorem i70_31 : zfetch 70 31 = some (7, .getfield 10, 3) := by decide +kernel
theorem i70_34 : zfetch 70 34 = some (7, .getfield 124, 3) := by decide +kernel
theorem i70_37 : zfetch 70 37 = some (7, .iconst 0, 1) := by decide +kernel
theorem i70_38 : zfetch 70 38 = some (7, .putfield 128, 3) := by decide +kernel
theorem i70_41 : zfetch 70 41 = some (7, .iload_n 2, 1) := by decide +kernel
theorem i70_42 : zfetch 70 42 = some (7, .ifCond .lt 8, 3) := by decide +kernel
theorem i70_45 : zfetch 70 45 = some (7, .bipush (-10), 2) := by decide +kernel
theorem i70_47 : zfetch 70 47 = some (7, .iload_n 2, 1) := by decide +kernel
theorem i70_48 : zfetch 70 48 = some (7, .isub, 1) := by decide +kernel
theorem i70_49 : zfetch 70 49 = some (7, .ireturn, 1) := by decide +kernel
theorem i70_50 : zfetch 70 50 = some (7, .aload_n 0, 1) := by decide +kernel
theorem i70_51 : zfetch 70 51 = some (7, .iload_n 1, 1) := by decide +kernel
theorem i70_52 : zfetch 70 52 = some (7, .invokevirtual 139, 3) := by decide +kernel
theorem i70_55 : zfetch 70 55 = some (7, .aload_n 0, 1) := by decide +kernel
theorem i70_56 : zfetch 70 56 = some (7, .getfield 22, 3) := by decide +kernel
theorem i70_59 : zfetch 70 59 = some (7, .getfield 143, 3) := by decide +kernel
theorem i70_62 : zfetch 70 62 = some (7, .aload_n 0, 1) := by decide +kernel
theorem i70_63 : zfetch 70 63 = some (7, .getfield 22, 3) := by decide +kernel
theorem i70_66 : zfetch 70 66 = some (7, .getfield 146, 3) := by decide +kernel
theorem i70_69 : zfetch 70 69 = some (7, .invokevirtual 147, 3) := by decide +kernel
theorem i70_72 : zfetch 70 72 = some (7, .iconst 1, 1) := by decide +kernel
theorem i70_73 : zfetch 70 73 = some (7, .ireturn, 1) := by decide +kernel
theorem i71_0 : zfetch 71 0 = some (7, .iload_n 1, 1) := by decide +kernel
theorem i71_1 : zfetch 71 1 = some (7, .iconst 1, 1) := by decide +kernel
theorem i71_2 : zfetch 71 2 = some (7, .invokestatic 64, 3) := by decide +kernel
theorem i71_5 : zfetch 71 5 = some (7, .ifCond .ne 9, 3) := by decide +kernel
theorem i71_8 : zfetch 71 8 = some (7, .aload_n 0, 1) := by decide +kernel
theorem i71_9 : zfetch 71 9 = some (7, .iconst 1, 1) := by decide +kernel
theorem i71_10 : zfetch 71 10 = some (7, .invokevirtual 72, 3) := by decide +kernel
theorem i71_13 : zfetch 71 13 = some (7, .ireturn, 1) := by decide +kernel
theorem i71_14 : zfetch 71 14 = some (7, .aload_n 0, 1) := by decide +kernel
theorem i71_15 : zfetch 71 15 = some (7, .iload_n 1, 1) := by decide +kernel
theorem i71_16 : zfetch 71 16 = some (7, .invokevirtual 139, 3) := by decide +kernel
theorem i71_19 : zfetch 71 19 = some (7, .getfield 153, 3) := by decide +kernel
theorem i71_22 : zfetch 71 22 = some (7, .ifCond .le 7, 3) := by decide +kernel
theorem i71_25 : zfetch 71 25 = some (7, .iconst 1, 1) := by decide +kernel
theorem i71_26 : zfetch 71 26 = some (7, .goto 4, 3) := by decide +kernel
theorem i71_29 : zfetch 71 29 = some (7, .iconst 0, 1) := by decide +kernel
theorem i71_30 : zfetch 71 30 = some (7, .istore_n 2, 1) := by decide +kernel
theorem i71_31 : zfetch 71 31 = some (7, .aload_n 0, 1) := by decide +kernel
theorem i71_32 : zfetch 71 32 = some (7, .iload_n 1, 1) := by decide +kernel
theorem i71_33 : zfetch 71 33 = some (7, .invokevirtual 139, 3) := by decide +kernel
theorem i71_36 : zfetch 71 36 = some (7, .iconst 0, 1) := by decide +kernel
theorem i71_37 : zfetch 71 37 = some (7, .putfield 153, 3) := by decide +kernel
theorem i71_40 : zfetch 71 40 = some (7, .iload_n 2, 1) := by decide +kernel
theorem i71_41 : zfetch 71 41 = some (7, .ireturn, 1) := by decide +kernel
theorem i72_0 : zfetch 72 0 = some (7, .iload_n 1, 1) := by decide +kernel
theorem i72_1 : zfetch 72 1 = some (7, .iconst 1, 1) := by decide +kernel
theorem i72_2 : zfetch 72 2 = some (7, .invokestatic 64, 3) := by decide +kernel
theorem i72_5 : zfetch 72 5 = some (7, .ifCond .eq 18, 3) := by decide +kernel
theorem i72_8 : zfetch 72 8 = some (7, .aload_n 0, 1) := by decide +kernel
theorem i72_9 : zfetch 72 9 = some (7, .iload_n 1, 1) := by decide +kernel
theorem i72_10 : zfetch 72 10 = some (7, .invokevirtual 139, 3) := by decide +kernel
theorem i72_13 : zfetch 72 13 = some (7, .iload_n 2, 1) := by decide +kernel
theorem i72_14 : zfetch 72 14 = some (7, .iload_n 3, 1) := by decide +kernel
theorem i72_15 : zfetch 72 15 = some (7, .iload 4, 2) := by decide +kernel
theorem i72_17 : zfetch 72 17 = some (7, .invokevirtual 154, 3) := by decide +kernel
theorem i72_20 : zfetch 72 20 = some (7, .goto 8, 3) := by decide +kernel
theorem i72_23 : zfetch 72 23 = some (7, .aload_n 0, 1) := by decide +kernel
theorem i72_24 : zfetch 72 24 = some (7, .iconst 1, 1) := by decide +kernel
theorem i72_25 : zfetch 72 25 = some (7, .invokevirtual 72, 3) := by decide +kernel
theorem i72_28 : zfetch 72 28 = some (7, .ireturn, 1) := by decide +kernel
theorem i73_0 : zfetch 73 0 = some (7, .iload_n 1, 1) := by decide +kernel
theorem i73_1 : zfetch 73 1 = some (7, .iconst 1, 1) := by decide +kernel
theorem i73_2 : zfetch 73 2 = some (7, .if_icmp .lt 9, 3) := by decide +kernel
theorem i73_5 : zfetch 73 5 = some (7, .iload_n 1, 1) := by decide +kernel
theorem i73_6 : zfetch 73 6 = some (7, .bipush 60, 2) := by decide +kernel
theorem i73_8 : zfetch 73 8 = some (7, .if_icmp .le 9, 3) := by decide +kernel
theorem i73_11 : zfetch 73 11 = some (7, .aload_n 0, 1) := by decide +kernel
theorem i73_12 : zfetch 73 12 = some (7, .iconst 1, 1) := by decide +kernel
theorem i73_13 : zfetch 73 13 = some (7, .invokevirtual 72, 3) := by decide +kernel
theorem i73_16 : zfetch 73 16 = some (7, .ireturn, 1) := by decide +kernel
theorem i73_17 : zfetch 73 17 = some (7, .aload_n 0, 1) := by decide +kernel
theorem i73_18 : zfetch 73 18 = some (7, .getfield 47, 3) := by decide +kernel
theorem i73_21 : zfetch 73 21 = some (7, .getfield 158, 3) := by decide +kernel
theorem i73_24 : zfetch 73 24 = some (7, .iload_n 1, 1) := by decide +kernel
theorem i73_25 : zfetch 73 25 = some (7, .iadd, 1) := by decide +kernel
theorem i73_26 : zfetch 73 26 = some (7, .sipush 9999, 3) := by decide +kernel
theorem i73_29 : zfetch 73 29 = some (7, .if_icmp .le 9, 3) := by decide +kernel
theorem i73_32 : zfetch 73 32 = some (7, .aload_n 0, 1) := by decide +kernel
theorem i73_33 : zfetch 73 33 = some (7, .iconst 3, 1) := by decide +kernel
theorem i73_34 : zfetch 73 34 = some (7, .invokevirtual 72, 3) := by decide +kernel
theorem i73_37 : zfetch 73 37 = some (7, .ireturn, 1) := by decide +kernel
theorem i73_38 : zfetch 73 38 = some (7, .aload_n 0, 1) := by decide +kernel
theorem i73_39 : zfetch 73 39 = some (7, .getfield 47, 3) := by decide +kernel
theorem i73_42 : zfetch 73 42 = some (7, .iload_n 1, 1) := by decide +kernel
theorem i73_43 : zfetch 73 43 = some (7, .invokevirtual 161, 3) := by decide +kernel
theorem i73_46 : zfetch 73 46 = some (7, .aload_n 0, 1) := by decide +kernel
theorem i73_47 : zfetch 73 47 = some (7, .getfield 47, 3) := by decide +kernel
theorem i73_50 : zfetch 73 50 = some (7, .getfield 164, 3) := by decide +kernel
theorem i73_53 : zfetch 73 53 = some (7, .ireturn, 1) := by decide +kernel
theorem i74_0 : zfetch 74 0 = some (7, .iload_n 1, 1) := by decide +kernel
theorem i74_1 : zfetch 74 1 = some (7, .iconst 1, 1) := by decide +kernel
theorem i74_2 : zfetch 74 2 = some (7, .if_icmp .lt 9, 3) := by decide +kernel
theorem i74_5 : zfetch 74 5 = some (7, .iload_n 1, 1) := by decide +kernel
theorem i74_6 : zfetch 74 6 = some (7, .bipush 30, 2) := by decide +kernel
theorem i74_8 : zfetch 74 8 = some (7, .if_icmp .le 9, 3) := by decide +kernel
theorem i74_11 : zfetch 74 11 = some (7, .aload_n 0, 1) := by decide +kernel
theorem i74_12 : zfetch 74 12 = some (7, .iconst 1, 1) := by decide +kernel
theorem i74_13 : zfetch 74 13 = some (7, .invokevirtual 72, 3) := by decide +kernel
theorem i74_16 : zfetch 74 16 = some (7, .ireturn, 1) := by decide +kernel
theorem i74_17 : zfetch 74 17 = some (7, .aload_n 0, 1) := by decide +kernel
theorem i74_18 : zfetch 74 18 = some (7, .getfield 47, 3) := by decide +kernel
theorem i74_21 : zfetch 74 21 = some (7, .getfield 158, 3) := by decide +kernel
theorem i74_24 : zfetch 74 24 = some (7, .iload_n 1, 1) := by decide +kernel
theorem i74_25 : zfetch 74 25 = some (7, .iadd, 1) := by decide +kernel
theorem i74_26 : zfetch 74 26 = some (7, .sipush 9999, 3) := by decide +kernel
theorem i74_29 : zfetch 74 29 = some (7, .if_icmp .le 9, 3) := by decide +kernel
theorem i74_32 : zfetch 74 32 = some (7, .aload_n 0, 1) := by decide +kernel
theorem i74_33 : zfetch 74 33 = some (7, .iconst 3, 1) := by decide +kernel
theorem i74_34 : zfetch 74 34 = some (7, .invokevirtual 72, 3) := by decide +kernel
theorem i74_37 : zfetch 74 37 = some (7, .ireturn, 1) := by decide +kernel
theorem i74_38 : zfetch 74 38 = some (7, .iconst 0, 1) := by decide +kernel
theorem i74_39 : zfetch 74 39 = some (7, .istore_n 2, 1) := by decide +kernel
theorem i74_40 : zfetch 74 40 = some (7, .iload_n 2, 1) := by decide +kernel
theorem i74_41 : zfetch 74 41 = some (7, .iload_n 1, 1) := by decide +kernel
theorem i74_42 : zfetch 74 42 = some (7, .if_icmp .ge 23, 3) := by decide +kernel
theorem i74_45 : zfetch 74 45 = some (7, .aload_n 0, 1) := by decide +kernel
theorem i74_46 : zfetch 74 46 = some (7, .getfield 47, 3) := by decide +kernel
theorem i74_49 : zfetch 74 49 = some (7, .invokevirtual 167, 3) := by decide +kernel
theorem i74_52 : zfetch 74 52 = some (7, .aload_n 0, 1) := by decide +kernel
theorem i74_53 : zfetch 74 53 = some (7, .getfield 47, 3) := by decide +kernel
theorem i74_56 : zfetch 74 56 = some (7, .invokevirtual 170, 3) := by decide +kernel
theorem i74_59 : zfetch 74 59 = some (7, .iinc 2 1, 3) := by decide +kernel
theorem i74_62 : zfetch 74 62 = some (7, .goto (-22), 3) := by decide +kernel
theorem i74_65 : zfetch 74 65 = some (7, .aload_n 0, 1) := by decide +kernel
theorem i74_66 : zfetch 74 66 = some (7, .getfield 47, 3) := by decide +kernel
theorem i74_69 : zfetch 74 69 = some (7, .getfield 164, 3) := by decide +kernel
theorem i74_72 : zfetch 74 72 = some (7, .ireturn, 1) := by decide +kernel
theorem i75_0 : zfetch 75 0 = some (7, .iload_n 1, 1) := by decide +kernel
theorem i75_1 : zfetch 75 1 = some (7, .sipush 9999, 3) := by decide +kernel
theorem i75_4 : zfetch 75 4 = some (7, .invokestatic 64, 3) := by decide +kernel
theorem i75_7 : zfetch 75 7 = some (7, .ifCond .ne 9, 3) := by decide +kernel
theorem i75_10 : zfetch 75 10 = some (7, .aload_n 0, 1) := by decide +kernel
theorem i75_11 : zfetch 75 11 = some (7, .iconst 1, 1) := by decide +kernel
theorem i75_12 : zfetch 75 12 = some (7, .invokevirtual 72, 3) := by decide +kernel
theorem i75_15 : zfetch 75 15 = some (7, .ireturn, 1) := by decide +kernel
theorem i75_16 : zfetch 75 16 = some (7, .aload_n 0, 1) := by decide +kernel
theorem i75_17 : zfetch 75 17 = some (7, .getfield 47, 3) := by decide +kernel
theorem i75_20 : zfetch 75 20 = some (7, .getfield 158, 3) := by decide +kernel
theorem i75_23 : zfetch 75 23 = some (7, .istore_n 2, 1) := by decide +kernel
theorem i75_24 : zfetch 75 24 = some (7, .aload_n 0, 1) := by decide +kernel
theorem i75_25 : zfetch 75 25 = some (7, .getfield 47, 3) := by decide +kernel
theorem i75_28 : zfetch 75 28 = some (7, .iload_n 1, 1) := by decide +kernel
theorem i75_29 : zfetch 75 29 = some (7, .putfield 158, 3) := by decide +kernel
theorem i75_32 : zfetch 75 32 = some (7, .iload_n 2, 1) := by decide +kernel
theorem i75_33 : zfetch 75 33 = some (7, .ireturn, 1) := by decide +kernel
theorem i76_0 : zfetch 76 0 = some (7, .aload_n 0, 1) := by decide +kernel
theorem i76_1 : zfetch 76 1 = some (7, .getfield 47, 3) := by decide +kernel
theorem i76_4 : zfetch 76 4 = some (7, .getfield 173, 3) := by decide +kernel
theorem i76_7 : zfetch 76 7 = some (7, .istore_n 2, 1) := by decide +kernel
theorem i76_8 : zfetch 76 8 = some (7, .aload_n 0, 1) := by decide +kernel
theorem i76_9 : zfetch 76 9 = some (7, .getfield 47, 3) := by decide +kernel
theorem i76_12 : zfetch 76 12 = some (7, .iload_n 1, 1) := by decide +kernel
theorem i76_13 : zfetch 76 13 = some (7, .putfield 173, 3) := by decide +kernel
theorem i76_16 : zfetch 76 16 = some (7, .iload_n 2, 1) := by decide +kernel
theorem i76_17 : zfetch 76 17 = some (7, .ireturn, 1) := by decide +kernel
theorem i77_0 : zfetch 77 0 = some (7, .aload_n 0, 1) := by decide +kernel
theorem i77_1 : zfetch 77 1 = some (7, .iload_n 1, 1) := by decide +kernel
theorem i77_2 : zfetch 77 2 = some (7, .invokevirtual 68, 3) := by decide +kernel
theorem i77_5 : zfetch 77 5 = some (7, .ifCond .eq 14, 3) := by decide +kernel
theorem i77_8 : zfetch 77 8 = some (7, .aload_n 0, 1) := by decide +kernel
theorem i77_9 : zfetch 77 9 = some (7, .getfield 47, 3) := by decide +kernel
theorem i77_12 : zfetch 77 12 = some (7, .iload_n 1, 1) := by decide +kernel
theorem i77_13 : zfetch 77 13 = some (7, .invokevirtual 176, 3) := by decide +kernel
theorem i77_16 : zfetch 77 16 = some (7, .goto 8, 3) := by decide +kernel
theorem i77_19 : zfetch 77 19 = some (7, .aload_n 0, 1) := by decide +kernel
theorem i77_20 : zfetch 77 20 = some (7, .iconst 1, 1) := by decide +kernel
theorem i77_21 : zfetch 77 21 = some (7, .invokevirtual 72, 3) := by decide +kernel
theorem i77_24 : zfetch 77 24 = some (7, .ireturn, 1) := by decide +kernel
theorem i78_0 : zfetch 78 0 = some (7, .aload_n 0, 1) := by decide +kernel
theorem i78_1 : zfetch 78 1 = some (7, .iload_n 1, 1) := by decide +kernel
theorem i78_2 : zfetch 78 2 = some (7, .invokevirtual 68, 3) := by decide +kernel
theorem i78_5 : zfetch 78 5 = some (7, .ifCond .eq 11, 3) := by decide +kernel
theorem i78_8 : zfetch 78 8 = some (7, .aload_n 0, 1) := by decide +kernel
theorem i78_9 : zfetch 78 9 = some (7, .iload_n 2, 1) := by decide +kernel
theorem i78_10 : zfetch 78 10 = some (7, .invokevirtual 68, 3) := by decide +kernel
theorem i78_13 : zfetch 78 13 = some (7, .ifCond .ne 9, 3) := by decide +kernel
theorem i78_16 : zfetch 78 16 = some (7, .aload_n 0, 1) := by decide +kernel
theorem i78_17 : zfetch 78 17 = some (7, .iconst 1, 1) := by decide +kernel
theorem i78_18 : zfetch 78 18 = some (7, .invokevirtual 72, 3) := by decide +kernel
theorem i78_21 : zfetch 78 21 = some (7, .ireturn, 1) := by decide +kernel
theorem i78_22 : zfetch 78 22 = some (7, .aload_n 0, 1) := by decide +kernel
theorem i78_23 : zfetch 78 23 = some (7, .getfield 47, 3) := by decide +kernel
theorem i78_26 : zfetch 78 26 = some (7, .iload_n 1, 1) := by decide +kernel
theorem i78_27 : zfetch 78 27 = some (7, .invokevirtual 176, 3) := by decide +kernel
theorem i78_30 : zfetch 78 30 = some (7, .aload_n 0, 1) := by decide +kernel
theorem i78_31 : zfetch 78 31 = some (7, .getfield 47, 3) := by decide +kernel
theorem i78_34 : zfetch 78 34 = some (7, .iload_n 2, 1) := by decide +kernel
theorem i78_35 : zfetch 78 35 = some (7, .invokevirtual 176, 3) := by decide +kernel
theorem i78_38 : zfetch 78 38 = some (7, .iand, 1) := by decide +kernel
theorem i78_39 : zfetch 78 39 = some (7, .istore_n 3, 1) := by decide +kernel
theorem i78_40 : zfetch 78 40 = some (7, .iload_n 3, 1) := by decide +kernel
theorem i78_41 : zfetch 78 41 = some (7, .ifCond .ne 9, 3) := by decide +kernel
theorem i78_44 : zfetch 78 44 = some (7, .aload_n 0, 1) := by decide +kernel
theorem i78_45 : zfetch 78 45 = some (7, .iconst 2, 1) := by decide +kernel
theorem i78_46 : zfetch 78 46 = some (7, .invokevirtual 72, 3) := by decide +kernel
theorem i78_49 : zfetch 78 49 = some (7, .ireturn, 1) := by decide +kernel
theorem i78_50 : zfetch 78 50 = some (7, .aload_n 0, 1) := by decide +kernel
theorem i78_51 : zfetch 78 51 = some (7, .getfield 47, 3) := by decide +kernel
theorem i78_54 : zfetch 78 54 = some (7, .iload_n 1, 1) := by decide +kernel
theorem i78_55 : zfetch 78 55 = some (7, .iload_n 3, 1) := by decide +kernel
theorem i78_56 : zfetch 78 56 = some (7, .invokevirtual 179, 3) := by decide +kernel
theorem i78_59 : zfetch 78 59 = some (7, .aload_n 0, 1) := by decide +kernel
theorem i78_60 : zfetch 78 60 = some (7, .getfield 47, 3) := by decide +kernel
theorem i78_63 : zfetch 78 63 = some (7, .iload_n 2, 1) := by decide +kernel
theorem i78_64 : zfetch 78 64 = some (7, .iload_n 3, 1) := by decide +kernel
theorem i78_65 : zfetch 78 65 = some (7, .invokevirtual 179, 3) := by decide +kernel
theorem i78_68 : zfetch 78 68 = some (7, .iadd, 1) := by decide +kernel
theorem i78_69 : zfetch 78 69 = some (7, .ireturn, 1) := by decide +kernel
theorem i79_0 : zfetch 79 0 = some (7, .iload_n 1, 1) := by decide +kernel
theorem i79_1 : zfetch 79 1 = some (7, .bipush 63, 2) := by decide +kernel
theorem i79_3 : zfetch 79 3 = some (7, .invokestatic 64, 3) := by decide +kernel
theorem i79_6 : zfetch 79 6 = some (7, .ifCond .eq 14, 3) := by decide +kernel
theorem i79_9 : zfetch 79 9 = some (7, .aload_n 0, 1) := by decide +kernel
theorem i79_10 : zfetch 79 10 = some (7, .getfield 47, 3) := by decide +kernel
theorem i79_13 : zfetch 79 13 = some (7, .iload_n 1, 1) := by decide +kernel
theorem i79_14 : zfetch 79 14 = some (7, .invokevirtual 183, 3) := by decide +kernel
theorem i79_17 : zfetch 79 17 = some (7, .goto 8, 3) := by decide +kernel
theorem i79_20 : zfetch 79 20 = some (7, .aload_n 0, 1) := by decide +kernel
theorem i79_21 : zfetch 79 21 = some (7, .iconst 1, 1) := by decide +kernel
theorem i79_22 : zfetch 79 22 = some (7, .invokevirtual 72, 3) := by decide +kernel
theorem i79_25 : zfetch 79 25 = some (7, .ireturn, 1) := by decide +kernel
theorem i80_0 : zfetch 80 0 = some (7, .iload_n 1, 1) := by decide +kernel
theorem i80_1 : zfetch 80 1 = some (7, .iconst 1, 1) := by decide +kernel
theorem i80_2 : zfetch 80 2 = some (7, .invokestatic 64, 3) := by decide +kernel
theorem i80_5 : zfetch 80 5 = some (7, .ifCond .ne 9, 3) := by decide +kernel
theorem i80_8 : zfetch 80 8 = some (7, .aload_n 0, 1) := by decide +kernel
theorem i80_9 : zfetch 80 9 = some (7, .iconst 1, 1) := by decide +kernel
theorem i80_10 : zfetch 80 10 = some (7, .invokevirtual 72, 3) := by decide +kernel
theorem i80_13 : zfetch 80 13 = some (7, .ireturn, 1) := by decide +kernel
theorem i80_14 : zfetch 80 14 = some (7, .iconst 0, 1) := by decide +kernel
theorem i80_15 : zfetch 80 15 = some (7, .istore_n 2, 1) := by decide +kernel
theorem i80_16 : zfetch 80 16 = some (7, .iconst 0, 1) := by decide +kernel
theorem i80_17 : zfetch 80 17 = some (7, .istore_n 3, 1) := by decide +kernel
theorem i80_18 : zfetch 80 18 = some (7, .iconst 0, 1) := by decide +kernel
theorem i80_19 : zfetch 80 19 = some (7, .istore 4, 2) := by decide +kernel
theorem i80_21 : zfetch 80 21 = some (7, .iload 4, 2) := by decide +kernel
theorem i80_23 : zfetch 80 23 = some (7, .bipush 63, 2) := by decide +kernel
theorem i80_25 : zfetch 80 25 = some (7, .if_icmp .gt 35, 3) := by decide +kernel
theorem i80_28 : zfetch 80 28 = some (7, .aload_n 0, 1) := by decide +kernel
theorem i80_29 : zfetch 80 29 = some (7, .getfield 47, 3) := by decide +kernel
theorem i80_32 : zfetch 80 32 = some (7, .iload 4, 2) := by decide +kernel
theorem i80_34 : zfetch 80 34 = some (7, .invokevirtual 183, 3) := by decide +kernel
theorem i80_37 : zfetch 80 37 = some (7, .invokestatic 186, 3) := by decide +kernel
theorem i80_40 : zfetch 80 40 = some (7, .istore 5, 2) := by decide +kernel
theorem i80_42 : zfetch 80 42 = some (7, .iload 5, 2) := by decide +kernel
theorem i80_44 : zfetch 80 44 = some (7, .iload_n 3, 1) := by decide +kernel
theorem i80_45 : zfetch 80 45 = some (7, .if_icmp .le 9, 3) := by decide +kernel
theorem i80_48 : zfetch 80 48 = some (7, .iload 4, 2) := by decide +kernel
theorem i80_50 : zfetch 80 50 = some (7, .istore_n 2, 1) := by decide +kernel
theorem i80_51 : zfetch 80 51 = some (7, .iload 5, 2) := by decide +kernel
theorem i80_53 : zfetch 80 53 = some (7, .istore_n 3, 1) := by decide +kernel
theorem i80_54 : zfetch 80 54 = some (7, .iinc 4 1, 3) := by decide +kernel
theorem i80_57 : zfetch 80 57 = some (7, .goto (-36), 3) := by decide +kernel
theorem i80_60 : zfetch 80 60 = some (7, .iload_n 1, 1) := by decide +kernel
theorem i80_61 : zfetch 80 61 = some (7, .ifCond .ne 7, 3) := by decide +kernel
theorem i80_64 : zfetch 80 64 = some (7, .iload_n 2, 1) := by decide +kernel
theorem i80_65 : zfetch 80 65 = some (7, .goto 4, 3) := by decide +kernel
theorem i80_68 : zfetch 80 68 = some (7, .iload_n 3, 1) := by decide +kernel
theorem i80_69 : zfetch 80 69 = some (7, .ireturn, 1) := by decide +kernel
theorem i81_0 : zfetch 81 0 = some (7, .iconst 0, 1) := by decide +kernel
theorem i81_1 : zfetch 81 1 = some (7, .istore_n 1, 1) := by decide +kernel
theorem i81_2 : zfetch 81 2 = some (7, .iconst 0, 1) := by decide +kernel
theorem i81_3 : zfetch 81 3 = some (7, .istore_n 2, 1) := by decide +kernel
theorem i81_4 : zfetch 81 4 = some (7, .iload_n 2, 1) := by decide +kernel
theorem i81_5 : zfetch 81 5 = some (7, .aload_n 0, 1) := by decide +kernel
theorem i81_6 : zfetch 81 6 = some (7, .getfield 47, 3) := by decide +kernel
theorem i81_9 : zfetch 81 9 = some (7, .getfield 76, 3) := by decide +kernel
theorem i81_12 : zfetch 81 12 = some (7, .if_icmp .ge 37, 3) := by decide +kernel
theorem i81_15 : zfetch 81 15 = some (7, .iconst 0, 1) := by decide +kernel
theorem i81_16 : zfetch 81 16 = some (7, .istore_n 3, 1) := by decide +kernel
theorem i81_17 : zfetch 81 17 = some (7, .iload_n 3, 1) := by decide +kernel
theorem i81_18 : zfetch 81 18 = some (7, .iload_n 2, 1) := by decide +kernel
theorem i81_19 : zfetch 81 19 = some (7, .if_icmp .ge 24, 3) := by decide +kernel
theorem i81_22 : zfetch 81 22 = some (7, .aload_n 0, 1) := by decide +kernel
theorem i81_23 : zfetch 81 23 = some (7, .getfield 47, 3) := by decide +kernel
theorem i81_26 : zfetch 81 26 = some (7, .iload_n 2, 1) := by decide +kernel
theorem i81_27 : zfetch 81 27 = some (7, .iload_n 3, 1) := by decide +kernel
theorem i81_28 : zfetch 81 28 = some (7, .invokevirtual 191, 3) := by decide +kernel
theorem i81_31 : zfetch 81 31 = some (7, .ifCond .eq 6, 3) := by decide +kernel
theorem i81_34 : zfetch 81 34 = some (7, .iinc 1 1, 3) := by decide +kernel
theorem i81_37 : zfetch 81 37 = some (7, .iinc 3 1, 3) := by decide +kernel
theorem i81_40 : zfetch 81 40 = some (7, .goto (-23), 3) := by decide +kernel
theorem i81_43 : zfetch 81 43 = some (7, .iinc 2 1, 3) := by decide +kernel
theorem i81_46 : zfetch 81 46 = some (7, .goto (-42), 3) := by decide +kernel
theorem i81_49 : zfetch 81 49 = some (7, .iload_n 1, 1) := by decide +kernel
theorem i81_50 : zfetch 81 50 = some (7, .ireturn, 1) := by decide +kernel
theorem i82_0 : zfetch 82 0 = some (7, .aload_n 0, 1) := by decide +kernel
theorem i82_1 : zfetch 82 1 = some (7, .iload_n 1, 1) := by decide +kernel
theorem i82_2 : zfetch 82 2 = some (7, .invokevirtual 68, 3) := by decide +kernel
theorem i82_5 : zfetch 82 5 = some (7, .ifCond .eq 12, 3) := by decide +kernel
theorem i82_8 : zfetch 82 8 = some (7, .iload_n 2, 1) := by decide +kernel
theorem i82_9 : zfetch 82 9 = some (7, .bipush 60, 2) := by decide +kernel
theorem i82_11 : zfetch 82 11 = some (7, .invokestatic 64, 3) := by decide +kernel
theorem i82_14 : zfetch 82 14 = some (7, .ifCond .ne 9, 3) := by decide +kernel
theorem i82_17 : zfetch 82 17 = some (7, .aload_n 0, 1) := by decide +kernel
theorem i82_18 : zfetch 82 18 = some (7, .iconst 1, 1) := by decide +kernel
theorem i82_19 : zfetch 82 19 = some (7, .invokevirtual 72, 3) := by decide +kernel
theorem i82_22 : zfetch 82 22 = some (7, .ireturn, 1) := by decide +kernel
theorem i82_23 : zfetch 82 23 = some (7, .aload_n 0, 1) := by decide +kernel
theorem i82_24 : zfetch 82 24 = some (7, .getfield 60, 3) := by decide +kernel
theorem i82_27 : zfetch 82 27 = some (7, .aload_n 0, 1) := by decide +kernel
theorem i82_28 : zfetch 82 28 = some (7, .getfield 47, 3) := by decide +kernel
theorem i82_31 : zfetch 82 31 = some (7, .invokevirtual 194, 3) := by decide +kernel
theorem i82_34 : zfetch 82 34 = some (7, .aload_n 0, 1) := by decide +kernel
theorem i82_35 : zfetch 82 35 = some (7, .getfield 60, 3) := by decide +kernel
theorem i82_38 : zfetch 82 38 = some (7, .iload_n 2, 1) := by decide +kernel
theorem i82_39 : zfetch 82 39 = some (7, .invokevirtual 161, 3) := by decide +kernel
theorem i82_42 : zfetch 82 42 = some (7, .aload_n 0, 1) := by decide +kernel
theorem i82_43 : zfetch 82 43 = some (7, .getfield 60, 3) := by decide +kernel
theorem i82_46 : zfetch 82 46 = some (7, .getfield 93, 3) := by decide +kernel
theorem i82_49 : zfetch 82 49 = some (7, .iload_n 1, 1) := by decide +kernel
theorem i82_50 : zfetch 82 50 = some (7, .iaload, 1) := by decide +kernel
theorem i82_51 : zfetch 82 51 = some (7, .ireturn, 1) := by decide +kernel
theorem i83_0 : zfetch 83 0 = some (7, .iload_n 1, 1) := by decide +kernel
theorem i83_1 : zfetch 83 1 = some (7, .bipush 60, 2) := by decide +kernel
theorem i83_3 : zfetch 83 3 = some (7, .invokestatic 64, 3) := by decide +kernel
theorem i83_6 : zfetch 83 6 = some (7, .ifCond .ne 9, 3) := by decide +kernel
theorem i83_9 : zfetch 83 9 = some (7, .aload_n 0, 1) := by decide +kernel
theorem i83_10 : zfetch 83 10 = some (7, .iconst 1, 1) := by decide +kernel
theorem i83_11 : zfetch 83 11 = some (7, .invokevirtual 72, 3) := by decide +kernel
theorem i83_14 : zfetch 83 14 = some (7, .ireturn, 1) := by decide +kernel
theorem i83_15 : zfetch 83 15 = some (7, .aload_n 0, 1) := by decide +kernel
theorem i83_16 : zfetch 83 16 = some (7, .getfield 60, 3) := by decide +kernel
theorem i83_19 : zfetch 83 19 = some (7, .aload_n 0, 1) := by decide +kernel
theorem i83_20 : zfetch 83 20 = some (7, .getfield 47, 3) := by decide +kernel
theorem i83_23 : zfetch 83 23 = some (7, .invokevirtual 194, 3) := by decide +kernel
theorem i83_26 : zfetch 83 26 = some (7, .aload_n 0, 1) := by decide +kernel
theorem i83_27 : zfetch 83 27 = some (7, .getfield 60, 3) := by decide +kernel
theorem i83_30 : zfetch 83 30 = some (7, .iload_n 1, 1) := by decide +kernel
theorem i83_31 : zfetch 83 31 = some (7, .invokevirtual 161, 3) := by decide +kernel
theorem i83_34 : zfetch 83 34 = some (7, .aload_n 0, 1) := by decide +kernel
theorem i83_35 : zfetch 83 35 = some (7, .getfield 60, 3) := by decide +kernel
theorem i83_38 : zfetch 83 38 = some (7, .invokevirtual 198, 3) := by decide +kernel
theorem i83_41 : zfetch 83 41 = some (7, .ireturn, 1) := by decide +kernel
theorem i84_0 : zfetch 84 0 = some (7, .aload_n 0, 1) := by decide +kernel
theorem i84_1 : zfetch 84 1 = some (7, .iload_n 1, 1) := by decide +kernel
theorem i84_2 : zfetch 84 2 = some (7, .invokevirtual 68, 3) := by decide +kernel
theorem i84_5 : zfetch 84 5 = some (7, .ifCond .eq 12, 3) := by decide +kernel
theorem i84_8 : zfetch 84 8 = some (7, .iload_n 2, 1) := by decide +kernel
theorem i84_9 : zfetch 84 9 = some (7, .bipush 63, 2) := by decide +kernel
theorem i84_11 : zfetch 84 11 = some (7, .invokestatic 64, 3) := by decide +kernel
theorem i84_14 : zfetch 84 14 = some (7, .ifCond .ne 9, 3) := by decide +kernel
theorem i84_17 : zfetch 84 17 = some (7, .aload_n 0, 1) := by decide +kernel
theorem i84_18 : zfetch 84 18 = some (7, .iconst 1, 1) := by decide +kernel
theorem i84_19 : zfetch 84 19 = some (7, .invokevirtual 72, 3) := by decide +kernel
theorem i84_22 : zfetch 84 22 = some (7, .ireturn, 1) := by decide +kernel
theorem i84_23 : zfetch 84 23 = some (7, .aload_n 0, 1) := by decide +kernel
theorem i84_24 : zfetch 84 24 = some (7, .getfield 60, 3) := by decide +kernel
theorem i84_27 : zfetch 84 27 = some (7, .aload_n 0, 1) := by decide +kernel
theorem i84_28 : zfetch 84 28 = some (7, .getfield 47, 3) := by decide +kernel
theorem i84_31 : zfetch 84 31 = some (7, .invokevirtual 194, 3) := by decide +kernel
theorem i84_34 : zfetch 84 34 = some (7, .iconst 0, 1) := by decide +kernel
theorem i84_35 : zfetch 84 35 = some (7, .istore_n 3, 1) := by decide +kernel
theorem i84_36 : zfetch 84 36 = some (7, .iload_n 3, 1) := by decide +kernel
theorem i84_37 : zfetch 84 37 = some (7, .bipush 60, 2) := by decide +kernel
theorem i84_39 : zfetch 84 39 = some (7, .if_icmp .gt 31, 3) := by decide +kernel
theorem i84_42 : zfetch 84 42 = some (7, .aload_n 0, 1) := by decide +kernel
theorem i84_43 : zfetch 84 43 = some (7, .getfield 60, 3) := by decide +kernel
theorem i84_46 : zfetch 84 46 = some (7, .getfield 93, 3) := by decide +kernel
theorem i84_49 : zfetch 84 49 = some (7, .iload_n 1, 1) := by decide +kernel
theorem i84_50 : zfetch 84 50 = some (7, .iaload, 1) := by decide +kernel
theorem i84_51 : zfetch 84 51 = some (7, .iload_n 2, 1) := by decide +kernel
theorem i84_52 : zfetch 84 52 = some (7, .if_icmp .ne 5, 3) := by decide +kernel
theorem i84_55 : zfetch 84 55 = some (7, .iload_n 3, 1) := by decide +kernel
theorem i84_56 : zfetch 84 56 = some (7, .ireturn, 1) := by decide +kernel
theorem i84_57 : zfetch 84 57 = some (7, .aload_n 0, 1) := by decide +kernel
theorem i84_58 : zfetch 84 58 = some (7, .getfield 60, 3) := by decide +kernel
theorem i84_61 : zfetch 84 61 = some (7, .invokevirtual 170, 3) := by decide +kernel
theorem i84_64 : zfetch 84 64 = some (7, .iinc 3 1, 3) := by decide +kernel
theorem i84_67 : zfetch 84 67 = some (7, .goto (-31), 3) := by decide +kernel
theorem i84_70 : zfetch 84 70 = some (7, .aload_n 0, 1) := by decide +kernel
theorem i84_71 : zfetch 84 71 = some (7, .iconst 2, 1) := by decide +kernel
theorem i84_72 : zfetch 84 72 = some (7, .invokevirtual 72, 3) := by decide +kernel
theorem i84_75 : zfetch 84 75 = some (7, .ireturn, 1) := by decide +kernel
theorem i85_0 : zfetch 85 0 = some (7, .aload_n 0, 1) := by decide +kernel
theorem i85_1 : zfetch 85 1 = some (7, .iload_n 1, 1) := by decide +kernel
theorem i85_2 : zfetch 85 2 = some (7, .invokevirtual 68, 3) := by decide +kernel
theorem i85_5 : zfetch 85 5 = some (7, .ifCond .eq 12, 3) := by decide +kernel
theorem i85_8 : zfetch 85 8 = some (7, .iload_n 2, 1) := by decide +kernel
theorem i85_9 : zfetch 85 9 = some (7, .bipush 40, 2) := by decide +kernel
theorem i85_11 : zfetch 85 11 = some (7, .invokestatic 64, 3) := by decide +kernel
theorem i85_14 : zfetch 85 14 = some (7, .ifCond .ne 9, 3) := by decide +kernel
theorem i85_17 : zfetch 85 17 = some (7, .aload_n 0, 1) := by decide +kernel
theorem i85_18 : zfetch 85 18 = some (7, .iconst 1, 1) := by decide +kernel
theorem i85_19 : zfetch 85 19 = some (7, .invokevirtual 72, 3) := by decide +kernel
theorem i85_22 : zfetch 85 22 = some (7, .ireturn, 1) := by decide +kernel
theorem i85_23 : zfetch 85 23 = some (7, .aload_n 0, 1) := by decide +kernel
theorem i85_24 : zfetch 85 24 = some (7, .getfield 47, 3) := by decide +kernel
theorem i85_27 : zfetch 85 27 = some (7, .iload_n 1, 1) := by decide +kernel
theorem i85_28 : zfetch 85 28 = some (7, .invokevirtual 114, 3) := by decide +kernel
theorem i85_31 : zfetch 85 31 = some (7, .ifCond .ne 9, 3) := by decide +kernel
theorem i85_34 : zfetch 85 34 = some (7, .aload_n 0, 1) := by decide +kernel
theorem i85_35 : zfetch 85 35 = some (7, .iconst 3, 1) := by decide +kernel
theorem i85_36 : zfetch 85 36 = some (7, .invokevirtual 72, 3) := by decide +kernel
theorem i85_39 : zfetch 85 39 = some (7, .ireturn, 1) := by decide +kernel
theorem i85_40 : zfetch 85 40 = some (7, .iconst 0, 1) := by decide +kernel
theorem i85_41 : zfetch 85 41 = some (7, .istore_n 3, 1) := by decide +kernel
theorem i85_42 : zfetch 85 42 = some (7, .iload_n 3, 1) := by decide +kernel
theorem i85_43 : zfetch 85 43 = some (7, .bipush 99, 2) := by decide +kernel
theorem i85_45 : zfetch 85 45 = some (7, .if_icmp .gt 21, 3) := by decide +kernel
theorem i85_48 : zfetch 85 48 = some (7, .aload_n 0, 1) := by decide +kernel
theorem i85_49 : zfetch 85 49 = some (7, .iload_n 1, 1) := by decide +kernel
theorem i85_50 : zfetch 85 50 = some (7, .iload_n 3, 1) := by decide +kernel
theorem i85_51 : zfetch 85 51 = some (7, .iload_n 2, 1) := by decide +kernel
theorem i85_52 : zfetch 85 52 = some (7, .invokevirtual 202, 3) := by decide +kernel
theorem i85_55 : zfetch 85 55 = some (7, .ifCond .eq 5, 3) := by decide +kernel
theorem i85_58 : zfetch 85 58 = some (7, .iload_n 3, 1) := by decide +kernel
theorem i85_59 : zfetch 85 59 = some (7, .ireturn, 1) := by decide +kernel
theorem i85_60 : zfetch 85 60 = some (7, .iinc 3 1, 3) := by decide +kernel
theorem i85_63 : zfetch 85 63 = some (7, .goto (-21), 3) := by decide +kernel
theorem i85_66 : zfetch 85 66 = some (7, .aload_n 0, 1) := by decide +kernel
theorem i85_67 : zfetch 85 67 = some (7, .iconst 2, 1) := by decide +kernel
theorem i85_68 : zfetch 85 68 = some (7, .invokevirtual 72, 3) := by decide +kernel
theorem i85_71 : zfetch 85 71 = some (7, .ireturn, 1) := by decide +kernel
theorem i86_0 : zfetch 86 0 = some (7, .aload_n 0, 1) := by decide +kernel
theorem i86_1 : zfetch 86 1 = some (7, .iload_n 1, 1) := by decide +kernel
theorem i86_2 : zfetch 86 2 = some (7, .invokevirtual 68, 3) := by decide +kernel
theorem i86_5 : zfetch 86 5 = some (7, .ifCond .eq 12, 3) := by decide +kernel
theorem i86_8 : zfetch 86 8 = some (7, .iload_n 2, 1) := by decide +kernel
theorem i86_9 : zfetch 86 9 = some (7, .bipush 40, 2) := by decide +kernel
theorem i86_11 : zfetch 86 11 = some (7, .invokestatic 64, 3) := by decide +kernel
theorem i86_14 : zfetch 86 14 = some (7, .ifCond .ne 9, 3) := by decide +kernel
theorem i86_17 : zfetch 86 17 = some (7, .aload_n 0, 1) := by decide +kernel
theorem i86_18 : zfetch 86 18 = some (7, .iconst 1, 1) := by decide +kernel
theorem i86_19 : zfetch 86 19 = some (7, .invokevirtual 72, 3) := by decide +kernel
theorem i86_22 : zfetch 86 22 = some (7, .ireturn, 1) := by decide +kernel
theorem i86_23 : zfetch 86 23 = some (7, .aload_n 0, 1) := by decide +kernel
theorem i86_24 : zfetch 86 24 = some (7, .getfield 47, 3) := by decide +kernel
theorem i86_27 : zfetch 86 27 = some (7, .invokevirtual 198, 3) := by decide +kernel
theorem i86_30 : zfetch 86 30 = some (7, .istore_n 3, 1) := by decide +kernel
theorem i86_31 : zfetch 86 31 = some (7, .iconst 0, 1) := by decide +kernel
theorem i86_32 : zfetch 86 32 = some (7, .istore 4, 2) := by decide +kernel
theorem i86_34 : zfetch 86 34 = some (7, .iload 4, 2) := by decide +kernel
theorem i86_36 : zfetch 86 36 = some (7, .iload_n 3, 1) := by decide +kernel
theorem i86_37 : zfetch 86 37 = some (7, .invokestatic 186, 3) := by decide +kernel
theorem i86_40 : zfetch 86 40 = some (7, .if_icmp .gt 78, 3) := by decide +kernel
theorem i86_43 : zfetch 86 43 = some (7, .iconst 0, 1) := by decide +kernel
theorem i86_44 : zfetch 86 44 = some (7, .istore 5, 2) := by decide +kernel
theorem i86_46 : zfetch 86 46 = some (7, .iload 5, 2) := by decide +kernel
theorem i86_48 : zfetch 86 48 = some (7, .iload_n 3, 1) := by decide +kernel
theorem i86_49 : zfetch 86 49 = some (7, .if_icmp .gt 63, 3) := by decide +kernel
theorem i86_52 : zfetch 86 52 = some (7, .iload 5, 2) := by decide +kernel
theorem i86_54 : zfetch 86 54 = some (7, .iload_n 3, 1) := by decide +kernel
theorem i86_55 : zfetch 86 55 = some (7, .iconst (-1), 1) := by decide +kernel
theorem i86_56 : zfetch 86 56 = some (7, .ixor, 1) := by decide +kernel
theorem i86_57 : zfetch 86 57 = some (7, .iand, 1) := by decide +kernel
theorem i86_58 : zfetch 86 58 = some (7, .ifCond .ne 17, 3) := by decide +kernel
theorem i86_61 : zfetch 86 61 = some (7, .iload 5, 2) := by decide +kernel
theorem i86_63 : zfetch 86 63 = some (7, .invokestatic 186, 3) := by decide +kernel
theorem i86_66 : zfetch 86 66 = some (7, .iload 4, 2) := by decide +kernel
theorem i86_68 : zfetch 86 68 = some (7, .if_icmp .ne 7, 3) := by decide +kernel
theorem i86_71 : zfetch 86 71 = some (7, .iconst 1, 1) := by decide +kernel
theorem i86_72 : zfetch 86 72 = some (7, .goto 4, 3) := by decide +kernel
theorem i86_75 : zfetch 86 75 = some (7, .iconst 0, 1) := by decide +kernel
theorem i86_76 : zfetch 86 76 = some (7, .istore 6, 2) := by decide +kernel
theorem i86_78 : zfetch 86 78 = some (7, .iload 6, 2) := by decide +kernel
theorem i86_80 : zfetch 86 80 = some (7, .ifCond .eq 26, 3) := by decide +kernel
theorem i86_83 : zfetch 86 83 = some (7, .aload_n 0, 1) := by decide +kernel
theorem i86_84 : zfetch 86 84 = some (7, .iload 5, 2) := by decide +kernel
theorem i86_86 : zfetch 86 86 = some (7, .iload_n 1, 1) := by decide +kernel
theorem i86_87 : zfetch 86 87 = some (7, .iload_n 2, 1) := by decide +kernel
theorem i86_88 : zfetch 86 88 = some (7, .invokevirtual 206, 3) := by decide +kernel
theorem i86_91 : zfetch 86 91 = some (7, .aload_n 0, 1) := by decide +kernel
theorem i86_92 : zfetch 86 92 = some (7, .getfield 47, 3) := by decide +kernel
theorem i86_95 : zfetch 86 95 = some (7, .getfield 93, 3) := by decide +kernel
theorem i86_98 : zfetch 86 98 = some (7, .iload_n 1, 1) := by decide +kernel
theorem i86_99 : zfetch 86 99 = some (7, .iaload, 1) := by decide +kernel
theorem i86_100 : zfetch 86 100 = some (7, .if_icmp .ne 6, 3) := by decide +kernel
theorem i86_103 : zfetch 86 103 = some (7, .iload 5, 2) := by decide +kernel
theorem i86_105 : zfetch 86 105 = some (7, .ireturn, 1) := by decide +kernel
theorem i86_106 : zfetch 86 106 = some (7, .iinc 5 1, 3) := by decide +kernel
theorem i86_109 : zfetch 86 109 = some (7, .goto (-63), 3) := by decide +kernel
theorem i86_112 : zfetch 86 112 = some (7, .iinc 4 1, 3) := by decide +kernel
theorem i86_115 : zfetch 86 115 = some (7, .goto (-81), 3) := by decide +kernel
theorem i86_118 : zfetch 86 118 = some (7, .aload_n 0, 1) := by decide +kernel
theorem i86_119 : zfetch 86 119 = some (7, .iconst 2, 1) := by decide +kernel
theorem i86_120 : zfetch 86 120 = some (7, .invokevirtual 72, 3) := by decide +kernel
theorem i86_123 : zfetch 86 123 = some (7, .ireturn, 1) := by decide +kernel
theorem i87_0 : zfetch 87 0 = some (7, .aload_n 0, 1) := by decide +kernel
theorem i87_1 : zfetch 87 1 = some (7, .iload_n 1, 1) := by decide +kernel
theorem i87_2 : zfetch 87 2 = some (7, .invokevirtual 68, 3) := by decide +kernel
theorem i87_5 : zfetch 87 5 = some (7, .ifCond .eq 20, 3) := by decide +kernel
theorem i87_8 : zfetch 87 8 = some (7, .iload_n 2, 1) := by decide +kernel
theorem i87_9 : zfetch 87 9 = some (7, .bipush 40, 2) := by decide +kernel
theorem i87_11 : zfetch 87 11 = some (7, .invokestatic 64, 3) := by decide +kernel
theorem i87_14 : zfetch 87 14 = some (7, .ifCond .eq 11, 3) := by decide +kernel
theorem i87_17 : zfetch 87 17 = some (7, .iload_n 3, 1) := by decide +kernel
theorem i87_18 : zfetch 87 18 = some (7, .iconst 1, 1) := by decide +kernel
theorem i87_19 : zfetch 87 19 = some (7, .invokestatic 64, 3) := by decide +kernel
theorem i87_22 : zfetch 87 22 = some (7, .ifCond .ne 9, 3) := by decide +kernel
theorem i87_25 : zfetch 87 25 = some (7, .aload_n 0, 1) := by decide +kernel
theorem i87_26 : zfetch 87 26 = some (7, .iconst 1, 1) := by decide +kernel
theorem i87_27 : zfetch 87 27 = some (7, .invokevirtual 72, 3) := by decide +kernel
theorem i87_30 : zfetch 87 30 = some (7, .ireturn, 1) := by decide +kernel
theorem i87_31 : zfetch 87 31 = some (7, .aload_n 0, 1) := by decide +kernel
theorem i87_32 : zfetch 87 32 = some (7, .getfield 47, 3) := by decide +kernel
theorem i87_35 : zfetch 87 35 = some (7, .iload_n 1, 1) := by decide +kernel
theorem i87_36 : zfetch 87 36 = some (7, .invokevirtual 114, 3) := by decide +kernel
theorem i87_39 : zfetch 87 39 = some (7, .ifCond .ne 9, 3) := by decide +kernel
theorem i87_42 : zfetch 87 42 = some (7, .aload_n 0, 1) := by decide +kernel
theorem i87_43 : zfetch 87 43 = some (7, .iconst 3, 1) := by decide +kernel
theorem i87_44 : zfetch 87 44 = some (7, .invokevirtual 72, 3) := by decide +kernel
theorem i87_47 : zfetch 87 47 = some (7, .ireturn, 1) := by decide +kernel
theorem i87_48 : zfetch 87 48 = some (7, .iconst 0, 1) := by decide +kernel
theorem i87_49 : zfetch 87 49 = some (7, .istore 4, 2) := by decide +kernel
theorem i87_51 : zfetch 87 51 = some (7, .iconst 0, 1) := by decide +kernel
theorem i87_52 : zfetch 87 52 = some (7, .istore 5, 2) := by decide +kernel
theorem i87_54 : zfetch 87 54 = some (7, .iload 5, 2) := by decide +kernel
theorem i87_56 : zfetch 87 56 = some (7, .bipush 32, 2) := by decide +kernel
theorem i87_58 : zfetch 87 58 = some (7, .if_icmp .ge 23, 3) := by decide +kernel
theorem i87_61 : zfetch 87 61 = some (7, .aload_n 0, 1) := by decide +kernel
theorem i87_62 : zfetch 87 62 = some (7, .iload_n 1, 1) := by decide +kernel
theorem i87_63 : zfetch 87 63 = some (7, .iload 5, 2) := by decide +kernel
theorem i87_65 : zfetch 87 65 = some (7, .iload_n 2, 1) := by decide +kernel
theorem i87_66 : zfetch 87 66 = some (7, .invokevirtual 202, 3) := by decide +kernel
theorem i87_69 : zfetch 87 69 = some (7, .ifCond .eq 6, 3) := by decide +kernel
theorem i87_72 : zfetch 87 72 = some (7, .iinc 4 1, 3) := by decide +kernel
theorem i87_75 : zfetch 87 75 = some (7, .iinc 5 1, 3) := by decide +kernel
theorem i87_78 : zfetch 87 78 = some (7, .goto (-24), 3) := by decide +kernel
theorem i87_81 : zfetch 87 81 = some (7, .bipush 32, 2) := by decide +kernel
theorem i87_83 : zfetch 87 83 = some (7, .istore 5, 2) := by decide +kernel
theorem i87_85 : zfetch 87 85 = some (7, .iconst 0, 1) := by decide +kernel
theorem i87_86 : zfetch 87 86 = some (7, .istore 6, 2) := by decide +kernel
theorem i87_88 : zfetch 87 88 = some (7, .iload 6, 2) := by decide +kernel
theorem i87_90 : zfetch 87 90 = some (7, .iconst 5, 1) := by decide +kernel
theorem i87_91 : zfetch 87 91 = some (7, .if_icmp .ge 35, 3) := by decide +kernel
theorem i87_94 : zfetch 87 94 = some (7, .iload 4, 2) := by decide +kernel
theorem i87_96 : zfetch 87 96 = some (7, .iconst 2, 1) := by decide +kernel
theorem i87_97 : zfetch 87 97 = some (7, .irem, 1) := by decide +kernel
theorem i87_98 : zfetch 87 98 = some (7, .ifCond .ne 22, 3) := by decide +kernel
theorem i87_101 : zfetch 87 101 = some (7, .iload 5, 2) := by decide +kernel
theorem i87_103 : zfetch 87 103 = some (7, .iconst 2, 1) := by decide +kernel
theorem i87_104 : zfetch 87 104 = some (7, .irem, 1) := by decide +kernel
theorem i87_105 : zfetch 87 105 = some (7, .ifCond .ne 15, 3) := by decide +kernel
theorem i87_108 : zfetch 87 108 = some (7, .iload 4, 2) := by decide +kernel
theorem i87_110 : zfetch 87 110 = some (7, .iconst 2, 1) := by decide +kernel
theorem i87_111 : zfetch 87 111 = some (7, .idiv, 1) := by decide +kernel
theorem i87_112 : zfetch 87 112 = some (7, .istore 4, 2) := by decide +kernel
theorem i87_114 : zfetch 87 114 = some (7, .iload 5, 2) := by decide +kernel
theorem i87_116 : zfetch 87 116 = some (7, .iconst 2, 1) := by decide +kernel
theorem i87_117 : zfetch 87 117 = some (7, .idiv, 1) := by decide +kernel
theorem i87_118 : zfetch 87 118 = some (7, .istore 5, 2) := by decide +kernel
theorem i87_120 : zfetch 87 120 = some (7, .iinc 6 1, 3) := by decide +kernel
theorem i87_123 : zfetch 87 123 = some (7, .goto (-35), 3) := by decide +kernel
theorem i87_126 : zfetch 87 126 = some (7, .iload_n 3, 1) := by decide +kernel
theorem i87_127 : zfetch 87 127 = some (7, .ifCond .ne 8, 3) := by decide +kernel
theorem i87_130 : zfetch 87 130 = some (7, .iload 4, 2) := by decide +kernel
theorem i87_132 : zfetch 87 132 = some (7, .goto 5, 3) := by decide +kernel
theorem i87_135 : zfetch 87 135 = some (7, .iload 5, 2) := by decide +kernel
theorem i87_137 : zfetch 87 137 = some (7, .ireturn, 1) := by decide +kernel
theorem i88_0 : zfetch 88 0 = some (7, .iload_n 1, 1) := by decide +kernel
theorem i88_1 : zfetch 88 1 = some (7, .invokestatic 209, 3) := by decide +kernel
theorem i88_4 : zfetch 88 4 = some (7, .ifCond .eq 19, 3) := by decide +kernel
theorem i88_7 : zfetch 88 7 = some (7, .aload_n 0, 1) := by decide +kernel
theorem i88_8 : zfetch 88 8 = some (7, .iload_n 2, 1) := by decide +kernel
theorem i88_9 : zfetch 88 9 = some (7, .invokevirtual 68, 3) := by decide +kernel
theorem i88_12 : zfetch 88 12 = some (7, .ifCond .eq 11, 3) := by decide +kernel
theorem i88_15 : zfetch 88 15 = some (7, .iload_n 3, 1) := by decide +kernel
theorem i88_16 : zfetch 88 16 = some (7, .iconst 1, 1) := by decide +kernel
theorem i88_17 : zfetch 88 17 = some (7, .invokestatic 64, 3) := by decide +kernel
theorem i88_20 : zfetch 88 20 = some (7, .ifCond .ne 9, 3) := by decide +kernel
theorem i88_23 : zfetch 88 23 = some (7, .aload_n 0, 1) := by decide +kernel
theorem i88_24 : zfetch 88 24 = some (7, .iconst 1, 1) := by decide +kernel
theorem i88_25 : zfetch 88 25 = some (7, .invokevirtual 72, 3) := by decide +kernel
theorem i88_28 : zfetch 88 28 = some (7, .ireturn, 1) := by decide +kernel
theorem i88_29 : zfetch 88 29 = some (7, .aload_n 0, 1) := by decide +kernel
theorem i88_30 : zfetch 88 30 = some (7, .getfield 35, 3) := by decide +kernel
theorem i88_33 : zfetch 88 33 = some (7, .iload_n 1, 1) := by decide +kernel
theorem i88_34 : zfetch 88 34 = some (7, .aaload, 1) := by decide +kernel
theorem i88_35 : zfetch 88 35 = some (7, .invokevirtual 212, 3) := by decide +kernel
theorem i88_38 : zfetch 88 38 = some (7, .ifCond .eq 9, 3) := by decide +kernel
theorem i88_41 : zfetch 88 41 = some (7, .aload_n 0, 1) := by decide +kernel
theorem i88_42 : zfetch 88 42 = some (7, .iconst 2, 1) := by decide +kernel
theorem i88_43 : zfetch 88 43 = some (7, .invokevirtual 72, 3) := by decide +kernel
theorem i88_46 : zfetch 88 46 = some (7, .ireturn, 1) := by decide +kernel
theorem i88_47 : zfetch 88 47 = some (7, .iconst 0, 1) := by decide +kernel
theorem i88_48 : zfetch 88 48 = some (7, .istore 4, 2) := by decide +kernel
theorem i88_50 : zfetch 88 50 = some (7, .iconst 0, 1) := by decide +kernel
theorem i88_51 : zfetch 88 51 = some (7, .istore 5, 2) := by decide +kernel
theorem i88_53 : zfetch 88 53 = some (7, .iload 5, 2) := by decide +kernel
theorem i88_55 : zfetch 88 55 = some (7, .bipush 6, 2) := by decide +kernel
theorem i88_57 : zfetch 88 57 = some (7, .if_icmp .gt 34, 3) := by decide +kernel
theorem i88_60 : zfetch 88 60 = some (7, .aload_n 0, 1) := by decide +kernel
theorem i88_61 : zfetch 88 61 = some (7, .aload_n 0, 1) := by decide +kernel
theorem i88_62 : zfetch 88 62 = some (7, .getfield 35, 3) := by decide +kernel
theorem i88_65 : zfetch 88 65 = some (7, .iload_n 1, 1) := by decide +kernel
theorem i88_66 : zfetch 88 66 = some (7, .aaload, 1) := by decide +kernel
theorem i88_67 : zfetch 88 67 = some (7, .iload_n 2, 1) := by decide +kernel
theorem i88_68 : zfetch 88 68 = some (7, .iload 5, 2) := by decide +kernel
theorem i88_70 : zfetch 88 70 = some (7, .invokevirtual 216, 3) := by decide +kernel
theorem i88_73 : zfetch 88 73 = some (7, .ifCond .eq 12, 3) := by decide +kernel
theorem i88_76 : zfetch 88 76 = some (7, .iload 4, 2) := by decide +kernel
theorem i88_78 : zfetch 88 78 = some (7, .iconst 1, 1) := by decide +kernel
theorem i88_79 : zfetch 88 79 = some (7, .iload 5, 2) := by decide +kernel
theorem i88_81 : zfetch 88 81 = some (7, .ishl, 1) := by decide +kernel
theorem i88_82 : zfetch 88 82 = some (7, .ior, 1) := by decide +kernel
theorem i88_83 : zfetch 88 83 = some (7, .istore 4, 2) := by decide +kernel
theorem i88_85 : zfetch 88 85 = some (7, .iinc 5 1, 3) := by decide +kernel
theorem i88_88 : zfetch 88 88 = some (7, .goto (-35), 3) := by decide +kernel
theorem i88_91 : zfetch 88 91 = some (7, .iload_n 3, 1) := by decide +kernel
theorem i88_92 : zfetch 88 92 = some (7, .ifCond .ne 8, 3) := by decide +kernel
theorem i88_95 : zfetch 88 95 = some (7, .iload 4, 2) := by decide +kernel
theorem i88_97 : zfetch 88 97 = some (7, .goto 8, 3) := by decide +kernel
theorem i88_100 : zfetch 88 100 = some (7, .iload 4, 2) := by decide +kernel
theorem i88_102 : zfetch 88 102 = some (7, .invokestatic 186, 3) := by decide +kernel
theorem i88_105 : zfetch 88 105 = some (7, .ireturn, 1) := by decide +kernel
theorem i89_0 : zfetch 89 0 = some (7, .aload_n 0, 1) := by decide +kernel
theorem i89_1 : zfetch 89 1 = some (7, .iload_n 1, 1) := by decide +kernel
theorem i89_2 : zfetch 89 2 = some (7, .invokevirtual 68, 3) := by decide +kernel
theorem i89_5 : zfetch 89 5 = some (7, .ifCond .eq 11, 3) := by decide +kernel
theorem i89_8 : zfetch 89 8 = some (7, .iload_n 2, 1) := by decide +kernel
theorem i89_9 : zfetch 89 9 = some (7, .iconst 3, 1) := by decide +kernel
theorem i89_10 : zfetch 89 10 = some (7, .invokestatic 64, 3) := by decide +kernel
theorem i89_13 : zfetch 89 13 = some (7, .ifCond .ne 9, 3) := by decide +kernel
theorem i89_16 : zfetch 89 16 = some (7, .aload_n 0, 1) := by decide +kernel
theorem i89_17 : zfetch 89 17 = some (7, .iconst 1, 1) := by decide +kernel
theorem i89_18 : zfetch 89 18 = some (7, .invokevirtual 72, 3) := by decide +kernel
theorem i89_21 : zfetch 89 21 = some (7, .ireturn, 1) := by decide +kernel
theorem i89_22 : zfetch 89 22 = some (7, .aload_n 0, 1) := by decide +kernel
theorem i89_23 : zfetch 89 23 = some (7, .getfield 29, 3) := by decide +kernel
theorem i89_26 : zfetch 89 26 = some (7, .aload_n 0, 1) := by decide +kernel
theorem i89_27 : zfetch 89 27 = some (7, .getfield 47, 3) := by decide +kernel
theorem i89_30 : zfetch 89 30 = some (7, .getfield 84, 3) := by decide +kernel
theorem i89_33 : zfetch 89 33 = some (7, .iload_n 1, 1) := by decide +kernel
theorem i89_34 : zfetch 89 34 = some (7, .iaload, 1) := by decide +kernel
theorem i89_35 : zfetch 89 35 = some (7, .iload_n 1, 1) := by decide +kernel
theorem i89_36 : zfetch 89 36 = some (7, .aload_n 0, 1) := by decide +kernel
theorem i89_37 : zfetch 89 37 = some (7, .getfield 47, 3) := by decide +kernel
theorem i89_40 : zfetch 89 40 = some (7, .getfield 87, 3) := by decide +kernel
theorem i89_43 : zfetch 89 43 = some (7, .iload_n 1, 1) := by decide +kernel
theorem i89_44 : zfetch 89 44 = some (7, .iaload, 1) := by decide +kernel
theorem i89_45 : zfetch 89 45 = some (7, .iload_n 2, 1) := by decide +kernel
theorem i89_46 : zfetch 89 46 = some (7, .iload_n 3, 1) := by decide +kernel
theorem i89_47 : zfetch 89 47 = some (7, .invokevirtual 220, 3) := by decide +kernel
theorem i89_50 : zfetch 89 50 = some (7, .istore 4, 2) := by decide +kernel
theorem i89_52 : zfetch 89 52 = some (7, .aload_n 0, 1) := by decide +kernel
theorem i89_53 : zfetch 89 53 = some (7, .getfield 29, 3) := by decide +kernel
theorem i89_56 : zfetch 89 56 = some (7, .getfield 224, 3) := by decide +kernel
theorem i89_59 : zfetch 89 59 = some (7, .ifCond .eq 12, 3) := by decide +kernel
theorem i89_62 : zfetch 89 62 = some (7, .aload_n 0, 1) := by decide +kernel
theorem i89_63 : zfetch 89 63 = some (7, .bipush 6, 2) := by decide +kernel
theorem i89_65 : zfetch 89 65 = some (7, .invokevirtual 72, 3) := by decide +kernel
theorem i89_68 : zfetch 89 68 = some (7, .goto 5, 3) := by decide +kernel
theorem i89_71 : zfetch 89 71 = some (7, .iload 4, 2) := by decide +kernel
theorem i89_73 : zfetch 89 73 = some (7, .ireturn, 1) := by decide +kernel
theorem i90_0 : zfetch 90 0 = some (7, .iload_n 1, 1) := by decide +kernel
theorem i90_1 : zfetch 90 1 = some (7, .ifCond .lt 26, 3) := by decide +kernel
theorem i90_4 : zfetch 90 4 = some (7, .iload_n 1, 1) := by decide +kernel
theorem i90_5 : zfetch 90 5 = some (7, .aload_n 0, 1) := by decide +kernel
theorem i90_6 : zfetch 90 6 = some (7, .getfield 29, 3) := by decide +kernel
theorem i90_9 : zfetch 90 9 = some (7, .getfield 228, 3) := by decide +kernel
theorem i90_12 : zfetch 90 12 = some (7, .if_icmp .ge 15, 3) := by decide +kernel
theorem i90_15 : zfetch 90 15 = some (7, .aload_n 0, 1) := by decide +kernel
theorem i90_16 : zfetch 90 16 = some (7, .getfield 29, 3) := by decide +kernel
theorem i90_19 : zfetch 90 19 = some (7, .getfield 229, 3) := by decide +kernel
theorem i90_22 : zfetch 90 22 = some (7, .iload_n 1, 1) := by decide +kernel
theorem i90_23 : zfetch 90 23 = some (7, .iaload, 1) := by decide +kernel
theorem i90_24 : zfetch 90 24 = some (7, .goto 8, 3) := by decide +kernel
theorem i90_27 : zfetch 90 27 = some (7, .aload_n 0, 1) := by decide +kernel
theorem i90_28 : zfetch 90 28 = some (7, .iconst 2, 1) := by decide +kernel
theorem i90_29 : zfetch 90 29 = some (7, .invokevirtual 72, 3) := by decide +kernel
theorem i90_32 : zfetch 90 32 = some (7, .ireturn, 1) := by decide +kernel
theorem i91_0 : zfetch 91 0 = some (7, .iload_n 1, 1) := by decide +kernel
theorem i91_1 : zfetch 91 1 = some (7, .invokestatic 209, 3) := by decide +kernel
theorem i91_4 : zfetch 91 4 = some (7, .ifCond .eq 25, 3) := by decide +kernel
theorem i91_7 : zfetch 91 7 = some (7, .iload_n 2, 1) := by decide +kernel
theorem i91_8 : zfetch 91 8 = some (7, .ifCond .eq 27, 3) := by decide +kernel
theorem i91_11 : zfetch 91 11 = some (7, .iload_n 2, 1) := by decide +kernel
theorem i91_12 : zfetch 91 12 = some (7, .bipush 8, 2) := by decide +kernel
theorem i91_14 : zfetch 91 14 = some (7, .if_icmp .eq 21, 3) := by decide +kernel
theorem i91_17 : zfetch 91 17 = some (7, .iload_n 2, 1) := by decide +kernel
theorem i91_18 : zfetch 91 18 = some (7, .bipush 16, 2) := by decide +kernel
theorem i91_20 : zfetch 91 20 = some (7, .if_icmp .eq 15, 3) := by decide +kernel
theorem i91_23 : zfetch 91 23 = some (7, .iload_n 2, 1) := by decide +kernel
theorem i91_24 : zfetch 91 24 = some (7, .bipush 32, 2) := by decide +kernel
theorem i91_26 : zfetch 91 26 = some (7, .if_icmp .eq 9, 3) := by decide +kernel
theorem i91_29 : zfetch 91 29 = some (7, .aload_n 0, 1) := by decide +kernel
theorem i91_30 : zfetch 91 30 = some (7, .iconst 1, 1) := by decide +kernel
theorem i91_31 : zfetch 91 31 = some (7, .invokevirtual 72, 3) := by decide +kernel
theorem i91_34 : zfetch 91 34 = some (7, .ireturn, 1) := by decide +kernel
theorem i91_35 : zfetch 91 35 = some (7, .iload_n 2, 1) := by decide +kernel
theorem i91_36 : zfetch 91 36 = some (7, .ifCond .ne 16, 3) := by decide +kernel
theorem i91_39 : zfetch 91 39 = some (7, .aload_n 0, 1) := by decide +kernel
theorem i91_40 : zfetch 91 40 = some (7, .getfield 35, 3) := by decide +kernel
theorem i91_43 : zfetch 91 43 = some (7, .iload_n 1, 1) := by decide +kernel
theorem i91_44 : zfetch 91 44 = some (7, .aaload, 1) := by decide +kernel
theorem i91_45 : zfetch 91 45 = some (7, .iconst 0, 1) := by decide +kernel
theorem i91_46 : zfetch 91 46 = some (7, .iconst 0, 1) := by decide +kernel
theorem i91_47 : zfetch 91 47 = some (7, .invokevirtual 232, 3) := by decide +kernel
theorem i91_50 : zfetch 91 50 = some (7, .iconst 1, 1) := by decide +kernel
theorem i91_51 : zfetch 91 51 = some (7, .ireturn, 1) := by decide +kernel
theorem i91_52 : zfetch 91 52 = some (7, .iload_n 3, 1) := by decide +kernel
theorem i91_53 : zfetch 91 53 = some (7, .ifCond .ge 9, 3) := by decide +kernel
theorem i91_56 : zfetch 91 56 = some (7, .aload_n 0, 1) := by decide +kernel
theorem i91_57 : zfetch 91 57 = some (7, .iconst 3, 1) := by decide +kernel
theorem i91_58 : zfetch 91 58 = some (7, .invokevirtual 72, 3) := by decide +kernel
theorem i91_61 : zfetch 91 61 = some (7, .ireturn, 1) := by decide +kernel
theorem i91_62 : zfetch 91 62 = some (7, .iload_n 3, 1) := by decide +kernel
theorem i91_63 : zfetch 91 63 = some (7, .bipush 24, 2) := by decide +kernel
theorem i91_65 : zfetch 91 65 = some (7, .if_icmp .le 9, 3) := by decide +kernel
theorem i91_68 : zfetch 91 68 = some (7, .aload_n 0, 1) := by decide +kernel
theorem i91_69 : zfetch 91 69 = some (7, .iconst 1, 1) := by decide +kernel
theorem i91_70 : zfetch 91 70 = some (7, .invokevirtual 72, 3) := by decide +kernel
theorem i91_73 : zfetch 91 73 = some (7, .ireturn, 1) := by decide +kernel
theorem i91_74 : zfetch 91 74 = some (7, .aload_n 0, 1) := by decide +kernel
theorem i91_75 : zfetch 91 75 = some (7, .getfield 35, 3) := by decide +kernel
theorem i91_78 : zfetch 91 78 = some (7, .iload_n 1, 1) := by decide +kernel
theorem i91_79 : zfetch 91 79 = some (7, .aaload, 1) := by decide +kernel
theorem i91_80 : zfetch 91 80 = some (7, .iload_n 2, 1) := by decide +kernel
theorem i91_81 : zfetch 91 81 = some (7, .iload_n 3, 1) := by decide +kernel
theorem i91_82 : zfetch 91 82 = some (7, .invokevirtual 232, 3) := by decide +kernel
theorem i91_85 : zfetch 91 85 = some (7, .iconst 1, 1) := by decide +kernel
theorem i91_86 : zfetch 91 86 = some (7, .ireturn, 1) := by decide +kernel
theorem i92_0 : zfetch 92 0 = some (7, .iload_n 1, 1) := by decide +kernel
theorem i92_1 : zfetch 92 1 = some (7, .invokestatic 209, 3) := by decide +kernel
theorem i92_4 : zfetch 92 4 = some (7, .ifCond .ne 9, 3) := by decide +kernel
theorem i92_7 : zfetch 92 7 = some (7, .aload_n 0, 1) := by decide +kernel
theorem i92_8 : zfetch 92 8 = some (7, .iconst 1, 1) := by decide +kernel
theorem i92_9 : zfetch 92 9 = some (7, .invokevirtual 72, 3) := by decide +kernel
theorem i92_12 : zfetch 92 12 = some (7, .ireturn, 1) := by decide +kernel
theorem i92_13 : zfetch 92 13 = some (7, .aload_n 0, 1) := by decide +kernel
theorem i92_14 : zfetch 92 14 = some (7, .getfield 35, 3) := by decide +kernel
theorem i92_17 : zfetch 92 17 = some (7, .iload_n 1, 1) := by decide +kernel
theorem i92_18 : zfetch 92 18 = some (7, .aaload, 1) := by decide +kernel
theorem i92_19 : zfetch 92 19 = some (7, .invokevirtual 212, 3) := by decide +kernel
theorem i92_22 : zfetch 92 22 = some (7, .ifCond .eq 9, 3) := by decide +kernel
theorem i92_25 : zfetch 92 25 = some (7, .aload_n 0, 1) := by decide +kernel
theorem i92_26 : zfetch 92 26 = some (7, .iconst 2, 1) := by decide +kernel
theorem i92_27 : zfetch 92 27 = some (7, .invokevirtual 72, 3) := by decide +kernel
theorem i92_30 : zfetch 92 30 = some (7, .ireturn, 1) := by decide +kernel
theorem i92_31 : zfetch 92 31 = some (7, .iload_n 2, 1) := by decide +kernel
theorem i92_32 : zfetch 92 32 = some (7, .ifCond .lt 16, 3) := by decide +kernel
theorem i92_35 : zfetch 92 35 = some (7, .iload_n 2, 1) := by decide +kernel
theorem i92_36 : zfetch 92 36 = some (7, .aload_n 0, 1) := by decide +kernel
theorem i92_37 : zfetch 92 37 = some (7, .getfield 35, 3) := by decide +kernel
theorem i92_40 : zfetch 92 40 = some (7, .iload_n 1, 1) := by decide +kernel
theorem i92_41 : zfetch 92 41 = some (7, .aaload, 1) := by decide +kernel
theorem i92_42 : zfetch 92 42 = some (7, .getfield 236, 3) := by decide +kernel
theorem i92_45 : zfetch 92 45 = some (7, .if_icmp .lt 9, 3) := by decide +kernel
theorem i92_48 : zfetch 92 48 = some (7, .aload_n 0, 1) := by decide +kernel
theorem i92_49 : zfetch 92 49 = some (7, .iconst 1, 1) := by decide +kernel
theorem i92_50 : zfetch 92 50 = some (7, .invokevirtual 72, 3) := by decide +kernel
theorem i92_53 : zfetch 92 53 = some (7, .ireturn, 1) := by decide +kernel
theorem i92_54 : zfetch 92 54 = some (7, .aload_n 0, 1) := by decide +kernel
theorem i92_55 : zfetch 92 55 = some (7, .getfield 35, 3) := by decide +kernel
theorem i92_58 : zfetch 92 58 = some (7, .iload_n 1, 1) := by decide +kernel
theorem i92_59 : zfetch 92 59 = some (7, .aaload, 1) := by decide +kernel
theorem i92_60 : zfetch 92 60 = some (7, .iload_n 2, 1) := by decide +kernel
theorem i92_61 : zfetch 92 61 = some (7, .iload_n 3, 1) := by decide +kernel
theorem i92_62 : zfetch 92 62 = some (7, .invokevirtual 237, 3) := by decide +kernel
theorem i92_65 : zfetch 92 65 = some (7, .iconst 1, 1) := by decide +kernel
theorem i92_66 : zfetch 92 66 = some (7, .ireturn, 1) := by decide +kernel
theorem i93_0 : zfetch 93 0 = some (7, .iload_n 1, 1) := by decide +kernel
theorem i93_1 : zfetch 93 1 = some (7, .invokestatic 209, 3) := by decide +kernel
theorem i93_4 : zfetch 93 4 = some (7, .ifCond .eq 10, 3) := by decide +kernel
theorem i93_7 : zfetch 93 7 = some (7, .iload_n 3, 1) := by decide +kernel
theorem i93_8 : zfetch 93 8 = some (7, .invokestatic 209, 3) := by decide +kernel
theorem i93_11 : zfetch 93 11 = some (7, .ifCond .ne 9, 3) := by decide +kernel
theorem i93_14 : zfetch 93 14 = some (7, .aload_n 0, 1) := by decide +kernel
theorem i93_15 : zfetch 93 15 = some (7, .iconst 1, 1) := by decide +kernel
theorem i93_16 : zfetch 93 16 = some (7, .invokevirtual 72, 3) := by decide +kernel
theorem i93_19 : zfetch 93 19 = some (7, .ireturn, 1) := by decide +kernel
theorem i93_20 : zfetch 93 20 = some (7, .aload_n 0, 1) := by decide +kernel
theorem i93_21 : zfetch 93 21 = some (7, .getfield 35, 3) := by decide +kernel
theorem i93_24 : zfetch 93 24 = some (7, .iload_n 1, 1) := by decide +kernel
theorem i93_25 : zfetch 93 25 = some (7, .aaload, 1) := by decide +kernel
theorem i93_26 : zfetch 93 26 = some (7, .astore 6, 2) := by decide +kernel
theorem i93_28 : zfetch 93 28 = some (7, .aload_n 0, 1) := by decide +kernel
theorem i93_29 : zfetch 93 29 = some (7, .getfield 35, 3) := by decide +kernel
theorem i93_32 : zfetch 93 32 = some (7, .iload_n 3, 1) := by decide +kernel
theorem i93_33 : zfetch 93 33 = some (7, .aaload, 1) := by decide +kernel
theorem i93_34 : zfetch 93 34 = some (7, .astore 7, 2) := by decide +kernel
theorem i93_36 : zfetch 93 36 = some (7, .aload 6, 2) := by decide +kernel
theorem i93_38 : zfetch 93 38 = some (7, .invokevirtual 212, 3) := by decide +kernel
theorem i93_41 : zfetch 93 41 = some (7, .ifCond .ne 11, 3) := by decide +kernel
theorem i93_44 : zfetch 93 44 = some (7, .aload 7, 2) := by decide +kernel
theorem i93_46 : zfetch 93 46 = some (7, .invokevirtual 212, 3) := by decide +kernel
theorem i93_49 : zfetch 93 49 = some (7, .ifCond .eq 9, 3) := by decide +kernel
theorem i93_52 : zfetch 93 52 = some (7, .aload_n 0, 1) := by decide +kernel
theorem i93_53 : zfetch 93 53 = some (7, .iconst 2, 1) := by decide +kernel
theorem i93_54 : zfetch 93 54 = some (7, .invokevirtual 72, 3) := by decide +kernel
theorem i93_57 : zfetch 93 57 = some (7, .ireturn, 1) := by decide +kernel
theorem i93_58 : zfetch 93 58 = some (7, .aload 6, 2) := by decide +kernel
theorem i93_60 : zfetch 93 60 = some (7, .getfield 240, 3) := by decide +kernel
theorem i93_63 : zfetch 93 63 = some (7, .aload 7, 2) := by decide +kernel
theorem i93_65 : zfetch 93 65 = some (7, .getfield 240, 3) := by decide +kernel
theorem i93_68 : zfetch 93 68 = some (7, .if_icmp .eq 9, 3) := by decide +kernel
theorem i93_71 : zfetch 93 71 = some (7, .aload_n 0, 1) := by decide +kernel
theorem i93_72 : zfetch 93 72 = some (7, .iconst 5, 1) := by decide +kernel
theorem i93_73 : zfetch 93 73 = some (7, .invokevirtual 72, 3) := by decide +kernel
theorem i93_76 : zfetch 93 76 = some (7, .ireturn, 1) := by decide +kernel
theorem i93_77 : zfetch 93 77 = some (7, .aload 6, 2) := by decide +kernel
theorem i93_79 : zfetch 93 79 = some (7, .iload_n 2, 1) := by decide +kernel
theorem i93_80 : zfetch 93 80 = some (7, .iload 5, 2) := by decide +kernel
theorem i93_82 : zfetch 93 82 = some (7, .invokevirtual 243, 3) := by decide +kernel
theorem i93_85 : zfetch 93 85 = some (7, .ifCond .eq 15, 3) := by decide +kernel
theorem i93_88 : zfetch 93 88 = some (7, .aload 7, 2) := by decide +kernel
theorem i93_90 : zfetch 93 90 = some (7, .iload 4, 2) := by decide +kernel
theorem i93_92 : zfetch 93 92 = some (7, .iload 5, 2) := by decide +kernel
theorem i93_94 : zfetch 93 94 = some (7, .invokevirtual 243, 3) := by decide +kernel
theorem i93_97 : zfetch 93 97 = some (7, .ifCond .ne 9, 3) := by decide +kernel
theorem i93_100 : zfetch 93 100 = some (7, .aload_n 0, 1) := by decide +kernel
theorem i93_101 : zfetch 93 101 = some (7, .iconst 1, 1) := by decide +kernel
theorem i93_102 : zfetch 93 102 = some (7, .invokevirtual 72, 3) := by decide +kernel
theorem i93_105 : zfetch 93 105 = some (7, .ireturn, 1) := by decide +kernel
theorem i93_106 : zfetch 93 106 = some (7, .aload 6, 2) := by decide +kernel
theorem i93_108 : zfetch 93 108 = some (7, .getfield 246, 3) := by decide +kernel
theorem i93_111 : zfetch 93 111 = some (7, .iload_n 2, 1) := by decide +kernel
theorem i93_112 : zfetch 93 112 = some (7, .aload 7, 2) := by decide +kernel
theorem i93_114 : zfetch 93 114 = some (7, .getfield 246, 3) := by decide +kernel
theorem i93_117 : zfetch 93 117 = some (7, .iload 4, 2) := by decide +kernel
theorem i93_119 : zfetch 93 119 = some (7, .iload 5, 2) := by decide +kernel
theorem i93_121 : zfetch 93 121 = some (7, .invokestatic 249, 3) := by decide +kernel
theorem i93_124 : zfetch 93 124 = some (7, .iload 5, 2) := by decide +kernel
theorem i93_126 : zfetch 93 126 = some (7, .ireturn, 1) := by decide +kernel
theorem i94_0 : zfetch 94 0 = some (7, .iload_n 1, 1) := by decide +kernel
theorem i94_1 : zfetch 94 1 = some (7, .invokestatic 209, 3) := by decide +kernel
theorem i94_4 : zfetch 94 4 = some (7, .ifCond .ne 9, 3) := by decide +kernel
theorem i94_7 : zfetch 94 7 = some (7, .aload_n 0, 1) := by decide +kernel
theorem i94_8 : zfetch 94 8 = some (7, .iconst 1, 1) := by decide +kernel
theorem i94_9 : zfetch 94 9 = some (7, .invokevirtual 72, 3) := by decide +kernel
theorem i94_12 : zfetch 94 12 = some (7, .ireturn, 1) := by decide +kernel
theorem i94_13 : zfetch 94 13 = some (7, .aload_n 0, 1) := by decide +kernel
theorem i94_14 : zfetch 94 14 = some (7, .getfield 35, 3) := by decide +kernel
theorem i94_17 : zfetch 94 17 = some (7, .iload_n 1, 1) := by decide +kernel
theorem i94_18 : zfetch 94 18 = some (7, .aaload, 1) := by decide +kernel
theorem i94_19 : zfetch 94 19 = some (7, .astore_n 2, 1) := by decide +kernel
theorem i94_20 : zfetch 94 20 = some (7, .aload_n 2, 1) := by decide +kernel
theorem i94_21 : zfetch 94 21 = some (7, .invokevirtual 212, 3) := by decide +kernel
theorem i94_24 : zfetch 94 24 = some (7, .ifCond .eq 9, 3) := by decide +kernel
theorem i94_27 : zfetch 94 27 = some (7, .aload_n 0, 1) := by decide +kernel
theorem i94_28 : zfetch 94 28 = some (7, .iconst 2, 1) := by decide +kernel
theorem i94_29 : zfetch 94 29 = some (7, .invokevirtual 72, 3) := by decide +kernel
theorem i94_32 : zfetch 94 32 = some (7, .ireturn, 1) := by decide +kernel
theorem i94_33 : zfetch 94 33 = some (7, .iconst 0, 1) := by decide +kernel
theorem i94_34 : zfetch 94 34 = some (7, .istore_n 3, 1) := by decide +kernel
theorem i94_35 : zfetch 94 35 = some (7, .iconst 0, 1) := by decide +kernel
theorem i94_36 : zfetch 94 36 = some (7, .istore 4, 2) := by decide +kernel
theorem i94_38 : zfetch 94 38 = some (7, .iload 4, 2) := by decide +kernel
theorem i94_40 : zfetch 94 40 = some (7, .aload_n 2, 1) := by decide +kernel
theorem i94_41 : zfetch 94 41 = some (7, .getfield 236, 3) := by decide +kernel
theorem i94_44 : zfetch 94 44 = some (7, .if_icmp .ge 70, 3) := by decide +kernel
theorem i94_47 : zfetch 94 47 = some (7, .iload 4, 2) := by decide +kernel
theorem i94_49 : zfetch 94 49 = some (7, .aload_n 0, 1) := by decide +kernel
theorem i94_50 : zfetch 94 50 = some (7, .getfield 47, 3) := by decide +kernel
theorem i94_53 : zfetch 94 53 = some (7, .getfield 76, 3) := by decide +kernel
theorem i94_56 : zfetch 94 56 = some (7, .if_icmp .ge 58, 3) := by decide +kernel
theorem i94_59 : zfetch 94 59 = some (7, .aload_n 2, 1) := by decide +kernel
theorem i94_60 : zfetch 94 60 = some (7, .getfield 246, 3) := by decide +kernel
theorem i94_63 : zfetch 94 63 = some (7, .iload 4, 2) := by decide +kernel
theorem i94_65 : zfetch 94 65 = some (7, .iaload, 1) := by decide +kernel
theorem i94_66 : zfetch 94 66 = some (7, .bipush 99, 2) := by decide +kernel
theorem i94_68 : zfetch 94 68 = some (7, .invokestatic 64, 3) := by decide +kernel
theorem i94_71 : zfetch 94 71 = some (7, .ifCond .ne 5, 3) := by decide +kernel
theorem i94_74 : zfetch 94 74 = some (7, .iload_n 3, 1) := by decide +kernel
theorem i94_75 : zfetch 94 75 = some (7, .ireturn, 1) := by decide +kernel
theorem i94_76 : zfetch 94 76 = some (7, .aload_n 0, 1) := by decide +kernel
theorem i94_77 : zfetch 94 77 = some (7, .getfield 47, 3) := by decide +kernel
theorem i94_80 : zfetch 94 80 = some (7, .iload 4, 2) := by decide +kernel
theorem i94_82 : zfetch 94 82 = some (7, .invokevirtual 114, 3) := by decide +kernel
theorem i94_85 : zfetch 94 85 = some (7, .ifCond .eq 20, 3) := by decide +kernel
theorem i94_88 : zfetch 94 88 = some (7, .aload_n 0, 1) := by decide +kernel
theorem i94_89 : zfetch 94 89 = some (7, .getfield 47, 3) := by decide +kernel
theorem i94_92 : zfetch 94 92 = some (7, .getfield 99, 3) := by decide +kernel
theorem i94_95 : zfetch 94 95 = some (7, .iload 4, 2) := by decide +kernel
theorem i94_97 : zfetch 94 97 = some (7, .aload_n 2, 1) := by decide +kernel
theorem i94_98 : zfetch 94 98 = some (7, .getfield 246, 3) := by decide +kernel
theorem i94_101 : zfetch 94 101 = some (7, .iload 4, 2) := by decide +kernel
theorem i94_103 : zfetch 94 103 = some (7, .iaload, 1) := by decide +kernel
theorem i94_104 : zfetch 94 104 = some (7, .iastore, 1) := by decide +kernel
theorem i94_105 : zfetch 94 105 = some (7, .iinc 3 1, 3) := by decide +kernel
theorem i94_108 : zfetch 94 108 = some (7, .iinc 4 1, 3) := by decide +kernel
theorem i94_111 : zfetch 94 111 = some (7, .goto (-73), 3) := by decide +kernel
theorem i94_114 : zfetch 94 114 = some (7, .iload_n 3, 1) := by decide +kernel
theorem i94_115 : zfetch 94 115 = some (7, .ireturn, 1) := by decide +kernel
theorem i95_0 : zfetch 95 0 = some (7, .iload_n 1, 1) := by decide +kernel
theorem i95_1 : zfetch 95 1 = some (7, .invokestatic 209, 3) := by decide +kernel
theorem i95_4 : zfetch 95 4 = some (7, .ifCond .ne 9, 3) := by decide +kernel
theorem i95_7 : zfetch 95 7 = some (7, .aload_n 0, 1) := by decide +kernel
theorem i95_8 : zfetch 95 8 = some (7, .iconst 1, 1) := by decide +kernel
theorem i95_9 : zfetch 95 9 = some (7, .invokevirtual 72, 3) := by decide +kernel
theorem i95_12 : zfetch 95 12 = some (7, .ireturn, 1) := by decide +kernel
theorem i95_13 : zfetch 95 13 = some (7, .aload_n 0, 1) := by decide +kernel
theorem i95_14 : zfetch 95 14 = some (7, .getfield 35, 3) := by decide +kernel
theorem i95_17 : zfetch 95 17 = some (7, .iload_n 1, 1) := by decide +kernel
theorem i95_18 : zfetch 95 18 = some (7, .aaload, 1) := by decide +kernel
theorem i95_19 : zfetch 95 19 = some (7, .astore_n 2, 1) := by decide +kernel
theorem i95_20 : zfetch 95 20 = some (7, .aload_n 2, 1) := by decide +kernel
theorem i95_21 : zfetch 95 21 = some (7, .invokevirtual 212, 3) := by decide +kernel
theorem i95_24 : zfetch 95 24 = some (7, .ifCond .eq 9, 3) := by decide +kernel
theorem i95_27 : zfetch 95 27 = some (7, .aload_n 0, 1) := by decide +kernel
theorem i95_28 : zfetch 95 28 = some (7, .iconst 2, 1) := by decide +kernel
theorem i95_29 : zfetch 95 29 = some (7, .invokevirtual 72, 3) := by decide +kernel
theorem i95_32 : zfetch 95 32 = some (7, .ireturn, 1) := by decide +kernel
theorem i95_33 : zfetch 95 33 = some (7, .iconst 0, 1) := by decide +kernel
theorem i95_34 : zfetch 95 34 = some (7, .istore_n 3, 1) := by decide +kernel
theorem i95_35 : zfetch 95 35 = some (7, .iconst 0, 1) := by decide +kernel
theorem i95_36 : zfetch 95 36 = some (7, .istore 4, 2) := by decide +kernel
theorem i95_38 : zfetch 95 38 = some (7, .iload 4, 2) := by decide +kernel
theorem i95_40 : zfetch 95 40 = some (7, .aload_n 2, 1) := by decide +kernel
theorem i95_41 : zfetch 95 41 = some (7, .getfield 236, 3) := by decide +kernel
theorem i95_44 : zfetch 95 44 = some (7, .if_icmp .ge 46, 3) := by decide +kernel
theorem i95_47 : zfetch 95 47 = some (7, .iload 4, 2) := by decide +kernel
theorem i95_49 : zfetch 95 49 = some (7, .aload_n 0, 1) := by decide +kernel
theorem i95_50 : zfetch 95 50 = some (7, .getfield 47, 3) := by decide +kernel
theorem i95_53 : zfetch 95 53 = some (7, .getfield 76, 3) := by decide +kernel
theorem i95_56 : zfetch 95 56 = some (7, .if_icmp .ge 34, 3) := by decide +kernel
theorem i95_59 : zfetch 95 59 = some (7, .aload_n 2, 1) := by decide +kernel
theorem i95_60 : zfetch 95 60 = some (7, .getfield 246, 3) := by decide +kernel
theorem i95_63 : zfetch 95 63 = some (7, .iload 4, 2) := by decide +kernel
theorem i95_65 : zfetch 95 65 = some (7, .iaload, 1) := by decide +kernel
theorem i95_66 : zfetch 95 66 = some (7, .aload_n 0, 1) := by decide +kernel
theorem i95_67 : zfetch 95 67 = some (7, .getfield 47, 3) := by decide +kernel
theorem i95_70 : zfetch 95 70 = some (7, .getfield 93, 3) := by decide +kernel
theorem i95_73 : zfetch 95 73 = some (7, .iload 4, 2) := by decide +kernel
theorem i95_75 : zfetch 95 75 = some (7, .iaload, 1) := by decide +kernel
theorem i95_76 : zfetch 95 76 = some (7, .if_icmp .eq 5, 3) := by decide +kernel
theorem i95_79 : zfetch 95 79 = some (7, .iload_n 3, 1) := by decide +kernel
theorem i95_80 : zfetch 95 80 = some (7, .ireturn, 1) := by decide +kernel
theorem i95_81 : zfetch 95 81 = some (7, .iinc 3 1, 3) := by decide +kernel
theorem i95_84 : zfetch 95 84 = some (7, .iinc 4 1, 3) := by decide +kernel
theorem i95_87 : zfetch 95 87 = some (7, .goto (-49), 3) := by decide +kernel
theorem i95_90 : zfetch 95 90 = some (7, .iload_n 3, 1) := by decide +kernel
theorem i95_91 : zfetch 95 91 = some (7, .ireturn, 1) := by decide +kernel
theorem i96_0 : zfetch 96 0 = some (7, .aload_n 0, 1) := by decide +kernel
theorem i96_1 : zfetch 96 1 = some (7, .getfield 16, 3) := by decide +kernel
theorem i96_4 : zfetch 96 4 = some (7, .aload_n 0, 1) := by decide +kernel
theorem i96_5 : zfetch 96 5 = some (7, .getfield 10, 3) := by decide +kernel
theorem i96_8 : zfetch 96 8 = some (7, .invokevirtual 255, 3) := by decide +kernel
theorem i96_11 : zfetch 96 11 = some (7, .aload_n 0, 1) := by decide +kernel
theorem i96_12 : zfetch 96 12 = some (7, .dup, 1) := by decide +kernel
theorem i96_13 : zfetch 96 13 = some (7, .getfield 258, 3) := by decide +kernel
theorem i96_16 : zfetch 96 16 = some (7, .iconst 1, 1) := by decide +kernel
theorem i96_17 : zfetch 96 17 = some (7, .iadd, 1) := by decide +kernel
theorem i96_18 : zfetch 96 18 = some (7, .putfield 258, 3) := by decide +kernel
theorem i96_21 : zfetch 96 21 = some (7, .aload_n 0, 1) := by decide +kernel
theorem i96_22 : zfetch 96 22 = some (7, .getfield 258, 3) := by decide +kernel
theorem i96_25 : zfetch 96 25 = some (7, .ireturn, 1) := by decide +kernel
theorem i97_0 : zfetch 97 0 = some (7, .aload_n 0, 1) := by decide +kernel
theorem i97_1 : zfetch 97 1 = some (7, .getfield 258, 3) := by decide +kernel
theorem i97_4 : zfetch 97 4 = some (7, .ifCond .ne 9, 3) := by decide +kernel
theorem i97_7 : zfetch 97 7 = some (7, .aload_n 0, 1) := by decide +kernel
theorem i97_8 : zfetch 97 8 = some (7, .iconst 2, 1) := by decide +kernel
theorem i97_9 : zfetch 97 9 = some (7, .invokevirtual 72, 3) := by decide +kernel
theorem i97_12 : zfetch 97 12 = some (7, .ireturn, 1) := by decide +kernel
theorem i97_13 : zfetch 97 13 = some (7, .aload_n 0, 1) := by decide +kernel
theorem i97_14 : zfetch 97 14 = some (7, .getfield 10, 3) := by decide +kernel
theorem i97_17 : zfetch 97 17 = some (7, .aload_n 0, 1) := by decide +kernel
theorem i97_18 : zfetch 97 18 = some (7, .getfield 16, 3) := by decide +kernel
theorem i97_21 : zfetch 97 21 = some (7, .invokevirtual 255, 3) := by decide +kernel
theorem i97_24 : zfetch 97 24 = some (7, .aload_n 0, 1) := by decide +kernel
theorem i97_25 : zfetch 97 25 = some (7, .getfield 47, 3) := by decide +kernel
theorem i97_28 : zfetch 97 28 = some (7, .getfield 158, 3) := by decide +kernel
theorem i97_31 : zfetch 97 31 = some (7, .ireturn, 1) := by decide +kernel
theorem i98_0 : zfetch 98 0 = some (7, .aload_n 0, 1) := by decide +kernel
theorem i98_1 : zfetch 98 1 = some (7, .getfield 10, 3) := by decide +kernel
theorem i98_4 : zfetch 98 4 = some (7, .getfield 261, 3) := by decide +kernel
theorem i98_7 : zfetch 98 7 = some (7, .getfield 128, 3) := by decide +kernel
theorem i98_10 : zfetch 98 10 = some (7, .bipush 24, 2) := by decide +kernel
theorem i98_12 : zfetch 98 12 = some (7, .if_icmp .lt 9, 3) := by decide +kernel
theorem i98_15 : zfetch 98 15 = some (7, .aload_n 0, 1) := by decide +kernel
theorem i98_16 : zfetch 98 16 = some (7, .iconst 4, 1) := by decide +kernel
theorem i98_17 : zfetch 98 17 = some (7, .invokevirtual 72, 3) := by decide +kernel
theorem i98_20 : zfetch 98 20 = some (7, .ireturn, 1) := by decide +kernel
theorem i98_21 : zfetch 98 21 = some (7, .aload_n 0, 1) := by decide +kernel
theorem i98_22 : zfetch 98 22 = some (7, .getfield 10, 3) := by decide +kernel
theorem i98_25 : zfetch 98 25 = some (7, .getfield 261, 3) := by decide +kernel
theorem i98_28 : zfetch 98 28 = some (7, .iload_n 1, 1) := by decide +kernel
theorem i98_29 : zfetch 98 29 = some (7, .invokevirtual 133, 3) := by decide +kernel
theorem i98_32 : zfetch 98 32 = some (7, .aload_n 0, 1) := by decide +kernel
theorem i98_33 : zfetch 98 33 = some (7, .getfield 10, 3) := by decide +kernel
theorem i98_36 : zfetch 98 36 = some (7, .getfield 261, 3) := by decide +kernel
theorem i98_39 : zfetch 98 39 = some (7, .getfield 128, 3) := by decide +kernel
theorem i98_42 : zfetch 98 42 = some (7, .ireturn, 1) := by decide +kernel
theorem i99_0 : zfetch 99 0 = some (7, .aload_n 0, 1) := by decide +kernel
theorem i99_1 : zfetch 99 1 = some (7, .getfield 10, 3) := by decide +kernel
theorem i99_4 : zfetch 99 4 = some (7, .getfield 261, 3) := by decide +kernel
theorem i99_7 : zfetch 99 7 = some (7, .getfield 128, 3) := by decide +kernel
theorem i99_10 : zfetch 99 10 = some (7, .istore_n 1, 1) := by decide +kernel
theorem i99_11 : zfetch 99 11 = some (7, .aload_n 0, 1) := by decide +kernel
theorem i99_12 : zfetch 99 12 = some (7, .getfield 10, 3) := by decide +kernel
theorem i99_15 : zfetch 99 15 = some (7, .getfield 261, 3) := by decide +kernel
theorem i99_18 : zfetch 99 18 = some (7, .iconst 0, 1) := by decide +kernel
theorem i99_19 : zfetch 99 19 = some (7, .putfield 128, 3) := by decide +kernel
theorem i99_22 : zfetch 99 22 = some (7, .iconst 0, 1) := by decide +kernel
theorem i99_23 : zfetch 99 23 = some (7, .istore_n 2, 1) := by decide +kernel
theorem i99_24 : zfetch 99 24 = some (7, .iload_n 2, 1) := by decide +kernel
theorem i99_25 : zfetch 99 25 = some (7, .iload_n 1, 1) := by decide +kernel
theorem i99_26 : zfetch 99 26 = some (7, .if_icmp .ge 44, 3) := by decide +kernel
theorem i99_29 : zfetch 99 29 = some (7, .aload_n 0, 1) := by decide +kernel
theorem i99_30 : zfetch 99 30 = some (7, .iload_n 2, 1) := by decide +kernel
theorem i99_31 : zfetch 99 31 = some (7, .invokevirtual 68, 3) := by decide +kernel
theorem i99_34 : zfetch 99 34 = some (7, .ifCond .eq 26, 3) := by decide +kernel
theorem i99_37 : zfetch 99 37 = some (7, .aload_n 0, 1) := by decide +kernel
theorem i99_38 : zfetch 99 38 = some (7, .getfield 10, 3) := by decide +kernel
theorem i99_41 : zfetch 99 41 = some (7, .getfield 261, 3) := by decide +kernel
theorem i99_44 : zfetch 99 44 = some (7, .getfield 264, 3) := by decide +kernel
theorem i99_47 : zfetch 99 47 = some (7, .iload_n 2, 1) := by decide +kernel
theorem i99_48 : zfetch 99 48 = some (7, .iaload, 1) := by decide +kernel
theorem i99_49 : zfetch 99 49 = some (7, .aload_n 0, 1) := by decide +kernel
theorem i99_50 : zfetch 99 50 = some (7, .getfield 47, 3) := by decide +kernel
theorem i99_53 : zfetch 99 53 = some (7, .iload_n 2, 1) := by decide +kernel
theorem i99_54 : zfetch 99 54 = some (7, .invokevirtual 108, 3) := by decide +kernel
theorem i99_57 : zfetch 99 57 = some (7, .if_icmp .eq 7, 3) := by decide +kernel
theorem i99_60 : zfetch 99 60 = some (7, .iload_n 2, 1) := by decide +kernel
theorem i99_61 : zfetch 99 61 = some (7, .iconst 1, 1) := by decide +kernel
theorem i99_62 : zfetch 99 62 = some (7, .iadd, 1) := by decide +kernel
theorem i99_63 : zfetch 99 63 = some (7, .ireturn, 1) := by decide +kernel
theorem i99_64 : zfetch 99 64 = some (7, .iinc 2 1, 3) := by decide +kernel
theorem i99_67 : zfetch 99 67 = some (7, .goto (-43), 3) := by decide +kernel
theorem i99_70 : zfetch 99 70 = some (7, .iconst 0, 1) := by decide +kernel
theorem i99_71 : zfetch 99 71 = some (7, .ireturn, 1) := by decide +kernel
theorem i100_0 : zfetch 100 0 = some (7, .iload_n 1, 1) := by decide +kernel
theorem i100_1 : zfetch 100 1 = some (7, .tableswitch 155 0 9 #[55, 63, 71, 79, 87, 102, 117, 128, 139, 147], 55) := by decide +kernel
theorem i100_56 : zfetch 100 56 = some (7, .aload_n 0, 1) := by decide +kernel
theorem i100_57 : zfetch 100 57 = some (7, .getfield 47, 3) := by decide +kernel
theorem i100_60 : zfetch 100 60 = some (7, .getfield 76, 3) := by decide +kernel
theorem i100_63 : zfetch 100 63 = some (7, .ireturn, 1) := by decide +kernel
theorem i100_64 : zfetch 100 64 = some (7, .aload_n 0, 1) := by decide +kernel
theorem i100_65 : zfetch 100 65 = some (7, .getfield 47, 3) := by decide +kernel
theorem i100_68 : zfetch 100 68 = some (7, .getfield 158, 3) := by decide +kernel
theorem i100_71 : zfetch 100 71 = some (7, .ireturn, 1) := by decide +kernel
theorem i100_72 : zfetch 100 72 = some (7, .aload_n 0, 1) := by decide +kernel
theorem i100_73 : zfetch 100 73 = some (7, .getfield 47, 3) := by decide +kernel
theorem i100_76 : zfetch 100 76 = some (7, .getfield 164, 3) := by decide +kernel
theorem i100_79 : zfetch 100 79 = some (7, .ireturn, 1) := by decide +kernel
theorem i100_80 : zfetch 100 80 = some (7, .aload_n 0, 1) := by decide +kernel
theorem i100_81 : zfetch 100 81 = some (7, .getfield 47, 3) := by decide +kernel
theorem i100_84 : zfetch 100 84 = some (7, .invokevirtual 198, 3) := by decide +kernel
theorem i100_87 : zfetch 100 87 = some (7, .ireturn, 1) := by decide +kernel
theorem i100_88 : zfetch 100 88 = some (7, .aload_n 0, 1) := by decide +kernel
theorem i100_89 : zfetch 100 89 = some (7, .getfield 47, 3) := by decide +kernel
theorem i100_92 : zfetch 100 92 = some (7, .aload_n 0, 1) := by decide +kernel
theorem i100_93 : zfetch 100 93 = some (7, .getfield 47, 3) := by decide +kernel
theorem i100_96 : zfetch 100 96 = some (7, .getfield 96, 3) := by decide +kernel
theorem i100_99 : zfetch 100 99 = some (7, .invokevirtual 265, 3) := by decide +kernel
theorem i100_102 : zfetch 100 102 = some (7, .ireturn, 1) := by decide +kernel
theorem i100_103 : zfetch 100 103 = some (7, .aload_n 0, 1) := by decide +kernel
theorem i100_104 : zfetch 100 104 = some (7, .getfield 47, 3) := by decide +kernel
theorem i100_107 : zfetch 100 107 = some (7, .aload_n 0, 1) := by decide +kernel
theorem i100_108 : zfetch 100 108 = some (7, .getfield 47, 3) := by decide +kernel
theorem i100_111 : zfetch 100 111 = some (7, .getfield 99, 3) := by decide +kernel
theorem i100_114 : zfetch 100 114 = some (7, .invokevirtual 265, 3) := by decide +kernel
theorem i100_117 : zfetch 100 117 = some (7, .ireturn, 1) := by decide +kernel
theorem i100_118 : zfetch 100 118 = some (7, .aload_n 0, 1) := by decide +kernel
theorem i100_119 : zfetch 100 119 = some (7, .getfield 10, 3) := by decide +kernel
theorem i100_122 : zfetch 100 122 = some (7, .getfield 124, 3) := by decide +kernel
theorem i100_125 : zfetch 100 125 = some (7, .getfield 128, 3) := by decide +kernel
theorem i100_128 : zfetch 100 128 = some (7, .ireturn, 1) := by decide +kernel
theorem i100_129 : zfetch 100 129 = some (7, .aload_n 0, 1) := by decide +kernel
theorem i100_130 : zfetch 100 130 = some (7, .getfield 10, 3) := by decide +kernel
theorem i100_133 : zfetch 100 133 = some (7, .getfield 261, 3) := by decide +kernel
theorem i100_136 : zfetch 100 136 = some (7, .getfield 128, 3) := by decide +kernel
theorem i100_139 : zfetch 100 139 = some (7, .ireturn, 1) := by decide +kernel
theorem i100_140 : zfetch 100 140 = some (7, .aload_n 0, 1) := by decide +kernel
theorem i100_141 : zfetch 100 141 = some (7, .getfield 29, 3) := by decide +kernel
theorem i100_144 : zfetch 100 144 = some (7, .getfield 228, 3) := by decide +kernel
theorem i100_147 : zfetch 100 147 = some (7, .ireturn, 1) := by decide +kernel
theorem i100_148 : zfetch 100 148 = some (7, .aload_n 0, 1) := by decide +kernel
theorem i100_149 : zfetch 100 149 = some (7, .getfield 47, 3) := by decide +kernel
theorem i100_152 : zfetch 100 152 = some (7, .getfield 173, 3) := by decide +kernel
theorem i100_155 : zfetch 100 155 = some (7, .ireturn, 1) := by decide +kernel
theorem i100_156 : zfetch 100 156 = some (7, .aload_n 0, 1) := by decide +kernel
theorem i100_157 : zfetch 100 157 = some (7, .iconst 1, 1) := by decide +kernel
theorem i100_158 : zfetch 100 158 = some (7, .invokevirtual 72, 3) := by decide +kernel
theorem i100_161 : zfetch 100 161 = some (7, .ireturn, 1) := by decide +kernel
theorem i101_0 : zfetch 101 0 = some (7, .iload_n 1, 1) := by decide +kernel
theorem i101_1 : zfetch 101 1 = some (7, .iconst 1, 1) := by decide +kernel
theorem i101_2 : zfetch 101 2 = some (7, .if_icmp .lt 18, 3) := by decide +kernel
theorem i101_5 : zfetch 101 5 = some (7, .iload_n 1, 1) := by decide +kernel
theorem i101_6 : zfetch 101 6 = some (7, .bipush 6, 2) := by decide +kernel
theorem i101_8 : zfetch 101 8 = some (7, .if_icmp .gt 12, 3) := by decide +kernel
theorem i101_11 : zfetch 101 11 = some (7, .aload_n 0, 1) := by decide +kernel
theorem i101_12 : zfetch 101 12 = some (7, .getfield 39, 3) := by decide +kernel
theorem i101_15 : zfetch 101 15 = some (7, .iload_n 1, 1) := by decide +kernel
theorem i101_16 : zfetch 101 16 = some (7, .iaload, 1) := by decide +kernel
theorem i101_17 : zfetch 101 17 = some (7, .goto 8, 3) := by decide +kernel
theorem i101_20 : zfetch 101 20 = some (7, .aload_n 0, 1) := by decide +kernel
theorem i101_21 : zfetch 101 21 = some (7, .iconst 1, 1) := by decide +kernel
theorem i101_22 : zfetch 101 22 = some (7, .invokevirtual 72, 3) := by decide +kernel
theorem i101_25 : zfetch 101 25 = some (7, .ireturn, 1) := by decide +kernel
theorem i102_0 : zfetch 102 0 = some (7, .iload_n 1, 1) := by decide +kernel
theorem i102_1 : zfetch 102 1 = some (7, .iconst 1, 1) := by decide +kernel
theorem i102_2 : zfetch 102 2 = some (7, .if_icmp .lt 19, 3) := by decide +kernel
theorem i102_5 : zfetch 102 5 = some (7, .iload_n 1, 1) := by decide +kernel
theorem i102_6 : zfetch 102 6 = some (7, .bipush 6, 2) := by decide +kernel
theorem i102_8 : zfetch 102 8 = some (7, .if_icmp .gt 13, 3) := by decide +kernel
theorem i102_11 : zfetch 102 11 = some (7, .aload_n 0, 1) := by decide +kernel
theorem i102_12 : zfetch 102 12 = some (7, .getfield 39, 3) := by decide +kernel
theorem i102_15 : zfetch 102 15 = some (7, .iload_n 1, 1) := by decide +kernel
theorem i102_16 : zfetch 102 16 = some (7, .dup2, 1) := by decide +kernel
theorem i102_17 : zfetch 102 17 = some (7, .iaload, 1) := by decide +kernel
theorem i102_18 : zfetch 102 18 = some (7, .iconst 1, 1) := by decide +kernel
theorem i102_19 : zfetch 102 19 = some (7, .iadd, 1) := by decide +kernel
theorem i102_20 : zfetch 102 20 = some (7, .iastore, 1) := by decide +kernel
theorem i102_21 : zfetch 102 21 = some (7, .ldc_w 269, 3) := by decide +kernel
theorem i102_24 : zfetch 102 24 = some (7, .iload_n 1, 1) := by decide +kernel
theorem i102_25 : zfetch 102 25 = some (7, .isub, 1) := by decide +kernel
theorem i102_26 : zfetch 102 26 = some (7, .ireturn, 1) := by decide +kernel
theorem i103_0 : zfetch 103 0 = some (7, .iload_n 0, 1) := by decide +kernel
theorem i103_1 : zfetch 103 1 = some (7, .ifCond .lt 12, 3) := by decide +kernel
theorem i103_4 : zfetch 103 4 = some (7, .iload_n 0, 1) := by decide +kernel
theorem i103_5 : zfetch 103 5 = some (7, .iload_n 1, 1) := by decide +kernel
theorem i103_6 : zfetch 103 6 = some (7, .if_icmp .gt 7, 3) := by decide +kernel
theorem i103_9 : zfetch 103 9 = some (7, .iconst 1, 1) := by decide +kernel
theorem i103_10 : zfetch 103 10 = some (7, .goto 4, 3) := by decide +kernel
theorem i103_13 : zfetch 103 13 = some (7, .iconst 0, 1) := by decide +kernel
theorem i103_14 : zfetch 103 14 = some (7, .ireturn, 1) := by decide +kernel
theorem i104_0 : zfetch 104 0 = some (7, .iload_n 1, 1) := by decide +kernel
theorem i104_1 : zfetch 104 1 = some (7, .ifCond .lt 18, 3) := by decide +kernel
theorem i104_4 : zfetch 104 4 = some (7, .iload_n 1, 1) := by decide +kernel
theorem i104_5 : zfetch 104 5 = some (7, .aload_n 0, 1) := by decide +kernel
theorem i104_6 : zfetch 104 6 = some (7, .getfield 47, 3) := by decide +kernel
theorem i104_9 : zfetch 104 9 = some (7, .getfield 76, 3) := by decide +kernel
theorem i104_12 : zfetch 104 12 = some (7, .if_icmp .ge 7, 3) := by decide +kernel
theorem i104_15 : zfetch 104 15 = some (7, .iconst 1, 1) := by decide +kernel
theorem i104_16 : zfetch 104 16 = some (7, .goto 4, 3) := by decide +kernel
theorem i104_19 : zfetch 104 19 = some (7, .iconst 0, 1) := by decide +kernel
theorem i104_20 : zfetch 104 20 = some (7, .ireturn, 1) := by decide +kernel
theorem i105_0 : zfetch 105 0 = some (7, .iload_n 0, 1) := by decide +kernel
theorem i105_1 : zfetch 105 1 = some (7, .ifCond .lt 12, 3) := by decide +kernel
theorem i105_4 : zfetch 105 4 = some (7, .iload_n 0, 1) := by decide +kernel
theorem i105_5 : zfetch 105 5 = some (7, .iconst 4, 1) := by decide +kernel
theorem i105_6 : zfetch 105 6 = some (7, .if_icmp .ge 7, 3) := by decide +kernel
theorem i105_9 : zfetch 105 9 = some (7, .iconst 1, 1) := by decide +kernel
theorem i105_10 : zfetch 105 10 = some (7, .goto 4, 3) := by decide +kernel
theorem i105_13 : zfetch 105 13 = some (7, .iconst 0, 1) := by decide +kernel
theorem i105_14 : zfetch 105 14 = some (7, .ireturn, 1) := by decide +kernel
theorem i106_0 : zfetch 106 0 = some (7, .iload_n 1, 1) := by decide +kernel
theorem i106_1 : zfetch 106 1 = some (7, .ifCond .ne 13, 3) := by decide +kernel
theorem i106_4 : zfetch 106 4 = some (7, .aload_n 0, 1) := by decide +kernel
theorem i106_5 : zfetch 106 5 = some (7, .getfield 10, 3) := by decide +kernel
theorem i106_8 : zfetch 106 8 = some (7, .getfield 50, 3) := by decide +kernel
theorem i106_11 : zfetch 106 11 = some (7, .goto 10, 3) := by decide +kernel
theorem i106_14 : zfetch 106 14 = some (7, .aload_n 0, 1) := by decide +kernel
theorem i106_15 : zfetch 106 15 = some (7, .getfield 10, 3) := by decide +kernel
theorem i106_18 : zfetch 106 18 = some (7, .getfield 54, 3) := by decide +kernel
theorem i106_21 : zfetch 106 21 = some (7, .areturn, 1) := by decide +kernel
theorem i107_0 : zfetch 107 0 = some (7, .aload_n 0, 1) := by decide +kernel
theorem i107_1 : zfetch 107 1 = some (7, .getfield 60, 3) := by decide +kernel
theorem i107_4 : zfetch 107 4 = some (7, .aload_n 0, 1) := by decide +kernel
theorem i107_5 : zfetch 107 5 = some (7, .getfield 47, 3) := by decide +kernel
theorem i107_8 : zfetch 107 8 = some (7, .invokevirtual 194, 3) := by decide +kernel
theorem i107_11 : zfetch 107 11 = some (7, .aload_n 0, 1) := by decide +kernel
theorem i107_12 : zfetch 107 12 = some (7, .getfield 60, 3) := by decide +kernel
theorem i107_15 : zfetch 107 15 = some (7, .getfield 99, 3) := by decide +kernel
theorem i107_18 : zfetch 107 18 = some (7, .iload_n 1, 1) := by decide +kernel
theorem i107_19 : zfetch 107 19 = some (7, .iload_n 2, 1) := by decide +kernel
theorem i107_20 : zfetch 107 20 = some (7, .iastore, 1) := by decide +kernel
theorem i107_21 : zfetch 107 21 = some (7, .iconst 0, 1) := by decide +kernel
theorem i107_22 : zfetch 107 22 = some (7, .istore 4, 2) := by decide +kernel
theorem i107_24 : zfetch 107 24 = some (7, .iload 4, 2) := by decide +kernel
theorem i107_26 : zfetch 107 26 = some (7, .iload_n 3, 1) := by decide +kernel
theorem i107_27 : zfetch 107 27 = some (7, .if_icmp .ge 27, 3) := by decide +kernel
theorem i107_30 : zfetch 107 30 = some (7, .aload_n 0, 1) := by decide +kernel
theorem i107_31 : zfetch 107 31 = some (7, .getfield 60, 3) := by decide +kernel
theorem i107_34 : zfetch 107 34 = some (7, .iload_n 1, 1) := by decide +kernel
theorem i107_35 : zfetch 107 35 = some (7, .invokevirtual 114, 3) := by decide +kernel
theorem i107_38 : zfetch 107 38 = some (7, .ifCond .eq 16, 3) := by decide +kernel
theorem i107_41 : zfetch 107 41 = some (7, .aload_n 0, 1) := by decide +kernel
theorem i107_42 : zfetch 107 42 = some (7, .getfield 60, 3) := by decide +kernel
theorem i107_45 : zfetch 107 45 = some (7, .invokevirtual 170, 3) := by decide +kernel
theorem i107_48 : zfetch 107 48 = some (7, .iinc 4 1, 3) := by decide +kernel
theorem i107_51 : zfetch 107 51 = some (7, .goto (-27), 3) := by decide +kernel
theorem i107_54 : zfetch 107 54 = some (7, .aload_n 0, 1) := by decide +kernel
theorem i107_55 : zfetch 107 55 = some (7, .getfield 60, 3) := by decide +kernel
theorem i107_58 : zfetch 107 58 = some (7, .iload_n 1, 1) := by decide +kernel
theorem i107_59 : zfetch 107 59 = some (7, .invokevirtual 114, 3) := by decide +kernel
theorem i107_62 : zfetch 107 62 = some (7, .ireturn, 1) := by decide +kernel
theorem i108_0 : zfetch 108 0 = some (7, .aload_n 0, 1) := by decide +kernel
theorem i108_1 : zfetch 108 1 = some (7, .getfield 60, 3) := by decide +kernel
theorem i108_4 : zfetch 108 4 = some (7, .aload_n 0, 1) := by decide +kernel
theorem i108_5 : zfetch 108 5 = some (7, .getfield 47, 3) := by decide +kernel
theorem i108_8 : zfetch 108 8 = some (7, .invokevirtual 194, 3) := by decide +kernel
theorem i108_11 : zfetch 108 11 = some (7, .iconst 0, 1) := by decide +kernel
theorem i108_12 : zfetch 108 12 = some (7, .istore 4, 2) := by decide +kernel
theorem i108_14 : zfetch 108 14 = some (7, .iload 4, 2) := by decide +kernel
theorem i108_16 : zfetch 108 16 = some (7, .aload_n 0, 1) := by decide +kernel
theorem i108_17 : zfetch 108 17 = some (7, .getfield 60, 3) := by decide +kernel
theorem i108_20 : zfetch 108 20 = some (7, .getfield 76, 3) := by decide +kernel
theorem i108_23 : zfetch 108 23 = some (7, .if_icmp .ge 27, 3) := by decide +kernel
theorem i108_26 : zfetch 108 26 = some (7, .iload_n 1, 1) := by decide +kernel
theorem i108_27 : zfetch 108 27 = some (7, .iload 4, 2) := by decide +kernel
theorem i108_29 : zfetch 108 29 = some (7, .ishr, 1) := by decide +kernel
theorem i108_30 : zfetch 108 30 = some (7, .iconst 1, 1) := by decide +kernel
theorem i108_31 : zfetch 108 31 = some (7, .iand, 1) := by decide +kernel
theorem i108_32 : zfetch 108 32 = some (7, .ifCond .eq 12, 3) := by decide +kernel
theorem i108_35 : zfetch 108 35 = some (7, .aload_n 0, 1) := by decide +kernel
theorem i108_36 : zfetch 108 36 = some (7, .getfield 60, 3) := by decide +kernel
theorem i108_39 : zfetch 108 39 = some (7, .iload 4, 2) := by decide +kernel
theorem i108_41 : zfetch 108 41 = some (7, .invokevirtual 117, 3) := by decide +kernel
theorem i108_44 : zfetch 108 44 = some (7, .iinc 4 1, 3) := by decide +kernel
theorem i108_47 : zfetch 108 47 = some (7, .goto (-33), 3) := by decide +kernel
theorem i108_50 : zfetch 108 50 = some (7, .iconst 0, 1) := by decide +kernel
theorem i108_51 : zfetch 108 51 = some (7, .istore 4, 2) := by decide +kernel
theorem i108_53 : zfetch 108 53 = some (7, .iload 4, 2) := by decide +kernel
theorem i108_55 : zfetch 108 55 = some (7, .iload_n 3, 1) := by decide +kernel
theorem i108_56 : zfetch 108 56 = some (7, .if_icmp .ge 16, 3) := by decide +kernel
theorem i108_59 : zfetch 108 59 = some (7, .aload_n 0, 1) := by decide +kernel
theorem i108_60 : zfetch 108 60 = some (7, .getfield 60, 3) := by decide +kernel
theorem i108_63 : zfetch 108 63 = some (7, .invokevirtual 170, 3) := by decide +kernel
theorem i108_66 : zfetch 108 66 = some (7, .iinc 4 1, 3) := by decide +kernel
theorem i108_69 : zfetch 108 69 = some (7, .goto (-16), 3) := by decide +kernel
theorem i108_72 : zfetch 108 72 = some (7, .aload_n 0, 1) := by decide +kernel
theorem i108_73 : zfetch 108 73 = some (7, .getfield 60, 3) := by decide +kernel
theorem i108_76 : zfetch 108 76 = some (7, .getfield 93, 3) := by decide +kernel
theorem i108_79 : zfetch 108 79 = some (7, .iload_n 2, 1) := by decide +kernel
theorem i108_80 : zfetch 108 80 = some (7, .iaload, 1) := by decide +kernel
theorem i108_81 : zfetch 108 81 = some (7, .ireturn, 1) := by decide +kernel
theorem i109_0 : zfetch 109 0 = some (7, .aload_n 0, 1) := by decide +kernel
theorem i109_1 : zfetch 109 1 = some (7, .getfield 60, 3) := by decide +kernel
theorem i109_4 : zfetch 109 4 = some (7, .aload_n 0, 1) := by decide +kernel
theorem i109_5 : zfetch 109 5 = some (7, .getfield 47, 3) := by decide +kernel
theorem i109_8 : zfetch 109 8 = some (7, .invokevirtual 194, 3) := by decide +kernel
theorem i109_11 : zfetch 109 11 = some (7, .aload_n 0, 1) := by decide +kernel
theorem i109_12 : zfetch 109 12 = some (7, .getfield 60, 3) := by decide +kernel
theorem i109_15 : zfetch 109 15 = some (7, .getfield 84, 3) := by decide +kernel
theorem i109_18 : zfetch 109 18 = some (7, .iload_n 2, 1) := by decide +kernel
theorem i109_19 : zfetch 109 19 = some (7, .iload_n 3, 1) := by decide +kernel
theorem i109_20 : zfetch 109 20 = some (7, .iastore, 1) := by decide +kernel
theorem i109_21 : zfetch 109 21 = some (7, .iconst 0, 1) := by decide +kernel
theorem i109_22 : zfetch 109 22 = some (7, .istore 4, 2) := by decide +kernel
theorem i109_24 : zfetch 109 24 = some (7, .iload 4, 2) := by decide +kernel
theorem i109_26 : zfetch 109 26 = some (7, .aload_n 1, 1) := by decide +kernel
theorem i109_27 : zfetch 109 27 = some (7, .getfield 236, 3) := by decide +kernel
theorem i109_30 : zfetch 109 30 = some (7, .if_icmp .ge 37, 3) := by decide +kernel
theorem i109_33 : zfetch 109 33 = some (7, .aload_n 1, 1) := by decide +kernel
theorem i109_34 : zfetch 109 34 = some (7, .getfield 246, 3) := by decide +kernel
theorem i109_37 : zfetch 109 37 = some (7, .iload 4, 2) := by decide +kernel
theorem i109_39 : zfetch 109 39 = some (7, .iaload, 1) := by decide +kernel
theorem i109_40 : zfetch 109 40 = some (7, .aload_n 0, 1) := by decide +kernel
theorem i109_41 : zfetch 109 41 = some (7, .getfield 60, 3) := by decide +kernel
theorem i109_44 : zfetch 109 44 = some (7, .getfield 93, 3) := by decide +kernel
theorem i109_47 : zfetch 109 47 = some (7, .iload_n 2, 1) := by decide +kernel
theorem i109_48 : zfetch 109 48 = some (7, .iaload, 1) := by decide +kernel
theorem i109_49 : zfetch 109 49 = some (7, .if_icmp .eq 5, 3) := by decide +kernel
theorem i109_52 : zfetch 109 52 = some (7, .iconst 0, 1) := by decide +kernel
theorem i109_53 : zfetch 109 53 = some (7, .ireturn, 1) := by decide +kernel
theorem i109_54 : zfetch 109 54 = some (7, .aload_n 0, 1) := by decide +kernel
theorem i109_55 : zfetch 109 55 = some (7, .getfield 60, 3) := by decide +kernel
theorem i109_58 : zfetch 109 58 = some (7, .invokevirtual 170, 3) := by decide +kernel
theorem i109_61 : zfetch 109 61 = some (7, .iinc 4 1, 3) := by decide +kernel
theorem i109_64 : zfetch 109 64 = some (7, .goto (-40), 3) := by decide +kernel
theorem i109_67 : zfetch 109 67 = some (7, .iconst 1, 1) := by decide +kernel
theorem i109_68 : zfetch 109 68 = some (7, .ireturn, 1) := by decide +kernel
theorem i110_0 : zfetch 110 0 = some (8, .aload_n 0, 1) := by decide +kernel
theorem i110_1 : zfetch 110 1 = some (8, .getfield 22, 3) := by decide +kernel
theorem i110_4 : zfetch 110 4 = some (8, .iload_n 1, 1) := by decide +kernel
theorem i110_5 : zfetch 110 5 = some (8, .dup2, 1) := by decide +kernel
theorem i110_6 : zfetch 110 6 = some (8, .iaload, 1) := by decide +kernel
theorem i110_7 : zfetch 110 7 = some (8, .iconst 1, 1) := by decide +kernel
theorem i110_8 : zfetch 110 8 = some (8, .iadd, 1) := by decide +kernel
theorem i110_9 : zfetch 110 9 = some (8, .iastore, 1) := by decide +kernel
theorem i110_10 : zfetch 110 10 = some (8, .ldc 49, 2) := by decide +kernel
theorem i110_12 : zfetch 110 12 = some (8, .iload_n 1, 1) := by decide +kernel
theorem i110_13 : zfetch 110 13 = some (8, .isub, 1) := by decide +kernel
theorem i110_14 : zfetch 110 14 = some (8, .ireturn, 1) := by decide +kernel
theorem i111_0 : zfetch 111 0 = some (8, .iload_n 0, 1) := by decide +kernel
theorem i111_1 : zfetch 111 1 = some (8, .iload_n 1, 1) := by decide +kernel
theorem i111_2 : zfetch 111 2 = some (8, .if_icmp .lt 12, 3) := by decide +kernel
theorem i111_5 : zfetch 111 5 = some (8, .iload_n 0, 1) := by decide +kernel
theorem i111_6 : zfetch 111 6 = some (8, .iload_n 2, 1) := by decide +kernel
theorem i111_7 : zfetch 111 7 = some (8, .if_icmp .gt 7, 3) := by decide +kernel
theorem i111_10 : zfetch 111 10 = some (8, .iconst 1, 1) := by decide +kernel
theorem i111_11 : zfetch 111 11 = some (8, .goto 4, 3) := by decide +kernel
theorem i111_14 : zfetch 111 14 = some (8, .iconst 0, 1) := by decide +kernel
theorem i111_15 : zfetch 111 15 = some (8, .ireturn, 1) := by decide +kernel
theorem i112_0 : zfetch 112 0 = some (8, .iload_n 0, 1) := by decide +kernel
theorem i112_1 : zfetch 112 1 = some (8, .iload_n 1, 1) := by decide +kernel
theorem i112_2 : zfetch 112 2 = some (8, .if_icmp .ge 7, 3) := by decide +kernel
theorem i112_5 : zfetch 112 5 = some (8, .iload_n 1, 1) := by decide +kernel
theorem i112_6 : zfetch 112 6 = some (8, .goto 13, 3) := by decide +kernel
theorem i112_9 : zfetch 112 9 = some (8, .iload_n 0, 1) := by decide +kernel
theorem i112_10 : zfetch 112 10 = some (8, .iload_n 2, 1) := by decide +kernel
theorem i112_11 : zfetch 112 11 = some (8, .if_icmp .le 7, 3) := by decide +kernel
theorem i112_14 : zfetch 112 14 = some (8, .iload_n 2, 1) := by decide +kernel
theorem i112_15 : zfetch 112 15 = some (8, .goto 4, 3) := by decide +kernel
theorem i112_18 : zfetch 112 18 = some (8, .iload_n 0, 1) := by decide +kernel
theorem i112_19 : zfetch 112 19 = some (8, .ireturn, 1) := by decide +kernel
theorem i113_0 : zfetch 113 0 = some (8, .iconst 0, 1) := by decide +kernel
theorem i113_1 : zfetch 113 1 = some (8, .istore_n 2, 1) := by decide +kernel
theorem i113_2 : zfetch 113 2 = some (8, .iload_n 2, 1) := by decide +kernel
theorem i113_3 : zfetch 113 3 = some (8, .sipush 394, 3) := by decide +kernel
theorem i113_6 : zfetch 113 6 = some (8, .if_icmp .ge 15, 3) := by decide +kernel
theorem i113_9 : zfetch 113 9 = some (8, .aload_n 1, 1) := by decide +kernel
theorem i113_10 : zfetch 113 10 = some (8, .iload_n 2, 1) := by decide +kernel
theorem i113_11 : zfetch 113 11 = some (8, .aload_n 0, 1) := by decide +kernel
theorem i113_12 : zfetch 113 12 = some (8, .iload_n 2, 1) := by decide +kernel
theorem i113_13 : zfetch 113 13 = some (8, .iaload, 1) := by decide +kernel
theorem i113_14 : zfetch 113 14 = some (8, .iastore, 1) := by decide +kernel
theorem i113_15 : zfetch 113 15 = some (8, .iinc 2 1, 3) := by decide +kernel
theorem i113_18 : zfetch 113 18 = some (8, .goto (-16), 3) := by decide +kernel
theorem i113_21 : zfetch 113 21 = some (8, .return_, 1) := by decide +kernel
theorem i114_0 : zfetch 114 0 = some (8, .iconst 0, 1) := by decide +kernel
theorem i114_1 : zfetch 114 1 = some (8, .istore_n 1, 1) := by decide +kernel
theorem i114_2 : zfetch 114 2 = some (8, .iload_n 1, 1) := by decide +kernel
theorem i114_3 : zfetch 114 3 = some (8, .bipush 60, 2) := by decide +kernel
theorem i114_5 : zfetch 114 5 = some (8, .if_icmp .ge 21, 3) := by decide +kernel
theorem i114_8 : zfetch 114 8 = some (8, .aload_n 0, 1) := by decide +kernel
theorem i114_9 : zfetch 114 9 = some (8, .getfield 16, 3) := by decide +kernel
theorem i114_12 : zfetch 114 12 = some (8, .iload_n 1, 1) := by decide +kernel
theorem i114_13 : zfetch 114 13 = some (8, .aload_n 0, 1) := by decide +kernel
theorem i114_14 : zfetch 114 14 = some (8, .getfield 7, 3) := by decide +kernel
theorem i114_17 : zfetch 114 17 = some (8, .iload_n 1, 1) := by decide +kernel
theorem i114_18 : zfetch 114 18 = some (8, .iaload, 1) := by decide +kernel
theorem i114_19 : zfetch 114 19 = some (8, .iastore, 1) := by decide +kernel
theorem i114_20 : zfetch 114 20 = some (8, .iinc 1 1, 3) := by decide +kernel
theorem i114_23 : zfetch 114 23 = some (8, .goto (-21), 3) := by decide +kernel
theorem i114_26 : zfetch 114 26 = some (8, .return_, 1) := by decide +kernel
theorem i115_0 : zfetch 115 0 = some (8, .iconst 0, 1) := by decide +kernel
theorem i115_1 : zfetch 115 1 = some (8, .istore_n 1, 1) := by decide +kernel
theorem i115_2 : zfetch 115 2 = some (8, .iload_n 1, 1) := by decide +kernel
theorem i115_3 : zfetch 115 3 = some (8, .bipush 60, 2) := by decide +kernel
theorem i115_5 : zfetch 115 5 = some (8, .if_icmp .ge 21, 3) := by decide +kernel
theorem i115_8 : zfetch 115 8 = some (8, .aload_n 0, 1) := by decide +kernel
theorem i115_9 : zfetch 115 9 = some (8, .getfield 7, 3) := by decide +kernel
theorem i115_12 : zfetch 115 12 = some (8, .iload_n 1, 1) := by decide +kernel
theorem i115_13 : zfetch 115 13 = some (8, .aload_n 0, 1) := by decide +kernel
theorem i115_14 : zfetch 115 14 = some (8, .getfield 16, 3) := by decide +kernel
theorem i115_17 : zfetch 115 17 = some (8, .iload_n 1, 1) := by decide +kernel
theorem i115_18 : zfetch 115 18 = some (8, .iaload, 1) := by decide +kernel
theorem i115_19 : zfetch 115 19 = some (8, .iastore, 1) := by decide +kernel
theorem i115_20 : zfetch 115 20 = some (8, .iinc 1 1, 3) := by decide +kernel
theorem i115_23 : zfetch 115 23 = some (8, .goto (-21), 3) := by decide +kernel
theorem i115_26 : zfetch 115 26 = some (8, .return_, 1) := by decide +kernel
theorem i116_0 : zfetch 116 0 = some (8, .iload_n 1, 1) := by decide +kernel
theorem i116_1 : zfetch 116 1 = some (8, .iconst 0, 1) := by decide +kernel
theorem i116_2 : zfetch 116 2 = some (8, .aload_n 0, 1) := by decide +kernel
theorem i116_3 : zfetch 116 3 = some (8, .getfield 7, 3) := by decide +kernel
theorem i116_6 : zfetch 116 6 = some (8, .iconst 4, 1) := by decide +kernel
theorem i116_7 : zfetch 116 7 = some (8, .iaload, 1) := by decide +kernel
theorem i116_8 : zfetch 116 8 = some (8, .iconst 1, 1) := by decide +kernel
theorem i116_9 : zfetch 116 9 = some (8, .isub, 1) := by decide +kernel
theorem i116_10 : zfetch 116 10 = some (8, .invokestatic 50, 3) := by decide +kernel
theorem i116_13 : zfetch 116 13 = some (8, .ireturn, 1) := by decide +kernel
theorem i117_0 : zfetch 117 0 = some (8, .iload_n 0, 1) := by decide +kernel
theorem i117_1 : zfetch 117 1 = some (8, .iconst 0, 1) := by decide +kernel
theorem i117_2 : zfetch 117 2 = some (8, .bipush 63, 2) := by decide +kernel
theorem i117_4 : zfetch 117 4 = some (8, .invokestatic 50, 3) := by decide +kernel
theorem i117_7 : zfetch 117 7 = some (8, .ireturn, 1) := by decide +kernel
theorem i118_0 : zfetch 118 0 = some (8, .aload_n 0, 1) := by decide +kernel
theorem i118_1 : zfetch 118 1 = some (8, .getfield 7, 3) := by decide +kernel
theorem i118_4 : zfetch 118 4 = some (8, .bipush 12, 2) := by decide +kernel
theorem i118_6 : zfetch 118 6 = some (8, .bipush 6, 2) := by decide +kernel
theorem i118_8 : zfetch 118 8 = some (8, .iload_n 1, 1) := by decide +kernel
theorem i118_9 : zfetch 118 9 = some (8, .imul, 1) := by decide +kernel
theorem i118_10 : zfetch 118 10 = some (8, .iadd, 1) := by decide +kernel
theorem i118_11 : zfetch 118 11 = some (8, .iload_n 2, 1) := by decide +kernel
theorem i118_12 : zfetch 118 12 = some (8, .iadd, 1) := by decide +kernel
theorem i118_13 : zfetch 118 13 = some (8, .iaload, 1) := by decide +kernel
theorem i118_14 : zfetch 118 14 = some (8, .ireturn, 1) := by decide +kernel
theorem i119_0 : zfetch 119 0 = some (8, .aload_n 0, 1) := by decide +kernel
theorem i119_1 : zfetch 119 1 = some (8, .getfield 7, 3) := by decide +kernel
theorem i119_4 : zfetch 119 4 = some (8, .bipush 12, 2) := by decide +kernel
theorem i119_6 : zfetch 119 6 = some (8, .bipush 6, 2) := by decide +kernel
theorem i119_8 : zfetch 119 8 = some (8, .iload_n 1, 1) := by decide +kernel
theorem i119_9 : zfetch 119 9 = some (8, .imul, 1) := by decide +kernel
theorem i119_10 : zfetch 119 10 = some (8, .iadd, 1) := by decide +kernel
theorem i119_11 : zfetch 119 11 = some (8, .iload_n 2, 1) := by decide +kernel
theorem i119_12 : zfetch 119 12 = some (8, .iadd, 1) := by decide +kernel
theorem i119_13 : zfetch 119 13 = some (8, .iload_n 3, 1) := by decide +kernel
theorem i119_14 : zfetch 119 14 = some (8, .iastore, 1) := by decide +kernel
theorem i119_15 : zfetch 119 15 = some (8, .return_, 1) := by decide +kernel
theorem i120_0 : zfetch 120 0 = some (8, .aload_n 0, 1) := by decide +kernel
theorem i120_1 : zfetch 120 1 = some (8, .getfield 7, 3) := by decide +kernel
theorem i120_4 : zfetch 120 4 = some (8, .iload_n 1, 1) := by decide +kernel
theorem i120_5 : zfetch 120 5 = some (8, .iaload, 1) := by decide +kernel
theorem i120_6 : zfetch 120 6 = some (8, .istore_n 3, 1) := by decide +kernel
theorem i120_7 : zfetch 120 7 = some (8, .aload_n 0, 1) := by decide +kernel
theorem i120_8 : zfetch 120 8 = some (8, .getfield 7, 3) := by decide +kernel
theorem i120_11 : zfetch 120 11 = some (8, .iload_n 1, 1) := by decide +kernel
theorem i120_12 : zfetch 120 12 = some (8, .iload_n 2, 1) := by decide +kernel
theorem i120_13 : zfetch 120 13 = some (8, .iastore, 1) := by decide +kernel
theorem i120_14 : zfetch 120 14 = some (8, .iload_n 3, 1) := by decide +kernel
theorem i120_15 : zfetch 120 15 = some (8, .ireturn, 1) := by decide +kernel
theorem i121_0 : zfetch 121 0 = some (8, .aload_n 0, 1) := by decide +kernel
theorem i121_1 : zfetch 121 1 = some (8, .iload_n 1, 1) := by decide +kernel
theorem i121_2 : zfetch 121 2 = some (8, .iconst 2, 1) := by decide +kernel
theorem i121_3 : zfetch 121 3 = some (8, .invokevirtual 54, 3) := by decide +kernel
theorem i121_6 : zfetch 121 6 = some (8, .ifCond .lt 7, 3) := by decide +kernel
theorem i121_9 : zfetch 121 9 = some (8, .iconst 1, 1) := by decide +kernel
theorem i121_10 : zfetch 121 10 = some (8, .goto 4, 3) := by decide +kernel
theorem i121_13 : zfetch 121 13 = some (8, .iconst 0, 1) := by decide +kernel
theorem i121_14 : zfetch 121 14 = some (8, .ireturn, 1) := by decide +kernel
theorem i122_0 : zfetch 122 0 = some (8, .iload_n 3, 1) := by decide +kernel
theorem i122_1 : zfetch 122 1 = some (8, .iconst 1, 1) := by decide +kernel
theorem i122_2 : zfetch 122 2 = some (8, .bipush 8, 2) := by decide +kernel
theorem i122_4 : zfetch 122 4 = some (8, .invokestatic 50, 3) := by decide +kernel
theorem i122_7 : zfetch 122 7 = some (8, .ifCond .ne 9, 3) := by decide +kernel
theorem i122_10 : zfetch 122 10 = some (8, .aload_n 0, 1) := by decide +kernel
theorem i122_11 : zfetch 122 11 = some (8, .iconst 1, 1) := by decide +kernel
theorem i122_12 : zfetch 122 12 = some (8, .invokevirtual 58, 3) := by decide +kernel
theorem i122_15 : zfetch 122 15 = some (8, .ireturn, 1) := by decide +kernel
theorem i122_16 : zfetch 122 16 = some (8, .aload_n 0, 1) := by decide +kernel
theorem i122_17 : zfetch 122 17 = some (8, .getfield 7, 3) := by decide +kernel
theorem i122_20 : zfetch 122 20 = some (8, .iconst 2, 1) := by decide +kernel
theorem i122_21 : zfetch 122 21 = some (8, .iaload, 1) := by decide +kernel
theorem i122_22 : zfetch 122 22 = some (8, .iload_n 3, 1) := by decide +kernel
theorem i122_23 : zfetch 122 23 = some (8, .iadd, 1) := by decide +kernel
theorem i122_24 : zfetch 122 24 = some (8, .bipush 60, 2) := by decide +kernel
theorem i122_26 : zfetch 122 26 = some (8, .if_icmp .le 9, 3) := by decide +kernel
theorem i122_29 : zfetch 122 29 = some (8, .aload_n 0, 1) := by decide +kernel
theorem i122_30 : zfetch 122 30 = some (8, .iconst 4, 1) := by decide +kernel
theorem i122_31 : zfetch 122 31 = some (8, .invokevirtual 58, 3) := by decide +kernel
theorem i122_34 : zfetch 122 34 = some (8, .ireturn, 1) := by decide +kernel
theorem i122_35 : zfetch 122 35 = some (8, .iconst 0, 1) := by decide +kernel
theorem i122_36 : zfetch 122 36 = some (8, .istore 4, 2) := by decide +kernel
theorem i122_38 : zfetch 122 38 = some (8, .iload 4, 2) := by decide +kernel
theorem i122_40 : zfetch 122 40 = some (8, .iload_n 3, 1) := by decide +kernel
theorem i122_41 : zfetch 122 41 = some (8, .if_icmp .ge 46, 3) := by decide +kernel
theorem i122_44 : zfetch 122 44 = some (8, .aload_n 0, 1) := by decide +kernel
theorem i122_45 : zfetch 122 45 = some (8, .getfield 7, 3) := by decide +kernel
theorem i122_48 : zfetch 122 48 = some (8, .sipush 310, 3) := by decide +kernel
theorem i122_51 : zfetch 122 51 = some (8, .aload_n 0, 1) := by decide +kernel
theorem i122_52 : zfetch 122 52 = some (8, .getfield 7, 3) := by decide +kernel
theorem i122_55 : zfetch 122 55 = some (8, .iconst 2, 1) := by decide +kernel
theorem i122_56 : zfetch 122 56 = some (8, .iaload, 1) := by decide +kernel
theorem i122_57 : zfetch 122 57 = some (8, .iadd, 1) := by decide +kernel
theorem i122_58 : zfetch 122 58 = some (8, .lload_n 1, 1) := by decide +kernel
theorem i122_59 : zfetch 122 59 = some (8, .bipush 8, 2) := by decide +kernel
theorem i122_61 : zfetch 122 61 = some (8, .iload 4, 2) := by decide +kernel
theorem i122_63 : zfetch 122 63 = some (8, .imul, 1) := by decide +kernel
theorem i122_64 : zfetch 122 64 = some (8, .lshr, 1) := by decide +kernel
theorem i122_65 : zfetch 122 65 = some (8, .ldc2_w 62, 3) := by decide +kernel
theorem i122_68 : zfetch 122 68 = some (8, .land, 1) := by decide +kernel
theorem i122_69 : zfetch 122 69 = some (8, .l2i, 1) := by decide +kernel
theorem i122_70 : zfetch 122 70 = some (8, .iastore, 1) := by decide +kernel
theorem i122_71 : zfetch 122 71 = some (8, .aload_n 0, 1) := by decide +kernel
theorem i122_72 : zfetch 122 72 = some (8, .getfield 7, 3) := by decide +kernel
theorem i122_75 : zfetch 122 75 = some (8, .iconst 2, 1) := by decide +kernel
theorem i122_76 : zfetch 122 76 = some (8, .dup2, 1) := by decide +kernel
theorem i122_77 : zfetch 122 77 = some (8, .iaload, 1) := by decide +kernel
theorem i122_78 : zfetch 122 78 = some (8, .iconst 1, 1) := by decide +kernel
theorem i122_79 : zfetch 122 79 = some (8, .iadd, 1) := by decide +kernel
theorem i122_80 : zfetch 122 80 = some (8, .iastore, 1) := by decide +kernel
theorem i122_81 : zfetch 122 81 = some (8, .iinc 4 1, 3) := by decide +kernel
theorem i122_84 : zfetch 122 84 = some (8, .goto (-46), 3) := by decide +kernel
theorem i122_87 : zfetch 122 87 = some (8, .aload_n 0, 1) := by decide +kernel
theorem i122_88 : zfetch 122 88 = some (8, .getfield 7, 3) := by decide +kernel
theorem i122_91 : zfetch 122 91 = some (8, .iconst 2, 1) := by decide +kernel
theorem i122_92 : zfetch 122 92 = some (8, .iaload, 1) := by decide +kernel
theorem i122_93 : zfetch 122 93 = some (8, .ireturn, 1) := by decide +kernel
theorem i123_0 : zfetch 123 0 = some (8, .aload_n 0, 1) := by decide +kernel
theorem i123_1 : zfetch 123 1 = some (8, .getfield 64, 3) := by decide +kernel
theorem i123_4 : zfetch 123 4 = some (8, .aload_n 0, 1) := by decide +kernel
theorem i123_5 : zfetch 123 5 = some (8, .getfield 7, 3) := by decide +kernel
theorem i123_8 : zfetch 123 8 = some (8, .iconst 2, 1) := by decide +kernel
theorem i123_9 : zfetch 123 9 = some (8, .iaload, 1) := by decide +kernel
theorem i123_10 : zfetch 123 10 = some (8, .if_icmp .ge 19, 3) := by decide +kernel
theorem i123_13 : zfetch 123 13 = some (8, .aload_n 0, 1) := by decide +kernel
theorem i123_14 : zfetch 123 14 = some (8, .getfield 7, 3) := by decide +kernel
theorem i123_17 : zfetch 123 17 = some (8, .sipush 310, 3) := by decide +kernel
theorem i123_20 : zfetch 123 20 = some (8, .aload_n 0, 1) := by decide +kernel
theorem i123_21 : zfetch 123 21 = some (8, .getfield 64, 3) := by decide +kernel
theorem i123_24 : zfetch 123 24 = some (8, .iadd, 1) := by decide +kernel
theorem i123_25 : zfetch 123 25 = some (8, .iaload, 1) := by decide +kernel
theorem i123_26 : zfetch 123 26 = some (8, .goto 4, 3) := by decide +kernel
theorem i123_29 : zfetch 123 29 = some (8, .iconst (-1), 1) := by decide +kernel
theorem i123_30 : zfetch 123 30 = some (8, .ireturn, 1) := by decide +kernel
theorem i124_0 : zfetch 124 0 = some (8, .iload_n 1, 1) := by decide +kernel
theorem i124_1 : zfetch 124 1 = some (8, .bipush 115, 2) := by decide +kernel
theorem i124_3 : zfetch 124 3 = some (8, .if_icmp .eq 27, 3) := by decide +kernel
theorem i124_6 : zfetch 124 6 = some (8, .iload_n 1, 1) := by decide +kernel
theorem i124_7 : zfetch 124 7 = some (8, .bipush 100, 2) := by decide +kernel
theorem i124_9 : zfetch 124 9 = some (8, .if_icmp .eq 21, 3) := by decide +kernel
theorem i124_12 : zfetch 124 12 = some (8, .iload_n 1, 1) := by decide +kernel
theorem i124_13 : zfetch 124 13 = some (8, .aload_n 0, 1) := by decide +kernel
theorem i124_14 : zfetch 124 14 = some (8, .getfield 68, 3) := by decide +kernel
theorem i124_17 : zfetch 124 17 = some (8, .ifCond .ne 8, 3) := by decide +kernel
theorem i124_20 : zfetch 124 20 = some (8, .bipush 121, 2) := by decide +kernel
theorem i124_22 : zfetch 124 22 = some (8, .goto 5, 3) := by decide +kernel
theorem i124_25 : zfetch 124 25 = some (8, .bipush 111, 2) := by decide +kernel
theorem i124_27 : zfetch 124 27 = some (8, .if_icmp .ne 7, 3) := by decide +kernel
theorem i124_30 : zfetch 124 30 = some (8, .iconst 1, 1) := by decide +kernel
theorem i124_31 : zfetch 124 31 = some (8, .goto 4, 3) := by decide +kernel
theorem i124_34 : zfetch 124 34 = some (8, .iconst 0, 1) := by decide +kernel
theorem i124_35 : zfetch 124 35 = some (8, .ireturn, 1) := by decide +kernel
theorem i125_0 : zfetch 125 0 = some (8, .aload_n 0, 1) := by decide +kernel
theorem i125_1 : zfetch 125 1 = some (8, .getfield 25, 3) := by decide +kernel
theorem i125_4 : zfetch 125 4 = some (8, .iconst 2, 1) := by decide +kernel
theorem i125_5 : zfetch 125 5 = some (8, .aload_n 0, 1) := by decide +kernel
theorem i125_6 : zfetch 125 6 = some (8, .getfield 71, 3) := by decide +kernel
theorem i125_9 : zfetch 125 9 = some (8, .imul, 1) := by decide +kernel
theorem i125_10 : zfetch 125 10 = some (8, .iload_n 1, 1) := by decide +kernel
theorem i125_11 : zfetch 125 11 = some (8, .iastore, 1) := by decide +kernel
theorem i125_12 : zfetch 125 12 = some (8, .aload_n 0, 1) := by decide +kernel
theorem i125_13 : zfetch 125 13 = some (8, .getfield 25, 3) := by decide +kernel
theorem i125_16 : zfetch 125 16 = some (8, .iconst 2, 1) := by decide +kernel
theorem i125_17 : zfetch 125 17 = some (8, .aload_n 0, 1) := by decide +kernel
theorem i125_18 : zfetch 125 18 = some (8, .getfield 71, 3) := by decide +kernel
theorem i125_21 : zfetch 125 21 = some (8, .imul, 1) := by decide +kernel
theorem i125_22 : zfetch 125 22 = some (8, .iconst 1, 1) := by decide +kernel
theorem i125_23 : zfetch 125 23 = some (8, .iadd, 1) := by decide +kernel
theorem i125_24 : zfetch 125 24 = some (8, .iload_n 2, 1) := by decide +kernel
theorem i125_25 : zfetch 125 25 = some (8, .iastore, 1) := by decide +kernel
theorem i125_26 : zfetch 125 26 = some (8, .aload_n 0, 1) := by decide +kernel
theorem i125_27 : zfetch 125 27 = some (8, .dup, 1) := by decide +kernel
theorem i125_28 : zfetch 125 28 = some (8, .getfield 71, 3) := by decide +kernel
theorem i125_31 : zfetch 125 31 = some (8, .iconst 1, 1) := by decide +kernel
theorem i125_32 : zfetch 125 32 = some (8, .iadd, 1) := by decide +kernel
theorem i125_33 : zfetch 125 33 = some (8, .putfield 71, 3) := by decide +kernel
theorem i125_36 : zfetch 125 36 = some (8, .return_, 1) := by decide +kernel
theorem i126_0 : zfetch 126 0 = some (8, .aload_n 0, 1) := by decide +kernel
theorem i126_1 : zfetch 126 1 = some (8, .invokevirtual 74, 3) := by decide +kernel
theorem i126_4 : zfetch 126 4 = some (8, .ifCond .ne 5, 3) := by decide +kernel
theorem i126_7 : zfetch 126 7 = some (8, .iconst 0, 1) := by decide +kernel
theorem i126_8 : zfetch 126 8 = some (8, .ireturn, 1) := by decide +kernel
theorem i126_9 : zfetch 126 9 = some (8, .aload_n 0, 1) := by decide +kernel
theorem i126_10 : zfetch 126 10 = some (8, .invokevirtual 78, 3) := by decide +kernel
theorem i126_13 : zfetch 126 13 = some (8, .bipush 124, 2) := by decide +kernel
theorem i126_15 : zfetch 126 15 = some (8, .if_icmp .ne 32, 3) := by decide +kernel
theorem i126_18 : zfetch 126 18 = some (8, .aload_n 0, 1) := by decide +kernel
theorem i126_19 : zfetch 126 19 = some (8, .dup, 1) := by decide +kernel
theorem i126_20 : zfetch 126 20 = some (8, .getfield 64, 3) := by decide +kernel
theorem i126_23 : zfetch 126 23 = some (8, .iconst 1, 1) := by decide +kernel
theorem i126_24 : zfetch 126 24 = some (8, .iadd, 1) := by decide +kernel
theorem i126_25 : zfetch 126 25 = some (8, .putfield 64, 3) := by decide +kernel
theorem i126_28 : zfetch 126 28 = some (8, .aload_n 0, 1) := by decide +kernel
theorem i126_29 : zfetch 126 29 = some (8, .invokevirtual 74, 3) := by decide +kernel
theorem i126_32 : zfetch 126 32 = some (8, .ifCond .ne 5, 3) := by decide +kernel
theorem i126_35 : zfetch 126 35 = some (8, .iconst 0, 1) := by decide +kernel
theorem i126_36 : zfetch 126 36 = some (8, .ireturn, 1) := by decide +kernel
theorem i126_37 : zfetch 126 37 = some (8, .aload_n 0, 1) := by decide +kernel
theorem i126_38 : zfetch 126 38 = some (8, .iconst 3, 1) := by decide +kernel
theorem i126_39 : zfetch 126 39 = some (8, .bipush 124, 2) := by decide +kernel
theorem i126_41 : zfetch 126 41 = some (8, .invokevirtual 82, 3) := by decide +kernel
theorem i126_44 : zfetch 126 44 = some (8, .goto (-35), 3) := by decide +kernel
theorem i126_47 : zfetch 126 47 = some (8, .iconst 1, 1) := by decide +kernel
theorem i126_48 : zfetch 126 48 = some (8, .ireturn, 1) := by decide +kernel
theorem i127_0 : zfetch 127 0 = some (8, .aload_n 0, 1) := by decide +kernel
theorem i127_1 : zfetch 127 1 = some (8, .invokevirtual 86, 3) := by decide +kernel
theorem i127_4 : zfetch 127 4 = some (8, .ifCond .ne 5, 3) := by decide +kernel
theorem i127_7 : zfetch 127 7 = some (8, .iconst 0, 1) := by decide +kernel
theorem i127_8 : zfetch 127 8 = some (8, .ireturn, 1) := by decide +kernel
theorem i127_9 : zfetch 127 9 = some (8, .aload_n 0, 1) := by decide +kernel
theorem i127_10 : zfetch 127 10 = some (8, .invokevirtual 78, 3) := by decide +kernel
theorem i127_13 : zfetch 127 13 = some (8, .bipush 38, 2) := by decide +kernel
theorem i127_15 : zfetch 127 15 = some (8, .if_icmp .ne 32, 3) := by decide +kernel
theorem i127_18 : zfetch 127 18 = some (8, .aload_n 0, 1) := by decide +kernel
theorem i127_19 : zfetch 127 19 = some (8, .dup, 1) := by decide +kernel
theorem i127_20 : zfetch 127 20 = some (8, .getfield 64, 3) := by decide +kernel
theorem i127_23 : zfetch 127 23 = some (8, .iconst 1, 1) := by decide +kernel
theorem i127_24 : zfetch 127 24 = some (8, .iadd, 1) := by decide +kernel
theorem i127_25 : zfetch 127 25 = some (8, .putfield 64, 3) := by decide +kernel
theorem i127_28 : zfetch 127 28 = some (8, .aload_n 0, 1) := by decide +kernel
theorem i127_29 : zfetch 127 29 = some (8, .invokevirtual 86, 3) := by decide +kernel
theorem i127_32 : zfetch 127 32 = some (8, .ifCond .ne 5, 3) := by decide +kernel
theorem i127_35 : zfetch 127 35 = some (8, .iconst 0, 1) := by decide +kernel
theorem i127_36 : zfetch 127 36 = some (8, .ireturn, 1) := by decide +kernel
theorem i127_37 : zfetch 127 37 = some (8, .aload_n 0, 1) := by decide +kernel
theorem i127_38 : zfetch 127 38 = some (8, .iconst 3, 1) := by decide +kernel
theorem i127_39 : zfetch 127 39 = some (8, .bipush 38, 2) := by decide +kernel
theorem i127_41 : zfetch 127 41 = some (8, .invokevirtual 82, 3) := by decide +kernel
theorem i127_44 : zfetch 127 44 = some (8, .goto (-35), 3) := by decide +kernel
theorem i127_47 : zfetch 127 47 = some (8, .iconst 1, 1) := by decide +kernel
theorem i127_48 : zfetch 127 48 = some (8, .ireturn, 1) := by decide +kernel
theorem i128_0 : zfetch 128 0 = some (8, .aload_n 0, 1) := by decide +kernel
theorem i128_1 : zfetch 128 1 = some (8, .invokevirtual 89, 3) := by decide +kernel
theorem i128_4 : zfetch 128 4 = some (8, .ifCond .ne 5, 3) := by decide +kernel
theorem i128_7 : zfetch 128 7 = some (8, .iconst 0, 1) := by decide +kernel
theorem i128_8 : zfetch 128 8 = some (8, .ireturn, 1) := by decide +kernel
theorem i128_9 : zfetch 128 9 = some (8, .aload_n 0, 1) := by decide +kernel
theorem i128_10 : zfetch 128 10 = some (8, .invokevirtual 78, 3) := by decide +kernel
theorem i128_13 : zfetch 128 13 = some (8, .istore_n 1, 1) := by decide +kernel
theorem i128_14 : zfetch 128 14 = some (8, .iload_n 1, 1) := by decide +kernel
theorem i128_15 : zfetch 128 15 = some (8, .bipush 60, 2) := by decide +kernel
theorem i128_17 : zfetch 128 17 = some (8, .if_icmp .eq 17, 3) := by decide +kernel
theorem i128_20 : zfetch 128 20 = some (8, .iload_n 1, 1) := by decide +kernel
theorem i128_21 : zfetch 128 21 = some (8, .bipush 61, 2) := by decide +kernel
theorem i128_23 : zfetch 128 23 = some (8, .if_icmp .eq 11, 3) := by decide +kernel
theorem i128_26 : zfetch 128 26 = some (8, .iload_n 1, 1) := by decide +kernel
theorem i128_27 : zfetch 128 27 = some (8, .bipush 62, 2) := by decide +kernel
theorem i128_29 : zfetch 128 29 = some (8, .if_icmp .eq 5, 3) := by decide +kernel
theorem i128_32 : zfetch 128 32 = some (8, .iconst 1, 1) := by decide +kernel
theorem i128_33 : zfetch 128 33 = some (8, .ireturn, 1) := by decide +kernel
theorem i128_34 : zfetch 128 34 = some (8, .aload_n 0, 1) := by decide +kernel
theorem i128_35 : zfetch 128 35 = some (8, .dup, 1) := by decide +kernel
theorem i128_36 : zfetch 128 36 = some (8, .getfield 64, 3) := by decide +kernel
theorem i128_39 : zfetch 128 39 = some (8, .iconst 1, 1) := by decide +kernel
theorem i128_40 : zfetch 128 40 = some (8, .iadd, 1) := by decide +kernel
theorem i128_41 : zfetch 128 41 = some (8, .putfield 64, 3) := by decide +kernel
theorem i128_44 : zfetch 128 44 = some (8, .aload_n 0, 1) := by decide +kernel
theorem i128_45 : zfetch 128 45 = some (8, .invokevirtual 89, 3) := by decide +kernel
theorem i128_48 : zfetch 128 48 = some (8, .ifCond .ne 5, 3) := by decide +kernel
theorem i128_51 : zfetch 128 51 = some (8, .iconst 0, 1) := by decide +kernel
theorem i128_52 : zfetch 128 52 = some (8, .ireturn, 1) := by decide +kernel
theorem i128_53 : zfetch 128 53 = some (8, .aload_n 0, 1) := by decide +kernel
theorem i128_54 : zfetch 128 54 = some (8, .iconst 3, 1) := by decide +kernel
theorem i128_55 : zfetch 128 55 = some (8, .iload_n 1, 1) := by decide +kernel
theorem i128_56 : zfetch 128 56 = some (8, .invokevirtual 82, 3) := by decide +kernel
theorem i128_59 : zfetch 128 59 = some (8, .iconst 1, 1) := by decide +kernel
theorem i128_60 : zfetch 128 60 = some (8, .ireturn, 1) := by decide +kernel
theorem i129_0 : zfetch 129 0 = some (8, .aload_n 0, 1) := by decide +kernel
theorem i129_1 : zfetch 129 1 = some (8, .invokevirtual 92, 3) := by decide +kernel
theorem i129_4 : zfetch 129 4 = some (8, .ifCond .ne 5, 3) := by decide +kernel
theorem i129_7 : zfetch 129 7 = some (8, .iconst 0, 1) := by decide +kernel
theorem i129_8 : zfetch 129 8 = some (8, .ireturn, 1) := by decide +kernel
theorem i129_9 : zfetch 129 9 = some (8, .aload_n 0, 1) := by decide +kernel
theorem i129_10 : zfetch 129 10 = some (8, .invokevirtual 78, 3) := by decide +kernel
theorem i129_13 : zfetch 129 13 = some (8, .bipush 43, 2) := by decide +kernel
theorem i129_15 : zfetch 129 15 = some (8, .if_icmp .eq 12, 3) := by decide +kernel
theorem i129_18 : zfetch 129 18 = some (8, .aload_n 0, 1) := by decide +kernel
theorem i129_19 : zfetch 129 19 = some (8, .invokevirtual 78, 3) := by decide +kernel
theorem i129_22 : zfetch 129 22 = some (8, .bipush 45, 2) := by decide +kernel
theorem i129_24 : zfetch 129 24 = some (8, .if_icmp .ne 36, 3) := by decide +kernel
theorem i129_27 : zfetch 129 27 = some (8, .aload_n 0, 1) := by decide +kernel
theorem i129_28 : zfetch 129 28 = some (8, .invokevirtual 78, 3) := by decide +kernel
theorem i129_31 : zfetch 129 31 = some (8, .istore_n 1, 1) := by decide +kernel
theorem i129_32 : zfetch 129 32 = some (8, .aload_n 0, 1) := by decide +kernel
theorem i129_33 : zfetch 129 33 = some (8, .dup, 1) := by decide +kernel
theorem i129_34 : zfetch 129 34 = some (8, .getfield 64, 3) := by decide +kernel
theorem i129_37 : zfetch 129 37 = some (8, .iconst 1, 1) := by decide +kernel
theorem i129_38 : zfetch 129 38 = some (8, .iadd, 1) := by decide +kernel
theorem i129_39 : zfetch 129 39 = some (8, .putfield 64, 3) := by decide +kernel
theorem i129_42 : zfetch 129 42 = some (8, .aload_n 0, 1) := by decide +kernel
theorem i129_43 : zfetch 129 43 = some (8, .invokevirtual 92, 3) := by decide +kernel
theorem i129_46 : zfetch 129 46 = some (8, .ifCond .ne 5, 3) := by decide +kernel
theorem i129_49 : zfetch 129 49 = some (8, .iconst 0, 1) := by decide +kernel
theorem i129_50 : zfetch 129 50 = some (8, .ireturn, 1) := by decide +kernel
theorem i129_51 : zfetch 129 51 = some (8, .aload_n 0, 1) := by decide +kernel
theorem i129_52 : zfetch 129 52 = some (8, .iconst 3, 1) := by decide +kernel
theorem i129_53 : zfetch 129 53 = some (8, .iload_n 1, 1) := by decide +kernel
theorem i129_54 : zfetch 129 54 = some (8, .invokevirtual 82, 3) := by decide +kernel
theorem i129_57 : zfetch 129 57 = some (8, .goto (-48), 3) := by decide +kernel
theorem i129_60 : zfetch 129 60 = some (8, .iconst 1, 1) := by decide +kernel
theorem i129_61 : zfetch 129 61 = some (8, .ireturn, 1) := by decide +kernel
theorem i130_0 : zfetch 130 0 = some (8, .aload_n 0, 1) := by decide +kernel
theorem i130_1 : zfetch 130 1 = some (8, .invokevirtual 95, 3) := by decide +kernel
theorem i130_4 : zfetch 130 4 = some (8, .ifCond .ne 5, 3) := by decide +kernel
theorem i130_7 : zfetch 130 7 = some (8, .iconst 0, 1) := by decide +kernel
theorem i130_8 : zfetch 130 8 = some (8, .ireturn, 1) := by decide +kernel
theorem i130_9 : zfetch 130 9 = some (8, .aload_n 0, 1) := by decide +kernel
theorem i130_10 : zfetch 130 10 = some (8, .invokevirtual 78, 3) := by decide +kernel
theorem i130_13 : zfetch 130 13 = some (8, .bipush 42, 2) := by decide +kernel
theorem i130_15 : zfetch 130 15 = some (8, .if_icmp .eq 21, 3) := by decide +kernel
theorem i130_18 : zfetch 130 18 = some (8, .aload_n 0, 1) := by decide +kernel
theorem i130_19 : zfetch 130 19 = some (8, .invokevirtual 78, 3) := by decide +kernel
theorem i130_22 : zfetch 130 22 = some (8, .bipush 47, 2) := by decide +kernel
theorem i130_24 : zfetch 130 24 = some (8, .if_icmp .eq 12, 3) := by decide +kernel
theorem i130_27 : zfetch 130 27 = some (8, .aload_n 0, 1) := by decide +kernel
theorem i130_28 : zfetch 130 28 = some (8, .invokevirtual 78, 3) := by decide +kernel
theorem i130_31 : zfetch 130 31 = some (8, .bipush 37, 2) := by decide +kernel
theorem i130_33 : zfetch 130 33 = some (8, .if_icmp .ne 36, 3) := by decide +kernel
theorem i130_36 : zfetch 130 36 = some (8, .aload_n 0, 1) := by decide +kernel
theorem i130_37 : zfetch 130 37 = some (8, .invokevirtual 78, 3) := by decide +kernel
theorem i130_40 : zfetch 130 40 = some (8, .istore_n 1, 1) := by decide +kernel
theorem i130_41 : zfetch 130 41 = some (8, .aload_n 0, 1) := by decide +kernel
theorem i130_42 : zfetch 130 42 = some (8, .dup, 1) := by decide +kernel
theorem i130_43 : zfetch 130 43 = some (8, .getfield 64, 3) := by decide +kernel
theorem i130_46 : zfetch 130 46 = some (8, .iconst 1, 1) := by decide +kernel
theorem i130_47 : zfetch 130 47 = some (8, .iadd, 1) := by decide +kernel
theorem i130_48 : zfetch 130 48 = some (8, .putfield 64, 3) := by decide +kernel
theorem i130_51 : zfetch 130 51 = some (8, .aload_n 0, 1) := by decide +kernel
theorem i130_52 : zfetch 130 52 = some (8, .invokevirtual 95, 3) := by decide +kernel
theorem i130_55 : zfetch 130 55 = some (8, .ifCond .ne 5, 3) := by decide +kernel
theorem i130_58 : zfetch 130 58 = some (8, .iconst 0, 1) := by decide +kernel
theorem i130_59 : zfetch 130 59 = some (8, .ireturn, 1) := by decide +kernel
theorem i130_60 : zfetch 130 60 = some (8, .aload_n 0, 1) := by decide +kernel
theorem i130_61 : zfetch 130 61 = some (8, .iconst 3, 1) := by decide +kernel
theorem i130_62 : zfetch 130 62 = some (8, .iload_n 1, 1) := by decide +kernel
theorem i130_63 : zfetch 130 63 = some (8, .invokevirtual 82, 3) := by decide +kernel
theorem i130_66 : zfetch 130 66 = some (8, .goto (-57), 3) := by decide +kernel
theorem i130_69 : zfetch 130 69 = some (8, .iconst 1, 1) := by decide +kernel
theorem i130_70 : zfetch 130 70 = some (8, .ireturn, 1) := by decide +kernel
theorem i131_0 : zfetch 131 0 = some (8, .aload_n 0, 1) := by decide +kernel
theorem i131_1 : zfetch 131 1 = some (8, .getfield 98, 3) := by decide +kernel
theorem i131_4 : zfetch 131 4 = some (8, .iconst 5, 1) := by decide +kernel
theorem i131_5 : zfetch 131 5 = some (8, .if_icmp .ne 5, 3) := by decide +kernel
theorem i131_8 : zfetch 131 8 = some (8, .iconst 0, 1) := by decide +kernel
theorem i131_9 : zfetch 131 9 = some (8, .ireturn, 1) := by decide +kernel
theorem i131_10 : zfetch 131 10 = some (8, .aload_n 0, 1) := by decide +kernel
theorem i131_11 : zfetch 131 11 = some (8, .dup, 1) := by decide +kernel
theorem i131_12 : zfetch 131 12 = some (8, .getfield 98, 3) := by decide +kernel
theorem i131_15 : zfetch 131 15 = some (8, .iconst 1, 1) := by decide +kernel
theorem i131_16 : zfetch 131 16 = some (8, .iadd, 1) := by decide +kernel
theorem i131_17 : zfetch 131 17 = some (8, .putfield 98, 3) := by decide +kernel
theorem i131_20 : zfetch 131 20 = some (8, .aload_n 0, 1) := by decide +kernel
theorem i131_21 : zfetch 131 21 = some (8, .dup, 1) := by decide +kernel
theorem i131_22 : zfetch 131 22 = some (8, .getfield 64, 3) := by decide +kernel
theorem i131_25 : zfetch 131 25 = some (8, .iconst 1, 1) := by decide +kernel
theorem i131_26 : zfetch 131 26 = some (8, .iadd, 1) := by decide +kernel
theorem i131_27 : zfetch 131 27 = some (8, .putfield 64, 3) := by decide +kernel
theorem i131_30 : zfetch 131 30 = some (8, .iconst 1, 1) := by decide +kernel
theorem i131_31 : zfetch 131 31 = some (8, .ireturn, 1) := by decide +kernel
theorem i132_0 : zfetch 132 0 = some (8, .aload_n 0, 1) := by decide +kernel
theorem i132_1 : zfetch 132 1 = some (8, .invokevirtual 78, 3) := by decide +kernel
theorem i132_4 : zfetch 132 4 = some (8, .istore_n 1, 1) := by decide +kernel
theorem i132_5 : zfetch 132 5 = some (8, .aload_n 0, 1) := by decide +kernel
theorem i132_6 : zfetch 132 6 = some (8, .iload_n 1, 1) := by decide +kernel
theorem i132_7 : zfetch 132 7 = some (8, .invokevirtual 101, 3) := by decide +kernel
theorem i132_10 : zfetch 132 10 = some (8, .ifCond .eq 21, 3) := by decide +kernel
theorem i132_13 : zfetch 132 13 = some (8, .aload_n 0, 1) := by decide +kernel
theorem i132_14 : zfetch 132 14 = some (8, .dup, 1) := by decide +kernel
theorem i132_15 : zfetch 132 15 = some (8, .getfield 64, 3) := by decide +kernel
theorem i132_18 : zfetch 132 18 = some (8, .iconst 1, 1) := by decide +kernel
theorem i132_19 : zfetch 132 19 = some (8, .iadd, 1) := by decide +kernel
theorem i132_20 : zfetch 132 20 = some (8, .putfield 64, 3) := by decide +kernel
theorem i132_23 : zfetch 132 23 = some (8, .aload_n 0, 1) := by decide +kernel
theorem i132_24 : zfetch 132 24 = some (8, .iconst 1, 1) := by decide +kernel
theorem i132_25 : zfetch 132 25 = some (8, .iload_n 1, 1) := by decide +kernel
theorem i132_26 : zfetch 132 26 = some (8, .invokevirtual 82, 3) := by decide +kernel
theorem i132_29 : zfetch 132 29 = some (8, .iconst 1, 1) := by decide +kernel
theorem i132_30 : zfetch 132 30 = some (8, .ireturn, 1) := by decide +kernel
theorem i132_31 : zfetch 132 31 = some (8, .iload_n 1, 1) := by decide +kernel
theorem i132_32 : zfetch 132 32 = some (8, .bipush 48, 2) := by decide +kernel
theorem i132_34 : zfetch 132 34 = some (8, .bipush 57, 2) := by decide +kernel
theorem i132_36 : zfetch 132 36 = some (8, .invokestatic 50, 3) := by decide +kernel
theorem i132_39 : zfetch 132 39 = some (8, .ifCond .eq 63, 3) := by decide +kernel
theorem i132_42 : zfetch 132 42 = some (8, .iconst 0, 1) := by decide +kernel
theorem i132_43 : zfetch 132 43 = some (8, .istore_n 2, 1) := by decide +kernel
theorem i132_44 : zfetch 132 44 = some (8, .iconst 0, 1) := by decide +kernel
theorem i132_45 : zfetch 132 45 = some (8, .istore_n 3, 1) := by decide +kernel
theorem i132_46 : zfetch 132 46 = some (8, .iload_n 3, 1) := by decide +kernel
theorem i132_47 : zfetch 132 47 = some (8, .iconst 4, 1) := by decide +kernel
theorem i132_48 : zfetch 132 48 = some (8, .if_icmp .ge 46, 3) := by decide +kernel
theorem i132_51 : zfetch 132 51 = some (8, .aload_n 0, 1) := by decide +kernel
theorem i132_52 : zfetch 132 52 = some (8, .invokevirtual 78, 3) := by decide +kernel
theorem i132_55 : zfetch 132 55 = some (8, .bipush 48, 2) := by decide +kernel
theorem i132_57 : zfetch 132 57 = some (8, .bipush 57, 2) := by decide +kernel
theorem i132_59 : zfetch 132 59 = some (8, .invokestatic 50, 3) := by decide +kernel
theorem i132_62 : zfetch 132 62 = some (8, .ifCond .eq 32, 3) := by decide +kernel
theorem i132_65 : zfetch 132 65 = some (8, .bipush 10, 2) := by decide +kernel
theorem i132_67 : zfetch 132 67 = some (8, .iload_n 2, 1) := by decide +kernel
theorem i132_68 : zfetch 132 68 = some (8, .imul, 1) := by decide +kernel
theorem i132_69 : zfetch 132 69 = some (8, .aload_n 0, 1) := by decide +kernel
theorem i132_70 : zfetch 132 70 = some (8, .invokevirtual 78, 3) := by decide +kernel
theorem i132_73 : zfetch 132 73 = some (8, .iadd, 1) := by decide +kernel
theorem i132_74 : zfetch 132 74 = some (8, .bipush 48, 2) := by decide +kernel
theorem i132_76 : zfetch 132 76 = some (8, .isub, 1) := by decide +kernel
theorem i132_77 : zfetch 132 77 = some (8, .istore_n 2, 1) := by decide +kernel
theorem i132_78 : zfetch 132 78 = some (8, .aload_n 0, 1) := by decide +kernel
theorem i132_79 : zfetch 132 79 = some (8, .dup, 1) := by decide +kernel
theorem i132_80 : zfetch 132 80 = some (8, .getfield 64, 3) := by decide +kernel
theorem i132_83 : zfetch 132 83 = some (8, .iconst 1, 1) := by decide +kernel
theorem i132_84 : zfetch 132 84 = some (8, .iadd, 1) := by decide +kernel
theorem i132_85 : zfetch 132 85 = some (8, .putfield 64, 3) := by decide +kernel
theorem i132_88 : zfetch 132 88 = some (8, .iinc 3 1, 3) := by decide +kernel
theorem i132_91 : zfetch 132 91 = some (8, .goto (-45), 3) := by decide +kernel
theorem i132_94 : zfetch 132 94 = some (8, .aload_n 0, 1) := by decide +kernel
theorem i132_95 : zfetch 132 95 = some (8, .iconst 0, 1) := by decide +kernel
theorem i132_96 : zfetch 132 96 = some (8, .iload_n 2, 1) := by decide +kernel
theorem i132_97 : zfetch 132 97 = some (8, .invokevirtual 82, 3) := by decide +kernel
theorem i132_100 : zfetch 132 100 = some (8, .iconst 1, 1) := by decide +kernel
theorem i132_101 : zfetch 132 101 = some (8, .ireturn, 1) := by decide +kernel
theorem i132_102 : zfetch 132 102 = some (8, .iload_n 1, 1) := by decide +kernel
theorem i132_103 : zfetch 132 103 = some (8, .bipush 33, 2) := by decide +kernel
theorem i132_105 : zfetch 132 105 = some (8, .if_icmp .ne 37, 3) := by decide +kernel
theorem i132_108 : zfetch 132 108 = some (8, .aload_n 0, 1) := by decide +kernel
theorem i132_109 : zfetch 132 109 = some (8, .invokevirtual 105, 3) := by decide +kernel
theorem i132_112 : zfetch 132 112 = some (8, .ifCond .eq 10, 3) := by decide +kernel
theorem i132_115 : zfetch 132 115 = some (8, .aload_n 0, 1) := by decide +kernel
theorem i132_116 : zfetch 132 116 = some (8, .invokevirtual 95, 3) := by decide +kernel
theorem i132_119 : zfetch 132 119 = some (8, .ifCond .ne 5, 3) := by decide +kernel
theorem i132_122 : zfetch 132 122 = some (8, .iconst 0, 1) := by decide +kernel
theorem i132_123 : zfetch 132 123 = some (8, .ireturn, 1) := by decide +kernel
theorem i132_124 : zfetch 132 124 = some (8, .aload_n 0, 1) := by decide +kernel
theorem i132_125 : zfetch 132 125 = some (8, .dup, 1) := by decide +kernel
theorem i132_126 : zfetch 132 126 = some (8, .getfield 98, 3) := by decide +kernel
theorem i132_129 : zfetch 132 129 = some (8, .iconst 1, 1) := by decide +kernel
theorem i132_130 : zfetch 132 130 = some (8, .isub, 1) := by decide +kernel
theorem i132_131 : zfetch 132 131 = some (8, .putfield 98, 3) := by decide +kernel
theorem i132_134 : zfetch 132 134 = some (8, .aload_n 0, 1) := by decide +kernel
theorem i132_135 : zfetch 132 135 = some (8, .iconst 2, 1) := by decide +kernel
theorem i132_136 : zfetch 132 136 = some (8, .iconst 0, 1) := by decide +kernel
theorem i132_137 : zfetch 132 137 = some (8, .invokevirtual 82, 3) := by decide +kernel
theorem i132_140 : zfetch 132 140 = some (8, .iconst 1, 1) := by decide +kernel
theorem i132_141 : zfetch 132 141 = some (8, .ireturn, 1) := by decide +kernel
theorem i132_142 : zfetch 132 142 = some (8, .iload_n 1, 1) := by decide +kernel
theorem i132_143 : zfetch 132 143 = some (8, .bipush 40, 2) := by decide +kernel
theorem i132_145 : zfetch 132 145 = some (8, .if_icmp .ne 26, 3) := by decide +kernel
theorem i132_148 : zfetch 132 148 = some (8, .aload_n 0, 1) := by decide +kernel
theorem i132_149 : zfetch 132 149 = some (8, .invokevirtual 105, 3) := by decide +kernel
theorem i132_152 : zfetch 132 152 = some (8, .ifCond .eq 19, 3) := by decide +kernel
theorem i132_155 : zfetch 132 155 = some (8, .aload_n 0, 1) := by decide +kernel
theorem i132_156 : zfetch 132 156 = some (8, .invokevirtual 108, 3) := by decide +kernel
theorem i132_159 : zfetch 132 159 = some (8, .ifCond .eq 12, 3) := by decide +kernel
theorem i132_162 : zfetch 132 162 = some (8, .aload_n 0, 1) := by decide +kernel
theorem i132_163 : zfetch 132 163 = some (8, .invokevirtual 78, 3) := by decide +kernel
theorem i132_166 : zfetch 132 166 = some (8, .bipush 41, 2) := by decide +kernel
theorem i132_168 : zfetch 132 168 = some (8, .if_icmp .eq 5, 3) := by decide +kernel
theorem i132_171 : zfetch 132 171 = some (8, .iconst 0, 1) := by decide +kernel
theorem i132_172 : zfetch 132 172 = some (8, .ireturn, 1) := by decide +kernel
theorem i132_173 : zfetch 132 173 = some (8, .aload_n 0, 1) := by decide +kernel
theorem i132_174 : zfetch 132 174 = some (8, .dup, 1) := by decide +kernel
theorem i132_175 : zfetch 132 175 = some (8, .getfield 64, 3) := by decide +kernel
theorem i132_178 : zfetch 132 178 = some (8, .iconst 1, 1) := by decide +kernel
theorem i132_179 : zfetch 132 179 = some (8, .iadd, 1) := by decide +kernel
theorem i132_180 : zfetch 132 180 = some (8, .putfield 64, 3) := by decide +kernel
theorem i132_183 : zfetch 132 183 = some (8, .aload_n 0, 1) := by decide +kernel
theorem i132_184 : zfetch 132 184 = some (8, .dup, 1) := by decide +kernel
theorem i132_185 : zfetch 132 185 = some (8, .getfield 98, 3) := by decide +kernel
theorem i132_188 : zfetch 132 188 = some (8, .iconst 1, 1) := by decide +kernel
theorem i132_189 : zfetch 132 189 = some (8, .isub, 1) := by decide +kernel
theorem i132_190 : zfetch 132 190 = some (8, .putfield 98, 3) := by decide +kernel
theorem i132_193 : zfetch 132 193 = some (8, .iconst 1, 1) := by decide +kernel
theorem i132_194 : zfetch 132 194 = some (8, .ireturn, 1) := by decide +kernel
theorem i133_0 : zfetch 133 0 = some (8, .aload_n 0, 1) := by decide +kernel
theorem i133_1 : zfetch 133 1 = some (8, .getfield 7, 3) := by decide +kernel
theorem i133_4 : zfetch 133 4 = some (8, .bipush 60, 2) := by decide +kernel
theorem i133_6 : zfetch 133 6 = some (8, .bipush 125, 2) := by decide +kernel
theorem i133_8 : zfetch 133 8 = some (8, .iload_n 1, 1) := by decide +kernel
theorem i133_9 : zfetch 133 9 = some (8, .imul, 1) := by decide +kernel
theorem i133_10 : zfetch 133 10 = some (8, .iadd, 1) := by decide +kernel
theorem i133_11 : zfetch 133 11 = some (8, .iaload, 1) := by decide +kernel
theorem i133_12 : zfetch 133 12 = some (8, .ifCond .le 7, 3) := by decide +kernel
theorem i133_15 : zfetch 133 15 = some (8, .iconst 1, 1) := by decide +kernel
theorem i133_16 : zfetch 133 16 = some (8, .goto 4, 3) := by decide +kernel
theorem i133_19 : zfetch 133 19 = some (8, .iconst 0, 1) := by decide +kernel
theorem i133_20 : zfetch 133 20 = some (8, .ireturn, 1) := by decide +kernel
theorem i134_0 : zfetch 134 0 = some (8, .iload_n 1, 1) := by decide +kernel
theorem i134_1 : zfetch 134 1 = some (8, .iconst 0, 1) := by decide +kernel
theorem i134_2 : zfetch 134 2 = some (8, .iconst 1, 1) := by decide +kernel
theorem i134_3 : zfetch 134 3 = some (8, .invokestatic 50, 3) := by decide +kernel
theorem i134_6 : zfetch 134 6 = some (8, .ifCond .ne 9, 3) := by decide +kernel
theorem i134_9 : zfetch 134 9 = some (8, .aload_n 0, 1) := by decide +kernel
theorem i134_10 : zfetch 134 10 = some (8, .iconst 1, 1) := by decide +kernel
theorem i134_11 : zfetch 134 11 = some (8, .invokevirtual 58, 3) := by decide +kernel
theorem i134_14 : zfetch 134 14 = some (8, .ireturn, 1) := by decide +kernel
theorem i134_15 : zfetch 134 15 = some (8, .aload_n 0, 1) := by decide +kernel
theorem i134_16 : zfetch 134 16 = some (8, .iload_n 1, 1) := by decide +kernel
theorem i134_17 : zfetch 134 17 = some (8, .putfield 68, 3) := by decide +kernel
theorem i134_20 : zfetch 134 20 = some (8, .aload_n 0, 1) := by decide +kernel
theorem i134_21 : zfetch 134 21 = some (8, .iconst 0, 1) := by decide +kernel
theorem i134_22 : zfetch 134 22 = some (8, .putfield 64, 3) := by decide +kernel
theorem i134_25 : zfetch 134 25 = some (8, .aload_n 0, 1) := by decide +kernel
theorem i134_26 : zfetch 134 26 = some (8, .iconst 0, 1) := by decide +kernel
theorem i134_27 : zfetch 134 27 = some (8, .putfield 98, 3) := by decide +kernel
theorem i134_30 : zfetch 134 30 = some (8, .aload_n 0, 1) := by decide +kernel
theorem i134_31 : zfetch 134 31 = some (8, .iconst 0, 1) := by decide +kernel
theorem i134_32 : zfetch 134 32 = some (8, .putfield 71, 3) := by decide +kernel
theorem i134_35 : zfetch 134 35 = some (8, .aload_n 0, 1) := by decide +kernel
theorem i134_36 : zfetch 134 36 = some (8, .invokevirtual 108, 3) := by decide +kernel
theorem i134_39 : zfetch 134 39 = some (8, .ifCond .eq 20, 3) := by decide +kernel
theorem i134_42 : zfetch 134 42 = some (8, .aload_n 0, 1) := by decide +kernel
theorem i134_43 : zfetch 134 43 = some (8, .getfield 64, 3) := by decide +kernel
theorem i134_46 : zfetch 134 46 = some (8, .aload_n 0, 1) := by decide +kernel
theorem i134_47 : zfetch 134 47 = some (8, .getfield 7, 3) := by decide +kernel
theorem i134_50 : zfetch 134 50 = some (8, .iconst 2, 1) := by decide +kernel
theorem i134_51 : zfetch 134 51 = some (8, .iaload, 1) := by decide +kernel
theorem i134_52 : zfetch 134 52 = some (8, .if_icmp .ne 7, 3) := by decide +kernel
theorem i134_55 : zfetch 134 55 = some (8, .iconst 1, 1) := by decide +kernel
theorem i134_56 : zfetch 134 56 = some (8, .goto 4, 3) := by decide +kernel
theorem i134_59 : zfetch 134 59 = some (8, .iconst 0, 1) := by decide +kernel
theorem i134_60 : zfetch 134 60 = some (8, .istore_n 2, 1) := by decide +kernel
theorem i134_61 : zfetch 134 61 = some (8, .aload_n 0, 1) := by decide +kernel
theorem i134_62 : zfetch 134 62 = some (8, .getfield 7, 3) := by decide +kernel
theorem i134_65 : zfetch 134 65 = some (8, .iconst 2, 1) := by decide +kernel
theorem i134_66 : zfetch 134 66 = some (8, .iconst 0, 1) := by decide +kernel
theorem i134_67 : zfetch 134 67 = some (8, .iastore, 1) := by decide +kernel
theorem i134_68 : zfetch 134 68 = some (8, .iload_n 2, 1) := by decide +kernel
theorem i134_69 : zfetch 134 69 = some (8, .ifCond .ne 11, 3) := by decide +kernel
theorem i134_72 : zfetch 134 72 = some (8, .bipush (-10), 2) := by decide +kernel
theorem i134_74 : zfetch 134 74 = some (8, .aload_n 0, 1) := by decide +kernel
theorem i134_75 : zfetch 134 75 = some (8, .getfield 64, 3) := by decide +kernel
theorem i134_78 : zfetch 134 78 = some (8, .isub, 1) := by decide +kernel
theorem i134_79 : zfetch 134 79 = some (8, .ireturn, 1) := by decide +kernel
theorem i134_80 : zfetch 134 80 = some (8, .bipush 60, 2) := by decide +kernel
theorem i134_82 : zfetch 134 82 = some (8, .bipush 125, 2) := by decide +kernel
theorem i134_84 : zfetch 134 84 = some (8, .iload_n 1, 1) := by decide +kernel
theorem i134_85 : zfetch 134 85 = some (8, .imul, 1) := by decide +kernel
theorem i134_86 : zfetch 134 86 = some (8, .iadd, 1) := by decide +kernel
theorem i134_87 : zfetch 134 87 = some (8, .istore_n 3, 1) := by decide +kernel
theorem i134_88 : zfetch 134 88 = some (8, .aload_n 0, 1) := by decide +kernel
theorem i134_89 : zfetch 134 89 = some (8, .getfield 7, 3) := by decide +kernel
theorem i134_92 : zfetch 134 92 = some (8, .iload_n 3, 1) := by decide +kernel
theorem i134_93 : zfetch 134 93 = some (8, .aload_n 0, 1) := by decide +kernel
theorem i134_94 : zfetch 134 94 = some (8, .getfield 71, 3) := by decide +kernel
theorem i134_97 : zfetch 134 97 = some (8, .iastore, 1) := by decide +kernel
theorem i134_98 : zfetch 134 98 = some (8, .iconst 0, 1) := by decide +kernel
theorem i134_99 : zfetch 134 99 = some (8, .istore 4, 2) := by decide +kernel
theorem i134_101 : zfetch 134 101 = some (8, .iload 4, 2) := by decide +kernel
theorem i134_103 : zfetch 134 103 = some (8, .iconst 2, 1) := by decide +kernel
theorem i134_104 : zfetch 134 104 = some (8, .aload_n 0, 1) := by decide +kernel
theorem i134_105 : zfetch 134 105 = some (8, .getfield 71, 3) := by decide +kernel
theorem i134_108 : zfetch 134 108 = some (8, .imul, 1) := by decide +kernel
theorem i134_109 : zfetch 134 109 = some (8, .if_icmp .ge 27, 3) := by decide +kernel
theorem i134_112 : zfetch 134 112 = some (8, .aload_n 0, 1) := by decide +kernel
theorem i134_113 : zfetch 134 113 = some (8, .getfield 7, 3) := by decide +kernel
theorem i134_116 : zfetch 134 116 = some (8, .iload_n 3, 1) := by decide +kernel
end
section
theorem i134_117 : zfetch 134 117 = some (8, .iconst 1, 1) := by decide +kernel
theorem i134_118 : zfetch 134 118 = some (8, .iadd, 1) := by decide +kernel
theorem i134_119 : zfetch 134 119 = some (8, .iload 4, 2) := by decide +kernel
theorem i134_121 : zfetch 134 121 = some (8, .iadd, 1) := by decide +kernel
theorem i134_122 : zfetch 134 122 = some (8, .aload_n 0, 1) := by decide +kernel
theorem i134_123 : zfetch 134 123 = some (8, .getfield 25, 3) := by decide +kernel
theorem i134_126 : zfetch 134 126 = some (8, .iload 4, 2) := by decide +kernel
theorem i134_128 : zfetch 134 128 = some (8, .iaload, 1) := by decide +kernel
theorem i134_129 : zfetch 134 129 = some (8, .iastore, 1) := by decide +kernel
theorem i134_130 : zfetch 134 130 = some (8, .iinc 4 1, 3) := by decide +kernel
theorem i134_133 : zfetch 134 133 = some (8, .goto (-32), 3) := by decide +kernel
theorem i134_136 : zfetch 134 136 = some (8, .iconst 1, 1) := by decide +kernel
theorem i134_137 : zfetch 134 137 = some (8, .ireturn, 1) := by decide +kernel
theorem i135_0 : zfetch 135 0 = some (8, .iload_n 1, 1) := by decide +kernel
theorem i135_1 : zfetch 135 1 = some (8, .iconst 0, 1) := by decide +kernel
theorem i135_2 : zfetch 135 2 = some (8, .iconst 1, 1) := by decide +kernel
theorem i135_3 : zfetch 135 3 = some (8, .invokestatic 50, 3) := by decide +kernel
theorem i135_6 : zfetch 135 6 = some (8, .ifCond .ne 9, 3) := by decide +kernel
theorem i135_9 : zfetch 135 9 = some (8, .aload_n 0, 1) := by decide +kernel
theorem i135_10 : zfetch 135 10 = some (8, .iconst 1, 1) := by decide +kernel
theorem i135_11 : zfetch 135 11 = some (8, .invokevirtual 58, 3) := by decide +kernel
theorem i135_14 : zfetch 135 14 = some (8, .ireturn, 1) := by decide +kernel
theorem i135_15 : zfetch 135 15 = some (8, .aload_n 0, 1) := by decide +kernel
theorem i135_16 : zfetch 135 16 = some (8, .iload_n 1, 1) := by decide +kernel
theorem i135_17 : zfetch 135 17 = some (8, .invokevirtual 111, 3) := by decide +kernel
theorem i135_20 : zfetch 135 20 = some (8, .ifCond .eq 7, 3) := by decide +kernel
theorem i135_23 : zfetch 135 23 = some (8, .iconst 1, 1) := by decide +kernel
theorem i135_24 : zfetch 135 24 = some (8, .goto 4, 3) := by decide +kernel
theorem i135_27 : zfetch 135 27 = some (8, .iconst 0, 1) := by decide +kernel
theorem i135_28 : zfetch 135 28 = some (8, .istore_n 2, 1) := by decide +kernel
theorem i135_29 : zfetch 135 29 = some (8, .aload_n 0, 1) := by decide +kernel
theorem i135_30 : zfetch 135 30 = some (8, .getfield 7, 3) := by decide +kernel
theorem i135_33 : zfetch 135 33 = some (8, .bipush 60, 2) := by decide +kernel
theorem i135_35 : zfetch 135 35 = some (8, .bipush 125, 2) := by decide +kernel
theorem i135_37 : zfetch 135 37 = some (8, .iload_n 1, 1) := by decide +kernel
theorem i135_38 : zfetch 135 38 = some (8, .imul, 1) := by decide +kernel
theorem i135_39 : zfetch 135 39 = some (8, .iadd, 1) := by decide +kernel
theorem i135_40 : zfetch 135 40 = some (8, .iconst 0, 1) := by decide +kernel
theorem i135_41 : zfetch 135 41 = some (8, .iastore, 1) := by decide +kernel
theorem i135_42 : zfetch 135 42 = some (8, .iload_n 2, 1) := by decide +kernel
theorem i135_43 : zfetch 135 43 = some (8, .ireturn, 1) := by decide +kernel
theorem i136_0 : zfetch 136 0 = some (8, .iload_n 0, 1) := by decide +kernel
theorem i136_1 : zfetch 136 1 = some (8, .tableswitch 217 37 62 #[153, 203, 217, 217, 217, 127, 119, 217, 123, 217, 131, 217, 217, 217, 217, 217, 217, 217, 217, 217, 217, 217, 217, 170, 192, 181], 119) := by decide +kernel
theorem i136_120 : zfetch 136 120 = some (8, .iload_n 1, 1) := by decide +kernel
theorem i136_121 : zfetch 136 121 = some (8, .iload_n 2, 1) := by decide +kernel
theorem i136_122 : zfetch 136 122 = some (8, .iadd, 1) := by decide +kernel
theorem i136_123 : zfetch 136 123 = some (8, .ireturn, 1) := by decide +kernel
theorem i136_124 : zfetch 136 124 = some (8, .iload_n 1, 1) := by decide +kernel
theorem i136_125 : zfetch 136 125 = some (8, .iload_n 2, 1) := by decide +kernel
theorem i136_126 : zfetch 136 126 = some (8, .isub, 1) := by decide +kernel
theorem i136_127 : zfetch 136 127 = some (8, .ireturn, 1) := by decide +kernel
theorem i136_128 : zfetch 136 128 = some (8, .iload_n 1, 1) := by decide +kernel
theorem i136_129 : zfetch 136 129 = some (8, .iload_n 2, 1) := by decide +kernel
theorem i136_130 : zfetch 136 130 = some (8, .imul, 1) := by decide +kernel
theorem i136_131 : zfetch 136 131 = some (8, .ireturn, 1) := by decide +kernel
theorem i136_132 : zfetch 136 132 = some (8, .iload_n 2, 1) := by decide +kernel
theorem i136_133 : zfetch 136 133 = some (8, .ifCond .ne 7, 3) := by decide +kernel
theorem i136_136 : zfetch 136 136 = some (8, .iconst 0, 1) := by decide +kernel
theorem i136_137 : zfetch 136 137 = some (8, .goto 16, 3) := by decide +kernel
theorem i136_140 : zfetch 136 140 = some (8, .iload_n 2, 1) := by decide +kernel
theorem i136_141 : zfetch 136 141 = some (8, .iconst (-1), 1) := by decide +kernel
theorem i136_142 : zfetch 136 142 = some (8, .if_icmp .ne 8, 3) := by decide +kernel
theorem i136_145 : zfetch 136 145 = some (8, .iload_n 1, 1) := by decide +kernel
theorem i136_146 : zfetch 136 146 = some (8, .ineg, 1) := by decide +kernel
theorem i136_147 : zfetch 136 147 = some (8, .goto 6, 3) := by decide +kernel
theorem i136_150 : zfetch 136 150 = some (8, .iload_n 1, 1) := by decide +kernel
theorem i136_151 : zfetch 136 151 = some (8, .iload_n 2, 1) := by decide +kernel
theorem i136_152 : zfetch 136 152 = some (8, .idiv, 1) := by decide +kernel
theorem i136_153 : zfetch 136 153 = some (8, .ireturn, 1) := by decide +kernel
theorem i136_154 : zfetch 136 154 = some (8, .iload_n 2, 1) := by decide +kernel
theorem i136_155 : zfetch 136 155 = some (8, .ifCond .eq 8, 3) := by decide +kernel
theorem i136_158 : zfetch 136 158 = some (8, .iload_n 2, 1) := by decide +kernel
theorem i136_159 : zfetch 136 159 = some (8, .iconst (-1), 1) := by decide +kernel
theorem i136_160 : zfetch 136 160 = some (8, .if_icmp .ne 7, 3) := by decide +kernel
theorem i136_163 : zfetch 136 163 = some (8, .iconst 0, 1) := by decide +kernel
theorem i136_164 : zfetch 136 164 = some (8, .goto 6, 3) := by decide +kernel
theorem i136_167 : zfetch 136 167 = some (8, .iload_n 1, 1) := by decide +kernel
theorem i136_168 : zfetch 136 168 = some (8, .iload_n 2, 1) := by decide +kernel
theorem i136_169 : zfetch 136 169 = some (8, .irem, 1) := by decide +kernel
theorem i136_170 : zfetch 136 170 = some (8, .ireturn, 1) := by decide +kernel
theorem i136_171 : zfetch 136 171 = some (8, .iload_n 1, 1) := by decide +kernel
theorem i136_172 : zfetch 136 172 = some (8, .iload_n 2, 1) := by decide +kernel
theorem i136_173 : zfetch 136 173 = some (8, .if_icmp .ge 7, 3) := by decide +kernel
theorem i136_176 : zfetch 136 176 = some (8, .iconst 1, 1) := by decide +kernel
theorem i136_177 : zfetch 136 177 = some (8, .goto 4, 3) := by decide +kernel
theorem i136_180 : zfetch 136 180 = some (8, .iconst 0, 1) := by decide +kernel
theorem i136_181 : zfetch 136 181 = some (8, .ireturn, 1) := by decide +kernel
theorem i136_182 : zfetch 136 182 = some (8, .iload_n 1, 1) := by decide +kernel
theorem i136_183 : zfetch 136 183 = some (8, .iload_n 2, 1) := by decide +kernel
theorem i136_184 : zfetch 136 184 = some (8, .if_icmp .le 7, 3) := by decide +kernel
theorem i136_187 : zfetch 136 187 = some (8, .iconst 1, 1) := by decide +kernel
theorem i136_188 : zfetch 136 188 = some (8, .goto 4, 3) := by decide +kernel
theorem i136_191 : zfetch 136 191 = some (8, .iconst 0, 1) := by decide +kernel
theorem i136_192 : zfetch 136 192 = some (8, .ireturn, 1) := by decide +kernel
theorem i136_193 : zfetch 136 193 = some (8, .iload_n 1, 1) := by decide +kernel
theorem i136_194 : zfetch 136 194 = some (8, .iload_n 2, 1) := by decide +kernel
theorem i136_195 : zfetch 136 195 = some (8, .if_icmp .ne 7, 3) := by decide +kernel
theorem i136_198 : zfetch 136 198 = some (8, .iconst 1, 1) := by decide +kernel
theorem i136_199 : zfetch 136 199 = some (8, .goto 4, 3) := by decide +kernel
theorem i136_202 : zfetch 136 202 = some (8, .iconst 0, 1) := by decide +kernel
theorem i136_203 : zfetch 136 203 = some (8, .ireturn, 1) := by decide +kernel
theorem i136_204 : zfetch 136 204 = some (8, .iload_n 1, 1) := by decide +kernel
theorem i136_205 : zfetch 136 205 = some (8, .ifCond .eq 11, 3) := by decide +kernel
theorem i136_208 : zfetch 136 208 = some (8, .iload_n 2, 1) := by decide +kernel
theorem i136_209 : zfetch 136 209 = some (8, .ifCond .eq 7, 3) := by decide +kernel
theorem i136_212 : zfetch 136 212 = some (8, .iconst 1, 1) := by decide +kernel
theorem i136_213 : zfetch 136 213 = some (8, .goto 4, 3) := by decide +kernel
theorem i136_216 : zfetch 136 216 = some (8, .iconst 0, 1) := by decide +kernel
theorem i136_217 : zfetch 136 217 = some (8, .ireturn, 1) := by decide +kernel
theorem i136_218 : zfetch 136 218 = some (8, .iload_n 1, 1) := by decide +kernel
theorem i136_219 : zfetch 136 219 = some (8, .ifCond .ne 7, 3) := by decide +kernel
theorem i136_222 : zfetch 136 222 = some (8, .iload_n 2, 1) := by decide +kernel
theorem i136_223 : zfetch 136 223 = some (8, .ifCond .eq 7, 3) := by decide +kernel
theorem i136_226 : zfetch 136 226 = some (8, .iconst 1, 1) := by decide +kernel
theorem i136_227 : zfetch 136 227 = some (8, .goto 4, 3) := by decide +kernel
theorem i136_230 : zfetch 136 230 = some (8, .iconst 0, 1) := by decide +kernel
theorem i136_231 : zfetch 136 231 = some (8, .ireturn, 1) := by decide +kernel
theorem i137_0 : zfetch 137 0 = some (8, .bipush 60, 2) := by decide +kernel
theorem i137_2 : zfetch 137 2 = some (8, .bipush 125, 2) := by decide +kernel
theorem i137_4 : zfetch 137 4 = some (8, .iload_n 1, 1) := by decide +kernel
theorem i137_5 : zfetch 137 5 = some (8, .imul, 1) := by decide +kernel
theorem i137_6 : zfetch 137 6 = some (8, .iadd, 1) := by decide +kernel
theorem i137_7 : zfetch 137 7 = some (8, .istore_n 2, 1) := by decide +kernel
theorem i137_8 : zfetch 137 8 = some (8, .iconst 0, 1) := by decide +kernel
theorem i137_9 : zfetch 137 9 = some (8, .istore_n 3, 1) := by decide +kernel
theorem i137_10 : zfetch 137 10 = some (8, .iconst 0, 1) := by decide +kernel
theorem i137_11 : zfetch 137 11 = some (8, .istore 4, 2) := by decide +kernel
theorem i137_13 : zfetch 137 13 = some (8, .iload 4, 2) := by decide +kernel
theorem i137_15 : zfetch 137 15 = some (8, .aload_n 0, 1) := by decide +kernel
theorem i137_16 : zfetch 137 16 = some (8, .getfield 7, 3) := by decide +kernel
theorem i137_19 : zfetch 137 19 = some (8, .iload_n 2, 1) := by decide +kernel
theorem i137_20 : zfetch 137 20 = some (8, .iaload, 1) := by decide +kernel
theorem i137_21 : zfetch 137 21 = some (8, .if_icmp .ge 142, 3) := by decide +kernel
theorem i137_24 : zfetch 137 24 = some (8, .aload_n 0, 1) := by decide +kernel
theorem i137_25 : zfetch 137 25 = some (8, .getfield 7, 3) := by decide +kernel
theorem i137_28 : zfetch 137 28 = some (8, .iload_n 2, 1) := by decide +kernel
theorem i137_29 : zfetch 137 29 = some (8, .iconst 1, 1) := by decide +kernel
theorem i137_30 : zfetch 137 30 = some (8, .iadd, 1) := by decide +kernel
theorem i137_31 : zfetch 137 31 = some (8, .iconst 2, 1) := by decide +kernel
theorem i137_32 : zfetch 137 32 = some (8, .iload 4, 2) := by decide +kernel
theorem i137_34 : zfetch 137 34 = some (8, .imul, 1) := by decide +kernel
theorem i137_35 : zfetch 137 35 = some (8, .iadd, 1) := by decide +kernel
theorem i137_36 : zfetch 137 36 = some (8, .iaload, 1) := by decide +kernel
theorem i137_37 : zfetch 137 37 = some (8, .istore 5, 2) := by decide +kernel
theorem i137_39 : zfetch 137 39 = some (8, .aload_n 0, 1) := by decide +kernel
theorem i137_40 : zfetch 137 40 = some (8, .getfield 7, 3) := by decide +kernel
theorem i137_43 : zfetch 137 43 = some (8, .iload_n 2, 1) := by decide +kernel
theorem i137_44 : zfetch 137 44 = some (8, .iconst 2, 1) := by decide +kernel
theorem i137_45 : zfetch 137 45 = some (8, .iadd, 1) := by decide +kernel
theorem i137_46 : zfetch 137 46 = some (8, .iconst 2, 1) := by decide +kernel
theorem i137_47 : zfetch 137 47 = some (8, .iload 4, 2) := by decide +kernel
theorem i137_49 : zfetch 137 49 = some (8, .imul, 1) := by decide +kernel
theorem i137_50 : zfetch 137 50 = some (8, .iadd, 1) := by decide +kernel
theorem i137_51 : zfetch 137 51 = some (8, .iaload, 1) := by decide +kernel
theorem i137_52 : zfetch 137 52 = some (8, .istore 6, 2) := by decide +kernel
theorem i137_54 : zfetch 137 54 = some (8, .iload 5, 2) := by decide +kernel
theorem i137_56 : zfetch 137 56 = some (8, .ifCond .eq 9, 3) := by decide +kernel
theorem i137_59 : zfetch 137 59 = some (8, .iload 5, 2) := by decide +kernel
theorem i137_61 : zfetch 137 61 = some (8, .iconst 1, 1) := by decide +kernel
theorem i137_62 : zfetch 137 62 = some (8, .if_icmp .ne 32, 3) := by decide +kernel
theorem i137_65 : zfetch 137 65 = some (8, .aload_n 0, 1) := by decide +kernel
theorem i137_66 : zfetch 137 66 = some (8, .getfield 31, 3) := by decide +kernel
theorem i137_69 : zfetch 137 69 = some (8, .iload_n 3, 1) := by decide +kernel
theorem i137_70 : zfetch 137 70 = some (8, .iload 5, 2) := by decide +kernel
theorem i137_72 : zfetch 137 72 = some (8, .ifCond .ne 8, 3) := by decide +kernel
theorem i137_75 : zfetch 137 75 = some (8, .iload 6, 2) := by decide +kernel
theorem i137_77 : zfetch 137 77 = some (8, .goto 10, 3) := by decide +kernel
theorem i137_80 : zfetch 137 80 = some (8, .aload_n 0, 1) := by decide +kernel
theorem i137_81 : zfetch 137 81 = some (8, .getfield 28, 3) := by decide +kernel
theorem i137_84 : zfetch 137 84 = some (8, .iload 6, 2) := by decide +kernel
theorem i137_86 : zfetch 137 86 = some (8, .iaload, 1) := by decide +kernel
theorem i137_87 : zfetch 137 87 = some (8, .iastore, 1) := by decide +kernel
theorem i137_88 : zfetch 137 88 = some (8, .iinc 3 1, 3) := by decide +kernel
theorem i137_91 : zfetch 137 91 = some (8, .goto 66, 3) := by decide +kernel
theorem i137_94 : zfetch 137 94 = some (8, .iload 5, 2) := by decide +kernel
theorem i137_96 : zfetch 137 96 = some (8, .iconst 2, 1) := by decide +kernel
theorem i137_97 : zfetch 137 97 = some (8, .if_icmp .ne 30, 3) := by decide +kernel
theorem i137_100 : zfetch 137 100 = some (8, .aload_n 0, 1) := by decide +kernel
theorem i137_101 : zfetch 137 101 = some (8, .getfield 31, 3) := by decide +kernel
theorem i137_104 : zfetch 137 104 = some (8, .iload_n 3, 1) := by decide +kernel
theorem i137_105 : zfetch 137 105 = some (8, .iconst 1, 1) := by decide +kernel
theorem i137_106 : zfetch 137 106 = some (8, .isub, 1) := by decide +kernel
theorem i137_107 : zfetch 137 107 = some (8, .aload_n 0, 1) := by decide +kernel
theorem i137_108 : zfetch 137 108 = some (8, .getfield 31, 3) := by decide +kernel
theorem i137_111 : zfetch 137 111 = some (8, .iload_n 3, 1) := by decide +kernel
theorem i137_112 : zfetch 137 112 = some (8, .iconst 1, 1) := by decide +kernel
theorem i137_113 : zfetch 137 113 = some (8, .isub, 1) := by decide +kernel
theorem i137_114 : zfetch 137 114 = some (8, .iaload, 1) := by decide +kernel
theorem i137_115 : zfetch 137 115 = some (8, .ifCond .ne 7, 3) := by decide +kernel
theorem i137_118 : zfetch 137 118 = some (8, .iconst 1, 1) := by decide +kernel
theorem i137_119 : zfetch 137 119 = some (8, .goto 4, 3) := by decide +kernel
theorem i137_122 : zfetch 137 122 = some (8, .iconst 0, 1) := by decide +kernel
theorem i137_123 : zfetch 137 123 = some (8, .iastore, 1) := by decide +kernel
theorem i137_124 : zfetch 137 124 = some (8, .goto 33, 3) := by decide +kernel
theorem i137_127 : zfetch 137 127 = some (8, .iinc 3 (-1), 3) := by decide +kernel
theorem i137_130 : zfetch 137 130 = some (8, .aload_n 0, 1) := by decide +kernel
theorem i137_131 : zfetch 137 131 = some (8, .getfield 31, 3) := by decide +kernel
theorem i137_134 : zfetch 137 134 = some (8, .iload_n 3, 1) := by decide +kernel
theorem i137_135 : zfetch 137 135 = some (8, .iconst 1, 1) := by decide +kernel
theorem i137_136 : zfetch 137 136 = some (8, .isub, 1) := by decide +kernel
theorem i137_137 : zfetch 137 137 = some (8, .iload 6, 2) := by decide +kernel
theorem i137_139 : zfetch 137 139 = some (8, .aload_n 0, 1) := by decide +kernel
theorem i137_140 : zfetch 137 140 = some (8, .getfield 31, 3) := by decide +kernel
theorem i137_143 : zfetch 137 143 = some (8, .iload_n 3, 1) := by decide +kernel
theorem i137_144 : zfetch 137 144 = some (8, .iconst 1, 1) := by decide +kernel
theorem i137_145 : zfetch 137 145 = some (8, .isub, 1) := by decide +kernel
theorem i137_146 : zfetch 137 146 = some (8, .iaload, 1) := by decide +kernel
theorem i137_147 : zfetch 137 147 = some (8, .aload_n 0, 1) := by decide +kernel
theorem i137_148 : zfetch 137 148 = some (8, .getfield 31, 3) := by decide +kernel
theorem i137_151 : zfetch 137 151 = some (8, .iload_n 3, 1) := by decide +kernel
theorem i137_152 : zfetch 137 152 = some (8, .iaload, 1) := by decide +kernel
theorem i137_153 : zfetch 137 153 = some (8, .invokestatic 114, 3) := by decide +kernel
theorem i137_156 : zfetch 137 156 = some (8, .iastore, 1) := by decide +kernel
theorem i137_157 : zfetch 137 157 = some (8, .iinc 4 1, 3) := by decide +kernel
theorem i137_160 : zfetch 137 160 = some (8, .goto (-147), 3) := by decide +kernel
theorem i137_163 : zfetch 137 163 = some (8, .aload_n 0, 1) := by decide +kernel
theorem i137_164 : zfetch 137 164 = some (8, .getfield 31, 3) := by decide +kernel
theorem i137_167 : zfetch 137 167 = some (8, .iconst 0, 1) := by decide +kernel
theorem i137_168 : zfetch 137 168 = some (8, .iaload, 1) := by decide +kernel
theorem i137_169 : zfetch 137 169 = some (8, .ireturn, 1) := by decide +kernel
theorem i138_0 : zfetch 138 0 = some (8, .iconst 0, 1) := by decide +kernel
theorem i138_1 : zfetch 138 1 = some (8, .istore_n 2, 1) := by decide +kernel
theorem i138_2 : zfetch 138 2 = some (8, .iconst 0, 1) := by decide +kernel
theorem i138_3 : zfetch 138 3 = some (8, .istore_n 3, 1) := by decide +kernel
theorem i138_4 : zfetch 138 4 = some (8, .iload_n 3, 1) := by decide +kernel
theorem i138_5 : zfetch 138 5 = some (8, .aload_n 0, 1) := by decide +kernel
theorem i138_6 : zfetch 138 6 = some (8, .getfield 7, 3) := by decide +kernel
theorem i138_9 : zfetch 138 9 = some (8, .iconst 4, 1) := by decide +kernel
theorem i138_10 : zfetch 138 10 = some (8, .iaload, 1) := by decide +kernel
theorem i138_11 : zfetch 138 11 = some (8, .if_icmp .ge 29, 3) := by decide +kernel
theorem i138_14 : zfetch 138 14 = some (8, .iload_n 2, 1) := by decide +kernel
theorem i138_15 : zfetch 138 15 = some (8, .ifCond .ne 13, 3) := by decide +kernel
theorem i138_18 : zfetch 138 18 = some (8, .aload_n 0, 1) := by decide +kernel
theorem i138_19 : zfetch 138 19 = some (8, .iload_n 3, 1) := by decide +kernel
theorem i138_20 : zfetch 138 20 = some (8, .iconst 2, 1) := by decide +kernel
theorem i138_21 : zfetch 138 21 = some (8, .invokevirtual 54, 3) := by decide +kernel
theorem i138_24 : zfetch 138 24 = some (8, .iload_n 1, 1) := by decide +kernel
theorem i138_25 : zfetch 138 25 = some (8, .if_icmp .ne 7, 3) := by decide +kernel
theorem i138_28 : zfetch 138 28 = some (8, .iconst 1, 1) := by decide +kernel
theorem i138_29 : zfetch 138 29 = some (8, .goto 4, 3) := by decide +kernel
theorem i138_32 : zfetch 138 32 = some (8, .iconst 0, 1) := by decide +kernel
theorem i138_33 : zfetch 138 33 = some (8, .istore_n 2, 1) := by decide +kernel
theorem i138_34 : zfetch 138 34 = some (8, .iinc 3 1, 3) := by decide +kernel
theorem i138_37 : zfetch 138 37 = some (8, .goto (-33), 3) := by decide +kernel
theorem i138_40 : zfetch 138 40 = some (8, .iload_n 2, 1) := by decide +kernel
theorem i138_41 : zfetch 138 41 = some (8, .ireturn, 1) := by decide +kernel
theorem i139_0 : zfetch 139 0 = some (8, .aload_n 0, 1) := by decide +kernel
theorem i139_1 : zfetch 139 1 = some (8, .iload_n 1, 1) := by decide +kernel
theorem i139_2 : zfetch 139 2 = some (8, .iconst 1, 1) := by decide +kernel
theorem i139_3 : zfetch 139 3 = some (8, .invokevirtual 54, 3) := by decide +kernel
theorem i139_6 : zfetch 139 6 = some (8, .istore_n 2, 1) := by decide +kernel
theorem i139_7 : zfetch 139 7 = some (8, .aload_n 0, 1) := by decide +kernel
theorem i139_8 : zfetch 139 8 = some (8, .iload_n 1, 1) := by decide +kernel
theorem i139_9 : zfetch 139 9 = some (8, .iconst 5, 1) := by decide +kernel
theorem i139_10 : zfetch 139 10 = some (8, .invokevirtual 54, 3) := by decide +kernel
theorem i139_13 : zfetch 139 13 = some (8, .ifCond .le 7, 3) := by decide +kernel
theorem i139_16 : zfetch 139 16 = some (8, .iconst 3, 1) := by decide +kernel
theorem i139_17 : zfetch 139 17 = some (8, .goto 4, 3) := by decide +kernel
theorem i139_20 : zfetch 139 20 = some (8, .iconst 0, 1) := by decide +kernel
theorem i139_21 : zfetch 139 21 = some (8, .istore_n 3, 1) := by decide +kernel
theorem i139_22 : zfetch 139 22 = some (8, .aload_n 0, 1) := by decide +kernel
theorem i139_23 : zfetch 139 23 = some (8, .iload_n 1, 1) := by decide +kernel
theorem i139_24 : zfetch 139 24 = some (8, .iconst 0, 1) := by decide +kernel
theorem i139_25 : zfetch 139 25 = some (8, .invokevirtual 54, 3) := by decide +kernel
theorem i139_28 : zfetch 139 28 = some (8, .tableswitch 82 1 6 #[40, 42, 44, 46, 60, 71], 40) := by decide +kernel
theorem i139_68 : zfetch 139 68 = some (8, .iconst 1, 1) := by decide +kernel
theorem i139_69 : zfetch 139 69 = some (8, .ireturn, 1) := by decide +kernel
theorem i139_70 : zfetch 139 70 = some (8, .iload_n 3, 1) := by decide +kernel
theorem i139_71 : zfetch 139 71 = some (8, .ireturn, 1) := by decide +kernel
theorem i139_72 : zfetch 139 72 = some (8, .iconst 2, 1) := by decide +kernel
theorem i139_73 : zfetch 139 73 = some (8, .ireturn, 1) := by decide +kernel
theorem i139_74 : zfetch 139 74 = some (8, .aload_n 0, 1) := by decide +kernel
theorem i139_75 : zfetch 139 75 = some (8, .iload_n 1, 1) := by decide +kernel
theorem i139_76 : zfetch 139 76 = some (8, .invokevirtual 118, 3) := by decide +kernel
theorem i139_79 : zfetch 139 79 = some (8, .ifCond .eq 7, 3) := by decide +kernel
theorem i139_82 : zfetch 139 82 = some (8, .iconst 0, 1) := by decide +kernel
theorem i139_83 : zfetch 139 83 = some (8, .goto 4, 3) := by decide +kernel
theorem i139_86 : zfetch 139 86 = some (8, .iconst 1, 1) := by decide +kernel
theorem i139_87 : zfetch 139 87 = some (8, .ireturn, 1) := by decide +kernel
theorem i139_88 : zfetch 139 88 = some (8, .iload_n 2, 1) := by decide +kernel
theorem i139_89 : zfetch 139 89 = some (8, .iconst 4, 1) := by decide +kernel
theorem i139_90 : zfetch 139 90 = some (8, .if_icmp .le 7, 3) := by decide +kernel
theorem i139_93 : zfetch 139 93 = some (8, .iload_n 3, 1) := by decide +kernel
theorem i139_94 : zfetch 139 94 = some (8, .goto 4, 3) := by decide +kernel
theorem i139_97 : zfetch 139 97 = some (8, .iconst 2, 1) := by decide +kernel
theorem i139_98 : zfetch 139 98 = some (8, .ireturn, 1) := by decide +kernel
theorem i139_99 : zfetch 139 99 = some (8, .aload_n 0, 1) := by decide +kernel
theorem i139_100 : zfetch 139 100 = some (8, .getfield 7, 3) := by decide +kernel
theorem i139_103 : zfetch 139 103 = some (8, .iconst 0, 1) := by decide +kernel
theorem i139_104 : zfetch 139 104 = some (8, .iaload, 1) := by decide +kernel
theorem i139_105 : zfetch 139 105 = some (8, .iload_n 2, 1) := by decide +kernel
theorem i139_106 : zfetch 139 106 = some (8, .iadd, 1) := by decide +kernel
theorem i139_107 : zfetch 139 107 = some (8, .iconst 4, 1) := by decide +kernel
theorem i139_108 : zfetch 139 108 = some (8, .irem, 1) := by decide +kernel
theorem i139_109 : zfetch 139 109 = some (8, .ireturn, 1) := by decide +kernel
theorem i139_110 : zfetch 139 110 = some (8, .iconst 0, 1) := by decide +kernel
theorem i139_111 : zfetch 139 111 = some (8, .ireturn, 1) := by decide +kernel
theorem i140_0 : zfetch 140 0 = some (8, .aload_n 0, 1) := by decide +kernel
theorem i140_1 : zfetch 140 1 = some (8, .iload_n 1, 1) := by decide +kernel
theorem i140_2 : zfetch 140 2 = some (8, .iconst 1, 1) := by decide +kernel
theorem i140_3 : zfetch 140 3 = some (8, .invokevirtual 54, 3) := by decide +kernel
theorem i140_6 : zfetch 140 6 = some (8, .istore_n 2, 1) := by decide +kernel
theorem i140_7 : zfetch 140 7 = some (8, .iconst 2, 1) := by decide +kernel
theorem i140_8 : zfetch 140 8 = some (8, .aload_n 0, 1) := by decide +kernel
theorem i140_9 : zfetch 140 9 = some (8, .getfield 7, 3) := by decide +kernel
theorem i140_12 : zfetch 140 12 = some (8, .iconst 0, 1) := by decide +kernel
theorem i140_13 : zfetch 140 13 = some (8, .iaload, 1) := by decide +kernel
theorem i140_14 : zfetch 140 14 = some (8, .iconst 2, 1) := by decide +kernel
theorem i140_15 : zfetch 140 15 = some (8, .irem, 1) := by decide +kernel
theorem i140_16 : zfetch 140 16 = some (8, .iadd, 1) := by decide +kernel
theorem i140_17 : zfetch 140 17 = some (8, .istore_n 3, 1) := by decide +kernel
theorem i140_18 : zfetch 140 18 = some (8, .aload_n 0, 1) := by decide +kernel
theorem i140_19 : zfetch 140 19 = some (8, .iload_n 1, 1) := by decide +kernel
theorem i140_20 : zfetch 140 20 = some (8, .iconst 0, 1) := by decide +kernel
theorem i140_21 : zfetch 140 21 = some (8, .invokevirtual 54, 3) := by decide +kernel
theorem i140_24 : zfetch 140 24 = some (8, .tableswitch 56 1 6 #[40, 42, 44, 48, 52, 54], 40) := by decide +kernel
theorem i140_64 : zfetch 140 64 = some (8, .iload_n 3, 1) := by decide +kernel
theorem i140_65 : zfetch 140 65 = some (8, .ireturn, 1) := by decide +kernel
theorem i140_66 : zfetch 140 66 = some (8, .iconst 1, 1) := by decide +kernel
theorem i140_67 : zfetch 140 67 = some (8, .ireturn, 1) := by decide +kernel
theorem i140_68 : zfetch 140 68 = some (8, .iload_n 2, 1) := by decide +kernel
theorem i140_69 : zfetch 140 69 = some (8, .iconst 5, 1) := by decide +kernel
theorem i140_70 : zfetch 140 70 = some (8, .idiv, 1) := by decide +kernel
theorem i140_71 : zfetch 140 71 = some (8, .ireturn, 1) := by decide +kernel
theorem i140_72 : zfetch 140 72 = some (8, .iload_n 3, 1) := by decide +kernel
theorem i140_73 : zfetch 140 73 = some (8, .iload_n 2, 1) := by decide +kernel
theorem i140_74 : zfetch 140 74 = some (8, .iadd, 1) := by decide +kernel
theorem i140_75 : zfetch 140 75 = some (8, .ireturn, 1) := by decide +kernel
theorem i140_76 : zfetch 140 76 = some (8, .iconst 4, 1) := by decide +kernel
theorem i140_77 : zfetch 140 77 = some (8, .ireturn, 1) := by decide +kernel
theorem i140_78 : zfetch 140 78 = some (8, .iconst 1, 1) := by decide +kernel
theorem i140_79 : zfetch 140 79 = some (8, .ireturn, 1) := by decide +kernel
theorem i140_80 : zfetch 140 80 = some (8, .iconst 2, 1) := by decide +kernel
theorem i140_81 : zfetch 140 81 = some (8, .ireturn, 1) := by decide +kernel
theorem i141_0 : zfetch 141 0 = some (8, .iload_n 0, 1) := by decide +kernel
theorem i141_1 : zfetch 141 1 = some (8, .iconst 4, 1) := by decide +kernel
theorem i141_2 : zfetch 141 2 = some (8, .irem, 1) := by decide +kernel
theorem i141_3 : zfetch 141 3 = some (8, .istore_n 1, 1) := by decide +kernel
theorem i141_4 : zfetch 141 4 = some (8, .iload_n 1, 1) := by decide +kernel
theorem i141_5 : zfetch 141 5 = some (8, .ifCond .ge 9, 3) := by decide +kernel
theorem i141_8 : zfetch 141 8 = some (8, .iload_n 1, 1) := by decide +kernel
theorem i141_9 : zfetch 141 9 = some (8, .iconst 4, 1) := by decide +kernel
theorem i141_10 : zfetch 141 10 = some (8, .iadd, 1) := by decide +kernel
theorem i141_11 : zfetch 141 11 = some (8, .goto 4, 3) := by decide +kernel
theorem i141_14 : zfetch 141 14 = some (8, .iload_n 1, 1) := by decide +kernel
theorem i141_15 : zfetch 141 15 = some (8, .ireturn, 1) := by decide +kernel
theorem i142_0 : zfetch 142 0 = some (8, .aload_n 0, 1) := by decide +kernel
theorem i142_1 : zfetch 142 1 = some (8, .getfield 28, 3) := by decide +kernel
theorem i142_4 : zfetch 142 4 = some (8, .iload_n 1, 1) := by decide +kernel
theorem i142_5 : zfetch 142 5 = some (8, .ifCond .ne 8, 3) := by decide +kernel
theorem i142_8 : zfetch 142 8 = some (8, .bipush 121, 2) := by decide +kernel
theorem i142_10 : zfetch 142 10 = some (8, .goto 5, 3) := by decide +kernel
theorem i142_13 : zfetch 142 13 = some (8, .bipush 115, 2) := by decide +kernel
theorem i142_15 : zfetch 142 15 = some (8, .iload_n 2, 1) := by decide +kernel
theorem i142_16 : zfetch 142 16 = some (8, .iastore, 1) := by decide +kernel
theorem i142_17 : zfetch 142 17 = some (8, .aload_n 0, 1) := by decide +kernel
theorem i142_18 : zfetch 142 18 = some (8, .getfield 28, 3) := by decide +kernel
theorem i142_21 : zfetch 142 21 = some (8, .iload_n 1, 1) := by decide +kernel
theorem i142_22 : zfetch 142 22 = some (8, .ifCond .ne 8, 3) := by decide +kernel
theorem i142_25 : zfetch 142 25 = some (8, .bipush 115, 2) := by decide +kernel
theorem i142_27 : zfetch 142 27 = some (8, .goto 5, 3) := by decide +kernel
theorem i142_30 : zfetch 142 30 = some (8, .bipush 111, 2) := by decide +kernel
theorem i142_32 : zfetch 142 32 = some (8, .iload_n 3, 1) := by decide +kernel
theorem i142_33 : zfetch 142 33 = some (8, .iastore, 1) := by decide +kernel
theorem i142_34 : zfetch 142 34 = some (8, .aload_n 0, 1) := by decide +kernel
theorem i142_35 : zfetch 142 35 = some (8, .getfield 28, 3) := by decide +kernel
theorem i142_38 : zfetch 142 38 = some (8, .bipush 100, 2) := by decide +kernel
theorem i142_40 : zfetch 142 40 = some (8, .iload 4, 2) := by decide +kernel
theorem i142_42 : zfetch 142 42 = some (8, .iastore, 1) := by decide +kernel
theorem i142_43 : zfetch 142 43 = some (8, .aload_n 0, 1) := by decide +kernel
theorem i142_44 : zfetch 142 44 = some (8, .iload_n 1, 1) := by decide +kernel
theorem i142_45 : zfetch 142 45 = some (8, .invokevirtual 111, 3) := by decide +kernel
theorem i142_48 : zfetch 142 48 = some (8, .ifCond .eq 11, 3) := by decide +kernel
theorem i142_51 : zfetch 142 51 = some (8, .aload_n 0, 1) := by decide +kernel
theorem i142_52 : zfetch 142 52 = some (8, .iload_n 1, 1) := by decide +kernel
theorem i142_53 : zfetch 142 53 = some (8, .invokevirtual 121, 3) := by decide +kernel
theorem i142_56 : zfetch 142 56 = some (8, .goto 4, 3) := by decide +kernel
theorem i142_59 : zfetch 142 59 = some (8, .iload_n 2, 1) := by decide +kernel
theorem i142_60 : zfetch 142 60 = some (8, .istore 5, 2) := by decide +kernel
theorem i142_62 : zfetch 142 62 = some (8, .iload_n 1, 1) := by decide +kernel
theorem i142_63 : zfetch 142 63 = some (8, .ifCond .ne 11, 3) := by decide +kernel
theorem i142_66 : zfetch 142 66 = some (8, .iload 5, 2) := by decide +kernel
theorem i142_68 : zfetch 142 68 = some (8, .invokestatic 124, 3) := by decide +kernel
theorem i142_71 : zfetch 142 71 = some (8, .goto 11, 3) := by decide +kernel
theorem i142_74 : zfetch 142 74 = some (8, .iload 5, 2) := by decide +kernel
theorem i142_76 : zfetch 142 76 = some (8, .iconst 0, 1) := by decide +kernel
theorem i142_77 : zfetch 142 77 = some (8, .bipush 9, 2) := by decide +kernel
theorem i142_79 : zfetch 142 79 = some (8, .invokestatic 127, 3) := by decide +kernel
theorem i142_82 : zfetch 142 82 = some (8, .ireturn, 1) := by decide +kernel
theorem i143_0 : zfetch 143 0 = some (8, .aload_n 0, 1) := by decide +kernel
theorem i143_1 : zfetch 143 1 = some (8, .iconst 0, 1) := by decide +kernel
theorem i143_2 : zfetch 143 2 = some (8, .aload_n 0, 1) := by decide +kernel
theorem i143_3 : zfetch 143 3 = some (8, .iload_n 1, 1) := by decide +kernel
theorem i143_4 : zfetch 143 4 = some (8, .invokevirtual 130, 3) := by decide +kernel
theorem i143_7 : zfetch 143 7 = some (8, .aload_n 0, 1) := by decide +kernel
theorem i143_8 : zfetch 143 8 = some (8, .iload_n 1, 1) := by decide +kernel
theorem i143_9 : zfetch 143 9 = some (8, .iconst 5, 1) := by decide +kernel
theorem i143_10 : zfetch 143 10 = some (8, .invokevirtual 54, 3) := by decide +kernel
theorem i143_13 : zfetch 143 13 = some (8, .aload_n 0, 1) := by decide +kernel
theorem i143_14 : zfetch 143 14 = some (8, .getfield 7, 3) := by decide +kernel
theorem i143_17 : zfetch 143 17 = some (8, .iconst 0, 1) := by decide +kernel
theorem i143_18 : zfetch 143 18 = some (8, .iaload, 1) := by decide +kernel
theorem i143_19 : zfetch 143 19 = some (8, .bipush 8, 2) := by decide +kernel
theorem i143_21 : zfetch 143 21 = some (8, .irem, 1) := by decide +kernel
theorem i143_22 : zfetch 143 22 = some (8, .invokevirtual 133, 3) := by decide +kernel
theorem i143_25 : zfetch 143 25 = some (8, .ireturn, 1) := by decide +kernel
theorem i144_0 : zfetch 144 0 = some (8, .aload_n 0, 1) := by decide +kernel
theorem i144_1 : zfetch 144 1 = some (8, .iconst 1, 1) := by decide +kernel
theorem i144_2 : zfetch 144 2 = some (8, .aload_n 0, 1) := by decide +kernel
theorem i144_3 : zfetch 144 3 = some (8, .iload_n 1, 1) := by decide +kernel
theorem i144_4 : zfetch 144 4 = some (8, .invokevirtual 137, 3) := by decide +kernel
theorem i144_7 : zfetch 144 7 = some (8, .aload_n 0, 1) := by decide +kernel
theorem i144_8 : zfetch 144 8 = some (8, .iload_n 1, 1) := by decide +kernel
theorem i144_9 : zfetch 144 9 = some (8, .iconst 4, 1) := by decide +kernel
theorem i144_10 : zfetch 144 10 = some (8, .invokevirtual 54, 3) := by decide +kernel
theorem i144_13 : zfetch 144 13 = some (8, .aload_n 0, 1) := by decide +kernel
theorem i144_14 : zfetch 144 14 = some (8, .getfield 7, 3) := by decide +kernel
theorem i144_17 : zfetch 144 17 = some (8, .iconst 0, 1) := by decide +kernel
theorem i144_18 : zfetch 144 18 = some (8, .iaload, 1) := by decide +kernel
theorem i144_19 : zfetch 144 19 = some (8, .bipush 8, 2) := by decide +kernel
theorem i144_21 : zfetch 144 21 = some (8, .irem, 1) := by decide +kernel
theorem i144_22 : zfetch 144 22 = some (8, .invokevirtual 133, 3) := by decide +kernel
theorem i144_25 : zfetch 144 25 = some (8, .ireturn, 1) := by decide +kernel
theorem i145_0 : zfetch 145 0 = some (8, .iload_n 0, 1) := by decide +kernel
theorem i145_1 : zfetch 145 1 = some (8, .iload_n 1, 1) := by decide +kernel
theorem i145_2 : zfetch 145 2 = some (8, .if_icmp .ge 9, 3) := by decide +kernel
theorem i145_5 : zfetch 145 5 = some (8, .iload_n 1, 1) := by decide +kernel
theorem i145_6 : zfetch 145 6 = some (8, .iload_n 0, 1) := by decide +kernel
theorem i145_7 : zfetch 145 7 = some (8, .isub, 1) := by decide +kernel
theorem i145_8 : zfetch 145 8 = some (8, .goto 6, 3) := by decide +kernel
theorem i145_11 : zfetch 145 11 = some (8, .iload_n 0, 1) := by decide +kernel
theorem i145_12 : zfetch 145 12 = some (8, .iload_n 1, 1) := by decide +kernel
theorem i145_13 : zfetch 145 13 = some (8, .isub, 1) := by decide +kernel
theorem i145_14 : zfetch 145 14 = some (8, .ireturn, 1) := by decide +kernel
theorem i146_0 : zfetch 146 0 = some (8, .aload_n 0, 1) := by decide +kernel
theorem i146_1 : zfetch 146 1 = some (8, .iload_n 1, 1) := by decide +kernel
theorem i146_2 : zfetch 146 2 = some (8, .invokevirtual 140, 3) := by decide +kernel
theorem i146_5 : zfetch 146 5 = some (8, .ifCond .eq 26, 3) := by decide +kernel
theorem i146_8 : zfetch 146 8 = some (8, .aload_n 0, 1) := by decide +kernel
theorem i146_9 : zfetch 146 9 = some (8, .iload_n 1, 1) := by decide +kernel
theorem i146_10 : zfetch 146 10 = some (8, .iconst 3, 1) := by decide +kernel
theorem i146_11 : zfetch 146 11 = some (8, .invokevirtual 54, 3) := by decide +kernel
theorem i146_14 : zfetch 146 14 = some (8, .aload_n 0, 1) := by decide +kernel
theorem i146_15 : zfetch 146 15 = some (8, .aload_n 0, 1) := by decide +kernel
theorem i146_16 : zfetch 146 16 = some (8, .iload_n 1, 1) := by decide +kernel
theorem i146_17 : zfetch 146 17 = some (8, .iconst 2, 1) := by decide +kernel
theorem i146_18 : zfetch 146 18 = some (8, .invokevirtual 54, 3) := by decide +kernel
theorem i146_21 : zfetch 146 21 = some (8, .iconst 3, 1) := by decide +kernel
theorem i146_22 : zfetch 146 22 = some (8, .invokevirtual 54, 3) := by decide +kernel
theorem i146_25 : zfetch 146 25 = some (8, .invokestatic 143, 3) := by decide +kernel
theorem i146_28 : zfetch 146 28 = some (8, .goto 4, 3) := by decide +kernel
theorem i146_31 : zfetch 146 31 = some (8, .iconst 0, 1) := by decide +kernel
theorem i146_32 : zfetch 146 32 = some (8, .ireturn, 1) := by decide +kernel
theorem i147_0 : zfetch 147 0 = some (8, .iconst 0, 1) := by decide +kernel
theorem i147_1 : zfetch 147 1 = some (8, .istore_n 1, 1) := by decide +kernel
theorem i147_2 : zfetch 147 2 = some (8, .iload_n 1, 1) := by decide +kernel
theorem i147_3 : zfetch 147 3 = some (8, .aload_n 0, 1) := by decide +kernel
theorem i147_4 : zfetch 147 4 = some (8, .getfield 7, 3) := by decide +kernel
theorem i147_7 : zfetch 147 7 = some (8, .iconst 4, 1) := by decide +kernel
theorem i147_8 : zfetch 147 8 = some (8, .iaload, 1) := by decide +kernel
theorem i147_9 : zfetch 147 9 = some (8, .if_icmp .ge 25, 3) := by decide +kernel
theorem i147_12 : zfetch 147 12 = some (8, .aload_n 0, 1) := by decide +kernel
theorem i147_13 : zfetch 147 13 = some (8, .iload_n 1, 1) := by decide +kernel
theorem i147_14 : zfetch 147 14 = some (8, .invokevirtual 146, 3) := by decide +kernel
theorem i147_17 : zfetch 147 17 = some (8, .aload_n 0, 1) := by decide +kernel
theorem i147_18 : zfetch 147 18 = some (8, .iload_n 1, 1) := by decide +kernel
theorem i147_19 : zfetch 147 19 = some (8, .iconst 4, 1) := by decide +kernel
theorem i147_20 : zfetch 147 20 = some (8, .invokevirtual 54, 3) := by decide +kernel
theorem i147_23 : zfetch 147 23 = some (8, .if_icmp .le 5, 3) := by decide +kernel
theorem i147_26 : zfetch 147 26 = some (8, .iload_n 1, 1) := by decide +kernel
theorem i147_27 : zfetch 147 27 = some (8, .ireturn, 1) := by decide +kernel
theorem i147_28 : zfetch 147 28 = some (8, .iinc 1 1, 3) := by decide +kernel
theorem i147_31 : zfetch 147 31 = some (8, .goto (-29), 3) := by decide +kernel
theorem i147_34 : zfetch 147 34 = some (8, .iconst (-1), 1) := by decide +kernel
theorem i147_35 : zfetch 147 35 = some (8, .ireturn, 1) := by decide +kernel
theorem i148_0 : zfetch 148 0 = some (8, .aload_n 0, 1) := by decide +kernel
theorem i148_1 : zfetch 148 1 = some (8, .iload_n 1, 1) := by decide +kernel
theorem i148_2 : zfetch 148 2 = some (8, .iconst 2, 1) := by decide +kernel
theorem i148_3 : zfetch 148 3 = some (8, .iconst (-1), 1) := by decide +kernel
theorem i148_4 : zfetch 148 4 = some (8, .invokevirtual 149, 3) := by decide +kernel
theorem i148_7 : zfetch 148 7 = some (8, .aload_n 0, 1) := by decide +kernel
theorem i148_8 : zfetch 148 8 = some (8, .iload_n 1, 1) := by decide +kernel
theorem i148_9 : zfetch 148 9 = some (8, .iconst 4, 1) := by decide +kernel
theorem i148_10 : zfetch 148 10 = some (8, .iconst 0, 1) := by decide +kernel
theorem i148_11 : zfetch 148 11 = some (8, .invokevirtual 149, 3) := by decide +kernel
theorem i148_14 : zfetch 148 14 = some (8, .aload_n 0, 1) := by decide +kernel
theorem i148_15 : zfetch 148 15 = some (8, .iload_n 1, 1) := by decide +kernel
theorem i148_16 : zfetch 148 16 = some (8, .iconst 5, 1) := by decide +kernel
theorem i148_17 : zfetch 148 17 = some (8, .iconst 0, 1) := by decide +kernel
theorem i148_18 : zfetch 148 18 = some (8, .invokevirtual 149, 3) := by decide +kernel
theorem i148_21 : zfetch 148 21 = some (8, .return_, 1) := by decide +kernel
theorem i149_0 : zfetch 149 0 = some (8, .aload_n 0, 1) := by decide +kernel
theorem i149_1 : zfetch 149 1 = some (8, .iload_n 1, 1) := by decide +kernel
theorem i149_2 : zfetch 149 2 = some (8, .invokevirtual 153, 3) := by decide +kernel
theorem i149_5 : zfetch 149 5 = some (8, .aload_n 0, 1) := by decide +kernel
theorem i149_6 : zfetch 149 6 = some (8, .getfield 7, 3) := by decide +kernel
theorem i149_9 : zfetch 149 9 = some (8, .iconst 5, 1) := by decide +kernel
theorem i149_10 : zfetch 149 10 = some (8, .aload_n 0, 1) := by decide +kernel
theorem i149_11 : zfetch 149 11 = some (8, .getfield 7, 3) := by decide +kernel
theorem i149_14 : zfetch 149 14 = some (8, .iconst 5, 1) := by decide +kernel
theorem i149_15 : zfetch 149 15 = some (8, .iaload, 1) := by decide +kernel
theorem i149_16 : zfetch 149 16 = some (8, .iconst 1, 1) := by decide +kernel
theorem i149_17 : zfetch 149 17 = some (8, .iadd, 1) := by decide +kernel
theorem i149_18 : zfetch 149 18 = some (8, .iconst 0, 1) := by decide +kernel
theorem i149_19 : zfetch 149 19 = some (8, .sipush 9999, 3) := by decide +kernel
theorem i149_22 : zfetch 149 22 = some (8, .invokestatic 127, 3) := by decide +kernel
theorem i149_25 : zfetch 149 25 = some (8, .iastore, 1) := by decide +kernel
theorem i149_26 : zfetch 149 26 = some (8, .return_, 1) := by decide +kernel
theorem i150_0 : zfetch 150 0 = some (8, .aload_n 0, 1) := by decide +kernel
theorem i150_1 : zfetch 150 1 = some (8, .iload_n 1, 1) := by decide +kernel
theorem i150_2 : zfetch 150 2 = some (8, .iconst 5, 1) := by decide +kernel
theorem i150_3 : zfetch 150 3 = some (8, .aload_n 0, 1) := by decide +kernel
theorem i150_4 : zfetch 150 4 = some (8, .iload_n 1, 1) := by decide +kernel
theorem i150_5 : zfetch 150 5 = some (8, .iconst 5, 1) := by decide +kernel
theorem i150_6 : zfetch 150 6 = some (8, .invokevirtual 54, 3) := by decide +kernel
theorem i150_9 : zfetch 150 9 = some (8, .iconst 1, 1) := by decide +kernel
theorem i150_10 : zfetch 150 10 = some (8, .isub, 1) := by decide +kernel
theorem i150_11 : zfetch 150 11 = some (8, .invokevirtual 149, 3) := by decide +kernel
theorem i150_14 : zfetch 150 14 = some (8, .aload_n 0, 1) := by decide +kernel
theorem i150_15 : zfetch 150 15 = some (8, .iload_n 2, 1) := by decide +kernel
theorem i150_16 : zfetch 150 16 = some (8, .iconst 4, 1) := by decide +kernel
theorem i150_17 : zfetch 150 17 = some (8, .aload_n 0, 1) := by decide +kernel
theorem i150_18 : zfetch 150 18 = some (8, .iload_n 2, 1) := by decide +kernel
theorem i150_19 : zfetch 150 19 = some (8, .iconst 4, 1) := by decide +kernel
theorem i150_20 : zfetch 150 20 = some (8, .invokevirtual 54, 3) := by decide +kernel
theorem i150_23 : zfetch 150 23 = some (8, .iconst 1, 1) := by decide +kernel
theorem i150_24 : zfetch 150 24 = some (8, .iadd, 1) := by decide +kernel
theorem i150_25 : zfetch 150 25 = some (8, .invokevirtual 149, 3) := by decide +kernel
theorem i150_28 : zfetch 150 28 = some (8, .return_, 1) := by decide +kernel
theorem i151_0 : zfetch 151 0 = some (8, .aload_n 0, 1) := by decide +kernel
theorem i151_1 : zfetch 151 1 = some (8, .iload_n 1, 1) := by decide +kernel
theorem i151_2 : zfetch 151 2 = some (8, .iconst 3, 1) := by decide +kernel
theorem i151_3 : zfetch 151 3 = some (8, .aload_n 0, 1) := by decide +kernel
theorem i151_4 : zfetch 151 4 = some (8, .iload_n 1, 1) := by decide +kernel
theorem i151_5 : zfetch 151 5 = some (8, .iconst 3, 1) := by decide +kernel
theorem i151_6 : zfetch 151 6 = some (8, .invokevirtual 54, 3) := by decide +kernel
theorem i151_9 : zfetch 151 9 = some (8, .aload_n 0, 1) := by decide +kernel
theorem i151_10 : zfetch 151 10 = some (8, .iload_n 1, 1) := by decide +kernel
theorem i151_11 : zfetch 151 11 = some (8, .iconst 3, 1) := by decide +kernel
theorem i151_12 : zfetch 151 12 = some (8, .invokevirtual 54, 3) := by decide +kernel
theorem i151_15 : zfetch 151 15 = some (8, .aload_n 0, 1) := by decide +kernel
theorem i151_16 : zfetch 151 16 = some (8, .iload_n 2, 1) := by decide +kernel
theorem i151_17 : zfetch 151 17 = some (8, .iconst 3, 1) := by decide +kernel
theorem i151_18 : zfetch 151 18 = some (8, .invokevirtual 54, 3) := by decide +kernel
theorem i151_21 : zfetch 151 21 = some (8, .if_icmp .ge 7, 3) := by decide +kernel
theorem i151_24 : zfetch 151 24 = some (8, .iconst 1, 1) := by decide +kernel
theorem i151_25 : zfetch 151 25 = some (8, .goto 4, 3) := by decide +kernel
theorem i151_28 : zfetch 151 28 = some (8, .iconst (-1), 1) := by decide +kernel
theorem i151_29 : zfetch 151 29 = some (8, .iadd, 1) := by decide +kernel
theorem i151_30 : zfetch 151 30 = some (8, .invokevirtual 149, 3) := by decide +kernel
theorem i151_33 : zfetch 151 33 = some (8, .aload_n 0, 1) := by decide +kernel
theorem i151_34 : zfetch 151 34 = some (8, .dup, 1) := by decide +kernel
theorem i151_35 : zfetch 151 35 = some (8, .getfield 157, 3) := by decide +kernel
theorem i151_38 : zfetch 151 38 = some (8, .iconst 1, 1) := by decide +kernel
theorem i151_39 : zfetch 151 39 = some (8, .iload_n 1, 1) := by decide +kernel
theorem i151_40 : zfetch 151 40 = some (8, .ishl, 1) := by decide +kernel
theorem i151_41 : zfetch 151 41 = some (8, .ior, 1) := by decide +kernel
theorem i151_42 : zfetch 151 42 = some (8, .putfield 157, 3) := by decide +kernel
theorem i151_45 : zfetch 151 45 = some (8, .return_, 1) := by decide +kernel
theorem i152_0 : zfetch 152 0 = some (8, .aload_n 0, 1) := by decide +kernel
theorem i152_1 : zfetch 152 1 = some (8, .iload_n 1, 1) := by decide +kernel
theorem i152_2 : zfetch 152 2 = some (8, .iconst 2, 1) := by decide +kernel
theorem i152_3 : zfetch 152 3 = some (8, .invokevirtual 54, 3) := by decide +kernel
theorem i152_6 : zfetch 152 6 = some (8, .istore_n 2, 1) := by decide +kernel
theorem i152_7 : zfetch 152 7 = some (8, .aload_n 0, 1) := by decide +kernel
theorem i152_8 : zfetch 152 8 = some (8, .getfield 157, 3) := by decide +kernel
theorem i152_11 : zfetch 152 11 = some (8, .iload_n 1, 1) := by decide +kernel
theorem i152_12 : zfetch 152 12 = some (8, .ishr, 1) := by decide +kernel
theorem i152_13 : zfetch 152 13 = some (8, .iconst 1, 1) := by decide +kernel
theorem i152_14 : zfetch 152 14 = some (8, .iand, 1) := by decide +kernel
theorem i152_15 : zfetch 152 15 = some (8, .iconst 1, 1) := by decide +kernel
theorem i152_16 : zfetch 152 16 = some (8, .if_icmp .ne 7, 3) := by decide +kernel
theorem i152_19 : zfetch 152 19 = some (8, .iconst 1, 1) := by decide +kernel
theorem i152_20 : zfetch 152 20 = some (8, .goto 4, 3) := by decide +kernel
theorem i152_23 : zfetch 152 23 = some (8, .iconst 0, 1) := by decide +kernel
theorem i152_24 : zfetch 152 24 = some (8, .istore_n 3, 1) := by decide +kernel
theorem i152_25 : zfetch 152 25 = some (8, .aload_n 0, 1) := by decide +kernel
theorem i152_26 : zfetch 152 26 = some (8, .getfield 157, 3) := by decide +kernel
theorem i152_29 : zfetch 152 29 = some (8, .iload_n 2, 1) := by decide +kernel
theorem i152_30 : zfetch 152 30 = some (8, .ishr, 1) := by decide +kernel
theorem i152_31 : zfetch 152 31 = some (8, .iconst 1, 1) := by decide +kernel
theorem i152_32 : zfetch 152 32 = some (8, .iand, 1) := by decide +kernel
theorem i152_33 : zfetch 152 33 = some (8, .iconst 1, 1) := by decide +kernel
theorem i152_34 : zfetch 152 34 = some (8, .if_icmp .ne 7, 3) := by decide +kernel
theorem i152_37 : zfetch 152 37 = some (8, .iconst 1, 1) := by decide +kernel
theorem i152_38 : zfetch 152 38 = some (8, .goto 4, 3) := by decide +kernel
theorem i152_41 : zfetch 152 41 = some (8, .iconst 0, 1) := by decide +kernel
theorem i152_42 : zfetch 152 42 = some (8, .istore 4, 2) := by decide +kernel
theorem i152_44 : zfetch 152 44 = some (8, .aload_n 0, 1) := by decide +kernel
theorem i152_45 : zfetch 152 45 = some (8, .iload_n 1, 1) := by decide +kernel
theorem i152_46 : zfetch 152 46 = some (8, .iconst 5, 1) := by decide +kernel
theorem i152_47 : zfetch 152 47 = some (8, .invokevirtual 54, 3) := by decide +kernel
theorem i152_50 : zfetch 152 50 = some (8, .ifCond .le 11, 3) := by decide +kernel
theorem i152_53 : zfetch 152 53 = some (8, .aload_n 0, 1) := by decide +kernel
theorem i152_54 : zfetch 152 54 = some (8, .iload_n 1, 1) := by decide +kernel
theorem i152_55 : zfetch 152 55 = some (8, .iload_n 1, 1) := by decide +kernel
theorem i152_56 : zfetch 152 56 = some (8, .invokevirtual 160, 3) := by decide +kernel
theorem i152_59 : zfetch 152 59 = some (8, .iconst 1, 1) := by decide +kernel
theorem i152_60 : zfetch 152 60 = some (8, .ireturn, 1) := by decide +kernel
theorem i152_61 : zfetch 152 61 = some (8, .iload_n 3, 1) := by decide +kernel
theorem i152_62 : zfetch 152 62 = some (8, .ifCond .eq 15, 3) := by decide +kernel
theorem i152_65 : zfetch 152 65 = some (8, .iload 4, 2) := by decide +kernel
theorem i152_67 : zfetch 152 67 = some (8, .ifCond .eq 10, 3) := by decide +kernel
theorem i152_70 : zfetch 152 70 = some (8, .aload_n 0, 1) := by decide +kernel
theorem i152_71 : zfetch 152 71 = some (8, .iload_n 1, 1) := by decide +kernel
theorem i152_72 : zfetch 152 72 = some (8, .invokevirtual 163, 3) := by decide +kernel
theorem i152_75 : zfetch 152 75 = some (8, .iconst 1, 1) := by decide +kernel
theorem i152_76 : zfetch 152 76 = some (8, .ireturn, 1) := by decide +kernel
theorem i152_77 : zfetch 152 77 = some (8, .iload_n 3, 1) := by decide +kernel
theorem i152_78 : zfetch 152 78 = some (8, .ifCond .eq 7, 3) := by decide +kernel
theorem i152_81 : zfetch 152 81 = some (8, .iload_n 2, 1) := by decide +kernel
theorem i152_82 : zfetch 152 82 = some (8, .goto 4, 3) := by decide +kernel
theorem i152_85 : zfetch 152 85 = some (8, .iload_n 1, 1) := by decide +kernel
theorem i152_86 : zfetch 152 86 = some (8, .istore 5, 2) := by decide +kernel
theorem i152_88 : zfetch 152 88 = some (8, .aload_n 0, 1) := by decide +kernel
theorem i152_89 : zfetch 152 89 = some (8, .iload 5, 2) := by decide +kernel
theorem i152_91 : zfetch 152 91 = some (8, .invokevirtual 166, 3) := by decide +kernel
theorem i152_94 : zfetch 152 94 = some (8, .istore 6, 2) := by decide +kernel
theorem i152_96 : zfetch 152 96 = some (8, .iload 6, 2) := by decide +kernel
theorem i152_98 : zfetch 152 98 = some (8, .iconst 1, 1) := by decide +kernel
theorem i152_99 : zfetch 152 99 = some (8, .if_icmp .ne 11, 3) := by decide +kernel
theorem i152_102 : zfetch 152 102 = some (8, .aload_n 0, 1) := by decide +kernel
theorem i152_103 : zfetch 152 103 = some (8, .iload_n 1, 1) := by decide +kernel
theorem i152_104 : zfetch 152 104 = some (8, .invokevirtual 163, 3) := by decide +kernel
theorem i152_107 : zfetch 152 107 = some (8, .goto 54, 3) := by decide +kernel
theorem i152_110 : zfetch 152 110 = some (8, .iload 6, 2) := by decide +kernel
theorem i152_112 : zfetch 152 112 = some (8, .iconst 3, 1) := by decide +kernel
theorem i152_113 : zfetch 152 113 = some (8, .if_icmp .ne 27, 3) := by decide +kernel
theorem i152_116 : zfetch 152 116 = some (8, .iload 5, 2) := by decide +kernel
theorem i152_118 : zfetch 152 118 = some (8, .iload_n 2, 1) := by decide +kernel
theorem i152_119 : zfetch 152 119 = some (8, .if_icmp .ne 21, 3) := by decide +kernel
theorem i152_122 : zfetch 152 122 = some (8, .aload_n 0, 1) := by decide +kernel
theorem i152_123 : zfetch 152 123 = some (8, .iload_n 2, 1) := by decide +kernel
theorem i152_124 : zfetch 152 124 = some (8, .iconst 5, 1) := by decide +kernel
theorem i152_125 : zfetch 152 125 = some (8, .invokevirtual 54, 3) := by decide +kernel
theorem i152_128 : zfetch 152 128 = some (8, .ifCond .le 12, 3) := by decide +kernel
theorem i152_131 : zfetch 152 131 = some (8, .aload_n 0, 1) := by decide +kernel
theorem i152_132 : zfetch 152 132 = some (8, .iload_n 2, 1) := by decide +kernel
theorem i152_133 : zfetch 152 133 = some (8, .iload_n 1, 1) := by decide +kernel
theorem i152_134 : zfetch 152 134 = some (8, .invokevirtual 160, 3) := by decide +kernel
theorem i152_137 : zfetch 152 137 = some (8, .goto 24, 3) := by decide +kernel
theorem i152_140 : zfetch 152 140 = some (8, .iload 6, 2) := by decide +kernel
theorem i152_142 : zfetch 152 142 = some (8, .iconst 2, 1) := by decide +kernel
theorem i152_143 : zfetch 152 143 = some (8, .if_icmp .eq 18, 3) := by decide +kernel
theorem i152_146 : zfetch 152 146 = some (8, .aload_n 0, 1) := by decide +kernel
theorem i152_147 : zfetch 152 147 = some (8, .iload 5, 2) := by decide +kernel
theorem i152_149 : zfetch 152 149 = some (8, .iload_n 3, 1) := by decide +kernel
theorem i152_150 : zfetch 152 150 = some (8, .ifCond .eq 7, 3) := by decide +kernel
theorem i152_153 : zfetch 152 153 = some (8, .iload_n 1, 1) := by decide +kernel
theorem i152_154 : zfetch 152 154 = some (8, .goto 4, 3) := by decide +kernel
theorem i152_157 : zfetch 152 157 = some (8, .iload_n 2, 1) := by decide +kernel
theorem i152_158 : zfetch 152 158 = some (8, .invokevirtual 169, 3) := by decide +kernel
theorem i152_161 : zfetch 152 161 = some (8, .iload 6, 2) := by decide +kernel
theorem i152_163 : zfetch 152 163 = some (8, .iconst 2, 1) := by decide +kernel
theorem i152_164 : zfetch 152 164 = some (8, .if_icmp .eq 7, 3) := by decide +kernel
theorem i152_167 : zfetch 152 167 = some (8, .iconst 1, 1) := by decide +kernel
theorem i152_168 : zfetch 152 168 = some (8, .goto 4, 3) := by decide +kernel
theorem i152_171 : zfetch 152 171 = some (8, .iconst 0, 1) := by decide +kernel
theorem i152_172 : zfetch 152 172 = some (8, .ireturn, 1) := by decide +kernel
theorem i153_0 : zfetch 153 0 = some (8, .aload_n 0, 1) := by decide +kernel
theorem i153_1 : zfetch 153 1 = some (8, .iload_n 1, 1) := by decide +kernel
theorem i153_2 : zfetch 153 2 = some (8, .iconst 3, 1) := by decide +kernel
theorem i153_3 : zfetch 153 3 = some (8, .invokevirtual 54, 3) := by decide +kernel
theorem i153_6 : zfetch 153 6 = some (8, .iload_n 2, 1) := by decide +kernel
theorem i153_7 : zfetch 153 7 = some (8, .ifCond .ne 7, 3) := by decide +kernel
theorem i153_10 : zfetch 153 10 = some (8, .iconst (-1), 1) := by decide +kernel
theorem i153_11 : zfetch 153 11 = some (8, .goto 4, 3) := by decide +kernel
theorem i153_14 : zfetch 153 14 = some (8, .iconst 1, 1) := by decide +kernel
theorem i153_15 : zfetch 153 15 = some (8, .iadd, 1) := by decide +kernel
theorem i153_16 : zfetch 153 16 = some (8, .istore_n 3, 1) := by decide +kernel
theorem i153_17 : zfetch 153 17 = some (8, .iload_n 3, 1) := by decide +kernel
theorem i153_18 : zfetch 153 18 = some (8, .invokestatic 172, 3) := by decide +kernel
theorem i153_21 : zfetch 153 21 = some (8, .ifCond .ne 5, 3) := by decide +kernel
theorem i153_24 : zfetch 153 24 = some (8, .iconst 0, 1) := by decide +kernel
theorem i153_25 : zfetch 153 25 = some (8, .ireturn, 1) := by decide +kernel
theorem i153_26 : zfetch 153 26 = some (8, .iconst 0, 1) := by decide +kernel
theorem i153_27 : zfetch 153 27 = some (8, .istore 4, 2) := by decide +kernel
theorem i153_29 : zfetch 153 29 = some (8, .iload 4, 2) := by decide +kernel
theorem i153_31 : zfetch 153 31 = some (8, .bipush 60, 2) := by decide +kernel
theorem i153_33 : zfetch 153 33 = some (8, .if_icmp .ge 23, 3) := by decide +kernel
theorem i153_36 : zfetch 153 36 = some (8, .aload_n 0, 1) := by decide +kernel
theorem i153_37 : zfetch 153 37 = some (8, .getfield 19, 3) := by decide +kernel
theorem i153_40 : zfetch 153 40 = some (8, .iload 4, 2) := by decide +kernel
theorem i153_42 : zfetch 153 42 = some (8, .aload_n 0, 1) := by decide +kernel
theorem i153_43 : zfetch 153 43 = some (8, .getfield 7, 3) := by decide +kernel
theorem i153_46 : zfetch 153 46 = some (8, .iload 4, 2) := by decide +kernel
theorem i153_48 : zfetch 153 48 = some (8, .iaload, 1) := by decide +kernel
theorem i153_49 : zfetch 153 49 = some (8, .iastore, 1) := by decide +kernel
theorem i153_50 : zfetch 153 50 = some (8, .iinc 4 1, 3) := by decide +kernel
theorem i153_53 : zfetch 153 53 = some (8, .goto (-24), 3) := by decide +kernel
theorem i153_56 : zfetch 153 56 = some (8, .aload_n 0, 1) := by decide +kernel
theorem i153_57 : zfetch 153 57 = some (8, .iload_n 1, 1) := by decide +kernel
theorem i153_58 : zfetch 153 58 = some (8, .iconst 3, 1) := by decide +kernel
theorem i153_59 : zfetch 153 59 = some (8, .iload_n 3, 1) := by decide +kernel
theorem i153_60 : zfetch 153 60 = some (8, .invokevirtual 149, 3) := by decide +kernel
theorem i153_63 : zfetch 153 63 = some (8, .aload_n 0, 1) := by decide +kernel
theorem i153_64 : zfetch 153 64 = some (8, .iconst 1, 1) := by decide +kernel
theorem i153_65 : zfetch 153 65 = some (8, .iload_n 1, 1) := by decide +kernel
theorem i153_66 : zfetch 153 66 = some (8, .ishl, 1) := by decide +kernel
theorem i153_67 : zfetch 153 67 = some (8, .putfield 157, 3) := by decide +kernel
theorem i153_70 : zfetch 153 70 = some (8, .iconst 1, 1) := by decide +kernel
theorem i153_71 : zfetch 153 71 = some (8, .istore 4, 2) := by decide +kernel
theorem i153_73 : zfetch 153 73 = some (8, .aload_n 0, 1) := by decide +kernel
theorem i153_74 : zfetch 153 74 = some (8, .invokevirtual 175, 3) := by decide +kernel
theorem i153_77 : zfetch 153 77 = some (8, .istore 5, 2) := by decide +kernel
theorem i153_79 : zfetch 153 79 = some (8, .iload 5, 2) := by decide +kernel
theorem i153_81 : zfetch 153 81 = some (8, .ifCond .lt 25, 3) := by decide +kernel
theorem i153_84 : zfetch 153 84 = some (8, .iload 4, 2) := by decide +kernel
theorem i153_86 : zfetch 153 86 = some (8, .ifCond .eq 20, 3) := by decide +kernel
theorem i153_89 : zfetch 153 89 = some (8, .aload_n 0, 1) := by decide +kernel
theorem i153_90 : zfetch 153 90 = some (8, .iload 5, 2) := by decide +kernel
theorem i153_92 : zfetch 153 92 = some (8, .invokevirtual 178, 3) := by decide +kernel
theorem i153_95 : zfetch 153 95 = some (8, .istore 4, 2) := by decide +kernel
theorem i153_97 : zfetch 153 97 = some (8, .aload_n 0, 1) := by decide +kernel
theorem i153_98 : zfetch 153 98 = some (8, .invokevirtual 175, 3) := by decide +kernel
theorem i153_101 : zfetch 153 101 = some (8, .istore 5, 2) := by decide +kernel
theorem i153_103 : zfetch 153 103 = some (8, .goto (-24), 3) := by decide +kernel
theorem i153_106 : zfetch 153 106 = some (8, .iconst 0, 1) := by decide +kernel
theorem i153_107 : zfetch 153 107 = some (8, .istore 5, 2) := by decide +kernel
theorem i153_109 : zfetch 153 109 = some (8, .iload 5, 2) := by decide +kernel
theorem i153_111 : zfetch 153 111 = some (8, .bipush 60, 2) := by decide +kernel
theorem i153_113 : zfetch 153 113 = some (8, .if_icmp .ge 28, 3) := by decide +kernel
theorem i153_116 : zfetch 153 116 = some (8, .iload 4, 2) := by decide +kernel
theorem i153_118 : zfetch 153 118 = some (8, .ifCond .ne 23, 3) := by decide +kernel
theorem i153_121 : zfetch 153 121 = some (8, .aload_n 0, 1) := by decide +kernel
theorem i153_122 : zfetch 153 122 = some (8, .getfield 7, 3) := by decide +kernel
theorem i153_125 : zfetch 153 125 = some (8, .iload 5, 2) := by decide +kernel
theorem i153_127 : zfetch 153 127 = some (8, .aload_n 0, 1) := by decide +kernel
theorem i153_128 : zfetch 153 128 = some (8, .getfield 19, 3) := by decide +kernel
theorem i153_131 : zfetch 153 131 = some (8, .iload 5, 2) := by decide +kernel
theorem i153_133 : zfetch 153 133 = some (8, .iaload, 1) := by decide +kernel
theorem i153_134 : zfetch 153 134 = some (8, .iastore, 1) := by decide +kernel
theorem i153_135 : zfetch 153 135 = some (8, .iinc 5 1, 3) := by decide +kernel
theorem i153_138 : zfetch 153 138 = some (8, .goto (-29), 3) := by decide +kernel
theorem i153_141 : zfetch 153 141 = some (8, .iload 4, 2) := by decide +kernel
theorem i153_143 : zfetch 153 143 = some (8, .ireturn, 1) := by decide +kernel
theorem i154_0 : zfetch 154 0 = some (8, .aload_n 0, 1) := by decide +kernel
theorem i154_1 : zfetch 154 1 = some (8, .getfield 7, 3) := by decide +kernel
theorem i154_4 : zfetch 154 4 = some (8, .bipush 6, 2) := by decide +kernel
theorem i154_6 : zfetch 154 6 = some (8, .aload_n 0, 1) := by decide +kernel
theorem i154_7 : zfetch 154 7 = some (8, .getfield 7, 3) := by decide +kernel
theorem i154_10 : zfetch 154 10 = some (8, .iconst 0, 1) := by decide +kernel
theorem i154_11 : zfetch 154 11 = some (8, .iaload, 1) := by decide +kernel
theorem i154_12 : zfetch 154 12 = some (8, .bipush 6, 2) := by decide +kernel
theorem i154_14 : zfetch 154 14 = some (8, .irem, 1) := by decide +kernel
theorem i154_15 : zfetch 154 15 = some (8, .iadd, 1) := by decide +kernel
theorem i154_16 : zfetch 154 16 = some (8, .iaload, 1) := by decide +kernel
theorem i154_17 : zfetch 154 17 = some (8, .istore_n 1, 1) := by decide +kernel
theorem i154_18 : zfetch 154 18 = some (8, .iload_n 1, 1) := by decide +kernel
theorem i154_19 : zfetch 154 19 = some (8, .bipush 10, 2) := by decide +kernel
theorem i154_21 : zfetch 154 21 = some (8, .idiv, 1) := by decide +kernel
theorem i154_22 : zfetch 154 22 = some (8, .istore_n 2, 1) := by decide +kernel
theorem i154_23 : zfetch 154 23 = some (8, .iload_n 2, 1) := by decide +kernel
theorem i154_24 : zfetch 154 24 = some (8, .aload_n 0, 1) := by decide +kernel
theorem i154_25 : zfetch 154 25 = some (8, .getfield 7, 3) := by decide +kernel
theorem i154_28 : zfetch 154 28 = some (8, .iconst 4, 1) := by decide +kernel
theorem i154_29 : zfetch 154 29 = some (8, .iaload, 1) := by decide +kernel
theorem i154_30 : zfetch 154 30 = some (8, .if_icmp .ge 43, 3) := by decide +kernel
theorem i154_33 : zfetch 154 33 = some (8, .aload_n 0, 1) := by decide +kernel
theorem i154_34 : zfetch 154 34 = some (8, .iload_n 2, 1) := by decide +kernel
theorem i154_35 : zfetch 154 35 = some (8, .invokevirtual 181, 3) := by decide +kernel
theorem i154_38 : zfetch 154 38 = some (8, .istore_n 3, 1) := by decide +kernel
theorem i154_39 : zfetch 154 39 = some (8, .iconst 1, 1) := by decide +kernel
theorem i154_40 : zfetch 154 40 = some (8, .istore 4, 2) := by decide +kernel
theorem i154_42 : zfetch 154 42 = some (8, .iconst 0, 1) := by decide +kernel
theorem i154_43 : zfetch 154 43 = some (8, .istore 5, 2) := by decide +kernel
theorem i154_45 : zfetch 154 45 = some (8, .iload 5, 2) := by decide +kernel
theorem i154_47 : zfetch 154 47 = some (8, .iload_n 3, 1) := by decide +kernel
theorem i154_48 : zfetch 154 48 = some (8, .if_icmp .ge 25, 3) := by decide +kernel
theorem i154_51 : zfetch 154 51 = some (8, .iload 4, 2) := by decide +kernel
theorem i154_53 : zfetch 154 53 = some (8, .ifCond .eq 20, 3) := by decide +kernel
theorem i154_56 : zfetch 154 56 = some (8, .aload_n 0, 1) := by decide +kernel
theorem i154_57 : zfetch 154 57 = some (8, .iload_n 2, 1) := by decide +kernel
theorem i154_58 : zfetch 154 58 = some (8, .iload_n 1, 1) := by decide +kernel
theorem i154_59 : zfetch 154 59 = some (8, .bipush 10, 2) := by decide +kernel
theorem i154_61 : zfetch 154 61 = some (8, .irem, 1) := by decide +kernel
theorem i154_62 : zfetch 154 62 = some (8, .invokevirtual 184, 3) := by decide +kernel
theorem i154_65 : zfetch 154 65 = some (8, .istore 4, 2) := by decide +kernel
theorem i154_67 : zfetch 154 67 = some (8, .iinc 5 1, 3) := by decide +kernel
theorem i154_70 : zfetch 154 70 = some (8, .goto (-25), 3) := by decide +kernel
theorem i154_73 : zfetch 154 73 = some (8, .aload_n 0, 1) := by decide +kernel
theorem i154_74 : zfetch 154 74 = some (8, .getfield 7, 3) := by decide +kernel
theorem i154_77 : zfetch 154 77 = some (8, .iconst 0, 1) := by decide +kernel
theorem i154_78 : zfetch 154 78 = some (8, .dup2, 1) := by decide +kernel
theorem i154_79 : zfetch 154 79 = some (8, .iaload, 1) := by decide +kernel
theorem i154_80 : zfetch 154 80 = some (8, .iconst 1, 1) := by decide +kernel
theorem i154_81 : zfetch 154 81 = some (8, .iadd, 1) := by decide +kernel
theorem i154_82 : zfetch 154 82 = some (8, .iastore, 1) := by decide +kernel
theorem i154_83 : zfetch 154 83 = some (8, .return_, 1) := by decide +kernel
theorem i155_0 : zfetch 155 0 = some (8, .iconst 0, 1) := by decide +kernel
theorem i155_1 : zfetch 155 1 = some (8, .istore_n 2, 1) := by decide +kernel
theorem i155_2 : zfetch 155 2 = some (8, .iload_n 2, 1) := by decide +kernel
theorem i155_3 : zfetch 155 3 = some (8, .iload_n 1, 1) := by decide +kernel
theorem i155_4 : zfetch 155 4 = some (8, .if_icmp .ge 13, 3) := by decide +kernel
theorem i155_7 : zfetch 155 7 = some (8, .aload_n 0, 1) := by decide +kernel
theorem i155_8 : zfetch 155 8 = some (8, .invokevirtual 188, 3) := by decide +kernel
theorem i155_11 : zfetch 155 11 = some (8, .iinc 2 1, 3) := by decide +kernel
theorem i155_14 : zfetch 155 14 = some (8, .goto (-12), 3) := by decide +kernel
theorem i155_17 : zfetch 155 17 = some (8, .return_, 1) := by decide +kernel
theorem i156_0 : zfetch 156 0 = some (8, .iconst 0, 1) := by decide +kernel
theorem i156_1 : zfetch 156 1 = some (8, .istore_n 1, 1) := by decide +kernel
theorem i156_2 : zfetch 156 2 = some (8, .iconst 0, 1) := by decide +kernel
theorem i156_3 : zfetch 156 3 = some (8, .istore_n 2, 1) := by decide +kernel
theorem i156_4 : zfetch 156 4 = some (8, .iload_n 2, 1) := by decide +kernel
theorem i156_5 : zfetch 156 5 = some (8, .aload_n 0, 1) := by decide +kernel
theorem i156_6 : zfetch 156 6 = some (8, .getfield 7, 3) := by decide +kernel
theorem i156_9 : zfetch 156 9 = some (8, .iconst 4, 1) := by decide +kernel
theorem i156_10 : zfetch 156 10 = some (8, .iaload, 1) := by decide +kernel
theorem i156_11 : zfetch 156 11 = some (8, .if_icmp .ge 27, 3) := by decide +kernel
theorem i156_14 : zfetch 156 14 = some (8, .iload_n 1, 1) := by decide +kernel
theorem i156_15 : zfetch 156 15 = some (8, .aload_n 0, 1) := by decide +kernel
theorem i156_16 : zfetch 156 16 = some (8, .iload_n 2, 1) := by decide +kernel
theorem i156_17 : zfetch 156 17 = some (8, .invokevirtual 140, 3) := by decide +kernel
theorem i156_20 : zfetch 156 20 = some (8, .ifCond .eq 9, 3) := by decide +kernel
theorem i156_23 : zfetch 156 23 = some (8, .iconst 1, 1) := by decide +kernel
theorem i156_24 : zfetch 156 24 = some (8, .iload_n 2, 1) := by decide +kernel
theorem i156_25 : zfetch 156 25 = some (8, .ishl, 1) := by decide +kernel
theorem i156_26 : zfetch 156 26 = some (8, .goto 4, 3) := by decide +kernel
theorem i156_29 : zfetch 156 29 = some (8, .iconst 0, 1) := by decide +kernel
theorem i156_30 : zfetch 156 30 = some (8, .ior, 1) := by decide +kernel
theorem i156_31 : zfetch 156 31 = some (8, .istore_n 1, 1) := by decide +kernel
theorem i156_32 : zfetch 156 32 = some (8, .iinc 2 1, 3) := by decide +kernel
theorem i156_35 : zfetch 156 35 = some (8, .goto (-31), 3) := by decide +kernel
theorem i156_38 : zfetch 156 38 = some (8, .iload_n 1, 1) := by decide +kernel
theorem i156_39 : zfetch 156 39 = some (8, .ireturn, 1) := by decide +kernel
theorem i157_0 : zfetch 157 0 = some (8, .iconst 0, 1) := by decide +kernel
theorem i157_1 : zfetch 157 1 = some (8, .istore_n 2, 1) := by decide +kernel
theorem i157_2 : zfetch 157 2 = some (8, .iconst 0, 1) := by decide +kernel
theorem i157_3 : zfetch 157 3 = some (8, .istore_n 3, 1) := by decide +kernel
theorem i157_4 : zfetch 157 4 = some (8, .iload_n 3, 1) := by decide +kernel
theorem i157_5 : zfetch 157 5 = some (8, .aload_n 0, 1) := by decide +kernel
theorem i157_6 : zfetch 157 6 = some (8, .getfield 7, 3) := by decide +kernel
theorem i157_9 : zfetch 157 9 = some (8, .iconst 4, 1) := by decide +kernel
theorem i157_10 : zfetch 157 10 = some (8, .iaload, 1) := by decide +kernel
theorem i157_11 : zfetch 157 11 = some (8, .if_icmp .ge 18, 3) := by decide +kernel
theorem i157_14 : zfetch 157 14 = some (8, .iload_n 2, 1) := by decide +kernel
theorem i157_15 : zfetch 157 15 = some (8, .aload_n 0, 1) := by decide +kernel
theorem i157_16 : zfetch 157 16 = some (8, .iload_n 3, 1) := by decide +kernel
theorem i157_17 : zfetch 157 17 = some (8, .iload_n 1, 1) := by decide +kernel
theorem i157_18 : zfetch 157 18 = some (8, .invokevirtual 54, 3) := by decide +kernel
theorem i157_21 : zfetch 157 21 = some (8, .iadd, 1) := by decide +kernel
theorem i157_22 : zfetch 157 22 = some (8, .istore_n 2, 1) := by decide +kernel
theorem i157_23 : zfetch 157 23 = some (8, .iinc 3 1, 3) := by decide +kernel
theorem i157_26 : zfetch 157 26 = some (8, .goto (-22), 3) := by decide +kernel
theorem i157_29 : zfetch 157 29 = some (8, .iload_n 2, 1) := by decide +kernel
theorem i157_30 : zfetch 157 30 = some (8, .ireturn, 1) := by decide +kernel
theorem i158_0 : zfetch 158 0 = some (8, .iload_n 0, 1) := by decide +kernel
theorem i158_1 : zfetch 158 1 = some (8, .iconst 0, 1) := by decide +kernel
theorem i158_2 : zfetch 158 2 = some (8, .bipush 69, 2) := by decide +kernel
theorem i158_4 : zfetch 158 4 = some (8, .invokestatic 50, 3) := by decide +kernel
theorem i158_7 : zfetch 158 7 = some (8, .ireturn, 1) := by decide +kernel
theorem i159_0 : zfetch 159 0 = some (8, .iload_n 1, 1) := by decide +kernel
theorem i159_1 : zfetch 159 1 = some (8, .invokestatic 191, 3) := by decide +kernel
theorem i159_4 : zfetch 159 4 = some (8, .ifCond .eq 37, 3) := by decide +kernel
theorem i159_7 : zfetch 159 7 = some (8, .iload_n 2, 1) := by decide +kernel
theorem i159_8 : zfetch 159 8 = some (8, .iconst (-1), 1) := by decide +kernel
theorem i159_9 : zfetch 159 9 = some (8, .aload_n 0, 1) := by decide +kernel
theorem i159_10 : zfetch 159 10 = some (8, .getfield 7, 3) := by decide +kernel
theorem i159_13 : zfetch 159 13 = some (8, .iconst 4, 1) := by decide +kernel
theorem i159_14 : zfetch 159 14 = some (8, .iaload, 1) := by decide +kernel
theorem i159_15 : zfetch 159 15 = some (8, .iconst 1, 1) := by decide +kernel
theorem i159_16 : zfetch 159 16 = some (8, .isub, 1) := by decide +kernel
theorem i159_17 : zfetch 159 17 = some (8, .invokestatic 50, 3) := by decide +kernel
theorem i159_20 : zfetch 159 20 = some (8, .ifCond .eq 21, 3) := by decide +kernel
theorem i159_23 : zfetch 159 23 = some (8, .iload_n 3, 1) := by decide +kernel
theorem i159_24 : zfetch 159 24 = some (8, .invokestatic 172, 3) := by decide +kernel
theorem i159_27 : zfetch 159 27 = some (8, .ifCond .eq 14, 3) := by decide +kernel
theorem i159_30 : zfetch 159 30 = some (8, .iload 4, 2) := by decide +kernel
theorem i159_32 : zfetch 159 32 = some (8, .iconst 0, 1) := by decide +kernel
theorem i159_33 : zfetch 159 33 = some (8, .bipush 99, 2) := by decide +kernel
theorem i159_35 : zfetch 159 35 = some (8, .invokestatic 50, 3) := by decide +kernel
theorem i159_38 : zfetch 159 38 = some (8, .ifCond .ne 9, 3) := by decide +kernel
theorem i159_41 : zfetch 159 41 = some (8, .aload_n 0, 1) := by decide +kernel
theorem i159_42 : zfetch 159 42 = some (8, .iconst 1, 1) := by decide +kernel
theorem i159_43 : zfetch 159 43 = some (8, .invokevirtual 58, 3) := by decide +kernel
theorem i159_46 : zfetch 159 46 = some (8, .ireturn, 1) := by decide +kernel
theorem i159_47 : zfetch 159 47 = some (8, .aload_n 0, 1) := by decide +kernel
theorem i159_48 : zfetch 159 48 = some (8, .getfield 7, 3) := by decide +kernel
theorem i159_51 : zfetch 159 51 = some (8, .iconst 4, 1) := by decide +kernel
theorem i159_52 : zfetch 159 52 = some (8, .iaload, 1) := by decide +kernel
theorem i159_53 : zfetch 159 53 = some (8, .bipush 8, 2) := by decide +kernel
theorem i159_55 : zfetch 159 55 = some (8, .if_icmp .ne 9, 3) := by decide +kernel
theorem i159_58 : zfetch 159 58 = some (8, .aload_n 0, 1) := by decide +kernel
theorem i159_59 : zfetch 159 59 = some (8, .iconst 4, 1) := by decide +kernel
theorem i159_60 : zfetch 159 60 = some (8, .invokevirtual 58, 3) := by decide +kernel
theorem i159_63 : zfetch 159 63 = some (8, .ireturn, 1) := by decide +kernel
theorem i159_64 : zfetch 159 64 = some (8, .aload_n 0, 1) := by decide +kernel
theorem i159_65 : zfetch 159 65 = some (8, .getfield 7, 3) := by decide +kernel
theorem i159_68 : zfetch 159 68 = some (8, .iconst 4, 1) := by decide +kernel
theorem i159_69 : zfetch 159 69 = some (8, .iaload, 1) := by decide +kernel
theorem i159_70 : zfetch 159 70 = some (8, .istore 5, 2) := by decide +kernel
theorem i159_72 : zfetch 159 72 = some (8, .aload_n 0, 1) := by decide +kernel
theorem i159_73 : zfetch 159 73 = some (8, .iload 5, 2) := by decide +kernel
theorem i159_75 : zfetch 159 75 = some (8, .iconst 0, 1) := by decide +kernel
theorem i159_76 : zfetch 159 76 = some (8, .iload_n 1, 1) := by decide +kernel
theorem i159_77 : zfetch 159 77 = some (8, .bipush 10, 2) := by decide +kernel
theorem i159_79 : zfetch 159 79 = some (8, .idiv, 1) := by decide +kernel
theorem i159_80 : zfetch 159 80 = some (8, .invokevirtual 149, 3) := by decide +kernel
theorem i159_83 : zfetch 159 83 = some (8, .aload_n 0, 1) := by decide +kernel
theorem i159_84 : zfetch 159 84 = some (8, .iload 5, 2) := by decide +kernel
theorem i159_86 : zfetch 159 86 = some (8, .iconst 1, 1) := by decide +kernel
theorem i159_87 : zfetch 159 87 = some (8, .iload_n 1, 1) := by decide +kernel
theorem i159_88 : zfetch 159 88 = some (8, .bipush 10, 2) := by decide +kernel
theorem i159_90 : zfetch 159 90 = some (8, .irem, 1) := by decide +kernel
theorem i159_91 : zfetch 159 91 = some (8, .invokevirtual 149, 3) := by decide +kernel
theorem i159_94 : zfetch 159 94 = some (8, .aload_n 0, 1) := by decide +kernel
theorem i159_95 : zfetch 159 95 = some (8, .iload 5, 2) := by decide +kernel
theorem i159_97 : zfetch 159 97 = some (8, .iconst 2, 1) := by decide +kernel
theorem i159_98 : zfetch 159 98 = some (8, .iload_n 2, 1) := by decide +kernel
theorem i159_99 : zfetch 159 99 = some (8, .invokevirtual 149, 3) := by decide +kernel
theorem i159_102 : zfetch 159 102 = some (8, .aload_n 0, 1) := by decide +kernel
theorem i159_103 : zfetch 159 103 = some (8, .iload 5, 2) := by decide +kernel
theorem i159_105 : zfetch 159 105 = some (8, .iconst 3, 1) := by decide +kernel
theorem i159_106 : zfetch 159 106 = some (8, .iload_n 3, 1) := by decide +kernel
theorem i159_107 : zfetch 159 107 = some (8, .invokevirtual 149, 3) := by decide +kernel
theorem i159_110 : zfetch 159 110 = some (8, .aload_n 0, 1) := by decide +kernel
theorem i159_111 : zfetch 159 111 = some (8, .iload 5, 2) := by decide +kernel
theorem i159_113 : zfetch 159 113 = some (8, .iconst 4, 1) := by decide +kernel
theorem i159_114 : zfetch 159 114 = some (8, .aload_n 0, 1) := by decide +kernel
theorem i159_115 : zfetch 159 115 = some (8, .iload 5, 2) := by decide +kernel
theorem i159_117 : zfetch 159 117 = some (8, .invokevirtual 146, 3) := by decide +kernel
theorem i159_120 : zfetch 159 120 = some (8, .invokevirtual 149, 3) := by decide +kernel
theorem i159_123 : zfetch 159 123 = some (8, .aload_n 0, 1) := by decide +kernel
theorem i159_124 : zfetch 159 124 = some (8, .iload 5, 2) := by decide +kernel
theorem i159_126 : zfetch 159 126 = some (8, .iconst 5, 1) := by decide +kernel
theorem i159_127 : zfetch 159 127 = some (8, .iload_n 2, 1) := by decide +kernel
theorem i159_128 : zfetch 159 128 = some (8, .ifCond .ge 7, 3) := by decide +kernel
theorem i159_131 : zfetch 159 131 = some (8, .iconst 0, 1) := by decide +kernel
theorem i159_132 : zfetch 159 132 = some (8, .goto 5, 3) := by decide +kernel
theorem i159_135 : zfetch 159 135 = some (8, .iload 4, 2) := by decide +kernel
theorem i159_137 : zfetch 159 137 = some (8, .invokevirtual 149, 3) := by decide +kernel
theorem i159_140 : zfetch 159 140 = some (8, .aload_n 0, 1) := by decide +kernel
theorem i159_141 : zfetch 159 141 = some (8, .getfield 7, 3) := by decide +kernel
theorem i159_144 : zfetch 159 144 = some (8, .iconst 4, 1) := by decide +kernel
theorem i159_145 : zfetch 159 145 = some (8, .dup2, 1) := by decide +kernel
theorem i159_146 : zfetch 159 146 = some (8, .iaload, 1) := by decide +kernel
theorem i159_147 : zfetch 159 147 = some (8, .iconst 1, 1) := by decide +kernel
theorem i159_148 : zfetch 159 148 = some (8, .iadd, 1) := by decide +kernel
theorem i159_149 : zfetch 159 149 = some (8, .iastore, 1) := by decide +kernel
theorem i159_150 : zfetch 159 150 = some (8, .iload 5, 2) := by decide +kernel
theorem i159_152 : zfetch 159 152 = some (8, .ireturn, 1) := by decide +kernel
theorem i160_0 : zfetch 160 0 = some (8, .aload_n 0, 1) := by decide +kernel
theorem i160_1 : zfetch 160 1 = some (8, .iload_n 1, 1) := by decide +kernel
theorem i160_2 : zfetch 160 2 = some (8, .invokevirtual 194, 3) := by decide +kernel
theorem i160_5 : zfetch 160 5 = some (8, .ifCond .eq 13, 3) := by decide +kernel
theorem i160_8 : zfetch 160 8 = some (8, .iload_n 2, 1) := by decide +kernel
theorem i160_9 : zfetch 160 9 = some (8, .iconst 0, 1) := by decide +kernel
theorem i160_10 : zfetch 160 10 = some (8, .bipush 8, 2) := by decide +kernel
theorem i160_12 : zfetch 160 12 = some (8, .invokestatic 50, 3) := by decide +kernel
theorem i160_15 : zfetch 160 15 = some (8, .ifCond .ne 9, 3) := by decide +kernel
theorem i160_18 : zfetch 160 18 = some (8, .aload_n 0, 1) := by decide +kernel
theorem i160_19 : zfetch 160 19 = some (8, .iconst 1, 1) := by decide +kernel
theorem i160_20 : zfetch 160 20 = some (8, .invokevirtual 58, 3) := by decide +kernel
theorem i160_23 : zfetch 160 23 = some (8, .ireturn, 1) := by decide +kernel
theorem i160_24 : zfetch 160 24 = some (8, .iload_n 2, 1) := by decide +kernel
theorem i160_25 : zfetch 160 25 = some (8, .bipush 6, 2) := by decide +kernel
theorem i160_27 : zfetch 160 27 = some (8, .if_icmp .ne 11, 3) := by decide +kernel
theorem i160_30 : zfetch 160 30 = some (8, .aload_n 0, 1) := by decide +kernel
theorem i160_31 : zfetch 160 31 = some (8, .iload_n 1, 1) := by decide +kernel
theorem i160_32 : zfetch 160 32 = some (8, .invokevirtual 146, 3) := by decide +kernel
theorem i160_35 : zfetch 160 35 = some (8, .goto 37, 3) := by decide +kernel
theorem i160_38 : zfetch 160 38 = some (8, .iload_n 2, 1) := by decide +kernel
theorem i160_39 : zfetch 160 39 = some (8, .bipush 7, 2) := by decide +kernel
theorem i160_41 : zfetch 160 41 = some (8, .if_icmp .ne 11, 3) := by decide +kernel
theorem i160_44 : zfetch 160 44 = some (8, .aload_n 0, 1) := by decide +kernel
theorem i160_45 : zfetch 160 45 = some (8, .iload_n 1, 1) := by decide +kernel
theorem i160_46 : zfetch 160 46 = some (8, .invokevirtual 166, 3) := by decide +kernel
theorem i160_49 : zfetch 160 49 = some (8, .goto 23, 3) := by decide +kernel
theorem i160_52 : zfetch 160 52 = some (8, .iload_n 2, 1) := by decide +kernel
theorem i160_53 : zfetch 160 53 = some (8, .bipush 8, 2) := by decide +kernel
theorem i160_55 : zfetch 160 55 = some (8, .if_icmp .ne 11, 3) := by decide +kernel
theorem i160_58 : zfetch 160 58 = some (8, .aload_n 0, 1) := by decide +kernel
theorem i160_59 : zfetch 160 59 = some (8, .iload_n 1, 1) := by decide +kernel
theorem i160_60 : zfetch 160 60 = some (8, .invokevirtual 181, 3) := by decide +kernel
theorem i160_63 : zfetch 160 63 = some (8, .goto 9, 3) := by decide +kernel
theorem i160_66 : zfetch 160 66 = some (8, .aload_n 0, 1) := by decide +kernel
theorem i160_67 : zfetch 160 67 = some (8, .iload_n 1, 1) := by decide +kernel
theorem i160_68 : zfetch 160 68 = some (8, .iload_n 2, 1) := by decide +kernel
theorem i160_69 : zfetch 160 69 = some (8, .invokevirtual 54, 3) := by decide +kernel
theorem i160_72 : zfetch 160 72 = some (8, .ireturn, 1) := by decide +kernel
theorem i161_0 : zfetch 161 0 = some (8, .aload_n 0, 1) := by decide +kernel
theorem i161_1 : zfetch 161 1 = some (8, .iload_n 1, 1) := by decide +kernel
theorem i161_2 : zfetch 161 2 = some (8, .invokevirtual 194, 3) := by decide +kernel
theorem i161_5 : zfetch 161 5 = some (8, .ifCond .eq 10, 3) := by decide +kernel
theorem i161_8 : zfetch 161 8 = some (8, .iload_n 2, 1) := by decide +kernel
theorem i161_9 : zfetch 161 9 = some (8, .invokestatic 191, 3) := by decide +kernel
theorem i161_12 : zfetch 161 12 = some (8, .ifCond .ne 9, 3) := by decide +kernel
theorem i161_15 : zfetch 161 15 = some (8, .aload_n 0, 1) := by decide +kernel
theorem i161_16 : zfetch 161 16 = some (8, .iconst 1, 1) := by decide +kernel
theorem i161_17 : zfetch 161 17 = some (8, .invokevirtual 58, 3) := by decide +kernel
theorem i161_20 : zfetch 161 20 = some (8, .ireturn, 1) := by decide +kernel
theorem i161_21 : zfetch 161 21 = some (8, .aload_n 0, 1) := by decide +kernel
theorem i161_22 : zfetch 161 22 = some (8, .iload_n 1, 1) := by decide +kernel
theorem i161_23 : zfetch 161 23 = some (8, .iconst 0, 1) := by decide +kernel
theorem i161_24 : zfetch 161 24 = some (8, .invokevirtual 54, 3) := by decide +kernel
theorem i161_27 : zfetch 161 27 = some (8, .istore_n 3, 1) := by decide +kernel
theorem i161_28 : zfetch 161 28 = some (8, .aload_n 0, 1) := by decide +kernel
theorem i161_29 : zfetch 161 29 = some (8, .iload_n 1, 1) := by decide +kernel
theorem i161_30 : zfetch 161 30 = some (8, .iconst 0, 1) := by decide +kernel
theorem i161_31 : zfetch 161 31 = some (8, .iload_n 2, 1) := by decide +kernel
theorem i161_32 : zfetch 161 32 = some (8, .bipush 10, 2) := by decide +kernel
theorem i161_34 : zfetch 161 34 = some (8, .idiv, 1) := by decide +kernel
theorem i161_35 : zfetch 161 35 = some (8, .invokevirtual 149, 3) := by decide +kernel
theorem i161_38 : zfetch 161 38 = some (8, .aload_n 0, 1) := by decide +kernel
theorem i161_39 : zfetch 161 39 = some (8, .iload_n 1, 1) := by decide +kernel
theorem i161_40 : zfetch 161 40 = some (8, .iconst 1, 1) := by decide +kernel
theorem i161_41 : zfetch 161 41 = some (8, .iload_n 2, 1) := by decide +kernel
theorem i161_42 : zfetch 161 42 = some (8, .bipush 10, 2) := by decide +kernel
theorem i161_44 : zfetch 161 44 = some (8, .irem, 1) := by decide +kernel
theorem i161_45 : zfetch 161 45 = some (8, .invokevirtual 149, 3) := by decide +kernel
theorem i161_48 : zfetch 161 48 = some (8, .iload_n 3, 1) := by decide +kernel
theorem i161_49 : zfetch 161 49 = some (8, .ireturn, 1) := by decide +kernel
theorem i162_0 : zfetch 162 0 = some (8, .aload_n 0, 1) := by decide +kernel
theorem i162_1 : zfetch 162 1 = some (8, .iload_n 1, 1) := by decide +kernel
theorem i162_2 : zfetch 162 2 = some (8, .invokevirtual 194, 3) := by decide +kernel
theorem i162_5 : zfetch 162 5 = some (8, .ifCond .eq 13, 3) := by decide +kernel
theorem i162_8 : zfetch 162 8 = some (8, .iload_n 2, 1) := by decide +kernel
theorem i162_9 : zfetch 162 9 = some (8, .iconst 0, 1) := by decide +kernel
theorem i162_10 : zfetch 162 10 = some (8, .bipush 6, 2) := by decide +kernel
theorem i162_12 : zfetch 162 12 = some (8, .invokestatic 50, 3) := by decide +kernel
theorem i162_15 : zfetch 162 15 = some (8, .ifCond .ne 9, 3) := by decide +kernel
theorem i162_18 : zfetch 162 18 = some (8, .aload_n 0, 1) := by decide +kernel
theorem i162_19 : zfetch 162 19 = some (8, .iconst 1, 1) := by decide +kernel
theorem i162_20 : zfetch 162 20 = some (8, .invokevirtual 58, 3) := by decide +kernel
theorem i162_23 : zfetch 162 23 = some (8, .ireturn, 1) := by decide +kernel
theorem i162_24 : zfetch 162 24 = some (8, .aload_n 0, 1) := by decide +kernel
theorem i162_25 : zfetch 162 25 = some (8, .iload_n 1, 1) := by decide +kernel
theorem i162_26 : zfetch 162 26 = some (8, .iconst 0, 1) := by decide +kernel
theorem i162_27 : zfetch 162 27 = some (8, .invokevirtual 54, 3) := by decide +kernel
theorem i162_30 : zfetch 162 30 = some (8, .istore_n 3, 1) := by decide +kernel
theorem i162_31 : zfetch 162 31 = some (8, .iload_n 2, 1) := by decide +kernel
theorem i162_32 : zfetch 162 32 = some (8, .ifCond .eq 16, 3) := by decide +kernel
theorem i162_35 : zfetch 162 35 = some (8, .iload_n 3, 1) := by decide +kernel
theorem i162_36 : zfetch 162 36 = some (8, .iload_n 2, 1) := by decide +kernel
theorem i162_37 : zfetch 162 37 = some (8, .if_icmp .eq 11, 3) := by decide +kernel
theorem i162_40 : zfetch 162 40 = some (8, .iload_n 3, 1) := by decide +kernel
theorem i162_41 : zfetch 162 41 = some (8, .invokestatic 197, 3) := by decide +kernel
theorem i162_44 : zfetch 162 44 = some (8, .iload_n 2, 1) := by decide +kernel
theorem i162_45 : zfetch 162 45 = some (8, .if_icmp .ne 7, 3) := by decide +kernel
theorem i162_48 : zfetch 162 48 = some (8, .iconst 1, 1) := by decide +kernel
theorem i162_49 : zfetch 162 49 = some (8, .goto 4, 3) := by decide +kernel
theorem i162_52 : zfetch 162 52 = some (8, .iconst 0, 1) := by decide +kernel
theorem i162_53 : zfetch 162 53 = some (8, .istore 4, 2) := by decide +kernel
theorem i162_55 : zfetch 162 55 = some (8, .iload 4, 2) := by decide +kernel
theorem i162_57 : zfetch 162 57 = some (8, .ifCond .eq 12, 3) := by decide +kernel
theorem i162_60 : zfetch 162 60 = some (8, .aload_n 0, 1) := by decide +kernel
theorem i162_61 : zfetch 162 61 = some (8, .iload_n 1, 1) := by decide +kernel
theorem i162_62 : zfetch 162 62 = some (8, .iconst 1, 1) := by decide +kernel
theorem i162_63 : zfetch 162 63 = some (8, .invokevirtual 54, 3) := by decide +kernel
theorem i162_66 : zfetch 162 66 = some (8, .goto 8, 3) := by decide +kernel
theorem i162_69 : zfetch 162 69 = some (8, .aload_n 0, 1) := by decide +kernel
theorem i162_70 : zfetch 162 70 = some (8, .iconst 5, 1) := by decide +kernel
theorem i162_71 : zfetch 162 71 = some (8, .invokevirtual 58, 3) := by decide +kernel
theorem i162_74 : zfetch 162 74 = some (8, .ireturn, 1) := by decide +kernel
theorem i163_0 : zfetch 163 0 = some (8, .aload_n 0, 1) := by decide +kernel
theorem i163_1 : zfetch 163 1 = some (8, .iload_n 1, 1) := by decide +kernel
theorem i163_2 : zfetch 163 2 = some (8, .invokevirtual 194, 3) := by decide +kernel
theorem i163_5 : zfetch 163 5 = some (8, .ifCond .eq 13, 3) := by decide +kernel
theorem i163_8 : zfetch 163 8 = some (8, .iload_n 2, 1) := by decide +kernel
theorem i163_9 : zfetch 163 9 = some (8, .iconst 0, 1) := by decide +kernel
theorem i163_10 : zfetch 163 10 = some (8, .bipush 99, 2) := by decide +kernel
theorem i163_12 : zfetch 163 12 = some (8, .invokestatic 50, 3) := by decide +kernel
theorem i163_15 : zfetch 163 15 = some (8, .ifCond .ne 9, 3) := by decide +kernel
theorem i163_18 : zfetch 163 18 = some (8, .aload_n 0, 1) := by decide +kernel
theorem i163_19 : zfetch 163 19 = some (8, .iconst 1, 1) := by decide +kernel
theorem i163_20 : zfetch 163 20 = some (8, .invokevirtual 58, 3) := by decide +kernel
theorem i163_23 : zfetch 163 23 = some (8, .ireturn, 1) := by decide +kernel
theorem i163_24 : zfetch 163 24 = some (8, .aload_n 0, 1) := by decide +kernel
theorem i163_25 : zfetch 163 25 = some (8, .iload_n 1, 1) := by decide +kernel
theorem i163_26 : zfetch 163 26 = some (8, .invokevirtual 140, 3) := by decide +kernel
theorem i163_29 : zfetch 163 29 = some (8, .ifCond .eq 20, 3) := by decide +kernel
theorem i163_32 : zfetch 163 32 = some (8, .aload_n 0, 1) := by decide +kernel
theorem i163_33 : zfetch 163 33 = some (8, .bipush 12, 2) := by decide +kernel
theorem i163_35 : zfetch 163 35 = some (8, .bipush 6, 2) := by decide +kernel
theorem i163_37 : zfetch 163 37 = some (8, .iload_n 1, 1) := by decide +kernel
theorem i163_38 : zfetch 163 38 = some (8, .imul, 1) := by decide +kernel
theorem i163_39 : zfetch 163 39 = some (8, .iadd, 1) := by decide +kernel
theorem i163_40 : zfetch 163 40 = some (8, .iconst 5, 1) := by decide +kernel
theorem i163_41 : zfetch 163 41 = some (8, .iadd, 1) := by decide +kernel
theorem i163_42 : zfetch 163 42 = some (8, .iload_n 2, 1) := by decide +kernel
theorem i163_43 : zfetch 163 43 = some (8, .invokevirtual 200, 3) := by decide +kernel
theorem i163_46 : zfetch 163 46 = some (8, .goto 8, 3) := by decide +kernel
theorem i163_49 : zfetch 163 49 = some (8, .aload_n 0, 1) := by decide +kernel
theorem i163_50 : zfetch 163 50 = some (8, .iconst 3, 1) := by decide +kernel
theorem i163_51 : zfetch 163 51 = some (8, .invokevirtual 58, 3) := by decide +kernel
theorem i163_54 : zfetch 163 54 = some (8, .ireturn, 1) := by decide +kernel
theorem i164_0 : zfetch 164 0 = some (8, .aload_n 0, 1) := by decide +kernel
theorem i164_1 : zfetch 164 1 = some (8, .iload_n 1, 1) := by decide +kernel
theorem i164_2 : zfetch 164 2 = some (8, .invokevirtual 194, 3) := by decide +kernel
theorem i164_5 : zfetch 164 5 = some (8, .ifCond .ne 9, 3) := by decide +kernel
theorem i164_8 : zfetch 164 8 = some (8, .aload_n 0, 1) := by decide +kernel
theorem i164_9 : zfetch 164 9 = some (8, .iconst 1, 1) := by decide +kernel
theorem i164_10 : zfetch 164 10 = some (8, .invokevirtual 58, 3) := by decide +kernel
theorem i164_13 : zfetch 164 13 = some (8, .ireturn, 1) := by decide +kernel
theorem i164_14 : zfetch 164 14 = some (8, .aload_n 0, 1) := by decide +kernel
theorem i164_15 : zfetch 164 15 = some (8, .iload_n 1, 1) := by decide +kernel
theorem i164_16 : zfetch 164 16 = some (8, .invokevirtual 140, 3) := by decide +kernel
theorem i164_19 : zfetch 164 19 = some (8, .ifCond .ne 9, 3) := by decide +kernel
theorem i164_22 : zfetch 164 22 = some (8, .aload_n 0, 1) := by decide +kernel
theorem i164_23 : zfetch 164 23 = some (8, .iconst 3, 1) := by decide +kernel
theorem i164_24 : zfetch 164 24 = some (8, .invokevirtual 58, 3) := by decide +kernel
theorem i164_27 : zfetch 164 27 = some (8, .ireturn, 1) := by decide +kernel
theorem i164_28 : zfetch 164 28 = some (8, .aload_n 0, 1) := by decide +kernel
theorem i164_29 : zfetch 164 29 = some (8, .iload_n 1, 1) := by decide +kernel
theorem i164_30 : zfetch 164 30 = some (8, .iconst 2, 1) := by decide +kernel
theorem i164_31 : zfetch 164 31 = some (8, .invokevirtual 54, 3) := by decide +kernel
theorem i164_34 : zfetch 164 34 = some (8, .istore_n 2, 1) := by decide +kernel
theorem i164_35 : zfetch 164 35 = some (8, .aload_n 0, 1) := by decide +kernel
theorem i164_36 : zfetch 164 36 = some (8, .iload_n 1, 1) := by decide +kernel
theorem i164_37 : zfetch 164 37 = some (8, .invokevirtual 153, 3) := by decide +kernel
theorem i164_40 : zfetch 164 40 = some (8, .iload_n 2, 1) := by decide +kernel
theorem i164_41 : zfetch 164 41 = some (8, .ireturn, 1) := by decide +kernel
theorem i165_0 : zfetch 165 0 = some (8, .iload_n 0, 1) := by decide +kernel
theorem i165_1 : zfetch 165 1 = some (8, .iconst 0, 1) := by decide +kernel
theorem i165_2 : zfetch 165 2 = some (8, .iconst 5, 1) := by decide +kernel
theorem i165_3 : zfetch 165 3 = some (8, .invokestatic 50, 3) := by decide +kernel
theorem i165_6 : zfetch 165 6 = some (8, .ireturn, 1) := by decide +kernel
theorem i166_0 : zfetch 166 0 = some (8, .iload_n 1, 1) := by decide +kernel
theorem i166_1 : zfetch 166 1 = some (8, .invokestatic 203, 3) := by decide +kernel
theorem i166_4 : zfetch 166 4 = some (8, .ifCond .eq 39, 3) := by decide +kernel
theorem i166_7 : zfetch 166 7 = some (8, .iload_n 2, 1) := by decide +kernel
theorem i166_8 : zfetch 166 8 = some (8, .iconst 0, 1) := by decide +kernel
theorem i166_9 : zfetch 166 9 = some (8, .bipush 7, 2) := by decide +kernel
theorem i166_11 : zfetch 166 11 = some (8, .invokestatic 50, 3) := by decide +kernel
theorem i166_14 : zfetch 166 14 = some (8, .ifCond .eq 29, 3) := by decide +kernel
theorem i166_17 : zfetch 166 17 = some (8, .iload_n 3, 1) := by decide +kernel
theorem i166_18 : zfetch 166 18 = some (8, .iconst 0, 1) := by decide +kernel
theorem i166_19 : zfetch 166 19 = some (8, .iconst 1, 1) := by decide +kernel
theorem i166_20 : zfetch 166 20 = some (8, .invokestatic 50, 3) := by decide +kernel
theorem i166_23 : zfetch 166 23 = some (8, .ifCond .eq 20, 3) := by decide +kernel
theorem i166_26 : zfetch 166 26 = some (8, .aload_n 0, 1) := by decide +kernel
theorem i166_27 : zfetch 166 27 = some (8, .bipush 6, 2) := by decide +kernel
theorem i166_29 : zfetch 166 29 = some (8, .iload_n 1, 1) := by decide +kernel
theorem i166_30 : zfetch 166 30 = some (8, .iadd, 1) := by decide +kernel
theorem i166_31 : zfetch 166 31 = some (8, .bipush 10, 2) := by decide +kernel
theorem i166_33 : zfetch 166 33 = some (8, .iload_n 2, 1) := by decide +kernel
theorem i166_34 : zfetch 166 34 = some (8, .imul, 1) := by decide +kernel
theorem i166_35 : zfetch 166 35 = some (8, .iload_n 3, 1) := by decide +kernel
theorem i166_36 : zfetch 166 36 = some (8, .iadd, 1) := by decide +kernel
theorem i166_37 : zfetch 166 37 = some (8, .invokevirtual 200, 3) := by decide +kernel
theorem i166_40 : zfetch 166 40 = some (8, .goto 8, 3) := by decide +kernel
theorem i166_43 : zfetch 166 43 = some (8, .aload_n 0, 1) := by decide +kernel
theorem i166_44 : zfetch 166 44 = some (8, .iconst 1, 1) := by decide +kernel
theorem i166_45 : zfetch 166 45 = some (8, .invokevirtual 58, 3) := by decide +kernel
theorem i166_48 : zfetch 166 48 = some (8, .ireturn, 1) := by decide +kernel
theorem i167_0 : zfetch 167 0 = some (8, .iload_n 1, 1) := by decide +kernel
theorem i167_1 : zfetch 167 1 = some (8, .invokestatic 203, 3) := by decide +kernel
theorem i167_4 : zfetch 167 4 = some (8, .ifCond .eq 15, 3) := by decide +kernel
theorem i167_7 : zfetch 167 7 = some (8, .aload_n 0, 1) := by decide +kernel
theorem i167_8 : zfetch 167 8 = some (8, .getfield 7, 3) := by decide +kernel
theorem i167_11 : zfetch 167 11 = some (8, .bipush 6, 2) := by decide +kernel
theorem i167_13 : zfetch 167 13 = some (8, .iload_n 1, 1) := by decide +kernel
theorem i167_14 : zfetch 167 14 = some (8, .iadd, 1) := by decide +kernel
theorem i167_15 : zfetch 167 15 = some (8, .iaload, 1) := by decide +kernel
theorem i167_16 : zfetch 167 16 = some (8, .goto 8, 3) := by decide +kernel
theorem i167_19 : zfetch 167 19 = some (8, .aload_n 0, 1) := by decide +kernel
theorem i167_20 : zfetch 167 20 = some (8, .iconst 1, 1) := by decide +kernel
theorem i167_21 : zfetch 167 21 = some (8, .invokevirtual 58, 3) := by decide +kernel
theorem i167_24 : zfetch 167 24 = some (8, .ireturn, 1) := by decide +kernel
theorem i168_0 : zfetch 168 0 = some (8, .iload_n 1, 1) := by decide +kernel
theorem i168_1 : zfetch 168 1 = some (8, .iconst 0, 1) := by decide +kernel
theorem i168_2 : zfetch 168 2 = some (8, .iconst 1, 1) := by decide +kernel
theorem i168_3 : zfetch 168 3 = some (8, .invokestatic 50, 3) := by decide +kernel
theorem i168_6 : zfetch 168 6 = some (8, .ifCond .eq 15, 3) := by decide +kernel
theorem i168_9 : zfetch 168 9 = some (8, .aload_n 0, 1) := by decide +kernel
theorem i168_10 : zfetch 168 10 = some (8, .iload_n 1, 1) := by decide +kernel
theorem i168_11 : zfetch 168 11 = some (8, .iload_n 2, 1) := by decide +kernel
theorem i168_12 : zfetch 168 12 = some (8, .iload_n 3, 1) := by decide +kernel
theorem i168_13 : zfetch 168 13 = some (8, .iload 4, 2) := by decide +kernel
theorem i168_15 : zfetch 168 15 = some (8, .invokevirtual 133, 3) := by decide +kernel
theorem i168_18 : zfetch 168 18 = some (8, .goto 8, 3) := by decide +kernel
theorem i168_21 : zfetch 168 21 = some (8, .aload_n 0, 1) := by decide +kernel
theorem i168_22 : zfetch 168 22 = some (8, .iconst 1, 1) := by decide +kernel
theorem i168_23 : zfetch 168 23 = some (8, .invokevirtual 58, 3) := by decide +kernel
theorem i168_26 : zfetch 168 26 = some (8, .ireturn, 1) := by decide +kernel
theorem i169_0 : zfetch 169 0 = some (8, .iload_n 1, 1) := by decide +kernel
theorem i169_1 : zfetch 169 1 = some (8, .iconst 1, 1) := by decide +kernel
theorem i169_2 : zfetch 169 2 = some (8, .bipush 60, 2) := by decide +kernel
theorem i169_4 : zfetch 169 4 = some (8, .invokestatic 50, 3) := by decide +kernel
theorem i169_7 : zfetch 169 7 = some (8, .ifCond .ne 9, 3) := by decide +kernel
theorem i169_10 : zfetch 169 10 = some (8, .aload_n 0, 1) := by decide +kernel
theorem i169_11 : zfetch 169 11 = some (8, .iconst 1, 1) := by decide +kernel
theorem i169_12 : zfetch 169 12 = some (8, .invokevirtual 58, 3) := by decide +kernel
theorem i169_15 : zfetch 169 15 = some (8, .ireturn, 1) := by decide +kernel
theorem i169_16 : zfetch 169 16 = some (8, .aload_n 0, 1) := by decide +kernel
theorem i169_17 : zfetch 169 17 = some (8, .getfield 7, 3) := by decide +kernel
theorem i169_20 : zfetch 169 20 = some (8, .iconst 0, 1) := by decide +kernel
theorem i169_21 : zfetch 169 21 = some (8, .iaload, 1) := by decide +kernel
theorem i169_22 : zfetch 169 22 = some (8, .iload_n 1, 1) := by decide +kernel
theorem i169_23 : zfetch 169 23 = some (8, .iadd, 1) := by decide +kernel
theorem i169_24 : zfetch 169 24 = some (8, .sipush 9999, 3) := by decide +kernel
theorem i169_27 : zfetch 169 27 = some (8, .if_icmp .le 9, 3) := by decide +kernel
theorem i169_30 : zfetch 169 30 = some (8, .aload_n 0, 1) := by decide +kernel
theorem i169_31 : zfetch 169 31 = some (8, .iconst 3, 1) := by decide +kernel
theorem i169_32 : zfetch 169 32 = some (8, .invokevirtual 58, 3) := by decide +kernel
theorem i169_35 : zfetch 169 35 = some (8, .ireturn, 1) := by decide +kernel
theorem i169_36 : zfetch 169 36 = some (8, .aload_n 0, 1) := by decide +kernel
theorem i169_37 : zfetch 169 37 = some (8, .iload_n 1, 1) := by decide +kernel
theorem i169_38 : zfetch 169 38 = some (8, .invokevirtual 206, 3) := by decide +kernel
theorem i169_41 : zfetch 169 41 = some (8, .aload_n 0, 1) := by decide +kernel
theorem i169_42 : zfetch 169 42 = some (8, .getfield 7, 3) := by decide +kernel
theorem i169_45 : zfetch 169 45 = some (8, .iconst 5, 1) := by decide +kernel
theorem i169_46 : zfetch 169 46 = some (8, .iaload, 1) := by decide +kernel
theorem i169_47 : zfetch 169 47 = some (8, .ireturn, 1) := by decide +kernel
theorem i170_0 : zfetch 170 0 = some (8, .aload_n 0, 1) := by decide +kernel
theorem i170_1 : zfetch 170 1 = some (8, .getfield 7, 3) := by decide +kernel
theorem i170_4 : zfetch 170 4 = some (8, .iconst 1, 1) := by decide +kernel
theorem i170_5 : zfetch 170 5 = some (8, .aload_n 0, 1) := by decide +kernel
theorem i170_6 : zfetch 170 6 = some (8, .getfield 7, 3) := by decide +kernel
theorem i170_9 : zfetch 170 9 = some (8, .iconst 1, 1) := by decide +kernel
theorem i170_10 : zfetch 170 10 = some (8, .iaload, 1) := by decide +kernel
theorem i170_11 : zfetch 170 11 = some (8, .ldc 209, 2) := by decide +kernel
theorem i170_13 : zfetch 170 13 = some (8, .imul, 1) := by decide +kernel
theorem i170_14 : zfetch 170 14 = some (8, .sipush 12345, 3) := by decide +kernel
theorem i170_17 : zfetch 170 17 = some (8, .iadd, 1) := by decide +kernel
theorem i170_18 : zfetch 170 18 = some (8, .iastore, 1) := by decide +kernel
theorem i170_19 : zfetch 170 19 = some (8, .aload_n 0, 1) := by decide +kernel
theorem i170_20 : zfetch 170 20 = some (8, .getfield 7, 3) := by decide +kernel
theorem i170_23 : zfetch 170 23 = some (8, .iconst 1, 1) := by decide +kernel
theorem i170_24 : zfetch 170 24 = some (8, .iaload, 1) := by decide +kernel
theorem i170_25 : zfetch 170 25 = some (8, .bipush 8, 2) := by decide +kernel
theorem i170_27 : zfetch 170 27 = some (8, .iushr, 1) := by decide +kernel
theorem i170_28 : zfetch 170 28 = some (8, .ireturn, 1) := by decide +kernel
theorem i171_0 : zfetch 171 0 = some (8, .iload_n 1, 1) := by decide +kernel
theorem i171_1 : zfetch 171 1 = some (8, .iconst 1, 1) := by decide +kernel
theorem i171_2 : zfetch 171 2 = some (8, .bipush 30, 2) := by decide +kernel
theorem i171_4 : zfetch 171 4 = some (8, .invokestatic 50, 3) := by decide +kernel
theorem i171_7 : zfetch 171 7 = some (8, .ifCond .ne 9, 3) := by decide +kernel
theorem i171_10 : zfetch 171 10 = some (8, .aload_n 0, 1) := by decide +kernel
theorem i171_11 : zfetch 171 11 = some (8, .iconst 1, 1) := by decide +kernel
theorem i171_12 : zfetch 171 12 = some (8, .invokevirtual 58, 3) := by decide +kernel
theorem i171_15 : zfetch 171 15 = some (8, .ireturn, 1) := by decide +kernel
theorem i171_16 : zfetch 171 16 = some (8, .aload_n 0, 1) := by decide +kernel
theorem i171_17 : zfetch 171 17 = some (8, .getfield 7, 3) := by decide +kernel
theorem i171_20 : zfetch 171 20 = some (8, .iconst 0, 1) := by decide +kernel
theorem i171_21 : zfetch 171 21 = some (8, .iaload, 1) := by decide +kernel
theorem i171_22 : zfetch 171 22 = some (8, .iload_n 1, 1) := by decide +kernel
theorem i171_23 : zfetch 171 23 = some (8, .iadd, 1) := by decide +kernel
theorem i171_24 : zfetch 171 24 = some (8, .sipush 9999, 3) := by decide +kernel
theorem i171_27 : zfetch 171 27 = some (8, .if_icmp .le 9, 3) := by decide +kernel
theorem i171_30 : zfetch 171 30 = some (8, .aload_n 0, 1) := by decide +kernel
theorem i171_31 : zfetch 171 31 = some (8, .iconst 3, 1) := by decide +kernel
theorem i171_32 : zfetch 171 32 = some (8, .invokevirtual 58, 3) := by decide +kernel
theorem i171_35 : zfetch 171 35 = some (8, .ireturn, 1) := by decide +kernel
theorem i171_36 : zfetch 171 36 = some (8, .iconst 0, 1) := by decide +kernel
theorem i171_37 : zfetch 171 37 = some (8, .istore_n 2, 1) := by decide +kernel
theorem i171_38 : zfetch 171 38 = some (8, .iload_n 2, 1) := by decide +kernel
theorem i171_39 : zfetch 171 39 = some (8, .iload_n 1, 1) := by decide +kernel
theorem i171_40 : zfetch 171 40 = some (8, .if_icmp .ge 49, 3) := by decide +kernel
theorem i171_43 : zfetch 171 43 = some (8, .aload_n 0, 1) := by decide +kernel
theorem i171_44 : zfetch 171 44 = some (8, .invokevirtual 210, 3) := by decide +kernel
theorem i171_47 : zfetch 171 47 = some (8, .bipush 8, 2) := by decide +kernel
theorem i171_49 : zfetch 171 49 = some (8, .irem, 1) := by decide +kernel
theorem i171_50 : zfetch 171 50 = some (8, .istore_n 3, 1) := by decide +kernel
theorem i171_51 : zfetch 171 51 = some (8, .aload_n 0, 1) := by decide +kernel
theorem i171_52 : zfetch 171 52 = some (8, .getfield 7, 3) := by decide +kernel
theorem i171_55 : zfetch 171 55 = some (8, .bipush 6, 2) := by decide +kernel
theorem i171_57 : zfetch 171 57 = some (8, .aload_n 0, 1) := by decide +kernel
theorem i171_58 : zfetch 171 58 = some (8, .getfield 7, 3) := by decide +kernel
theorem i171_61 : zfetch 171 61 = some (8, .iconst 0, 1) := by decide +kernel
theorem i171_62 : zfetch 171 62 = some (8, .iaload, 1) := by decide +kernel
theorem i171_63 : zfetch 171 63 = some (8, .bipush 6, 2) := by decide +kernel
theorem i171_65 : zfetch 171 65 = some (8, .irem, 1) := by decide +kernel
theorem i171_66 : zfetch 171 66 = some (8, .iadd, 1) := by decide +kernel
theorem i171_67 : zfetch 171 67 = some (8, .bipush 10, 2) := by decide +kernel
theorem i171_69 : zfetch 171 69 = some (8, .iload_n 3, 1) := by decide +kernel
theorem i171_70 : zfetch 171 70 = some (8, .imul, 1) := by decide +kernel
theorem i171_71 : zfetch 171 71 = some (8, .aload_n 0, 1) := by decide +kernel
theorem i171_72 : zfetch 171 72 = some (8, .invokevirtual 210, 3) := by decide +kernel
theorem i171_75 : zfetch 171 75 = some (8, .iconst 2, 1) := by decide +kernel
theorem i171_76 : zfetch 171 76 = some (8, .irem, 1) := by decide +kernel
theorem i171_77 : zfetch 171 77 = some (8, .iadd, 1) := by decide +kernel
theorem i171_78 : zfetch 171 78 = some (8, .iastore, 1) := by decide +kernel
theorem i171_79 : zfetch 171 79 = some (8, .aload_n 0, 1) := by decide +kernel
theorem i171_80 : zfetch 171 80 = some (8, .invokevirtual 188, 3) := by decide +kernel
theorem i171_83 : zfetch 171 83 = some (8, .iinc 2 1, 3) := by decide +kernel
theorem i171_86 : zfetch 171 86 = some (8, .goto (-48), 3) := by decide +kernel
theorem i171_89 : zfetch 171 89 = some (8, .aload_n 0, 1) := by decide +kernel
theorem i171_90 : zfetch 171 90 = some (8, .getfield 7, 3) := by decide +kernel
theorem i171_93 : zfetch 171 93 = some (8, .iconst 5, 1) := by decide +kernel
theorem i171_94 : zfetch 171 94 = some (8, .iaload, 1) := by decide +kernel
theorem i171_95 : zfetch 171 95 = some (8, .ireturn, 1) := by decide +kernel
theorem i172_0 : zfetch 172 0 = some (8, .iload_n 1, 1) := by decide +kernel
theorem i172_1 : zfetch 172 1 = some (8, .iconst 0, 1) := by decide +kernel
theorem i172_2 : zfetch 172 2 = some (8, .sipush 9999, 3) := by decide +kernel
theorem i172_5 : zfetch 172 5 = some (8, .invokestatic 50, 3) := by decide +kernel
theorem i172_8 : zfetch 172 8 = some (8, .ifCond .eq 12, 3) := by decide +kernel
theorem i172_11 : zfetch 172 11 = some (8, .aload_n 0, 1) := by decide +kernel
theorem i172_12 : zfetch 172 12 = some (8, .iconst 0, 1) := by decide +kernel
theorem i172_13 : zfetch 172 13 = some (8, .iload_n 1, 1) := by decide +kernel
theorem i172_14 : zfetch 172 14 = some (8, .invokevirtual 200, 3) := by decide +kernel
theorem i172_17 : zfetch 172 17 = some (8, .goto 8, 3) := by decide +kernel
theorem i172_20 : zfetch 172 20 = some (8, .aload_n 0, 1) := by decide +kernel
theorem i172_21 : zfetch 172 21 = some (8, .iconst 1, 1) := by decide +kernel
theorem i172_22 : zfetch 172 22 = some (8, .invokevirtual 58, 3) := by decide +kernel
theorem i172_25 : zfetch 172 25 = some (8, .ireturn, 1) := by decide +kernel
theorem i173_0 : zfetch 173 0 = some (8, .aload_n 0, 1) := by decide +kernel
theorem i173_1 : zfetch 173 1 = some (8, .iconst 1, 1) := by decide +kernel
theorem i173_2 : zfetch 173 2 = some (8, .iload_n 1, 1) := by decide +kernel
theorem i173_3 : zfetch 173 3 = some (8, .invokevirtual 200, 3) := by decide +kernel
theorem i173_6 : zfetch 173 6 = some (8, .ireturn, 1) := by decide +kernel
theorem i174_0 : zfetch 174 0 = some (8, .iconst 0, 1) := by decide +kernel
theorem i174_1 : zfetch 174 1 = some (8, .istore_n 2, 1) := by decide +kernel
theorem i174_2 : zfetch 174 2 = some (8, .iload_n 1, 1) := by decide +kernel
theorem i174_3 : zfetch 174 3 = some (8, .istore_n 3, 1) := by decide +kernel
theorem i174_4 : zfetch 174 4 = some (8, .iload_n 3, 1) := by decide +kernel
theorem i174_5 : zfetch 174 5 = some (8, .ifCond .lt 19, 3) := by decide +kernel
theorem i174_8 : zfetch 174 8 = some (8, .iload_n 2, 1) := by decide +kernel
theorem i174_9 : zfetch 174 9 = some (8, .iconst 1, 1) := by decide +kernel
theorem i174_10 : zfetch 174 10 = some (8, .iload_n 3, 1) := by decide +kernel
theorem i174_11 : zfetch 174 11 = some (8, .ishl, 1) := by decide +kernel
theorem i174_12 : zfetch 174 12 = some (8, .ior, 1) := by decide +kernel
theorem i174_13 : zfetch 174 13 = some (8, .istore_n 2, 1) := by decide +kernel
theorem i174_14 : zfetch 174 14 = some (8, .aload_n 0, 1) := by decide +kernel
theorem i174_15 : zfetch 174 15 = some (8, .iload_n 3, 1) := by decide +kernel
theorem i174_16 : zfetch 174 16 = some (8, .iconst 2, 1) := by decide +kernel
theorem i174_17 : zfetch 174 17 = some (8, .invokevirtual 54, 3) := by decide +kernel
theorem i174_20 : zfetch 174 20 = some (8, .istore_n 3, 1) := by decide +kernel
theorem i174_21 : zfetch 174 21 = some (8, .goto (-17), 3) := by decide +kernel
theorem i174_24 : zfetch 174 24 = some (8, .iload_n 2, 1) := by decide +kernel
theorem i174_25 : zfetch 174 25 = some (8, .ireturn, 1) := by decide +kernel
theorem i175_0 : zfetch 175 0 = some (8, .aload_n 0, 1) := by decide +kernel
theorem i175_1 : zfetch 175 1 = some (8, .iload_n 1, 1) := by decide +kernel
theorem i175_2 : zfetch 175 2 = some (8, .invokevirtual 194, 3) := by decide +kernel
theorem i175_5 : zfetch 175 5 = some (8, .ifCond .eq 11, 3) := by decide +kernel
theorem i175_8 : zfetch 175 8 = some (8, .aload_n 0, 1) := by decide +kernel
theorem i175_9 : zfetch 175 9 = some (8, .iload_n 1, 1) := by decide +kernel
theorem i175_10 : zfetch 175 10 = some (8, .invokevirtual 213, 3) := by decide +kernel
theorem i175_13 : zfetch 175 13 = some (8, .goto 8, 3) := by decide +kernel
theorem i175_16 : zfetch 175 16 = some (8, .aload_n 0, 1) := by decide +kernel
theorem i175_17 : zfetch 175 17 = some (8, .iconst 1, 1) := by decide +kernel
theorem i175_18 : zfetch 175 18 = some (8, .invokevirtual 58, 3) := by decide +kernel
theorem i175_21 : zfetch 175 21 = some (8, .ireturn, 1) := by decide +kernel
theorem i176_0 : zfetch 176 0 = some (8, .iconst 0, 1) := by decide +kernel
theorem i176_1 : zfetch 176 1 = some (8, .istore_n 3, 1) := by decide +kernel
theorem i176_2 : zfetch 176 2 = some (8, .iload_n 1, 1) := by decide +kernel
theorem i176_3 : zfetch 176 3 = some (8, .istore 4, 2) := by decide +kernel
theorem i176_5 : zfetch 176 5 = some (8, .iload_n 2, 1) := by decide +kernel
theorem i176_6 : zfetch 176 6 = some (8, .iload 4, 2) := by decide +kernel
theorem i176_8 : zfetch 176 8 = some (8, .ishr, 1) := by decide +kernel
theorem i176_9 : zfetch 176 9 = some (8, .iconst 1, 1) := by decide +kernel
theorem i176_10 : zfetch 176 10 = some (8, .iand, 1) := by decide +kernel
theorem i176_11 : zfetch 176 11 = some (8, .ifCond .ne 25, 3) := by decide +kernel
theorem i176_14 : zfetch 176 14 = some (8, .iload_n 3, 1) := by decide +kernel
theorem i176_15 : zfetch 176 15 = some (8, .aload_n 0, 1) := by decide +kernel
theorem i176_16 : zfetch 176 16 = some (8, .iload 4, 2) := by decide +kernel
theorem i176_18 : zfetch 176 18 = some (8, .iconst 4, 1) := by decide +kernel
theorem i176_19 : zfetch 176 19 = some (8, .invokevirtual 54, 3) := by decide +kernel
theorem i176_22 : zfetch 176 22 = some (8, .iadd, 1) := by decide +kernel
theorem i176_23 : zfetch 176 23 = some (8, .istore_n 3, 1) := by decide +kernel
theorem i176_24 : zfetch 176 24 = some (8, .aload_n 0, 1) := by decide +kernel
theorem i176_25 : zfetch 176 25 = some (8, .iload 4, 2) := by decide +kernel
theorem i176_27 : zfetch 176 27 = some (8, .iconst 2, 1) := by decide +kernel
theorem i176_28 : zfetch 176 28 = some (8, .invokevirtual 54, 3) := by decide +kernel
theorem i176_31 : zfetch 176 31 = some (8, .istore 4, 2) := by decide +kernel
theorem i176_33 : zfetch 176 33 = some (8, .goto (-28), 3) := by decide +kernel
theorem i176_36 : zfetch 176 36 = some (8, .iload_n 3, 1) := by decide +kernel
theorem i176_37 : zfetch 176 37 = some (8, .ireturn, 1) := by decide +kernel
theorem i177_0 : zfetch 177 0 = some (8, .aload_n 0, 1) := by decide +kernel
theorem i177_1 : zfetch 177 1 = some (8, .iload_n 1, 1) := by decide +kernel
theorem i177_2 : zfetch 177 2 = some (8, .invokevirtual 194, 3) := by decide +kernel
theorem i177_5 : zfetch 177 5 = some (8, .ifCond .eq 11, 3) := by decide +kernel
theorem i177_8 : zfetch 177 8 = some (8, .aload_n 0, 1) := by decide +kernel
theorem i177_9 : zfetch 177 9 = some (8, .iload_n 2, 1) := by decide +kernel
theorem i177_10 : zfetch 177 10 = some (8, .invokevirtual 194, 3) := by decide +kernel
theorem i177_13 : zfetch 177 13 = some (8, .ifCond .ne 9, 3) := by decide +kernel
theorem i177_16 : zfetch 177 16 = some (8, .aload_n 0, 1) := by decide +kernel
theorem i177_17 : zfetch 177 17 = some (8, .iconst 1, 1) := by decide +kernel
theorem i177_18 : zfetch 177 18 = some (8, .invokevirtual 58, 3) := by decide +kernel
theorem i177_21 : zfetch 177 21 = some (8, .ireturn, 1) := by decide +kernel
theorem i177_22 : zfetch 177 22 = some (8, .aload_n 0, 1) := by decide +kernel
theorem i177_23 : zfetch 177 23 = some (8, .iload_n 1, 1) := by decide +kernel
theorem i177_24 : zfetch 177 24 = some (8, .invokevirtual 213, 3) := by decide +kernel
theorem i177_27 : zfetch 177 27 = some (8, .aload_n 0, 1) := by decide +kernel
theorem i177_28 : zfetch 177 28 = some (8, .iload_n 2, 1) := by decide +kernel
theorem i177_29 : zfetch 177 29 = some (8, .invokevirtual 213, 3) := by decide +kernel
theorem i177_32 : zfetch 177 32 = some (8, .iand, 1) := by decide +kernel
theorem i177_33 : zfetch 177 33 = some (8, .istore_n 3, 1) := by decide +kernel
theorem i177_34 : zfetch 177 34 = some (8, .iload_n 3, 1) := by decide +kernel
theorem i177_35 : zfetch 177 35 = some (8, .ifCond .ne 11, 3) := by decide +kernel
theorem i177_38 : zfetch 177 38 = some (8, .aload_n 0, 1) := by decide +kernel
theorem i177_39 : zfetch 177 39 = some (8, .iconst 2, 1) := by decide +kernel
theorem i177_40 : zfetch 177 40 = some (8, .invokevirtual 58, 3) := by decide +kernel
theorem i177_43 : zfetch 177 43 = some (8, .goto 16, 3) := by decide +kernel
theorem i177_46 : zfetch 177 46 = some (8, .aload_n 0, 1) := by decide +kernel
theorem i177_47 : zfetch 177 47 = some (8, .iload_n 1, 1) := by decide +kernel
theorem i177_48 : zfetch 177 48 = some (8, .iload_n 3, 1) := by decide +kernel
theorem i177_49 : zfetch 177 49 = some (8, .invokevirtual 216, 3) := by decide +kernel
theorem i177_52 : zfetch 177 52 = some (8, .aload_n 0, 1) := by decide +kernel
theorem i177_53 : zfetch 177 53 = some (8, .iload_n 2, 1) := by decide +kernel
theorem i177_54 : zfetch 177 54 = some (8, .iload_n 3, 1) := by decide +kernel
theorem i177_55 : zfetch 177 55 = some (8, .invokevirtual 216, 3) := by decide +kernel
theorem i177_58 : zfetch 177 58 = some (8, .iadd, 1) := by decide +kernel
theorem i177_59 : zfetch 177 59 = some (8, .ireturn, 1) := by decide +kernel
theorem i178_0 : zfetch 178 0 = some (8, .aload_n 0, 1) := by decide +kernel
theorem i178_1 : zfetch 178 1 = some (8, .iload_n 1, 1) := by decide +kernel
theorem i178_2 : zfetch 178 2 = some (8, .iconst 3, 1) := by decide +kernel
theorem i178_3 : zfetch 178 3 = some (8, .invokevirtual 54, 3) := by decide +kernel
theorem i178_6 : zfetch 178 6 = some (8, .istore_n 2, 1) := by decide +kernel
theorem i178_7 : zfetch 178 7 = some (8, .aload_n 0, 1) := by decide +kernel
theorem i178_8 : zfetch 178 8 = some (8, .aload_n 0, 1) := by decide +kernel
theorem i178_9 : zfetch 178 9 = some (8, .iload_n 1, 1) := by decide +kernel
theorem i178_10 : zfetch 178 10 = some (8, .iconst 2, 1) := by decide +kernel
theorem i178_11 : zfetch 178 11 = some (8, .invokevirtual 54, 3) := by decide +kernel
theorem i178_14 : zfetch 178 14 = some (8, .iconst 3, 1) := by decide +kernel
theorem i178_15 : zfetch 178 15 = some (8, .invokevirtual 54, 3) := by decide +kernel
theorem i178_18 : zfetch 178 18 = some (8, .istore_n 3, 1) := by decide +kernel
theorem i178_19 : zfetch 178 19 = some (8, .iload_n 2, 1) := by decide +kernel
theorem i178_20 : zfetch 178 20 = some (8, .iload_n 3, 1) := by decide +kernel
theorem i178_21 : zfetch 178 21 = some (8, .if_icmp .ge 7, 3) := by decide +kernel
theorem i178_24 : zfetch 178 24 = some (8, .iload_n 2, 1) := by decide +kernel
theorem i178_25 : zfetch 178 25 = some (8, .goto 4, 3) := by decide +kernel
theorem i178_28 : zfetch 178 28 = some (8, .iload_n 3, 1) := by decide +kernel
theorem i178_29 : zfetch 178 29 = some (8, .ireturn, 1) := by decide +kernel
theorem i179_0 : zfetch 179 0 = some (8, .aload_n 0, 1) := by decide +kernel
theorem i179_1 : zfetch 179 1 = some (8, .iload_n 1, 1) := by decide +kernel
theorem i179_2 : zfetch 179 2 = some (8, .invokevirtual 219, 3) := by decide +kernel
theorem i179_5 : zfetch 179 5 = some (8, .aload_n 0, 1) := by decide +kernel
theorem i179_6 : zfetch 179 6 = some (8, .iload_n 1, 1) := by decide +kernel
theorem i179_7 : zfetch 179 7 = some (8, .invokevirtual 146, 3) := by decide +kernel
theorem i179_10 : zfetch 179 10 = some (8, .iadd, 1) := by decide +kernel
theorem i179_11 : zfetch 179 11 = some (8, .ireturn, 1) := by decide +kernel
theorem i180_0 : zfetch 180 0 = some (8, .iconst 0, 1) := by decide +kernel
theorem i180_1 : zfetch 180 1 = some (8, .istore_n 2, 1) := by decide +kernel
theorem i180_2 : zfetch 180 2 = some (8, .iconst 0, 1) := by decide +kernel
theorem i180_3 : zfetch 180 3 = some (8, .istore_n 3, 1) := by decide +kernel
theorem i180_4 : zfetch 180 4 = some (8, .iload_n 3, 1) := by decide +kernel
theorem i180_5 : zfetch 180 5 = some (8, .aload_n 0, 1) := by decide +kernel
theorem i180_6 : zfetch 180 6 = some (8, .getfield 7, 3) := by decide +kernel
theorem i180_9 : zfetch 180 9 = some (8, .iconst 4, 1) := by decide +kernel
theorem i180_10 : zfetch 180 10 = some (8, .iaload, 1) := by decide +kernel
theorem i180_11 : zfetch 180 11 = some (8, .if_icmp .ge 44, 3) := by decide +kernel
theorem i180_14 : zfetch 180 14 = some (8, .iload_n 2, 1) := by decide +kernel
theorem i180_15 : zfetch 180 15 = some (8, .aload_n 0, 1) := by decide +kernel
theorem i180_16 : zfetch 180 16 = some (8, .iload_n 3, 1) := by decide +kernel
theorem i180_17 : zfetch 180 17 = some (8, .invokevirtual 140, 3) := by decide +kernel
theorem i180_20 : zfetch 180 20 = some (8, .ifCond .eq 26, 3) := by decide +kernel
theorem i180_23 : zfetch 180 23 = some (8, .iload_n 1, 1) := by decide +kernel
theorem i180_24 : zfetch 180 24 = some (8, .aload_n 0, 1) := by decide +kernel
theorem i180_25 : zfetch 180 25 = some (8, .iload_n 3, 1) := by decide +kernel
theorem i180_26 : zfetch 180 26 = some (8, .invokevirtual 219, 3) := by decide +kernel
theorem i180_29 : zfetch 180 29 = some (8, .aload_n 0, 1) := by decide +kernel
theorem i180_30 : zfetch 180 30 = some (8, .iload_n 3, 1) := by decide +kernel
theorem i180_31 : zfetch 180 31 = some (8, .invokevirtual 222, 3) := by decide +kernel
theorem i180_34 : zfetch 180 34 = some (8, .invokestatic 50, 3) := by decide +kernel
theorem i180_37 : zfetch 180 37 = some (8, .ifCond .eq 9, 3) := by decide +kernel
theorem i180_40 : zfetch 180 40 = some (8, .iconst 1, 1) := by decide +kernel
theorem i180_41 : zfetch 180 41 = some (8, .iload_n 3, 1) := by decide +kernel
theorem i180_42 : zfetch 180 42 = some (8, .ishl, 1) := by decide +kernel
theorem i180_43 : zfetch 180 43 = some (8, .goto 4, 3) := by decide +kernel
theorem i180_46 : zfetch 180 46 = some (8, .iconst 0, 1) := by decide +kernel
theorem i180_47 : zfetch 180 47 = some (8, .ior, 1) := by decide +kernel
theorem i180_48 : zfetch 180 48 = some (8, .istore_n 2, 1) := by decide +kernel
theorem i180_49 : zfetch 180 49 = some (8, .iinc 3 1, 3) := by decide +kernel
theorem i180_52 : zfetch 180 52 = some (8, .goto (-48), 3) := by decide +kernel
theorem i180_55 : zfetch 180 55 = some (8, .iload_n 2, 1) := by decide +kernel
theorem i180_56 : zfetch 180 56 = some (8, .ireturn, 1) := by decide +kernel
theorem i181_0 : zfetch 181 0 = some (8, .iconst 0, 1) := by decide +kernel
theorem i181_1 : zfetch 181 1 = some (8, .istore_n 1, 1) := by decide +kernel
theorem i181_2 : zfetch 181 2 = some (8, .iload_n 0, 1) := by decide +kernel
theorem i181_3 : zfetch 181 3 = some (8, .istore_n 2, 1) := by decide +kernel
theorem i181_4 : zfetch 181 4 = some (8, .iload_n 2, 1) := by decide +kernel
theorem i181_5 : zfetch 181 5 = some (8, .ifCond .eq 15, 3) := by decide +kernel
theorem i181_8 : zfetch 181 8 = some (8, .iinc 1 1, 3) := by decide +kernel
theorem i181_11 : zfetch 181 11 = some (8, .iload_n 2, 1) := by decide +kernel
theorem i181_12 : zfetch 181 12 = some (8, .iload_n 2, 1) := by decide +kernel
theorem i181_13 : zfetch 181 13 = some (8, .iconst 1, 1) := by decide +kernel
theorem i181_14 : zfetch 181 14 = some (8, .isub, 1) := by decide +kernel
theorem i181_15 : zfetch 181 15 = some (8, .iand, 1) := by decide +kernel
theorem i181_16 : zfetch 181 16 = some (8, .istore_n 2, 1) := by decide +kernel
theorem i181_17 : zfetch 181 17 = some (8, .goto (-13), 3) := by decide +kernel
theorem i181_20 : zfetch 181 20 = some (8, .iload_n 1, 1) := by decide +kernel
theorem i181_21 : zfetch 181 21 = some (8, .ireturn, 1) := by decide +kernel
theorem i182_0 : zfetch 182 0 = some (8, .iload_n 1, 1) := by decide +kernel
theorem i182_1 : zfetch 182 1 = some (8, .invokestatic 172, 3) := by decide +kernel
theorem i182_4 : zfetch 182 4 = some (8, .ifCond .eq 11, 3) := by decide +kernel
theorem i182_7 : zfetch 182 7 = some (8, .aload_n 0, 1) := by decide +kernel
theorem i182_8 : zfetch 182 8 = some (8, .iload_n 1, 1) := by decide +kernel
theorem i182_9 : zfetch 182 9 = some (8, .invokevirtual 225, 3) := by decide +kernel
theorem i182_12 : zfetch 182 12 = some (8, .goto 8, 3) := by decide +kernel
theorem i182_15 : zfetch 182 15 = some (8, .aload_n 0, 1) := by decide +kernel
theorem i182_16 : zfetch 182 16 = some (8, .iconst 1, 1) := by decide +kernel
theorem i182_17 : zfetch 182 17 = some (8, .invokevirtual 58, 3) := by decide +kernel
theorem i182_20 : zfetch 182 20 = some (8, .ireturn, 1) := by decide +kernel
theorem i183_0 : zfetch 183 0 = some (8, .iload_n 1, 1) := by decide +kernel
theorem i183_1 : zfetch 183 1 = some (8, .iconst 0, 1) := by decide +kernel
theorem i183_2 : zfetch 183 2 = some (8, .iconst 1, 1) := by decide +kernel
theorem i183_3 : zfetch 183 3 = some (8, .invokestatic 50, 3) := by decide +kernel
theorem i183_6 : zfetch 183 6 = some (8, .ifCond .ne 9, 3) := by decide +kernel
theorem i183_9 : zfetch 183 9 = some (8, .aload_n 0, 1) := by decide +kernel
theorem i183_10 : zfetch 183 10 = some (8, .iconst 1, 1) := by decide +kernel
theorem i183_11 : zfetch 183 11 = some (8, .invokevirtual 58, 3) := by decide +kernel
theorem i183_14 : zfetch 183 14 = some (8, .ireturn, 1) := by decide +kernel
theorem i183_15 : zfetch 183 15 = some (8, .iconst 0, 1) := by decide +kernel
theorem i183_16 : zfetch 183 16 = some (8, .istore_n 2, 1) := by decide +kernel
theorem i183_17 : zfetch 183 17 = some (8, .iconst 0, 1) := by decide +kernel
theorem i183_18 : zfetch 183 18 = some (8, .istore_n 3, 1) := by decide +kernel
theorem i183_19 : zfetch 183 19 = some (8, .iconst 0, 1) := by decide +kernel
theorem i183_20 : zfetch 183 20 = some (8, .istore 4, 2) := by decide +kernel
theorem i183_22 : zfetch 183 22 = some (8, .iload 4, 2) := by decide +kernel
theorem i183_24 : zfetch 183 24 = some (8, .bipush 64, 2) := by decide +kernel
theorem i183_26 : zfetch 183 26 = some (8, .if_icmp .ge 46, 3) := by decide +kernel
theorem i183_29 : zfetch 183 29 = some (8, .aload_n 0, 1) := by decide +kernel
theorem i183_30 : zfetch 183 30 = some (8, .iload 4, 2) := by decide +kernel
theorem i183_32 : zfetch 183 32 = some (8, .invokevirtual 225, 3) := by decide +kernel
theorem i183_35 : zfetch 183 35 = some (8, .invokestatic 228, 3) := by decide +kernel
theorem i183_38 : zfetch 183 38 = some (8, .istore 5, 2) := by decide +kernel
theorem i183_40 : zfetch 183 40 = some (8, .iload 5, 2) := by decide +kernel
theorem i183_42 : zfetch 183 42 = some (8, .iload_n 3, 1) := by decide +kernel
theorem i183_43 : zfetch 183 43 = some (8, .if_icmp .le 8, 3) := by decide +kernel
theorem i183_46 : zfetch 183 46 = some (8, .iload 4, 2) := by decide +kernel
theorem i183_48 : zfetch 183 48 = some (8, .goto 4, 3) := by decide +kernel
theorem i183_51 : zfetch 183 51 = some (8, .iload_n 2, 1) := by decide +kernel
theorem i183_52 : zfetch 183 52 = some (8, .istore_n 2, 1) := by decide +kernel
theorem i183_53 : zfetch 183 53 = some (8, .iload 5, 2) := by decide +kernel
theorem i183_55 : zfetch 183 55 = some (8, .iload_n 3, 1) := by decide +kernel
theorem i183_56 : zfetch 183 56 = some (8, .if_icmp .le 8, 3) := by decide +kernel
theorem i183_59 : zfetch 183 59 = some (8, .iload 5, 2) := by decide +kernel
theorem i183_61 : zfetch 183 61 = some (8, .goto 4, 3) := by decide +kernel
theorem i183_64 : zfetch 183 64 = some (8, .iload_n 3, 1) := by decide +kernel
theorem i183_65 : zfetch 183 65 = some (8, .istore_n 3, 1) := by decide +kernel
theorem i183_66 : zfetch 183 66 = some (8, .iinc 4 1, 3) := by decide +kernel
theorem i183_69 : zfetch 183 69 = some (8, .goto (-47), 3) := by decide +kernel
theorem i183_72 : zfetch 183 72 = some (8, .iload_n 1, 1) := by decide +kernel
theorem i183_73 : zfetch 183 73 = some (8, .ifCond .ne 7, 3) := by decide +kernel
theorem i183_76 : zfetch 183 76 = some (8, .iload_n 2, 1) := by decide +kernel
theorem i183_77 : zfetch 183 77 = some (8, .goto 4, 3) := by decide +kernel
theorem i183_80 : zfetch 183 80 = some (8, .iload_n 3, 1) := by decide +kernel
theorem i183_81 : zfetch 183 81 = some (8, .ireturn, 1) := by decide +kernel
theorem i184_0 : zfetch 184 0 = some (8, .aload_n 0, 1) := by decide +kernel
theorem i184_1 : zfetch 184 1 = some (8, .iload_n 1, 1) := by decide +kernel
theorem i184_2 : zfetch 184 2 = some (8, .invokevirtual 219, 3) := by decide +kernel
theorem i184_5 : zfetch 184 5 = some (8, .aload_n 0, 1) := by decide +kernel
theorem i184_6 : zfetch 184 6 = some (8, .iload_n 2, 1) := by decide +kernel
theorem i184_7 : zfetch 184 7 = some (8, .invokevirtual 219, 3) := by decide +kernel
theorem i184_10 : zfetch 184 10 = some (8, .if_icmp .ge 33, 3) := by decide +kernel
theorem i184_13 : zfetch 184 13 = some (8, .aload_n 0, 1) := by decide +kernel
theorem i184_14 : zfetch 184 14 = some (8, .iload_n 2, 1) := by decide +kernel
theorem i184_15 : zfetch 184 15 = some (8, .invokevirtual 219, 3) := by decide +kernel
theorem i184_18 : zfetch 184 18 = some (8, .aload_n 0, 1) := by decide +kernel
theorem i184_19 : zfetch 184 19 = some (8, .iload_n 1, 1) := by decide +kernel
theorem i184_20 : zfetch 184 20 = some (8, .invokevirtual 222, 3) := by decide +kernel
theorem i184_23 : zfetch 184 23 = some (8, .if_icmp .ge 20, 3) := by decide +kernel
theorem i184_26 : zfetch 184 26 = some (8, .aload_n 0, 1) := by decide +kernel
theorem i184_27 : zfetch 184 27 = some (8, .iload_n 1, 1) := by decide +kernel
theorem i184_28 : zfetch 184 28 = some (8, .invokevirtual 222, 3) := by decide +kernel
theorem i184_31 : zfetch 184 31 = some (8, .aload_n 0, 1) := by decide +kernel
theorem i184_32 : zfetch 184 32 = some (8, .iload_n 2, 1) := by decide +kernel
theorem i184_33 : zfetch 184 33 = some (8, .invokevirtual 222, 3) := by decide +kernel
theorem i184_36 : zfetch 184 36 = some (8, .if_icmp .ge 7, 3) := by decide +kernel
theorem i184_39 : zfetch 184 39 = some (8, .iconst 1, 1) := by decide +kernel
theorem i184_40 : zfetch 184 40 = some (8, .goto 4, 3) := by decide +kernel
theorem i184_43 : zfetch 184 43 = some (8, .iconst 0, 1) := by decide +kernel
theorem i184_44 : zfetch 184 44 = some (8, .ireturn, 1) := by decide +kernel
theorem i185_0 : zfetch 185 0 = some (8, .iconst 0, 1) := by decide +kernel
theorem i185_1 : zfetch 185 1 = some (8, .istore_n 1, 1) := by decide +kernel
theorem i185_2 : zfetch 185 2 = some (8, .iconst 0, 1) := by decide +kernel
theorem i185_3 : zfetch 185 3 = some (8, .istore_n 2, 1) := by decide +kernel
theorem i185_4 : zfetch 185 4 = some (8, .iload_n 2, 1) := by decide +kernel
theorem i185_5 : zfetch 185 5 = some (8, .aload_n 0, 1) := by decide +kernel
theorem i185_6 : zfetch 185 6 = some (8, .getfield 7, 3) := by decide +kernel
theorem i185_9 : zfetch 185 9 = some (8, .iconst 4, 1) := by decide +kernel
theorem i185_10 : zfetch 185 10 = some (8, .iaload, 1) := by decide +kernel
theorem i185_11 : zfetch 185 11 = some (8, .if_icmp .ge 60, 3) := by decide +kernel
theorem i185_14 : zfetch 185 14 = some (8, .iconst 0, 1) := by decide +kernel
theorem i185_15 : zfetch 185 15 = some (8, .istore_n 3, 1) := by decide +kernel
theorem i185_16 : zfetch 185 16 = some (8, .iload_n 3, 1) := by decide +kernel
theorem i185_17 : zfetch 185 17 = some (8, .aload_n 0, 1) := by decide +kernel
theorem i185_18 : zfetch 185 18 = some (8, .getfield 7, 3) := by decide +kernel
theorem i185_21 : zfetch 185 21 = some (8, .iconst 4, 1) := by decide +kernel
theorem i185_22 : zfetch 185 22 = some (8, .iaload, 1) := by decide +kernel
theorem i185_23 : zfetch 185 23 = some (8, .if_icmp .ge 42, 3) := by decide +kernel
theorem i185_26 : zfetch 185 26 = some (8, .iload_n 1, 1) := by decide +kernel
theorem i185_27 : zfetch 185 27 = some (8, .aload_n 0, 1) := by decide +kernel
theorem i185_28 : zfetch 185 28 = some (8, .iload_n 2, 1) := by decide +kernel
theorem i185_29 : zfetch 185 29 = some (8, .invokevirtual 140, 3) := by decide +kernel
theorem i185_32 : zfetch 185 32 = some (8, .ifCond .eq 24, 3) := by decide +kernel
theorem i185_35 : zfetch 185 35 = some (8, .aload_n 0, 1) := by decide +kernel
theorem i185_36 : zfetch 185 36 = some (8, .iload_n 3, 1) := by decide +kernel
theorem i185_37 : zfetch 185 37 = some (8, .invokevirtual 140, 3) := by decide +kernel
theorem i185_40 : zfetch 185 40 = some (8, .ifCond .eq 16, 3) := by decide +kernel
theorem i185_43 : zfetch 185 43 = some (8, .aload_n 0, 1) := by decide +kernel
theorem i185_44 : zfetch 185 44 = some (8, .iload_n 2, 1) := by decide +kernel
theorem i185_45 : zfetch 185 45 = some (8, .iload_n 3, 1) := by decide +kernel
theorem i185_46 : zfetch 185 46 = some (8, .invokevirtual 231, 3) := by decide +kernel
theorem i185_49 : zfetch 185 49 = some (8, .ifCond .eq 7, 3) := by decide +kernel
theorem i185_52 : zfetch 185 52 = some (8, .iconst 1, 1) := by decide +kernel
theorem i185_53 : zfetch 185 53 = some (8, .goto 4, 3) := by decide +kernel
theorem i185_56 : zfetch 185 56 = some (8, .iconst 0, 1) := by decide +kernel
theorem i185_57 : zfetch 185 57 = some (8, .iadd, 1) := by decide +kernel
theorem i185_58 : zfetch 185 58 = some (8, .istore_n 1, 1) := by decide +kernel
theorem i185_59 : zfetch 185 59 = some (8, .iinc 3 1, 3) := by decide +kernel
theorem i185_62 : zfetch 185 62 = some (8, .goto (-46), 3) := by decide +kernel
theorem i185_65 : zfetch 185 65 = some (8, .iinc 2 1, 3) := by decide +kernel
theorem i185_68 : zfetch 185 68 = some (8, .goto (-64), 3) := by decide +kernel
theorem i185_71 : zfetch 185 71 = some (8, .iload_n 1, 1) := by decide +kernel
theorem i185_72 : zfetch 185 72 = some (8, .ireturn, 1) := by decide +kernel
theorem i186_0 : zfetch 186 0 = some (8, .aload_n 0, 1) := by decide +kernel
theorem i186_1 : zfetch 186 1 = some (8, .iload_n 1, 1) := by decide +kernel
theorem i186_2 : zfetch 186 2 = some (8, .invokevirtual 194, 3) := by decide +kernel
theorem i186_5 : zfetch 186 5 = some (8, .ifCond .eq 13, 3) := by decide +kernel
theorem i186_8 : zfetch 186 8 = some (8, .iload_n 2, 1) := by decide +kernel
theorem i186_9 : zfetch 186 9 = some (8, .iconst 0, 1) := by decide +kernel
theorem i186_10 : zfetch 186 10 = some (8, .bipush 60, 2) := by decide +kernel
theorem i186_12 : zfetch 186 12 = some (8, .invokestatic 50, 3) := by decide +kernel
theorem i186_15 : zfetch 186 15 = some (8, .ifCond .ne 9, 3) := by decide +kernel
theorem i186_18 : zfetch 186 18 = some (8, .aload_n 0, 1) := by decide +kernel
theorem i186_19 : zfetch 186 19 = some (8, .iconst 1, 1) := by decide +kernel
theorem i186_20 : zfetch 186 20 = some (8, .invokevirtual 58, 3) := by decide +kernel
theorem i186_23 : zfetch 186 23 = some (8, .ireturn, 1) := by decide +kernel
theorem i186_24 : zfetch 186 24 = some (8, .aload_n 0, 1) := by decide +kernel
theorem i186_25 : zfetch 186 25 = some (8, .invokevirtual 234, 3) := by decide +kernel
theorem i186_28 : zfetch 186 28 = some (8, .aload_n 0, 1) := by decide +kernel
theorem i186_29 : zfetch 186 29 = some (8, .iload_n 2, 1) := by decide +kernel
theorem i186_30 : zfetch 186 30 = some (8, .invokevirtual 206, 3) := by decide +kernel
theorem i186_33 : zfetch 186 33 = some (8, .aload_n 0, 1) := by decide +kernel
theorem i186_34 : zfetch 186 34 = some (8, .iload_n 1, 1) := by decide +kernel
theorem i186_35 : zfetch 186 35 = some (8, .iconst 3, 1) := by decide +kernel
theorem i186_36 : zfetch 186 36 = some (8, .invokevirtual 54, 3) := by decide +kernel
theorem i186_39 : zfetch 186 39 = some (8, .istore_n 3, 1) := by decide +kernel
theorem i186_40 : zfetch 186 40 = some (8, .aload_n 0, 1) := by decide +kernel
theorem i186_41 : zfetch 186 41 = some (8, .invokevirtual 237, 3) := by decide +kernel
theorem i186_44 : zfetch 186 44 = some (8, .iload_n 3, 1) := by decide +kernel
theorem i186_45 : zfetch 186 45 = some (8, .ireturn, 1) := by decide +kernel
theorem i187_0 : zfetch 187 0 = some (8, .iload_n 1, 1) := by decide +kernel
theorem i187_1 : zfetch 187 1 = some (8, .iconst 0, 1) := by decide +kernel
theorem i187_2 : zfetch 187 2 = some (8, .bipush 60, 2) := by decide +kernel
theorem i187_4 : zfetch 187 4 = some (8, .invokestatic 50, 3) := by decide +kernel
theorem i187_7 : zfetch 187 7 = some (8, .ifCond .ne 9, 3) := by decide +kernel
theorem i187_10 : zfetch 187 10 = some (8, .aload_n 0, 1) := by decide +kernel
theorem i187_11 : zfetch 187 11 = some (8, .iconst 1, 1) := by decide +kernel
theorem i187_12 : zfetch 187 12 = some (8, .invokevirtual 58, 3) := by decide +kernel
theorem i187_15 : zfetch 187 15 = some (8, .ireturn, 1) := by decide +kernel
theorem i187_16 : zfetch 187 16 = some (8, .aload_n 0, 1) := by decide +kernel
theorem i187_17 : zfetch 187 17 = some (8, .invokevirtual 234, 3) := by decide +kernel
theorem i187_20 : zfetch 187 20 = some (8, .aload_n 0, 1) := by decide +kernel
theorem i187_21 : zfetch 187 21 = some (8, .iload_n 1, 1) := by decide +kernel
theorem i187_22 : zfetch 187 22 = some (8, .invokevirtual 206, 3) := by decide +kernel
theorem i187_25 : zfetch 187 25 = some (8, .aload_n 0, 1) := by decide +kernel
theorem i187_26 : zfetch 187 26 = some (8, .invokevirtual 240, 3) := by decide +kernel
theorem i187_29 : zfetch 187 29 = some (8, .istore_n 2, 1) := by decide +kernel
theorem i187_30 : zfetch 187 30 = some (8, .aload_n 0, 1) := by decide +kernel
theorem i187_31 : zfetch 187 31 = some (8, .invokevirtual 237, 3) := by decide +kernel
theorem i187_34 : zfetch 187 34 = some (8, .iload_n 2, 1) := by decide +kernel
theorem i187_35 : zfetch 187 35 = some (8, .ireturn, 1) := by decide +kernel
theorem i188_0 : zfetch 188 0 = some (8, .aload_n 0, 1) := by decide +kernel
theorem i188_1 : zfetch 188 1 = some (8, .iload_n 1, 1) := by decide +kernel
theorem i188_2 : zfetch 188 2 = some (8, .invokevirtual 194, 3) := by decide +kernel
theorem i188_5 : zfetch 188 5 = some (8, .ifCond .eq 10, 3) := by decide +kernel
theorem i188_8 : zfetch 188 8 = some (8, .iload_n 2, 1) := by decide +kernel
theorem i188_9 : zfetch 188 9 = some (8, .invokestatic 172, 3) := by decide +kernel
theorem i188_12 : zfetch 188 12 = some (8, .ifCond .ne 9, 3) := by decide +kernel
theorem i188_15 : zfetch 188 15 = some (8, .aload_n 0, 1) := by decide +kernel
theorem i188_16 : zfetch 188 16 = some (8, .iconst 1, 1) := by decide +kernel
theorem i188_17 : zfetch 188 17 = some (8, .invokevirtual 58, 3) := by decide +kernel
theorem i188_20 : zfetch 188 20 = some (8, .ireturn, 1) := by decide +kernel
theorem i188_21 : zfetch 188 21 = some (8, .aload_n 0, 1) := by decide +kernel
theorem i188_22 : zfetch 188 22 = some (8, .invokevirtual 234, 3) := by decide +kernel
theorem i188_25 : zfetch 188 25 = some (8, .iconst 0, 1) := by decide +kernel
theorem i188_26 : zfetch 188 26 = some (8, .istore_n 3, 1) := by decide +kernel
theorem i188_27 : zfetch 188 27 = some (8, .iload_n 3, 1) := by decide +kernel
theorem i188_28 : zfetch 188 28 = some (8, .bipush 60, 2) := by decide +kernel
theorem i188_30 : zfetch 188 30 = some (8, .if_icmp .gt 23, 3) := by decide +kernel
theorem i188_33 : zfetch 188 33 = some (8, .aload_n 0, 1) := by decide +kernel
theorem i188_34 : zfetch 188 34 = some (8, .iload_n 1, 1) := by decide +kernel
theorem i188_35 : zfetch 188 35 = some (8, .iconst 3, 1) := by decide +kernel
theorem i188_36 : zfetch 188 36 = some (8, .invokevirtual 54, 3) := by decide +kernel
theorem i188_39 : zfetch 188 39 = some (8, .iload_n 2, 1) := by decide +kernel
theorem i188_40 : zfetch 188 40 = some (8, .if_icmp .eq 13, 3) := by decide +kernel
theorem i188_43 : zfetch 188 43 = some (8, .aload_n 0, 1) := by decide +kernel
theorem i188_44 : zfetch 188 44 = some (8, .invokevirtual 188, 3) := by decide +kernel
theorem i188_47 : zfetch 188 47 = some (8, .iinc 3 1, 3) := by decide +kernel
theorem i188_50 : zfetch 188 50 = some (8, .goto (-23), 3) := by decide +kernel
theorem i188_53 : zfetch 188 53 = some (8, .aload_n 0, 1) := by decide +kernel
theorem i188_54 : zfetch 188 54 = some (8, .invokevirtual 237, 3) := by decide +kernel
theorem i188_57 : zfetch 188 57 = some (8, .iload_n 3, 1) := by decide +kernel
theorem i188_58 : zfetch 188 58 = some (8, .bipush 60, 2) := by decide +kernel
theorem i188_60 : zfetch 188 60 = some (8, .if_icmp .le 11, 3) := by decide +kernel
theorem i188_63 : zfetch 188 63 = some (8, .aload_n 0, 1) := by decide +kernel
theorem i188_64 : zfetch 188 64 = some (8, .iconst 2, 1) := by decide +kernel
theorem i188_65 : zfetch 188 65 = some (8, .invokevirtual 58, 3) := by decide +kernel
theorem i188_68 : zfetch 188 68 = some (8, .goto 4, 3) := by decide +kernel
theorem i188_71 : zfetch 188 71 = some (8, .iload_n 3, 1) := by decide +kernel
theorem i188_72 : zfetch 188 72 = some (8, .ireturn, 1) := by decide +kernel
theorem i189_0 : zfetch 189 0 = some (8, .aload_n 0, 1) := by decide +kernel
theorem i189_1 : zfetch 189 1 = some (8, .iload_n 1, 1) := by decide +kernel
theorem i189_2 : zfetch 189 2 = some (8, .iconst 5, 1) := by decide +kernel
theorem i189_3 : zfetch 189 3 = some (8, .iload_n 2, 1) := by decide +kernel
theorem i189_4 : zfetch 189 4 = some (8, .invokevirtual 149, 3) := by decide +kernel
theorem i189_7 : zfetch 189 7 = some (8, .aload_n 0, 1) := by decide +kernel
theorem i189_8 : zfetch 189 8 = some (8, .iload_n 3, 1) := by decide +kernel
theorem i189_9 : zfetch 189 9 = some (8, .invokevirtual 206, 3) := by decide +kernel
theorem i189_12 : zfetch 189 12 = some (8, .aload_n 0, 1) := by decide +kernel
theorem i189_13 : zfetch 189 13 = some (8, .iload_n 1, 1) := by decide +kernel
theorem i189_14 : zfetch 189 14 = some (8, .invokevirtual 140, 3) := by decide +kernel
theorem i189_17 : zfetch 189 17 = some (8, .istore 4, 2) := by decide +kernel
theorem i189_19 : zfetch 189 19 = some (8, .aload_n 0, 1) := by decide +kernel
theorem i189_20 : zfetch 189 20 = some (8, .invokevirtual 237, 3) := by decide +kernel
theorem i189_23 : zfetch 189 23 = some (8, .iload 4, 2) := by decide +kernel
theorem i189_25 : zfetch 189 25 = some (8, .ireturn, 1) := by decide +kernel
theorem i190_0 : zfetch 190 0 = some (8, .aload_n 0, 1) := by decide +kernel
theorem i190_1 : zfetch 190 1 = some (8, .iload_n 1, 1) := by decide +kernel
theorem i190_2 : zfetch 190 2 = some (8, .invokevirtual 194, 3) := by decide +kernel
theorem i190_5 : zfetch 190 5 = some (8, .ifCond .eq 13, 3) := by decide +kernel
theorem i190_8 : zfetch 190 8 = some (8, .iload_n 2, 1) := by decide +kernel
theorem i190_9 : zfetch 190 9 = some (8, .iconst 0, 1) := by decide +kernel
theorem i190_10 : zfetch 190 10 = some (8, .bipush 40, 2) := by decide +kernel
theorem i190_12 : zfetch 190 12 = some (8, .invokestatic 50, 3) := by decide +kernel
theorem i190_15 : zfetch 190 15 = some (8, .ifCond .ne 9, 3) := by decide +kernel
theorem i190_18 : zfetch 190 18 = some (8, .aload_n 0, 1) := by decide +kernel
theorem i190_19 : zfetch 190 19 = some (8, .iconst 1, 1) := by decide +kernel
theorem i190_20 : zfetch 190 20 = some (8, .invokevirtual 58, 3) := by decide +kernel
theorem i190_23 : zfetch 190 23 = some (8, .ireturn, 1) := by decide +kernel
theorem i190_24 : zfetch 190 24 = some (8, .aload_n 0, 1) := by decide +kernel
theorem i190_25 : zfetch 190 25 = some (8, .iload_n 1, 1) := by decide +kernel
theorem i190_26 : zfetch 190 26 = some (8, .invokevirtual 140, 3) := by decide +kernel
theorem i190_29 : zfetch 190 29 = some (8, .ifCond .ne 9, 3) := by decide +kernel
theorem i190_32 : zfetch 190 32 = some (8, .aload_n 0, 1) := by decide +kernel
theorem i190_33 : zfetch 190 33 = some (8, .iconst 3, 1) := by decide +kernel
theorem i190_34 : zfetch 190 34 = some (8, .invokevirtual 58, 3) := by decide +kernel
theorem i190_37 : zfetch 190 37 = some (8, .ireturn, 1) := by decide +kernel
theorem i190_38 : zfetch 190 38 = some (8, .aload_n 0, 1) := by decide +kernel
theorem i190_39 : zfetch 190 39 = some (8, .invokevirtual 234, 3) := by decide +kernel
theorem i190_42 : zfetch 190 42 = some (8, .iconst 0, 1) := by decide +kernel
theorem i190_43 : zfetch 190 43 = some (8, .istore_n 3, 1) := by decide +kernel
theorem i190_44 : zfetch 190 44 = some (8, .iload_n 3, 1) := by decide +kernel
theorem i190_45 : zfetch 190 45 = some (8, .bipush 99, 2) := by decide +kernel
theorem i190_47 : zfetch 190 47 = some (8, .if_icmp .gt 21, 3) := by decide +kernel
theorem i190_50 : zfetch 190 50 = some (8, .aload_n 0, 1) := by decide +kernel
theorem i190_51 : zfetch 190 51 = some (8, .iload_n 1, 1) := by decide +kernel
theorem i190_52 : zfetch 190 52 = some (8, .iload_n 3, 1) := by decide +kernel
theorem i190_53 : zfetch 190 53 = some (8, .iload_n 2, 1) := by decide +kernel
theorem i190_54 : zfetch 190 54 = some (8, .invokevirtual 243, 3) := by decide +kernel
theorem i190_57 : zfetch 190 57 = some (8, .ifCond .eq 5, 3) := by decide +kernel
theorem i190_60 : zfetch 190 60 = some (8, .iload_n 3, 1) := by decide +kernel
theorem i190_61 : zfetch 190 61 = some (8, .ireturn, 1) := by decide +kernel
theorem i190_62 : zfetch 190 62 = some (8, .iinc 3 1, 3) := by decide +kernel
theorem i190_65 : zfetch 190 65 = some (8, .goto (-21), 3) := by decide +kernel
theorem i190_68 : zfetch 190 68 = some (8, .aload_n 0, 1) := by decide +kernel
theorem i190_69 : zfetch 190 69 = some (8, .iconst 2, 1) := by decide +kernel
theorem i190_70 : zfetch 190 70 = some (8, .invokevirtual 58, 3) := by decide +kernel
theorem i190_73 : zfetch 190 73 = some (8, .ireturn, 1) := by decide +kernel
theorem i191_0 : zfetch 191 0 = some (8, .aload_n 0, 1) := by decide +kernel
theorem i191_1 : zfetch 191 1 = some (8, .iload_n 1, 1) := by decide +kernel
theorem i191_2 : zfetch 191 2 = some (8, .iconst 3, 1) := by decide +kernel
theorem i191_3 : zfetch 191 3 = some (8, .invokevirtual 54, 3) := by decide +kernel
theorem i191_6 : zfetch 191 6 = some (8, .istore 4, 2) := by decide +kernel
theorem i191_8 : zfetch 191 8 = some (8, .iconst 0, 1) := by decide +kernel
theorem i191_9 : zfetch 191 9 = some (8, .istore 5, 2) := by decide +kernel
theorem i191_11 : zfetch 191 11 = some (8, .iload 5, 2) := by decide +kernel
theorem i191_13 : zfetch 191 13 = some (8, .aload_n 0, 1) := by decide +kernel
theorem i191_14 : zfetch 191 14 = some (8, .getfield 7, 3) := by decide +kernel
theorem i191_17 : zfetch 191 17 = some (8, .iconst 4, 1) := by decide +kernel
theorem i191_18 : zfetch 191 18 = some (8, .iaload, 1) := by decide +kernel
theorem i191_19 : zfetch 191 19 = some (8, .if_icmp .ge 25, 3) := by decide +kernel
theorem i191_22 : zfetch 191 22 = some (8, .iload_n 2, 1) := by decide +kernel
theorem i191_23 : zfetch 191 23 = some (8, .iload 5, 2) := by decide +kernel
theorem i191_25 : zfetch 191 25 = some (8, .ishr, 1) := by decide +kernel
theorem i191_26 : zfetch 191 26 = some (8, .iconst 1, 1) := by decide +kernel
theorem i191_27 : zfetch 191 27 = some (8, .iand, 1) := by decide +kernel
theorem i191_28 : zfetch 191 28 = some (8, .iconst 1, 1) := by decide +kernel
theorem i191_29 : zfetch 191 29 = some (8, .if_icmp .ne 9, 3) := by decide +kernel
theorem i191_32 : zfetch 191 32 = some (8, .aload_n 0, 1) := by decide +kernel
theorem i191_33 : zfetch 191 33 = some (8, .iload 5, 2) := by decide +kernel
theorem i191_35 : zfetch 191 35 = some (8, .invokevirtual 153, 3) := by decide +kernel
theorem i191_38 : zfetch 191 38 = some (8, .iinc 5 1, 3) := by decide +kernel
theorem i191_41 : zfetch 191 41 = some (8, .goto (-30), 3) := by decide +kernel
theorem i191_44 : zfetch 191 44 = some (8, .aload_n 0, 1) := by decide +kernel
theorem i191_45 : zfetch 191 45 = some (8, .iload_n 3, 1) := by decide +kernel
theorem i191_46 : zfetch 191 46 = some (8, .invokevirtual 206, 3) := by decide +kernel
theorem i191_49 : zfetch 191 49 = some (8, .aload_n 0, 1) := by decide +kernel
theorem i191_50 : zfetch 191 50 = some (8, .iload_n 1, 1) := by decide +kernel
theorem i191_51 : zfetch 191 51 = some (8, .iconst 3, 1) := by decide +kernel
theorem i191_52 : zfetch 191 52 = some (8, .invokevirtual 54, 3) := by decide +kernel
theorem i191_55 : zfetch 191 55 = some (8, .iload 4, 2) := by decide +kernel
theorem i191_57 : zfetch 191 57 = some (8, .if_icmp .ne 7, 3) := by decide +kernel
theorem i191_60 : zfetch 191 60 = some (8, .iconst 1, 1) := by decide +kernel
theorem i191_61 : zfetch 191 61 = some (8, .goto 4, 3) := by decide +kernel
theorem i191_64 : zfetch 191 64 = some (8, .iconst 0, 1) := by decide +kernel
theorem i191_65 : zfetch 191 65 = some (8, .istore 5, 2) := by decide +kernel
theorem i191_67 : zfetch 191 67 = some (8, .aload_n 0, 1) := by decide +kernel
theorem i191_68 : zfetch 191 68 = some (8, .invokevirtual 237, 3) := by decide +kernel
theorem i191_71 : zfetch 191 71 = some (8, .iload 5, 2) := by decide +kernel
theorem i191_73 : zfetch 191 73 = some (8, .ireturn, 1) := by decide +kernel
theorem i192_0 : zfetch 192 0 = some (8, .aload_n 0, 1) := by decide +kernel
theorem i192_1 : zfetch 192 1 = some (8, .iload_n 1, 1) := by decide +kernel
theorem i192_2 : zfetch 192 2 = some (8, .invokevirtual 194, 3) := by decide +kernel
theorem i192_5 : zfetch 192 5 = some (8, .ifCond .eq 13, 3) := by decide +kernel
theorem i192_8 : zfetch 192 8 = some (8, .iload_n 2, 1) := by decide +kernel
theorem i192_9 : zfetch 192 9 = some (8, .iconst 0, 1) := by decide +kernel
theorem i192_10 : zfetch 192 10 = some (8, .bipush 40, 2) := by decide +kernel
theorem i192_12 : zfetch 192 12 = some (8, .invokestatic 50, 3) := by decide +kernel
theorem i192_15 : zfetch 192 15 = some (8, .ifCond .ne 9, 3) := by decide +kernel
theorem i192_18 : zfetch 192 18 = some (8, .aload_n 0, 1) := by decide +kernel
theorem i192_19 : zfetch 192 19 = some (8, .iconst 1, 1) := by decide +kernel
theorem i192_20 : zfetch 192 20 = some (8, .invokevirtual 58, 3) := by decide +kernel
theorem i192_23 : zfetch 192 23 = some (8, .ireturn, 1) := by decide +kernel
theorem i192_24 : zfetch 192 24 = some (8, .aload_n 0, 1) := by decide +kernel
theorem i192_25 : zfetch 192 25 = some (8, .invokevirtual 234, 3) := by decide +kernel
theorem i192_28 : zfetch 192 28 = some (8, .aload_n 0, 1) := by decide +kernel
theorem i192_29 : zfetch 192 29 = some (8, .invokevirtual 240, 3) := by decide +kernel
theorem i192_32 : zfetch 192 32 = some (8, .istore_n 3, 1) := by decide +kernel
theorem i192_33 : zfetch 192 33 = some (8, .iconst (-1), 1) := by decide +kernel
theorem i192_34 : zfetch 192 34 = some (8, .istore 4, 2) := by decide +kernel
theorem i192_36 : zfetch 192 36 = some (8, .iconst 0, 1) := by decide +kernel
theorem i192_37 : zfetch 192 37 = some (8, .istore 5, 2) := by decide +kernel
theorem i192_39 : zfetch 192 39 = some (8, .iload 5, 2) := by decide +kernel
theorem i192_41 : zfetch 192 41 = some (8, .iload_n 3, 1) := by decide +kernel
theorem i192_42 : zfetch 192 42 = some (8, .if_icmp .gt 68, 3) := by decide +kernel
theorem i192_45 : zfetch 192 45 = some (8, .iload 5, 2) := by decide +kernel
theorem i192_47 : zfetch 192 47 = some (8, .iload_n 3, 1) := by decide +kernel
theorem i192_48 : zfetch 192 48 = some (8, .iconst (-1), 1) := by decide +kernel
theorem i192_49 : zfetch 192 49 = some (8, .ixor, 1) := by decide +kernel
theorem i192_50 : zfetch 192 50 = some (8, .iand, 1) := by decide +kernel
theorem i192_51 : zfetch 192 51 = some (8, .ifCond .ne 25, 3) := by decide +kernel
theorem i192_54 : zfetch 192 54 = some (8, .iload 4, 2) := by decide +kernel
theorem i192_56 : zfetch 192 56 = some (8, .ifCond .lt 16, 3) := by decide +kernel
theorem i192_59 : zfetch 192 59 = some (8, .iload 5, 2) := by decide +kernel
theorem i192_61 : zfetch 192 61 = some (8, .invokestatic 228, 3) := by decide +kernel
theorem i192_64 : zfetch 192 64 = some (8, .iload 4, 2) := by decide +kernel
theorem i192_66 : zfetch 192 66 = some (8, .invokestatic 228, 3) := by decide +kernel
theorem i192_69 : zfetch 192 69 = some (8, .if_icmp .ge 7, 3) := by decide +kernel
theorem i192_72 : zfetch 192 72 = some (8, .iconst 1, 1) := by decide +kernel
theorem i192_73 : zfetch 192 73 = some (8, .goto 4, 3) := by decide +kernel
theorem i192_76 : zfetch 192 76 = some (8, .iconst 0, 1) := by decide +kernel
theorem i192_77 : zfetch 192 77 = some (8, .istore 6, 2) := by decide +kernel
theorem i192_79 : zfetch 192 79 = some (8, .iload 6, 2) := by decide +kernel
theorem i192_81 : zfetch 192 81 = some (8, .ifCond .eq 19, 3) := by decide +kernel
theorem i192_84 : zfetch 192 84 = some (8, .aload_n 0, 1) := by decide +kernel
theorem i192_85 : zfetch 192 85 = some (8, .iload_n 1, 1) := by decide +kernel
theorem i192_86 : zfetch 192 86 = some (8, .iload 5, 2) := by decide +kernel
theorem i192_88 : zfetch 192 88 = some (8, .iload_n 2, 1) := by decide +kernel
theorem i192_89 : zfetch 192 89 = some (8, .invokevirtual 246, 3) := by decide +kernel
theorem i192_92 : zfetch 192 92 = some (8, .ifCond .eq 8, 3) := by decide +kernel
theorem i192_95 : zfetch 192 95 = some (8, .iload 5, 2) := by decide +kernel
theorem i192_97 : zfetch 192 97 = some (8, .goto 5, 3) := by decide +kernel
theorem i192_100 : zfetch 192 100 = some (8, .iload 4, 2) := by decide +kernel
theorem i192_102 : zfetch 192 102 = some (8, .istore 4, 2) := by decide +kernel
theorem i192_104 : zfetch 192 104 = some (8, .iinc 5 1, 3) := by decide +kernel
theorem i192_107 : zfetch 192 107 = some (8, .goto (-68), 3) := by decide +kernel
theorem i192_110 : zfetch 192 110 = some (8, .iload 4, 2) := by decide +kernel
theorem i192_112 : zfetch 192 112 = some (8, .ifCond .ge 11, 3) := by decide +kernel
theorem i192_115 : zfetch 192 115 = some (8, .aload_n 0, 1) := by decide +kernel
theorem i192_116 : zfetch 192 116 = some (8, .iconst 2, 1) := by decide +kernel
theorem i192_117 : zfetch 192 117 = some (8, .invokevirtual 58, 3) := by decide +kernel
theorem i192_120 : zfetch 192 120 = some (8, .goto 5, 3) := by decide +kernel
theorem i192_123 : zfetch 192 123 = some (8, .iload 4, 2) := by decide +kernel
theorem i192_125 : zfetch 192 125 = some (8, .ireturn, 1) := by decide +kernel
theorem i193_0 : zfetch 193 0 = some (8, .iload_n 0, 1) := by decide +kernel
theorem i193_1 : zfetch 193 1 = some (8, .istore_n 2, 1) := by decide +kernel
theorem i193_2 : zfetch 193 2 = some (8, .iload_n 1, 1) := by decide +kernel
theorem i193_3 : zfetch 193 3 = some (8, .istore_n 3, 1) := by decide +kernel
theorem i193_4 : zfetch 193 4 = some (8, .iload_n 3, 1) := by decide +kernel
theorem i193_5 : zfetch 193 5 = some (8, .ifCond .eq 16, 3) := by decide +kernel
theorem i193_8 : zfetch 193 8 = some (8, .iload_n 2, 1) := by decide +kernel
theorem i193_9 : zfetch 193 9 = some (8, .iload_n 3, 1) := by decide +kernel
theorem i193_10 : zfetch 193 10 = some (8, .irem, 1) := by decide +kernel
theorem i193_11 : zfetch 193 11 = some (8, .istore 4, 2) := by decide +kernel
theorem i193_13 : zfetch 193 13 = some (8, .iload_n 3, 1) := by decide +kernel
theorem i193_14 : zfetch 193 14 = some (8, .istore_n 2, 1) := by decide +kernel
theorem i193_15 : zfetch 193 15 = some (8, .iload 4, 2) := by decide +kernel
theorem i193_17 : zfetch 193 17 = some (8, .istore_n 3, 1) := by decide +kernel
theorem i193_18 : zfetch 193 18 = some (8, .goto (-14), 3) := by decide +kernel
theorem i193_21 : zfetch 193 21 = some (8, .iload_n 2, 1) := by decide +kernel
theorem i193_22 : zfetch 193 22 = some (8, .ireturn, 1) := by decide +kernel
theorem i194_0 : zfetch 194 0 = some (8, .aload_n 0, 1) := by decide +kernel
theorem i194_1 : zfetch 194 1 = some (8, .iload_n 1, 1) := by decide +kernel
theorem i194_2 : zfetch 194 2 = some (8, .invokevirtual 194, 3) := by decide +kernel
theorem i194_5 : zfetch 194 5 = some (8, .ifCond .eq 22, 3) := by decide +kernel
theorem i194_8 : zfetch 194 8 = some (8, .iload_n 2, 1) := by decide +kernel
theorem i194_9 : zfetch 194 9 = some (8, .iconst 0, 1) := by decide +kernel
theorem i194_10 : zfetch 194 10 = some (8, .bipush 40, 2) := by decide +kernel
theorem i194_12 : zfetch 194 12 = some (8, .invokestatic 50, 3) := by decide +kernel
theorem i194_15 : zfetch 194 15 = some (8, .ifCond .eq 12, 3) := by decide +kernel
theorem i194_18 : zfetch 194 18 = some (8, .iload_n 3, 1) := by decide +kernel
theorem i194_19 : zfetch 194 19 = some (8, .iconst 0, 1) := by decide +kernel
theorem i194_20 : zfetch 194 20 = some (8, .iconst 1, 1) := by decide +kernel
theorem i194_21 : zfetch 194 21 = some (8, .invokestatic 50, 3) := by decide +kernel
theorem i194_24 : zfetch 194 24 = some (8, .ifCond .ne 9, 3) := by decide +kernel
theorem i194_27 : zfetch 194 27 = some (8, .aload_n 0, 1) := by decide +kernel
theorem i194_28 : zfetch 194 28 = some (8, .iconst 1, 1) := by decide +kernel
theorem i194_29 : zfetch 194 29 = some (8, .invokevirtual 58, 3) := by decide +kernel
theorem i194_32 : zfetch 194 32 = some (8, .ireturn, 1) := by decide +kernel
theorem i194_33 : zfetch 194 33 = some (8, .aload_n 0, 1) := by decide +kernel
theorem i194_34 : zfetch 194 34 = some (8, .iload_n 1, 1) := by decide +kernel
theorem i194_35 : zfetch 194 35 = some (8, .invokevirtual 140, 3) := by decide +kernel
theorem i194_38 : zfetch 194 38 = some (8, .ifCond .ne 9, 3) := by decide +kernel
theorem i194_41 : zfetch 194 41 = some (8, .aload_n 0, 1) := by decide +kernel
theorem i194_42 : zfetch 194 42 = some (8, .iconst 3, 1) := by decide +kernel
theorem i194_43 : zfetch 194 43 = some (8, .invokevirtual 58, 3) := by decide +kernel
theorem i194_46 : zfetch 194 46 = some (8, .ireturn, 1) := by decide +kernel
theorem i194_47 : zfetch 194 47 = some (8, .aload_n 0, 1) := by decide +kernel
theorem i194_48 : zfetch 194 48 = some (8, .invokevirtual 234, 3) := by decide +kernel
theorem i194_51 : zfetch 194 51 = some (8, .iconst 0, 1) := by decide +kernel
theorem i194_52 : zfetch 194 52 = some (8, .istore 4, 2) := by decide +kernel
theorem i194_54 : zfetch 194 54 = some (8, .iconst 0, 1) := by decide +kernel
theorem i194_55 : zfetch 194 55 = some (8, .istore 5, 2) := by decide +kernel
theorem i194_57 : zfetch 194 57 = some (8, .iload 5, 2) := by decide +kernel
theorem i194_59 : zfetch 194 59 = some (8, .bipush 32, 2) := by decide +kernel
theorem i194_61 : zfetch 194 61 = some (8, .if_icmp .ge 30, 3) := by decide +kernel
theorem i194_64 : zfetch 194 64 = some (8, .iload 4, 2) := by decide +kernel
theorem i194_66 : zfetch 194 66 = some (8, .aload_n 0, 1) := by decide +kernel
theorem i194_67 : zfetch 194 67 = some (8, .iload_n 1, 1) := by decide +kernel
theorem i194_68 : zfetch 194 68 = some (8, .iload 5, 2) := by decide +kernel
theorem i194_70 : zfetch 194 70 = some (8, .iload_n 2, 1) := by decide +kernel
theorem i194_71 : zfetch 194 71 = some (8, .invokevirtual 243, 3) := by decide +kernel
theorem i194_74 : zfetch 194 74 = some (8, .ifCond .eq 7, 3) := by decide +kernel
theorem i194_77 : zfetch 194 77 = some (8, .iconst 1, 1) := by decide +kernel
theorem i194_78 : zfetch 194 78 = some (8, .goto 4, 3) := by decide +kernel
theorem i194_81 : zfetch 194 81 = some (8, .iconst 0, 1) := by decide +kernel
theorem i194_82 : zfetch 194 82 = some (8, .iadd, 1) := by decide +kernel
theorem i194_83 : zfetch 194 83 = some (8, .istore 4, 2) := by decide +kernel
theorem i194_85 : zfetch 194 85 = some (8, .iinc 5 1, 3) := by decide +kernel
theorem i194_88 : zfetch 194 88 = some (8, .goto (-31), 3) := by decide +kernel
theorem i194_91 : zfetch 194 91 = some (8, .iload_n 3, 1) := by decide +kernel
theorem i194_92 : zfetch 194 92 = some (8, .ifCond .ne 8, 3) := by decide +kernel
theorem i194_95 : zfetch 194 95 = some (8, .iload 4, 2) := by decide +kernel
theorem i194_97 : zfetch 194 97 = some (8, .goto 5, 3) := by decide +kernel
theorem i194_100 : zfetch 194 100 = some (8, .bipush 32, 2) := by decide +kernel
theorem i194_102 : zfetch 194 102 = some (8, .iload 4, 2) := by decide +kernel
theorem i194_104 : zfetch 194 104 = some (8, .bipush 32, 2) := by decide +kernel
theorem i194_106 : zfetch 194 106 = some (8, .invokestatic 249, 3) := by decide +kernel
theorem i194_109 : zfetch 194 109 = some (8, .idiv, 1) := by decide +kernel
theorem i194_110 : zfetch 194 110 = some (8, .ireturn, 1) := by decide +kernel
theorem i195_0 : zfetch 195 0 = some (8, .iload_n 1, 1) := by decide +kernel
theorem i195_1 : zfetch 195 1 = some (8, .invokestatic 252, 3) := by decide +kernel
theorem i195_4 : zfetch 195 4 = some (8, .ifCond .eq 20, 3) := by decide +kernel
theorem i195_7 : zfetch 195 7 = some (8, .aload_n 0, 1) := by decide +kernel
theorem i195_8 : zfetch 195 8 = some (8, .iload_n 2, 1) := by decide +kernel
theorem i195_9 : zfetch 195 9 = some (8, .invokevirtual 194, 3) := by decide +kernel
theorem i195_12 : zfetch 195 12 = some (8, .ifCond .eq 12, 3) := by decide +kernel
theorem i195_15 : zfetch 195 15 = some (8, .iload_n 3, 1) := by decide +kernel
theorem i195_16 : zfetch 195 16 = some (8, .iconst 0, 1) := by decide +kernel
theorem i195_17 : zfetch 195 17 = some (8, .iconst 1, 1) := by decide +kernel
theorem i195_18 : zfetch 195 18 = some (8, .invokestatic 50, 3) := by decide +kernel
theorem i195_21 : zfetch 195 21 = some (8, .ifCond .ne 9, 3) := by decide +kernel
theorem i195_24 : zfetch 195 24 = some (8, .aload_n 0, 1) := by decide +kernel
theorem i195_25 : zfetch 195 25 = some (8, .iconst 1, 1) := by decide +kernel
theorem i195_26 : zfetch 195 26 = some (8, .invokevirtual 58, 3) := by decide +kernel
theorem i195_29 : zfetch 195 29 = some (8, .ireturn, 1) := by decide +kernel
theorem i195_30 : zfetch 195 30 = some (8, .aload_n 0, 1) := by decide +kernel
theorem i195_31 : zfetch 195 31 = some (8, .getfield 37, 3) := by decide +kernel
theorem i195_34 : zfetch 195 34 = some (8, .iload_n 1, 1) := by decide +kernel
theorem i195_35 : zfetch 195 35 = some (8, .iaload, 1) := by decide +kernel
theorem i195_36 : zfetch 195 36 = some (8, .ifCond .ne 9, 3) := by decide +kernel
theorem i195_39 : zfetch 195 39 = some (8, .aload_n 0, 1) := by decide +kernel
theorem i195_40 : zfetch 195 40 = some (8, .iconst 2, 1) := by decide +kernel
theorem i195_41 : zfetch 195 41 = some (8, .invokevirtual 58, 3) := by decide +kernel
theorem i195_44 : zfetch 195 44 = some (8, .ireturn, 1) := by decide +kernel
theorem i195_45 : zfetch 195 45 = some (8, .iconst 0, 1) := by decide +kernel
theorem i195_46 : zfetch 195 46 = some (8, .istore 4, 2) := by decide +kernel
theorem i195_48 : zfetch 195 48 = some (8, .aload_n 0, 1) := by decide +kernel
theorem i195_49 : zfetch 195 49 = some (8, .invokevirtual 234, 3) := by decide +kernel
theorem i195_52 : zfetch 195 52 = some (8, .iconst 0, 1) := by decide +kernel
theorem i195_53 : zfetch 195 53 = some (8, .istore 5, 2) := by decide +kernel
theorem i195_55 : zfetch 195 55 = some (8, .iload 5, 2) := by decide +kernel
theorem i195_57 : zfetch 195 57 = some (8, .bipush 6, 2) := by decide +kernel
theorem i195_59 : zfetch 195 59 = some (8, .if_icmp .gt 99, 3) := by decide +kernel
theorem i195_62 : zfetch 195 62 = some (8, .aload_n 0, 1) := by decide +kernel
theorem i195_63 : zfetch 195 63 = some (8, .iload_n 2, 1) := by decide +kernel
theorem i195_64 : zfetch 195 64 = some (8, .iconst 0, 1) := by decide +kernel
theorem i195_65 : zfetch 195 65 = some (8, .iload 5, 2) := by decide +kernel
theorem i195_67 : zfetch 195 67 = some (8, .invokevirtual 149, 3) := by decide +kernel
theorem i195_70 : zfetch 195 70 = some (8, .iconst 1, 1) := by decide +kernel
theorem i195_71 : zfetch 195 71 = some (8, .istore 6, 2) := by decide +kernel
theorem i195_73 : zfetch 195 73 = some (8, .iconst 0, 1) := by decide +kernel
theorem i195_74 : zfetch 195 74 = some (8, .istore 7, 2) := by decide +kernel
theorem i195_76 : zfetch 195 76 = some (8, .iload 7, 2) := by decide +kernel
theorem i195_78 : zfetch 195 78 = some (8, .aload_n 0, 1) := by decide +kernel
theorem i195_79 : zfetch 195 79 = some (8, .getfield 40, 3) := by decide +kernel
theorem i195_82 : zfetch 195 82 = some (8, .iload_n 1, 1) := by decide +kernel
theorem i195_83 : zfetch 195 83 = some (8, .iaload, 1) := by decide +kernel
theorem i195_84 : zfetch 195 84 = some (8, .if_icmp .ge 46, 3) := by decide +kernel
theorem i195_87 : zfetch 195 87 = some (8, .iload 6, 2) := by decide +kernel
theorem i195_89 : zfetch 195 89 = some (8, .ifCond .eq 41, 3) := by decide +kernel
theorem i195_92 : zfetch 195 92 = some (8, .aload_n 0, 1) := by decide +kernel
theorem i195_93 : zfetch 195 93 = some (8, .getfield 43, 3) := by decide +kernel
theorem i195_96 : zfetch 195 96 = some (8, .bipush 24, 2) := by decide +kernel
theorem i195_98 : zfetch 195 98 = some (8, .iload_n 1, 1) := by decide +kernel
theorem i195_99 : zfetch 195 99 = some (8, .imul, 1) := by decide +kernel
theorem i195_100 : zfetch 195 100 = some (8, .iload 7, 2) := by decide +kernel
theorem i195_102 : zfetch 195 102 = some (8, .iadd, 1) := by decide +kernel
theorem i195_103 : zfetch 195 103 = some (8, .iaload, 1) := by decide +kernel
theorem i195_104 : zfetch 195 104 = some (8, .aload_n 0, 1) := by decide +kernel
theorem i195_105 : zfetch 195 105 = some (8, .iload_n 2, 1) := by decide +kernel
theorem i195_106 : zfetch 195 106 = some (8, .iconst 3, 1) := by decide +kernel
theorem i195_107 : zfetch 195 107 = some (8, .invokevirtual 54, 3) := by decide +kernel
theorem i195_110 : zfetch 195 110 = some (8, .if_icmp .ne 7, 3) := by decide +kernel
theorem i195_113 : zfetch 195 113 = some (8, .iconst 1, 1) := by decide +kernel
theorem i195_114 : zfetch 195 114 = some (8, .goto 4, 3) := by decide +kernel
theorem i195_117 : zfetch 195 117 = some (8, .iconst 0, 1) := by decide +kernel
theorem i195_118 : zfetch 195 118 = some (8, .istore 6, 2) := by decide +kernel
theorem i195_120 : zfetch 195 120 = some (8, .aload_n 0, 1) := by decide +kernel
theorem i195_121 : zfetch 195 121 = some (8, .invokevirtual 188, 3) := by decide +kernel
theorem i195_124 : zfetch 195 124 = some (8, .iinc 7 1, 3) := by decide +kernel
theorem i195_127 : zfetch 195 127 = some (8, .goto (-51), 3) := by decide +kernel
theorem i195_130 : zfetch 195 130 = some (8, .aload_n 0, 1) := by decide +kernel
theorem i195_131 : zfetch 195 131 = some (8, .invokevirtual 237, 3) := by decide +kernel
theorem i195_134 : zfetch 195 134 = some (8, .iload 4, 2) := by decide +kernel
theorem i195_136 : zfetch 195 136 = some (8, .iload 6, 2) := by decide +kernel
theorem i195_138 : zfetch 195 138 = some (8, .ifCond .eq 10, 3) := by decide +kernel
theorem i195_141 : zfetch 195 141 = some (8, .iconst 1, 1) := by decide +kernel
theorem i195_142 : zfetch 195 142 = some (8, .iload 5, 2) := by decide +kernel
theorem i195_144 : zfetch 195 144 = some (8, .ishl, 1) := by decide +kernel
theorem i195_145 : zfetch 195 145 = some (8, .goto 4, 3) := by decide +kernel
theorem i195_148 : zfetch 195 148 = some (8, .iconst 0, 1) := by decide +kernel
theorem i195_149 : zfetch 195 149 = some (8, .ior, 1) := by decide +kernel
theorem i195_150 : zfetch 195 150 = some (8, .istore 4, 2) := by decide +kernel
theorem i195_152 : zfetch 195 152 = some (8, .iinc 5 1, 3) := by decide +kernel
theorem i195_155 : zfetch 195 155 = some (8, .goto (-100), 3) := by decide +kernel
theorem i195_158 : zfetch 195 158 = some (8, .iload_n 3, 1) := by decide +kernel
theorem i195_159 : zfetch 195 159 = some (8, .ifCond .ne 8, 3) := by decide +kernel
theorem i195_162 : zfetch 195 162 = some (8, .iload 4, 2) := by decide +kernel
theorem i195_164 : zfetch 195 164 = some (8, .goto 8, 3) := by decide +kernel
theorem i195_167 : zfetch 195 167 = some (8, .iload 4, 2) := by decide +kernel
theorem i195_169 : zfetch 195 169 = some (8, .invokestatic 228, 3) := by decide +kernel
theorem i195_172 : zfetch 195 172 = some (8, .ireturn, 1) := by decide +kernel
theorem i196_0 : zfetch 196 0 = some (8, .aload_n 0, 1) := by decide +kernel
theorem i196_1 : zfetch 196 1 = some (8, .getfield 255, 3) := by decide +kernel
theorem i196_4 : zfetch 196 4 = some (8, .bipush 30, 2) := by decide +kernel
theorem i196_6 : zfetch 196 6 = some (8, .if_icmp .ge 23, 3) := by decide +kernel
theorem i196_9 : zfetch 196 9 = some (8, .aload_n 0, 1) := by decide +kernel
theorem i196_10 : zfetch 196 10 = some (8, .getfield 34, 3) := by decide +kernel
theorem i196_13 : zfetch 196 13 = some (8, .aload_n 0, 1) := by decide +kernel
theorem i196_14 : zfetch 196 14 = some (8, .getfield 255, 3) := by decide +kernel
theorem i196_17 : zfetch 196 17 = some (8, .iload_n 1, 1) := by decide +kernel
theorem i196_18 : zfetch 196 18 = some (8, .iastore, 1) := by decide +kernel
theorem i196_19 : zfetch 196 19 = some (8, .aload_n 0, 1) := by decide +kernel
theorem i196_20 : zfetch 196 20 = some (8, .dup, 1) := by decide +kernel
theorem i196_21 : zfetch 196 21 = some (8, .getfield 255, 3) := by decide +kernel
theorem i196_24 : zfetch 196 24 = some (8, .iconst 1, 1) := by decide +kernel
theorem i196_25 : zfetch 196 25 = some (8, .iadd, 1) := by decide +kernel
theorem i196_26 : zfetch 196 26 = some (8, .putfield 255, 3) := by decide +kernel
theorem i196_29 : zfetch 196 29 = some (8, .return_, 1) := by decide +kernel
theorem i197_0 : zfetch 197 0 = some (8, .iload_n 0, 1) := by decide +kernel
theorem i197_1 : zfetch 197 1 = some (8, .iconst 4, 1) := by decide +kernel
theorem i197_2 : zfetch 197 2 = some (8, .if_icmp .ne 7, 3) := by decide +kernel
theorem i197_5 : zfetch 197 5 = some (8, .iconst 1, 1) := by decide +kernel
theorem i197_6 : zfetch 197 6 = some (8, .goto 13, 3) := by decide +kernel
theorem i197_9 : zfetch 197 9 = some (8, .iload_n 0, 1) := by decide +kernel
theorem i197_10 : zfetch 197 10 = some (8, .iconst 5, 1) := by decide +kernel
theorem i197_11 : zfetch 197 11 = some (8, .if_icmp .ne 7, 3) := by decide +kernel
theorem i197_14 : zfetch 197 14 = some (8, .iconst 2, 1) := by decide +kernel
theorem i197_15 : zfetch 197 15 = some (8, .goto 4, 3) := by decide +kernel
theorem i197_18 : zfetch 197 18 = some (8, .iconst 0, 1) := by decide +kernel
theorem i197_19 : zfetch 197 19 = some (8, .ireturn, 1) := by decide +kernel
theorem i198_0 : zfetch 198 0 = some (8, .aload_n 0, 1) := by decide +kernel
theorem i198_1 : zfetch 198 1 = some (8, .aload_n 0, 1) := by decide +kernel
theorem i198_2 : zfetch 198 2 = some (8, .getfield 258, 3) := by decide +kernel
theorem i198_5 : zfetch 198 5 = some (8, .iconst 0, 1) := by decide +kernel
theorem i198_6 : zfetch 198 6 = some (8, .invokevirtual 54, 3) := by decide +kernel
theorem i198_9 : zfetch 198 9 = some (8, .ireturn, 1) := by decide +kernel
theorem i199_0 : zfetch 199 0 = some (8, .aload_n 0, 1) := by decide +kernel
theorem i199_1 : zfetch 199 1 = some (8, .aload_n 0, 1) := by decide +kernel
theorem i199_2 : zfetch 199 2 = some (8, .getfield 258, 3) := by decide +kernel
theorem i199_5 : zfetch 199 5 = some (8, .iconst 1, 1) := by decide +kernel
theorem i199_6 : zfetch 199 6 = some (8, .invokevirtual 54, 3) := by decide +kernel
theorem i199_9 : zfetch 199 9 = some (8, .ireturn, 1) := by decide +kernel
theorem i200_0 : zfetch 200 0 = some (8, .iload_n 1, 1) := by decide +kernel
theorem i200_1 : zfetch 200 1 = some (8, .tableswitch 101 0 6 #[43, 56, 101, 101, 74, 101, 92], 43) := by decide +kernel
theorem i200_44 : zfetch 200 44 = some (8, .aload_n 0, 1) := by decide +kernel
theorem i200_45 : zfetch 200 45 = some (8, .bipush 10, 2) := by decide +kernel
theorem i200_47 : zfetch 200 47 = some (8, .invokevirtual 261, 3) := by decide +kernel
theorem i200_50 : zfetch 200 50 = some (8, .iload_n 2, 1) := by decide +kernel
theorem i200_51 : zfetch 200 51 = some (8, .aload_n 0, 1) := by decide +kernel
theorem i200_52 : zfetch 200 52 = some (8, .getfield 258, 3) := by decide +kernel
theorem i200_55 : zfetch 200 55 = some (8, .iadd, 1) := by decide +kernel
theorem i200_56 : zfetch 200 56 = some (8, .ireturn, 1) := by decide +kernel
theorem i200_57 : zfetch 200 57 = some (8, .aload_n 0, 1) := by decide +kernel
theorem i200_58 : zfetch 200 58 = some (8, .bipush 20, 2) := by decide +kernel
theorem i200_60 : zfetch 200 60 = some (8, .invokevirtual 261, 3) := by decide +kernel
theorem i200_63 : zfetch 200 63 = some (8, .aload_n 0, 1) := by decide +kernel
theorem i200_64 : zfetch 200 64 = some (8, .iconst 1, 1) := by decide +kernel
theorem i200_65 : zfetch 200 65 = some (8, .invokestatic 197, 3) := by decide +kernel
theorem i200_68 : zfetch 200 68 = some (8, .iload_n 2, 1) := by decide +kernel
theorem i200_69 : zfetch 200 69 = some (8, .invokevirtual 264, 3) := by decide +kernel
theorem i200_72 : zfetch 200 72 = some (8, .iconst 4, 1) := by decide +kernel
theorem i200_73 : zfetch 200 73 = some (8, .isub, 1) := by decide +kernel
theorem i200_74 : zfetch 200 74 = some (8, .ireturn, 1) := by decide +kernel
theorem i200_75 : zfetch 200 75 = some (8, .aload_n 0, 1) := by decide +kernel
theorem i200_76 : zfetch 200 76 = some (8, .bipush 50, 2) := by decide +kernel
theorem i200_78 : zfetch 200 78 = some (8, .invokevirtual 261, 3) := by decide +kernel
theorem i200_81 : zfetch 200 81 = some (8, .aload_n 0, 1) := by decide +kernel
theorem i200_82 : zfetch 200 82 = some (8, .iconst 4, 1) := by decide +kernel
theorem i200_83 : zfetch 200 83 = some (8, .invokestatic 197, 3) := by decide +kernel
theorem i200_86 : zfetch 200 86 = some (8, .iload_n 2, 1) := by decide +kernel
theorem i200_87 : zfetch 200 87 = some (8, .invokevirtual 264, 3) := by decide +kernel
theorem i200_90 : zfetch 200 90 = some (8, .iconst 3, 1) := by decide +kernel
theorem i200_91 : zfetch 200 91 = some (8, .imul, 1) := by decide +kernel
theorem i200_92 : zfetch 200 92 = some (8, .ireturn, 1) := by decide +kernel
theorem i200_93 : zfetch 200 93 = some (8, .aload_n 0, 1) := by decide +kernel
theorem i200_94 : zfetch 200 94 = some (8, .bipush 70, 2) := by decide +kernel
theorem i200_96 : zfetch 200 96 = some (8, .invokevirtual 261, 3) := by decide +kernel
theorem i200_99 : zfetch 200 99 = some (8, .bipush 9, 2) := by decide +kernel
theorem i200_101 : zfetch 200 101 = some (8, .ireturn, 1) := by decide +kernel
theorem i200_102 : zfetch 200 102 = some (8, .aload_n 0, 1) := by decide +kernel
theorem i200_103 : zfetch 200 103 = some (8, .iload_n 1, 1) := by decide +kernel
theorem i200_104 : zfetch 200 104 = some (8, .invokestatic 197, 3) := by decide +kernel
theorem i200_107 : zfetch 200 107 = some (8, .iload_n 2, 1) := by decide +kernel
theorem i200_108 : zfetch 200 108 = some (8, .invokevirtual 264, 3) := by decide +kernel
end
section
theorem i200_111 : zfetch 200 111 = some (8, .ireturn, 1) := by decide +kernel
theorem i201_0 : zfetch 201 0 = some (8, .iload_n 1, 1) := by decide +kernel
theorem i201_1 : zfetch 201 1 = some (8, .tableswitch 119 0 6 #[43, 119, 61, 119, 119, 79, 97], 43) := by decide +kernel
theorem i201_44 : zfetch 201 44 = some (8, .aload_n 0, 1) := by decide +kernel
theorem i201_45 : zfetch 201 45 = some (8, .bipush 11, 2) := by decide +kernel
theorem i201_47 : zfetch 201 47 = some (8, .invokevirtual 261, 3) := by decide +kernel
theorem i201_50 : zfetch 201 50 = some (8, .aload_n 0, 1) := by decide +kernel
theorem i201_51 : zfetch 201 51 = some (8, .aload_n 0, 1) := by decide +kernel
theorem i201_52 : zfetch 201 52 = some (8, .invokevirtual 267, 3) := by decide +kernel
theorem i201_55 : zfetch 201 55 = some (8, .iload_n 2, 1) := by decide +kernel
theorem i201_56 : zfetch 201 56 = some (8, .invokevirtual 264, 3) := by decide +kernel
theorem i201_59 : zfetch 201 59 = some (8, .iconst 2, 1) := by decide +kernel
theorem i201_60 : zfetch 201 60 = some (8, .imul, 1) := by decide +kernel
theorem i201_61 : zfetch 201 61 = some (8, .ireturn, 1) := by decide +kernel
theorem i201_62 : zfetch 201 62 = some (8, .aload_n 0, 1) := by decide +kernel
theorem i201_63 : zfetch 201 63 = some (8, .bipush 30, 2) := by decide +kernel
theorem i201_65 : zfetch 201 65 = some (8, .invokevirtual 261, 3) := by decide +kernel
theorem i201_68 : zfetch 201 68 = some (8, .iconst 0, 1) := by decide +kernel
theorem i201_69 : zfetch 201 69 = some (8, .aload_n 0, 1) := by decide +kernel
theorem i201_70 : zfetch 201 70 = some (8, .iconst 2, 1) := by decide +kernel
theorem i201_71 : zfetch 201 71 = some (8, .invokestatic 197, 3) := by decide +kernel
theorem i201_74 : zfetch 201 74 = some (8, .iload_n 2, 1) := by decide +kernel
theorem i201_75 : zfetch 201 75 = some (8, .invokevirtual 270, 3) := by decide +kernel
theorem i201_78 : zfetch 201 78 = some (8, .isub, 1) := by decide +kernel
theorem i201_79 : zfetch 201 79 = some (8, .ireturn, 1) := by decide +kernel
theorem i201_80 : zfetch 201 80 = some (8, .aload_n 0, 1) := by decide +kernel
theorem i201_81 : zfetch 201 81 = some (8, .bipush 60, 2) := by decide +kernel
theorem i201_83 : zfetch 201 83 = some (8, .invokevirtual 261, 3) := by decide +kernel
theorem i201_86 : zfetch 201 86 = some (8, .aload_n 0, 1) := by decide +kernel
theorem i201_87 : zfetch 201 87 = some (8, .iconst 5, 1) := by decide +kernel
theorem i201_88 : zfetch 201 88 = some (8, .invokestatic 197, 3) := by decide +kernel
theorem i201_91 : zfetch 201 91 = some (8, .iload_n 2, 1) := by decide +kernel
theorem i201_92 : zfetch 201 92 = some (8, .iconst 1, 1) := by decide +kernel
theorem i201_93 : zfetch 201 93 = some (8, .iadd, 1) := by decide +kernel
theorem i201_94 : zfetch 201 94 = some (8, .invokevirtual 270, 3) := by decide +kernel
theorem i201_97 : zfetch 201 97 = some (8, .ireturn, 1) := by decide +kernel
theorem i201_98 : zfetch 201 98 = some (8, .aload_n 0, 1) := by decide +kernel
theorem i201_99 : zfetch 201 99 = some (8, .bipush 71, 2) := by decide +kernel
theorem i201_101 : zfetch 201 101 = some (8, .invokevirtual 261, 3) := by decide +kernel
theorem i201_104 : zfetch 201 104 = some (8, .aload_n 0, 1) := by decide +kernel
theorem i201_105 : zfetch 201 105 = some (8, .bipush 6, 2) := by decide +kernel
theorem i201_107 : zfetch 201 107 = some (8, .invokestatic 197, 3) := by decide +kernel
theorem i201_110 : zfetch 201 110 = some (8, .iload_n 2, 1) := by decide +kernel
theorem i201_111 : zfetch 201 111 = some (8, .invokevirtual 270, 3) := by decide +kernel
theorem i201_114 : zfetch 201 114 = some (8, .aload_n 0, 1) := by decide +kernel
theorem i201_115 : zfetch 201 115 = some (8, .invokevirtual 273, 3) := by decide +kernel
theorem i201_118 : zfetch 201 118 = some (8, .iadd, 1) := by decide +kernel
theorem i201_119 : zfetch 201 119 = some (8, .ireturn, 1) := by decide +kernel
theorem i201_120 : zfetch 201 120 = some (8, .aload_n 0, 1) := by decide +kernel
theorem i201_121 : zfetch 201 121 = some (8, .iload_n 1, 1) := by decide +kernel
theorem i201_122 : zfetch 201 122 = some (8, .invokestatic 197, 3) := by decide +kernel
theorem i201_125 : zfetch 201 125 = some (8, .iload_n 2, 1) := by decide +kernel
theorem i201_126 : zfetch 201 126 = some (8, .invokevirtual 270, 3) := by decide +kernel
theorem i201_129 : zfetch 201 129 = some (8, .ireturn, 1) := by decide +kernel
theorem i202_0 : zfetch 202 0 = some (8, .iload_n 1, 1) := by decide +kernel
theorem i202_1 : zfetch 202 1 = some (8, .tableswitch 95 0 4 #[35, 95, 95, 56, 74], 35) := by decide +kernel
theorem i202_36 : zfetch 202 36 = some (8, .aload_n 0, 1) := by decide +kernel
theorem i202_37 : zfetch 202 37 = some (8, .bipush 12, 2) := by decide +kernel
theorem i202_39 : zfetch 202 39 = some (8, .invokevirtual 261, 3) := by decide +kernel
theorem i202_42 : zfetch 202 42 = some (8, .aload_n 0, 1) := by decide +kernel
theorem i202_43 : zfetch 202 43 = some (8, .aload_n 0, 1) := by decide +kernel
theorem i202_44 : zfetch 202 44 = some (8, .invokevirtual 267, 3) := by decide +kernel
theorem i202_47 : zfetch 202 47 = some (8, .iload_n 2, 1) := by decide +kernel
theorem i202_48 : zfetch 202 48 = some (8, .invokevirtual 270, 3) := by decide +kernel
theorem i202_51 : zfetch 202 51 = some (8, .aload_n 0, 1) := by decide +kernel
theorem i202_52 : zfetch 202 52 = some (8, .invokevirtual 273, 3) := by decide +kernel
theorem i202_55 : zfetch 202 55 = some (8, .isub, 1) := by decide +kernel
theorem i202_56 : zfetch 202 56 = some (8, .ireturn, 1) := by decide +kernel
theorem i202_57 : zfetch 202 57 = some (8, .aload_n 0, 1) := by decide +kernel
theorem i202_58 : zfetch 202 58 = some (8, .bipush 40, 2) := by decide +kernel
theorem i202_60 : zfetch 202 60 = some (8, .invokevirtual 261, 3) := by decide +kernel
theorem i202_63 : zfetch 202 63 = some (8, .aload_n 0, 1) := by decide +kernel
theorem i202_64 : zfetch 202 64 = some (8, .iconst 3, 1) := by decide +kernel
theorem i202_65 : zfetch 202 65 = some (8, .invokestatic 197, 3) := by decide +kernel
theorem i202_68 : zfetch 202 68 = some (8, .iload_n 2, 1) := by decide +kernel
theorem i202_69 : zfetch 202 69 = some (8, .iconst 2, 1) := by decide +kernel
theorem i202_70 : zfetch 202 70 = some (8, .idiv, 1) := by decide +kernel
theorem i202_71 : zfetch 202 71 = some (8, .invokevirtual 276, 3) := by decide +kernel
theorem i202_74 : zfetch 202 74 = some (8, .ireturn, 1) := by decide +kernel
theorem i202_75 : zfetch 202 75 = some (8, .aload_n 0, 1) := by decide +kernel
theorem i202_76 : zfetch 202 76 = some (8, .bipush 51, 2) := by decide +kernel
theorem i202_78 : zfetch 202 78 = some (8, .invokevirtual 261, 3) := by decide +kernel
theorem i202_81 : zfetch 202 81 = some (8, .aload_n 0, 1) := by decide +kernel
theorem i202_82 : zfetch 202 82 = some (8, .iconst 4, 1) := by decide +kernel
theorem i202_83 : zfetch 202 83 = some (8, .invokestatic 197, 3) := by decide +kernel
theorem i202_86 : zfetch 202 86 = some (8, .iload_n 2, 1) := by decide +kernel
theorem i202_87 : zfetch 202 87 = some (8, .invokevirtual 276, 3) := by decide +kernel
theorem i202_90 : zfetch 202 90 = some (8, .aload_n 0, 1) := by decide +kernel
theorem i202_91 : zfetch 202 91 = some (8, .getfield 258, 3) := by decide +kernel
theorem i202_94 : zfetch 202 94 = some (8, .ixor, 1) := by decide +kernel
theorem i202_95 : zfetch 202 95 = some (8, .ireturn, 1) := by decide +kernel
theorem i202_96 : zfetch 202 96 = some (8, .aload_n 0, 1) := by decide +kernel
theorem i202_97 : zfetch 202 97 = some (8, .iload_n 1, 1) := by decide +kernel
theorem i202_98 : zfetch 202 98 = some (8, .invokestatic 197, 3) := by decide +kernel
theorem i202_101 : zfetch 202 101 = some (8, .iload_n 2, 1) := by decide +kernel
theorem i202_102 : zfetch 202 102 = some (8, .invokevirtual 276, 3) := by decide +kernel
theorem i202_105 : zfetch 202 105 = some (8, .ireturn, 1) := by decide +kernel
theorem i203_0 : zfetch 203 0 = some (8, .iload_n 1, 1) := by decide +kernel
theorem i203_1 : zfetch 203 1 = some (8, .lookupswitch 119 #[(0, 27), (1, 78)], 27) := by decide +kernel
theorem i203_28 : zfetch 203 28 = some (8, .aload_n 0, 1) := by decide +kernel
theorem i203_29 : zfetch 203 29 = some (8, .bipush 13, 2) := by decide +kernel
theorem i203_31 : zfetch 203 31 = some (8, .invokevirtual 261, 3) := by decide +kernel
theorem i203_34 : zfetch 203 34 = some (8, .aload_n 0, 1) := by decide +kernel
theorem i203_35 : zfetch 203 35 = some (8, .invokevirtual 273, 3) := by decide +kernel
theorem i203_38 : zfetch 203 38 = some (8, .aload_n 0, 1) := by decide +kernel
theorem i203_39 : zfetch 203 39 = some (8, .getfield 258, 3) := by decide +kernel
theorem i203_42 : zfetch 203 42 = some (8, .isub, 1) := by decide +kernel
theorem i203_43 : zfetch 203 43 = some (8, .istore_n 3, 1) := by decide +kernel
theorem i203_44 : zfetch 203 44 = some (8, .aload_n 0, 1) := by decide +kernel
theorem i203_45 : zfetch 203 45 = some (8, .iload_n 3, 1) := by decide +kernel
theorem i203_46 : zfetch 203 46 = some (8, .ifCond .ne 7, 3) := by decide +kernel
theorem i203_49 : zfetch 203 49 = some (8, .iconst 1, 1) := by decide +kernel
theorem i203_50 : zfetch 203 50 = some (8, .goto 4, 3) := by decide +kernel
theorem i203_53 : zfetch 203 53 = some (8, .iconst 0, 1) := by decide +kernel
theorem i203_54 : zfetch 203 54 = some (8, .putfield 279, 3) := by decide +kernel
theorem i203_57 : zfetch 203 57 = some (8, .iload_n 3, 1) := by decide +kernel
theorem i203_58 : zfetch 203 58 = some (8, .ifCond .ne 7, 3) := by decide +kernel
theorem i203_61 : zfetch 203 61 = some (8, .iconst 0, 1) := by decide +kernel
theorem i203_62 : zfetch 203 62 = some (8, .goto 16, 3) := by decide +kernel
theorem i203_65 : zfetch 203 65 = some (8, .iload_n 3, 1) := by decide +kernel
theorem i203_66 : zfetch 203 66 = some (8, .iconst (-1), 1) := by decide +kernel
theorem i203_67 : zfetch 203 67 = some (8, .if_icmp .ne 8, 3) := by decide +kernel
theorem i203_70 : zfetch 203 70 = some (8, .iload_n 2, 1) := by decide +kernel
theorem i203_71 : zfetch 203 71 = some (8, .ineg, 1) := by decide +kernel
theorem i203_72 : zfetch 203 72 = some (8, .goto 6, 3) := by decide +kernel
theorem i203_75 : zfetch 203 75 = some (8, .iload_n 2, 1) := by decide +kernel
theorem i203_76 : zfetch 203 76 = some (8, .iload_n 3, 1) := by decide +kernel
theorem i203_77 : zfetch 203 77 = some (8, .idiv, 1) := by decide +kernel
theorem i203_78 : zfetch 203 78 = some (8, .ireturn, 1) := by decide +kernel
theorem i203_79 : zfetch 203 79 = some (8, .aload_n 0, 1) := by decide +kernel
theorem i203_80 : zfetch 203 80 = some (8, .bipush 21, 2) := by decide +kernel
theorem i203_82 : zfetch 203 82 = some (8, .invokevirtual 261, 3) := by decide +kernel
theorem i203_85 : zfetch 203 85 = some (8, .aload_n 0, 1) := by decide +kernel
theorem i203_86 : zfetch 203 86 = some (8, .iconst 1, 1) := by decide +kernel
theorem i203_87 : zfetch 203 87 = some (8, .invokestatic 197, 3) := by decide +kernel
theorem i203_90 : zfetch 203 90 = some (8, .iload_n 2, 1) := by decide +kernel
theorem i203_91 : zfetch 203 91 = some (8, .invokevirtual 283, 3) := by decide +kernel
theorem i203_94 : zfetch 203 94 = some (8, .istore 4, 2) := by decide +kernel
theorem i203_96 : zfetch 203 96 = some (8, .aload_n 0, 1) := by decide +kernel
theorem i203_97 : zfetch 203 97 = some (8, .getfield 279, 3) := by decide +kernel
theorem i203_100 : zfetch 203 100 = some (8, .ifCond .eq 7, 3) := by decide +kernel
theorem i203_103 : zfetch 203 103 = some (8, .iconst 0, 1) := by decide +kernel
theorem i203_104 : zfetch 203 104 = some (8, .goto 15, 3) := by decide +kernel
theorem i203_107 : zfetch 203 107 = some (8, .iload 4, 2) := by decide +kernel
theorem i203_109 : zfetch 203 109 = some (8, .aload_n 0, 1) := by decide +kernel
theorem i203_110 : zfetch 203 110 = some (8, .aload_n 0, 1) := by decide +kernel
theorem i203_111 : zfetch 203 111 = some (8, .invokevirtual 267, 3) := by decide +kernel
theorem i203_114 : zfetch 203 114 = some (8, .iconst 1, 1) := by decide +kernel
theorem i203_115 : zfetch 203 115 = some (8, .invokevirtual 270, 3) := by decide +kernel
theorem i203_118 : zfetch 203 118 = some (8, .iadd, 1) := by decide +kernel
theorem i203_119 : zfetch 203 119 = some (8, .ireturn, 1) := by decide +kernel
theorem i203_120 : zfetch 203 120 = some (8, .aload_n 0, 1) := by decide +kernel
theorem i203_121 : zfetch 203 121 = some (8, .iload_n 1, 1) := by decide +kernel
theorem i203_122 : zfetch 203 122 = some (8, .invokestatic 197, 3) := by decide +kernel
theorem i203_125 : zfetch 203 125 = some (8, .iload_n 2, 1) := by decide +kernel
theorem i203_126 : zfetch 203 126 = some (8, .invokevirtual 283, 3) := by decide +kernel
theorem i203_129 : zfetch 203 129 = some (8, .ireturn, 1) := by decide +kernel
theorem i204_0 : zfetch 204 0 = some (8, .aload_n 0, 1) := by decide +kernel
theorem i204_1 : zfetch 204 1 = some (8, .iload_n 1, 1) := by decide +kernel
theorem i204_2 : zfetch 204 2 = some (8, .invokevirtual 194, 3) := by decide +kernel
theorem i204_5 : zfetch 204 5 = some (8, .ifCond .eq 12, 3) := by decide +kernel
theorem i204_8 : zfetch 204 8 = some (8, .iload_n 2, 1) := by decide +kernel
theorem i204_9 : zfetch 204 9 = some (8, .iconst 0, 1) := by decide +kernel
theorem i204_10 : zfetch 204 10 = some (8, .iconst 3, 1) := by decide +kernel
theorem i204_11 : zfetch 204 11 = some (8, .invokestatic 50, 3) := by decide +kernel
theorem i204_14 : zfetch 204 14 = some (8, .ifCond .ne 9, 3) := by decide +kernel
theorem i204_17 : zfetch 204 17 = some (8, .aload_n 0, 1) := by decide +kernel
theorem i204_18 : zfetch 204 18 = some (8, .iconst 1, 1) := by decide +kernel
theorem i204_19 : zfetch 204 19 = some (8, .invokevirtual 58, 3) := by decide +kernel
theorem i204_22 : zfetch 204 22 = some (8, .ireturn, 1) := by decide +kernel
theorem i204_23 : zfetch 204 23 = some (8, .aload_n 0, 1) := by decide +kernel
theorem i204_24 : zfetch 204 24 = some (8, .iconst 0, 1) := by decide +kernel
theorem i204_25 : zfetch 204 25 = some (8, .putfield 255, 3) := by decide +kernel
theorem i204_28 : zfetch 204 28 = some (8, .aload_n 0, 1) := by decide +kernel
theorem i204_29 : zfetch 204 29 = some (8, .iload_n 1, 1) := by decide +kernel
theorem i204_30 : zfetch 204 30 = some (8, .putfield 258, 3) := by decide +kernel
theorem i204_33 : zfetch 204 33 = some (8, .aload_n 0, 1) := by decide +kernel
theorem i204_34 : zfetch 204 34 = some (8, .iconst 0, 1) := by decide +kernel
theorem i204_35 : zfetch 204 35 = some (8, .putfield 279, 3) := by decide +kernel
theorem i204_38 : zfetch 204 38 = some (8, .aload_n 0, 1) := by decide +kernel
theorem i204_39 : zfetch 204 39 = some (8, .invokevirtual 267, 3) := by decide +kernel
theorem i204_42 : zfetch 204 42 = some (8, .istore 4, 2) := by decide +kernel
theorem i204_44 : zfetch 204 44 = some (8, .iload_n 2, 1) := by decide +kernel
theorem i204_45 : zfetch 204 45 = some (8, .ifCond .ne 13, 3) := by decide +kernel
theorem i204_48 : zfetch 204 48 = some (8, .aload_n 0, 1) := by decide +kernel
theorem i204_49 : zfetch 204 49 = some (8, .iload 4, 2) := by decide +kernel
theorem i204_51 : zfetch 204 51 = some (8, .iload_n 3, 1) := by decide +kernel
theorem i204_52 : zfetch 204 52 = some (8, .invokevirtual 264, 3) := by decide +kernel
theorem i204_55 : zfetch 204 55 = some (8, .goto 40, 3) := by decide +kernel
theorem i204_58 : zfetch 204 58 = some (8, .iload_n 2, 1) := by decide +kernel
theorem i204_59 : zfetch 204 59 = some (8, .iconst 1, 1) := by decide +kernel
theorem i204_60 : zfetch 204 60 = some (8, .if_icmp .ne 13, 3) := by decide +kernel
theorem i204_63 : zfetch 204 63 = some (8, .aload_n 0, 1) := by decide +kernel
theorem i204_64 : zfetch 204 64 = some (8, .iload 4, 2) := by decide +kernel
theorem i204_66 : zfetch 204 66 = some (8, .iload_n 3, 1) := by decide +kernel
theorem i204_67 : zfetch 204 67 = some (8, .invokevirtual 270, 3) := by decide +kernel
theorem i204_70 : zfetch 204 70 = some (8, .goto 25, 3) := by decide +kernel
theorem i204_73 : zfetch 204 73 = some (8, .iload_n 2, 1) := by decide +kernel
theorem i204_74 : zfetch 204 74 = some (8, .iconst 2, 1) := by decide +kernel
theorem i204_75 : zfetch 204 75 = some (8, .if_icmp .ne 13, 3) := by decide +kernel
theorem i204_78 : zfetch 204 78 = some (8, .aload_n 0, 1) := by decide +kernel
theorem i204_79 : zfetch 204 79 = some (8, .iload 4, 2) := by decide +kernel
theorem i204_81 : zfetch 204 81 = some (8, .iload_n 3, 1) := by decide +kernel
theorem i204_82 : zfetch 204 82 = some (8, .invokevirtual 276, 3) := by decide +kernel
theorem i204_85 : zfetch 204 85 = some (8, .goto 10, 3) := by decide +kernel
theorem i204_88 : zfetch 204 88 = some (8, .aload_n 0, 1) := by decide +kernel
theorem i204_89 : zfetch 204 89 = some (8, .iload 4, 2) := by decide +kernel
theorem i204_91 : zfetch 204 91 = some (8, .iload_n 3, 1) := by decide +kernel
theorem i204_92 : zfetch 204 92 = some (8, .invokevirtual 283, 3) := by decide +kernel
theorem i204_95 : zfetch 204 95 = some (8, .istore 5, 2) := by decide +kernel
theorem i204_97 : zfetch 204 97 = some (8, .aload_n 0, 1) := by decide +kernel
theorem i204_98 : zfetch 204 98 = some (8, .getfield 279, 3) := by decide +kernel
theorem i204_101 : zfetch 204 101 = some (8, .ifCond .eq 12, 3) := by decide +kernel
theorem i204_104 : zfetch 204 104 = some (8, .aload_n 0, 1) := by decide +kernel
theorem i204_105 : zfetch 204 105 = some (8, .bipush 6, 2) := by decide +kernel
theorem i204_107 : zfetch 204 107 = some (8, .invokevirtual 58, 3) := by decide +kernel
theorem i204_110 : zfetch 204 110 = some (8, .goto 5, 3) := by decide +kernel
theorem i204_113 : zfetch 204 113 = some (8, .iload 5, 2) := by decide +kernel
theorem i204_115 : zfetch 204 115 = some (8, .ireturn, 1) := by decide +kernel
theorem i205_0 : zfetch 205 0 = some (8, .iload_n 1, 1) := by decide +kernel
theorem i205_1 : zfetch 205 1 = some (8, .iconst 0, 1) := by decide +kernel
theorem i205_2 : zfetch 205 2 = some (8, .aload_n 0, 1) := by decide +kernel
theorem i205_3 : zfetch 205 3 = some (8, .getfield 255, 3) := by decide +kernel
theorem i205_6 : zfetch 205 6 = some (8, .iconst 1, 1) := by decide +kernel
theorem i205_7 : zfetch 205 7 = some (8, .isub, 1) := by decide +kernel
theorem i205_8 : zfetch 205 8 = some (8, .invokestatic 50, 3) := by decide +kernel
theorem i205_11 : zfetch 205 11 = some (8, .ifCond .eq 12, 3) := by decide +kernel
theorem i205_14 : zfetch 205 14 = some (8, .aload_n 0, 1) := by decide +kernel
theorem i205_15 : zfetch 205 15 = some (8, .getfield 34, 3) := by decide +kernel
theorem i205_18 : zfetch 205 18 = some (8, .iload_n 1, 1) := by decide +kernel
theorem i205_19 : zfetch 205 19 = some (8, .iaload, 1) := by decide +kernel
theorem i205_20 : zfetch 205 20 = some (8, .goto 8, 3) := by decide +kernel
theorem i205_23 : zfetch 205 23 = some (8, .aload_n 0, 1) := by decide +kernel
theorem i205_24 : zfetch 205 24 = some (8, .iconst 2, 1) := by decide +kernel
theorem i205_25 : zfetch 205 25 = some (8, .invokevirtual 58, 3) := by decide +kernel
theorem i205_28 : zfetch 205 28 = some (8, .ireturn, 1) := by decide +kernel
theorem i206_0 : zfetch 206 0 = some (8, .iload_n 0, 1) := by decide +kernel
theorem i206_1 : zfetch 206 1 = some (8, .iconst 0, 1) := by decide +kernel
theorem i206_2 : zfetch 206 2 = some (8, .iconst 3, 1) := by decide +kernel
theorem i206_3 : zfetch 206 3 = some (8, .invokestatic 50, 3) := by decide +kernel
theorem i206_6 : zfetch 206 6 = some (8, .ireturn, 1) := by decide +kernel
theorem i207_0 : zfetch 207 0 = some (8, .iload_n 1, 1) := by decide +kernel
theorem i207_1 : zfetch 207 1 = some (8, .invokestatic 252, 3) := by decide +kernel
theorem i207_4 : zfetch 207 4 = some (8, .ifCond .eq 25, 3) := by decide +kernel
theorem i207_7 : zfetch 207 7 = some (8, .iload_n 2, 1) := by decide +kernel
theorem i207_8 : zfetch 207 8 = some (8, .ifCond .eq 27, 3) := by decide +kernel
theorem i207_11 : zfetch 207 11 = some (8, .iload_n 2, 1) := by decide +kernel
theorem i207_12 : zfetch 207 12 = some (8, .bipush 8, 2) := by decide +kernel
theorem i207_14 : zfetch 207 14 = some (8, .if_icmp .eq 21, 3) := by decide +kernel
theorem i207_17 : zfetch 207 17 = some (8, .iload_n 2, 1) := by decide +kernel
theorem i207_18 : zfetch 207 18 = some (8, .bipush 16, 2) := by decide +kernel
theorem i207_20 : zfetch 207 20 = some (8, .if_icmp .eq 15, 3) := by decide +kernel
theorem i207_23 : zfetch 207 23 = some (8, .iload_n 2, 1) := by decide +kernel
theorem i207_24 : zfetch 207 24 = some (8, .bipush 32, 2) := by decide +kernel
theorem i207_26 : zfetch 207 26 = some (8, .if_icmp .eq 9, 3) := by decide +kernel
theorem i207_29 : zfetch 207 29 = some (8, .aload_n 0, 1) := by decide +kernel
theorem i207_30 : zfetch 207 30 = some (8, .iconst 1, 1) := by decide +kernel
theorem i207_31 : zfetch 207 31 = some (8, .invokevirtual 58, 3) := by decide +kernel
theorem i207_34 : zfetch 207 34 = some (8, .ireturn, 1) := by decide +kernel
theorem i207_35 : zfetch 207 35 = some (8, .iload_n 2, 1) := by decide +kernel
theorem i207_36 : zfetch 207 36 = some (8, .ifCond .eq 13, 3) := by decide +kernel
theorem i207_39 : zfetch 207 39 = some (8, .iload_n 3, 1) := by decide +kernel
theorem i207_40 : zfetch 207 40 = some (8, .ifCond .ge 9, 3) := by decide +kernel
theorem i207_43 : zfetch 207 43 = some (8, .aload_n 0, 1) := by decide +kernel
theorem i207_44 : zfetch 207 44 = some (8, .iconst 3, 1) := by decide +kernel
theorem i207_45 : zfetch 207 45 = some (8, .invokevirtual 58, 3) := by decide +kernel
theorem i207_48 : zfetch 207 48 = some (8, .ireturn, 1) := by decide +kernel
theorem i207_49 : zfetch 207 49 = some (8, .iload_n 2, 1) := by decide +kernel
theorem i207_50 : zfetch 207 50 = some (8, .ifCond .eq 15, 3) := by decide +kernel
theorem i207_53 : zfetch 207 53 = some (8, .iload_n 3, 1) := by decide +kernel
theorem i207_54 : zfetch 207 54 = some (8, .bipush 24, 2) := by decide +kernel
theorem i207_56 : zfetch 207 56 = some (8, .if_icmp .le 9, 3) := by decide +kernel
theorem i207_59 : zfetch 207 59 = some (8, .aload_n 0, 1) := by decide +kernel
theorem i207_60 : zfetch 207 60 = some (8, .iconst 1, 1) := by decide +kernel
theorem i207_61 : zfetch 207 61 = some (8, .invokevirtual 58, 3) := by decide +kernel
theorem i207_64 : zfetch 207 64 = some (8, .ireturn, 1) := by decide +kernel
theorem i207_65 : zfetch 207 65 = some (8, .aload_n 0, 1) := by decide +kernel
theorem i207_66 : zfetch 207 66 = some (8, .getfield 37, 3) := by decide +kernel
theorem i207_69 : zfetch 207 69 = some (8, .iload_n 1, 1) := by decide +kernel
theorem i207_70 : zfetch 207 70 = some (8, .iload_n 2, 1) := by decide +kernel
theorem i207_71 : zfetch 207 71 = some (8, .iastore, 1) := by decide +kernel
theorem i207_72 : zfetch 207 72 = some (8, .aload_n 0, 1) := by decide +kernel
theorem i207_73 : zfetch 207 73 = some (8, .getfield 40, 3) := by decide +kernel
theorem i207_76 : zfetch 207 76 = some (8, .iload_n 1, 1) := by decide +kernel
theorem i207_77 : zfetch 207 77 = some (8, .iload_n 2, 1) := by decide +kernel
theorem i207_78 : zfetch 207 78 = some (8, .ifCond .ne 7, 3) := by decide +kernel
theorem i207_81 : zfetch 207 81 = some (8, .iconst 0, 1) := by decide +kernel
theorem i207_82 : zfetch 207 82 = some (8, .goto 4, 3) := by decide +kernel
theorem i207_85 : zfetch 207 85 = some (8, .iload_n 3, 1) := by decide +kernel
theorem i207_86 : zfetch 207 86 = some (8, .iastore, 1) := by decide +kernel
theorem i207_87 : zfetch 207 87 = some (8, .iconst 0, 1) := by decide +kernel
theorem i207_88 : zfetch 207 88 = some (8, .istore 4, 2) := by decide +kernel
theorem i207_90 : zfetch 207 90 = some (8, .iload 4, 2) := by decide +kernel
theorem i207_92 : zfetch 207 92 = some (8, .bipush 24, 2) := by decide +kernel
theorem i207_94 : zfetch 207 94 = some (8, .if_icmp .ge 22, 3) := by decide +kernel
theorem i207_97 : zfetch 207 97 = some (8, .aload_n 0, 1) := by decide +kernel
theorem i207_98 : zfetch 207 98 = some (8, .getfield 43, 3) := by decide +kernel
theorem i207_101 : zfetch 207 101 = some (8, .bipush 24, 2) := by decide +kernel
theorem i207_103 : zfetch 207 103 = some (8, .iload_n 1, 1) := by decide +kernel
theorem i207_104 : zfetch 207 104 = some (8, .imul, 1) := by decide +kernel
theorem i207_105 : zfetch 207 105 = some (8, .iload 4, 2) := by decide +kernel
theorem i207_107 : zfetch 207 107 = some (8, .iadd, 1) := by decide +kernel
theorem i207_108 : zfetch 207 108 = some (8, .iconst 0, 1) := by decide +kernel
theorem i207_109 : zfetch 207 109 = some (8, .iastore, 1) := by decide +kernel
theorem i207_110 : zfetch 207 110 = some (8, .iinc 4 1, 3) := by decide +kernel
theorem i207_113 : zfetch 207 113 = some (8, .goto (-23), 3) := by decide +kernel
theorem i207_116 : zfetch 207 116 = some (8, .iconst 1, 1) := by decide +kernel
theorem i207_117 : zfetch 207 117 = some (8, .ireturn, 1) := by decide +kernel
theorem i208_0 : zfetch 208 0 = some (8, .iload_n 1, 1) := by decide +kernel
theorem i208_1 : zfetch 208 1 = some (8, .invokestatic 252, 3) := by decide +kernel
theorem i208_4 : zfetch 208 4 = some (8, .ifCond .ne 9, 3) := by decide +kernel
theorem i208_7 : zfetch 208 7 = some (8, .aload_n 0, 1) := by decide +kernel
theorem i208_8 : zfetch 208 8 = some (8, .iconst 1, 1) := by decide +kernel
theorem i208_9 : zfetch 208 9 = some (8, .invokevirtual 58, 3) := by decide +kernel
theorem i208_12 : zfetch 208 12 = some (8, .ireturn, 1) := by decide +kernel
theorem i208_13 : zfetch 208 13 = some (8, .aload_n 0, 1) := by decide +kernel
theorem i208_14 : zfetch 208 14 = some (8, .getfield 37, 3) := by decide +kernel
theorem i208_17 : zfetch 208 17 = some (8, .iload_n 1, 1) := by decide +kernel
theorem i208_18 : zfetch 208 18 = some (8, .iaload, 1) := by decide +kernel
theorem i208_19 : zfetch 208 19 = some (8, .ifCond .ne 9, 3) := by decide +kernel
theorem i208_22 : zfetch 208 22 = some (8, .aload_n 0, 1) := by decide +kernel
theorem i208_23 : zfetch 208 23 = some (8, .iconst 2, 1) := by decide +kernel
theorem i208_24 : zfetch 208 24 = some (8, .invokevirtual 58, 3) := by decide +kernel
theorem i208_27 : zfetch 208 27 = some (8, .ireturn, 1) := by decide +kernel
theorem i208_28 : zfetch 208 28 = some (8, .iload_n 2, 1) := by decide +kernel
theorem i208_29 : zfetch 208 29 = some (8, .iconst 0, 1) := by decide +kernel
theorem i208_30 : zfetch 208 30 = some (8, .aload_n 0, 1) := by decide +kernel
theorem i208_31 : zfetch 208 31 = some (8, .getfield 40, 3) := by decide +kernel
theorem i208_34 : zfetch 208 34 = some (8, .iload_n 1, 1) := by decide +kernel
theorem i208_35 : zfetch 208 35 = some (8, .iaload, 1) := by decide +kernel
theorem i208_36 : zfetch 208 36 = some (8, .iconst 1, 1) := by decide +kernel
theorem i208_37 : zfetch 208 37 = some (8, .isub, 1) := by decide +kernel
theorem i208_38 : zfetch 208 38 = some (8, .invokestatic 50, 3) := by decide +kernel
theorem i208_41 : zfetch 208 41 = some (8, .ifCond .ne 9, 3) := by decide +kernel
theorem i208_44 : zfetch 208 44 = some (8, .aload_n 0, 1) := by decide +kernel
theorem i208_45 : zfetch 208 45 = some (8, .iconst 1, 1) := by decide +kernel
theorem i208_46 : zfetch 208 46 = some (8, .invokevirtual 58, 3) := by decide +kernel
theorem i208_49 : zfetch 208 49 = some (8, .ireturn, 1) := by decide +kernel
theorem i208_50 : zfetch 208 50 = some (8, .bipush 32, 2) := by decide +kernel
theorem i208_52 : zfetch 208 52 = some (8, .aload_n 0, 1) := by decide +kernel
theorem i208_53 : zfetch 208 53 = some (8, .getfield 37, 3) := by decide +kernel
theorem i208_56 : zfetch 208 56 = some (8, .iload_n 1, 1) := by decide +kernel
theorem i208_57 : zfetch 208 57 = some (8, .iaload, 1) := by decide +kernel
theorem i208_58 : zfetch 208 58 = some (8, .isub, 1) := by decide +kernel
theorem i208_59 : zfetch 208 59 = some (8, .istore 4, 2) := by decide +kernel
theorem i208_61 : zfetch 208 61 = some (8, .aload_n 0, 1) := by decide +kernel
theorem i208_62 : zfetch 208 62 = some (8, .getfield 43, 3) := by decide +kernel
theorem i208_65 : zfetch 208 65 = some (8, .bipush 24, 2) := by decide +kernel
theorem i208_67 : zfetch 208 67 = some (8, .iload_n 1, 1) := by decide +kernel
theorem i208_68 : zfetch 208 68 = some (8, .imul, 1) := by decide +kernel
theorem i208_69 : zfetch 208 69 = some (8, .iload_n 2, 1) := by decide +kernel
theorem i208_70 : zfetch 208 70 = some (8, .iadd, 1) := by decide +kernel
theorem i208_71 : zfetch 208 71 = some (8, .iload_n 3, 1) := by decide +kernel
theorem i208_72 : zfetch 208 72 = some (8, .iload 4, 2) := by decide +kernel
theorem i208_74 : zfetch 208 74 = some (8, .ishl, 1) := by decide +kernel
theorem i208_75 : zfetch 208 75 = some (8, .iload 4, 2) := by decide +kernel
theorem i208_77 : zfetch 208 77 = some (8, .ishr, 1) := by decide +kernel
theorem i208_78 : zfetch 208 78 = some (8, .iastore, 1) := by decide +kernel
theorem i208_79 : zfetch 208 79 = some (8, .iconst 1, 1) := by decide +kernel
theorem i208_80 : zfetch 208 80 = some (8, .ireturn, 1) := by decide +kernel
theorem i209_0 : zfetch 209 0 = some (8, .iload_n 1, 1) := by decide +kernel
theorem i209_1 : zfetch 209 1 = some (8, .invokestatic 252, 3) := by decide +kernel
theorem i209_4 : zfetch 209 4 = some (8, .ifCond .eq 10, 3) := by decide +kernel
theorem i209_7 : zfetch 209 7 = some (8, .iload_n 3, 1) := by decide +kernel
theorem i209_8 : zfetch 209 8 = some (8, .invokestatic 252, 3) := by decide +kernel
theorem i209_11 : zfetch 209 11 = some (8, .ifCond .ne 9, 3) := by decide +kernel
theorem i209_14 : zfetch 209 14 = some (8, .aload_n 0, 1) := by decide +kernel
theorem i209_15 : zfetch 209 15 = some (8, .iconst 1, 1) := by decide +kernel
theorem i209_16 : zfetch 209 16 = some (8, .invokevirtual 58, 3) := by decide +kernel
theorem i209_19 : zfetch 209 19 = some (8, .ireturn, 1) := by decide +kernel
theorem i209_20 : zfetch 209 20 = some (8, .aload_n 0, 1) := by decide +kernel
theorem i209_21 : zfetch 209 21 = some (8, .getfield 37, 3) := by decide +kernel
theorem i209_24 : zfetch 209 24 = some (8, .iload_n 1, 1) := by decide +kernel
theorem i209_25 : zfetch 209 25 = some (8, .iaload, 1) := by decide +kernel
theorem i209_26 : zfetch 209 26 = some (8, .ifCond .eq 12, 3) := by decide +kernel
theorem i209_29 : zfetch 209 29 = some (8, .aload_n 0, 1) := by decide +kernel
theorem i209_30 : zfetch 209 30 = some (8, .getfield 37, 3) := by decide +kernel
theorem i209_33 : zfetch 209 33 = some (8, .iload_n 3, 1) := by decide +kernel
theorem i209_34 : zfetch 209 34 = some (8, .iaload, 1) := by decide +kernel
theorem i209_35 : zfetch 209 35 = some (8, .ifCond .ne 9, 3) := by decide +kernel
theorem i209_38 : zfetch 209 38 = some (8, .aload_n 0, 1) := by decide +kernel
theorem i209_39 : zfetch 209 39 = some (8, .iconst 2, 1) := by decide +kernel
theorem i209_40 : zfetch 209 40 = some (8, .invokevirtual 58, 3) := by decide +kernel
theorem i209_43 : zfetch 209 43 = some (8, .ireturn, 1) := by decide +kernel
theorem i209_44 : zfetch 209 44 = some (8, .aload_n 0, 1) := by decide +kernel
theorem i209_45 : zfetch 209 45 = some (8, .getfield 37, 3) := by decide +kernel
theorem i209_48 : zfetch 209 48 = some (8, .iload_n 1, 1) := by decide +kernel
theorem i209_49 : zfetch 209 49 = some (8, .iaload, 1) := by decide +kernel
theorem i209_50 : zfetch 209 50 = some (8, .aload_n 0, 1) := by decide +kernel
theorem i209_51 : zfetch 209 51 = some (8, .getfield 37, 3) := by decide +kernel
theorem i209_54 : zfetch 209 54 = some (8, .iload_n 3, 1) := by decide +kernel
theorem i209_55 : zfetch 209 55 = some (8, .iaload, 1) := by decide +kernel
theorem i209_56 : zfetch 209 56 = some (8, .if_icmp .eq 9, 3) := by decide +kernel
theorem i209_59 : zfetch 209 59 = some (8, .aload_n 0, 1) := by decide +kernel
theorem i209_60 : zfetch 209 60 = some (8, .iconst 5, 1) := by decide +kernel
theorem i209_61 : zfetch 209 61 = some (8, .invokevirtual 58, 3) := by decide +kernel
theorem i209_64 : zfetch 209 64 = some (8, .ireturn, 1) := by decide +kernel
theorem i209_65 : zfetch 209 65 = some (8, .iload 5, 2) := by decide +kernel
theorem i209_67 : zfetch 209 67 = some (8, .ifCond .lt 39, 3) := by decide +kernel
theorem i209_70 : zfetch 209 70 = some (8, .iload_n 2, 1) := by decide +kernel
theorem i209_71 : zfetch 209 71 = some (8, .ifCond .lt 35, 3) := by decide +kernel
theorem i209_74 : zfetch 209 74 = some (8, .iload 4, 2) := by decide +kernel
theorem i209_76 : zfetch 209 76 = some (8, .ifCond .lt 30, 3) := by decide +kernel
theorem i209_79 : zfetch 209 79 = some (8, .iload_n 2, 1) := by decide +kernel
theorem i209_80 : zfetch 209 80 = some (8, .aload_n 0, 1) := by decide +kernel
theorem i209_81 : zfetch 209 81 = some (8, .getfield 40, 3) := by decide +kernel
theorem i209_84 : zfetch 209 84 = some (8, .iload_n 1, 1) := by decide +kernel
theorem i209_85 : zfetch 209 85 = some (8, .iaload, 1) := by decide +kernel
theorem i209_86 : zfetch 209 86 = some (8, .iload 5, 2) := by decide +kernel
theorem i209_88 : zfetch 209 88 = some (8, .isub, 1) := by decide +kernel
theorem i209_89 : zfetch 209 89 = some (8, .if_icmp .gt 17, 3) := by decide +kernel
theorem i209_92 : zfetch 209 92 = some (8, .iload 4, 2) := by decide +kernel
theorem i209_94 : zfetch 209 94 = some (8, .aload_n 0, 1) := by decide +kernel
theorem i209_95 : zfetch 209 95 = some (8, .getfield 40, 3) := by decide +kernel
theorem i209_98 : zfetch 209 98 = some (8, .iload_n 3, 1) := by decide +kernel
theorem i209_99 : zfetch 209 99 = some (8, .iaload, 1) := by decide +kernel
theorem i209_100 : zfetch 209 100 = some (8, .iload 5, 2) := by decide +kernel
theorem i209_102 : zfetch 209 102 = some (8, .isub, 1) := by decide +kernel
theorem i209_103 : zfetch 209 103 = some (8, .if_icmp .le 9, 3) := by decide +kernel
theorem i209_106 : zfetch 209 106 = some (8, .aload_n 0, 1) := by decide +kernel
theorem i209_107 : zfetch 209 107 = some (8, .iconst 1, 1) := by decide +kernel
theorem i209_108 : zfetch 209 108 = some (8, .invokevirtual 58, 3) := by decide +kernel
theorem i209_111 : zfetch 209 111 = some (8, .ireturn, 1) := by decide +kernel
theorem i209_112 : zfetch 209 112 = some (8, .iconst 0, 1) := by decide +kernel
theorem i209_113 : zfetch 209 113 = some (8, .istore 6, 2) := by decide +kernel
theorem i209_115 : zfetch 209 115 = some (8, .iload 6, 2) := by decide +kernel
theorem i209_117 : zfetch 209 117 = some (8, .iload 5, 2) := by decide +kernel
theorem i209_119 : zfetch 209 119 = some (8, .if_icmp .ge 30, 3) := by decide +kernel
theorem i209_122 : zfetch 209 122 = some (8, .aload_n 0, 1) := by decide +kernel
theorem i209_123 : zfetch 209 123 = some (8, .getfield 46, 3) := by decide +kernel
theorem i209_126 : zfetch 209 126 = some (8, .iload 6, 2) := by decide +kernel
theorem i209_128 : zfetch 209 128 = some (8, .aload_n 0, 1) := by decide +kernel
theorem i209_129 : zfetch 209 129 = some (8, .getfield 43, 3) := by decide +kernel
theorem i209_132 : zfetch 209 132 = some (8, .bipush 24, 2) := by decide +kernel
theorem i209_134 : zfetch 209 134 = some (8, .iload_n 1, 1) := by decide +kernel
theorem i209_135 : zfetch 209 135 = some (8, .imul, 1) := by decide +kernel
theorem i209_136 : zfetch 209 136 = some (8, .iload_n 2, 1) := by decide +kernel
theorem i209_137 : zfetch 209 137 = some (8, .iadd, 1) := by decide +kernel
theorem i209_138 : zfetch 209 138 = some (8, .iload 6, 2) := by decide +kernel
theorem i209_140 : zfetch 209 140 = some (8, .iadd, 1) := by decide +kernel
theorem i209_141 : zfetch 209 141 = some (8, .iaload, 1) := by decide +kernel
theorem i209_142 : zfetch 209 142 = some (8, .iastore, 1) := by decide +kernel
theorem i209_143 : zfetch 209 143 = some (8, .iinc 6 1, 3) := by decide +kernel
theorem i209_146 : zfetch 209 146 = some (8, .goto (-31), 3) := by decide +kernel
theorem i209_149 : zfetch 209 149 = some (8, .iconst 0, 1) := by decide +kernel
theorem i209_150 : zfetch 209 150 = some (8, .istore 6, 2) := by decide +kernel
theorem i209_152 : zfetch 209 152 = some (8, .iload 6, 2) := by decide +kernel
theorem i209_154 : zfetch 209 154 = some (8, .iload 5, 2) := by decide +kernel
theorem i209_156 : zfetch 209 156 = some (8, .if_icmp .ge 31, 3) := by decide +kernel
theorem i209_159 : zfetch 209 159 = some (8, .aload_n 0, 1) := by decide +kernel
theorem i209_160 : zfetch 209 160 = some (8, .getfield 43, 3) := by decide +kernel
theorem i209_163 : zfetch 209 163 = some (8, .bipush 24, 2) := by decide +kernel
theorem i209_165 : zfetch 209 165 = some (8, .iload_n 3, 1) := by decide +kernel
theorem i209_166 : zfetch 209 166 = some (8, .imul, 1) := by decide +kernel
theorem i209_167 : zfetch 209 167 = some (8, .iload 4, 2) := by decide +kernel
theorem i209_169 : zfetch 209 169 = some (8, .iadd, 1) := by decide +kernel
theorem i209_170 : zfetch 209 170 = some (8, .iload 6, 2) := by decide +kernel
theorem i209_172 : zfetch 209 172 = some (8, .iadd, 1) := by decide +kernel
theorem i209_173 : zfetch 209 173 = some (8, .aload_n 0, 1) := by decide +kernel
theorem i209_174 : zfetch 209 174 = some (8, .getfield 46, 3) := by decide +kernel
theorem i209_177 : zfetch 209 177 = some (8, .iload 6, 2) := by decide +kernel
theorem i209_179 : zfetch 209 179 = some (8, .iaload, 1) := by decide +kernel
theorem i209_180 : zfetch 209 180 = some (8, .iastore, 1) := by decide +kernel
theorem i209_181 : zfetch 209 181 = some (8, .iinc 6 1, 3) := by decide +kernel
theorem i209_184 : zfetch 209 184 = some (8, .goto (-32), 3) := by decide +kernel
theorem i209_187 : zfetch 209 187 = some (8, .iload 5, 2) := by decide +kernel
theorem i209_189 : zfetch 209 189 = some (8, .ireturn, 1) := by decide +kernel
theorem i210_0 : zfetch 210 0 = some (8, .iload_n 1, 1) := by decide +kernel
theorem i210_1 : zfetch 210 1 = some (8, .invokestatic 252, 3) := by decide +kernel
theorem i210_4 : zfetch 210 4 = some (8, .ifCond .ne 7, 3) := by decide +kernel
theorem i210_7 : zfetch 210 7 = some (8, .iconst 1, 1) := by decide +kernel
theorem i210_8 : zfetch 210 8 = some (8, .goto 17, 3) := by decide +kernel
theorem i210_11 : zfetch 210 11 = some (8, .aload_n 0, 1) := by decide +kernel
theorem i210_12 : zfetch 210 12 = some (8, .getfield 37, 3) := by decide +kernel
theorem i210_15 : zfetch 210 15 = some (8, .iload_n 1, 1) := by decide +kernel
theorem i210_16 : zfetch 210 16 = some (8, .iaload, 1) := by decide +kernel
theorem i210_17 : zfetch 210 17 = some (8, .ifCond .ne 7, 3) := by decide +kernel
theorem i210_20 : zfetch 210 20 = some (8, .iconst 2, 1) := by decide +kernel
theorem i210_21 : zfetch 210 21 = some (8, .goto 4, 3) := by decide +kernel
theorem i210_24 : zfetch 210 24 = some (8, .iconst 0, 1) := by decide +kernel
theorem i210_25 : zfetch 210 25 = some (8, .ireturn, 1) := by decide +kernel
theorem i211_0 : zfetch 211 0 = some (8, .aload_n 0, 1) := by decide +kernel
theorem i211_1 : zfetch 211 1 = some (8, .iload_n 1, 1) := by decide +kernel
theorem i211_2 : zfetch 211 2 = some (8, .invokevirtual 286, 3) := by decide +kernel
theorem i211_5 : zfetch 211 5 = some (8, .istore_n 2, 1) := by decide +kernel
theorem i211_6 : zfetch 211 6 = some (8, .iload_n 2, 1) := by decide +kernel
theorem i211_7 : zfetch 211 7 = some (8, .ifCond .eq 9, 3) := by decide +kernel
theorem i211_10 : zfetch 211 10 = some (8, .aload_n 0, 1) := by decide +kernel
theorem i211_11 : zfetch 211 11 = some (8, .iload_n 2, 1) := by decide +kernel
theorem i211_12 : zfetch 211 12 = some (8, .invokevirtual 58, 3) := by decide +kernel
theorem i211_15 : zfetch 211 15 = some (8, .ireturn, 1) := by decide +kernel
theorem i211_16 : zfetch 211 16 = some (8, .iconst 0, 1) := by decide +kernel
theorem i211_17 : zfetch 211 17 = some (8, .istore_n 3, 1) := by decide +kernel
theorem i211_18 : zfetch 211 18 = some (8, .iload_n 3, 1) := by decide +kernel
theorem i211_19 : zfetch 211 19 = some (8, .aload_n 0, 1) := by decide +kernel
theorem i211_20 : zfetch 211 20 = some (8, .getfield 40, 3) := by decide +kernel
theorem i211_23 : zfetch 211 23 = some (8, .iload_n 1, 1) := by decide +kernel
theorem i211_24 : zfetch 211 24 = some (8, .iaload, 1) := by decide +kernel
theorem i211_25 : zfetch 211 25 = some (8, .if_icmp .ge 68, 3) := by decide +kernel
theorem i211_28 : zfetch 211 28 = some (8, .iload_n 3, 1) := by decide +kernel
theorem i211_29 : zfetch 211 29 = some (8, .aload_n 0, 1) := by decide +kernel
theorem i211_30 : zfetch 211 30 = some (8, .getfield 7, 3) := by decide +kernel
theorem i211_33 : zfetch 211 33 = some (8, .iconst 4, 1) := by decide +kernel
theorem i211_34 : zfetch 211 34 = some (8, .iaload, 1) := by decide +kernel
theorem i211_35 : zfetch 211 35 = some (8, .if_icmp .ge 58, 3) := by decide +kernel
theorem i211_38 : zfetch 211 38 = some (8, .aload_n 0, 1) := by decide +kernel
theorem i211_39 : zfetch 211 39 = some (8, .getfield 43, 3) := by decide +kernel
theorem i211_42 : zfetch 211 42 = some (8, .bipush 24, 2) := by decide +kernel
theorem i211_44 : zfetch 211 44 = some (8, .iload_n 1, 1) := by decide +kernel
theorem i211_45 : zfetch 211 45 = some (8, .imul, 1) := by decide +kernel
theorem i211_46 : zfetch 211 46 = some (8, .iload_n 3, 1) := by decide +kernel
theorem i211_47 : zfetch 211 47 = some (8, .iadd, 1) := by decide +kernel
theorem i211_48 : zfetch 211 48 = some (8, .iaload, 1) := by decide +kernel
theorem i211_49 : zfetch 211 49 = some (8, .iconst 0, 1) := by decide +kernel
theorem i211_50 : zfetch 211 50 = some (8, .bipush 99, 2) := by decide +kernel
theorem i211_52 : zfetch 211 52 = some (8, .invokestatic 50, 3) := by decide +kernel
theorem i211_55 : zfetch 211 55 = some (8, .ifCond .eq 38, 3) := by decide +kernel
theorem i211_58 : zfetch 211 58 = some (8, .aload_n 0, 1) := by decide +kernel
theorem i211_59 : zfetch 211 59 = some (8, .iload_n 3, 1) := by decide +kernel
theorem i211_60 : zfetch 211 60 = some (8, .iconst 5, 1) := by decide +kernel
theorem i211_61 : zfetch 211 61 = some (8, .aload_n 0, 1) := by decide +kernel
theorem i211_62 : zfetch 211 62 = some (8, .iload_n 3, 1) := by decide +kernel
theorem i211_63 : zfetch 211 63 = some (8, .invokevirtual 140, 3) := by decide +kernel
theorem i211_66 : zfetch 211 66 = some (8, .ifCond .eq 17, 3) := by decide +kernel
theorem i211_69 : zfetch 211 69 = some (8, .aload_n 0, 1) := by decide +kernel
theorem i211_70 : zfetch 211 70 = some (8, .getfield 43, 3) := by decide +kernel
theorem i211_73 : zfetch 211 73 = some (8, .bipush 24, 2) := by decide +kernel
theorem i211_75 : zfetch 211 75 = some (8, .iload_n 1, 1) := by decide +kernel
theorem i211_76 : zfetch 211 76 = some (8, .imul, 1) := by decide +kernel
theorem i211_77 : zfetch 211 77 = some (8, .iload_n 3, 1) := by decide +kernel
theorem i211_78 : zfetch 211 78 = some (8, .iadd, 1) := by decide +kernel
theorem i211_79 : zfetch 211 79 = some (8, .iaload, 1) := by decide +kernel
theorem i211_80 : zfetch 211 80 = some (8, .goto 4, 3) := by decide +kernel
theorem i211_83 : zfetch 211 83 = some (8, .iconst 0, 1) := by decide +kernel
theorem i211_84 : zfetch 211 84 = some (8, .invokevirtual 149, 3) := by decide +kernel
theorem i211_87 : zfetch 211 87 = some (8, .iinc 3 1, 3) := by decide +kernel
theorem i211_90 : zfetch 211 90 = some (8, .goto (-72), 3) := by decide +kernel
theorem i211_93 : zfetch 211 93 = some (8, .iload_n 3, 1) := by decide +kernel
theorem i211_94 : zfetch 211 94 = some (8, .ireturn, 1) := by decide +kernel
theorem i212_0 : zfetch 212 0 = some (8, .aload_n 0, 1) := by decide +kernel
theorem i212_1 : zfetch 212 1 = some (8, .iload_n 1, 1) := by decide +kernel
theorem i212_2 : zfetch 212 2 = some (8, .invokevirtual 286, 3) := by decide +kernel
theorem i212_5 : zfetch 212 5 = some (8, .istore_n 2, 1) := by decide +kernel
theorem i212_6 : zfetch 212 6 = some (8, .iload_n 2, 1) := by decide +kernel
theorem i212_7 : zfetch 212 7 = some (8, .ifCond .eq 9, 3) := by decide +kernel
theorem i212_10 : zfetch 212 10 = some (8, .aload_n 0, 1) := by decide +kernel
theorem i212_11 : zfetch 212 11 = some (8, .iload_n 2, 1) := by decide +kernel
theorem i212_12 : zfetch 212 12 = some (8, .invokevirtual 58, 3) := by decide +kernel
theorem i212_15 : zfetch 212 15 = some (8, .ireturn, 1) := by decide +kernel
theorem i212_16 : zfetch 212 16 = some (8, .iconst 0, 1) := by decide +kernel
theorem i212_17 : zfetch 212 17 = some (8, .istore_n 3, 1) := by decide +kernel
theorem i212_18 : zfetch 212 18 = some (8, .iload_n 3, 1) := by decide +kernel
theorem i212_19 : zfetch 212 19 = some (8, .aload_n 0, 1) := by decide +kernel
theorem i212_20 : zfetch 212 20 = some (8, .getfield 40, 3) := by decide +kernel
theorem i212_23 : zfetch 212 23 = some (8, .iload_n 1, 1) := by decide +kernel
theorem i212_24 : zfetch 212 24 = some (8, .iaload, 1) := by decide +kernel
theorem i212_25 : zfetch 212 25 = some (8, .if_icmp .ge 39, 3) := by decide +kernel
theorem i212_28 : zfetch 212 28 = some (8, .iload_n 3, 1) := by decide +kernel
theorem i212_29 : zfetch 212 29 = some (8, .aload_n 0, 1) := by decide +kernel
theorem i212_30 : zfetch 212 30 = some (8, .getfield 7, 3) := by decide +kernel
theorem i212_33 : zfetch 212 33 = some (8, .iconst 4, 1) := by decide +kernel
theorem i212_34 : zfetch 212 34 = some (8, .iaload, 1) := by decide +kernel
theorem i212_35 : zfetch 212 35 = some (8, .if_icmp .ge 29, 3) := by decide +kernel
theorem i212_38 : zfetch 212 38 = some (8, .aload_n 0, 1) := by decide +kernel
theorem i212_39 : zfetch 212 39 = some (8, .getfield 43, 3) := by decide +kernel
theorem i212_42 : zfetch 212 42 = some (8, .bipush 24, 2) := by decide +kernel
theorem i212_44 : zfetch 212 44 = some (8, .iload_n 1, 1) := by decide +kernel
theorem i212_45 : zfetch 212 45 = some (8, .imul, 1) := by decide +kernel
theorem i212_46 : zfetch 212 46 = some (8, .iload_n 3, 1) := by decide +kernel
theorem i212_47 : zfetch 212 47 = some (8, .iadd, 1) := by decide +kernel
theorem i212_48 : zfetch 212 48 = some (8, .iaload, 1) := by decide +kernel
theorem i212_49 : zfetch 212 49 = some (8, .aload_n 0, 1) := by decide +kernel
theorem i212_50 : zfetch 212 50 = some (8, .iload_n 3, 1) := by decide +kernel
theorem i212_51 : zfetch 212 51 = some (8, .iconst 3, 1) := by decide +kernel
theorem i212_52 : zfetch 212 52 = some (8, .invokevirtual 54, 3) := by decide +kernel
theorem i212_55 : zfetch 212 55 = some (8, .if_icmp .ne 9, 3) := by decide +kernel
theorem i212_58 : zfetch 212 58 = some (8, .iinc 3 1, 3) := by decide +kernel
theorem i212_61 : zfetch 212 61 = some (8, .goto (-43), 3) := by decide +kernel
theorem i212_64 : zfetch 212 64 = some (8, .iload_n 3, 1) := by decide +kernel
theorem i212_65 : zfetch 212 65 = some (8, .ireturn, 1) := by decide +kernel
theorem i213_0 : zfetch 213 0 = some (8, .aload_n 0, 1) := by decide +kernel
theorem i213_1 : zfetch 213 1 = some (8, .getfield 7, 3) := by decide +kernel
theorem i213_4 : zfetch 213 4 = some (8, .aload_n 0, 1) := by decide +kernel
theorem i213_5 : zfetch 213 5 = some (8, .getfield 13, 3) := by decide +kernel
theorem i213_8 : zfetch 213 8 = some (8, .invokestatic 289, 3) := by decide +kernel
theorem i213_11 : zfetch 213 11 = some (8, .aload_n 0, 1) := by decide +kernel
theorem i213_12 : zfetch 213 12 = some (8, .dup, 1) := by decide +kernel
theorem i213_13 : zfetch 213 13 = some (8, .getfield 293, 3) := by decide +kernel
theorem i213_16 : zfetch 213 16 = some (8, .iconst 1, 1) := by decide +kernel
theorem i213_17 : zfetch 213 17 = some (8, .iadd, 1) := by decide +kernel
theorem i213_18 : zfetch 213 18 = some (8, .putfield 293, 3) := by decide +kernel
theorem i213_21 : zfetch 213 21 = some (8, .aload_n 0, 1) := by decide +kernel
theorem i213_22 : zfetch 213 22 = some (8, .getfield 293, 3) := by decide +kernel
theorem i213_25 : zfetch 213 25 = some (8, .ireturn, 1) := by decide +kernel
theorem i214_0 : zfetch 214 0 = some (8, .aload_n 0, 1) := by decide +kernel
theorem i214_1 : zfetch 214 1 = some (8, .getfield 293, 3) := by decide +kernel
theorem i214_4 : zfetch 214 4 = some (8, .ifCond .ne 9, 3) := by decide +kernel
theorem i214_7 : zfetch 214 7 = some (8, .aload_n 0, 1) := by decide +kernel
theorem i214_8 : zfetch 214 8 = some (8, .iconst 2, 1) := by decide +kernel
theorem i214_9 : zfetch 214 9 = some (8, .invokevirtual 58, 3) := by decide +kernel
theorem i214_12 : zfetch 214 12 = some (8, .ireturn, 1) := by decide +kernel
theorem i214_13 : zfetch 214 13 = some (8, .aload_n 0, 1) := by decide +kernel
theorem i214_14 : zfetch 214 14 = some (8, .getfield 13, 3) := by decide +kernel
theorem i214_17 : zfetch 214 17 = some (8, .aload_n 0, 1) := by decide +kernel
theorem i214_18 : zfetch 214 18 = some (8, .getfield 7, 3) := by decide +kernel
theorem i214_21 : zfetch 214 21 = some (8, .invokestatic 289, 3) := by decide +kernel
theorem i214_24 : zfetch 214 24 = some (8, .aload_n 0, 1) := by decide +kernel
theorem i214_25 : zfetch 214 25 = some (8, .getfield 7, 3) := by decide +kernel
theorem i214_28 : zfetch 214 28 = some (8, .iconst 0, 1) := by decide +kernel
theorem i214_29 : zfetch 214 29 = some (8, .iaload, 1) := by decide +kernel
theorem i214_30 : zfetch 214 30 = some (8, .ireturn, 1) := by decide +kernel
theorem i215_0 : zfetch 215 0 = some (8, .aload_n 0, 1) := by decide +kernel
theorem i215_1 : zfetch 215 1 = some (8, .getfield 7, 3) := by decide +kernel
theorem i215_4 : zfetch 215 4 = some (8, .iconst 3, 1) := by decide +kernel
theorem i215_5 : zfetch 215 5 = some (8, .iaload, 1) := by decide +kernel
theorem i215_6 : zfetch 215 6 = some (8, .bipush 24, 2) := by decide +kernel
theorem i215_8 : zfetch 215 8 = some (8, .if_icmp .ne 9, 3) := by decide +kernel
theorem i215_11 : zfetch 215 11 = some (8, .aload_n 0, 1) := by decide +kernel
theorem i215_12 : zfetch 215 12 = some (8, .iconst 4, 1) := by decide +kernel
theorem i215_13 : zfetch 215 13 = some (8, .invokevirtual 58, 3) := by decide +kernel
theorem i215_16 : zfetch 215 16 = some (8, .ireturn, 1) := by decide +kernel
theorem i215_17 : zfetch 215 17 = some (8, .aload_n 0, 1) := by decide +kernel
theorem i215_18 : zfetch 215 18 = some (8, .getfield 7, 3) := by decide +kernel
theorem i215_21 : zfetch 215 21 = some (8, .sipush 370, 3) := by decide +kernel
theorem i215_24 : zfetch 215 24 = some (8, .aload_n 0, 1) := by decide +kernel
theorem i215_25 : zfetch 215 25 = some (8, .getfield 7, 3) := by decide +kernel
theorem i215_28 : zfetch 215 28 = some (8, .iconst 3, 1) := by decide +kernel
theorem i215_29 : zfetch 215 29 = some (8, .iaload, 1) := by decide +kernel
theorem i215_30 : zfetch 215 30 = some (8, .iadd, 1) := by decide +kernel
theorem i215_31 : zfetch 215 31 = some (8, .iload_n 1, 1) := by decide +kernel
theorem i215_32 : zfetch 215 32 = some (8, .iastore, 1) := by decide +kernel
theorem i215_33 : zfetch 215 33 = some (8, .aload_n 0, 1) := by decide +kernel
theorem i215_34 : zfetch 215 34 = some (8, .getfield 7, 3) := by decide +kernel
theorem i215_37 : zfetch 215 37 = some (8, .iconst 3, 1) := by decide +kernel
theorem i215_38 : zfetch 215 38 = some (8, .dup2, 1) := by decide +kernel
theorem i215_39 : zfetch 215 39 = some (8, .iaload, 1) := by decide +kernel
theorem i215_40 : zfetch 215 40 = some (8, .iconst 1, 1) := by decide +kernel
theorem i215_41 : zfetch 215 41 = some (8, .iadd, 1) := by decide +kernel
theorem i215_42 : zfetch 215 42 = some (8, .iastore, 1) := by decide +kernel
theorem i215_43 : zfetch 215 43 = some (8, .aload_n 0, 1) := by decide +kernel
theorem i215_44 : zfetch 215 44 = some (8, .getfield 7, 3) := by decide +kernel
theorem i215_47 : zfetch 215 47 = some (8, .iconst 3, 1) := by decide +kernel
theorem i215_48 : zfetch 215 48 = some (8, .iaload, 1) := by decide +kernel
theorem i215_49 : zfetch 215 49 = some (8, .ireturn, 1) := by decide +kernel
theorem i216_0 : zfetch 216 0 = some (8, .aload_n 0, 1) := by decide +kernel
theorem i216_1 : zfetch 216 1 = some (8, .getfield 7, 3) := by decide +kernel
theorem i216_4 : zfetch 216 4 = some (8, .iconst 3, 1) := by decide +kernel
theorem i216_5 : zfetch 216 5 = some (8, .iaload, 1) := by decide +kernel
theorem i216_6 : zfetch 216 6 = some (8, .istore_n 1, 1) := by decide +kernel
theorem i216_7 : zfetch 216 7 = some (8, .aload_n 0, 1) := by decide +kernel
theorem i216_8 : zfetch 216 8 = some (8, .getfield 7, 3) := by decide +kernel
theorem i216_11 : zfetch 216 11 = some (8, .iconst 3, 1) := by decide +kernel
theorem i216_12 : zfetch 216 12 = some (8, .iconst 0, 1) := by decide +kernel
theorem i216_13 : zfetch 216 13 = some (8, .iastore, 1) := by decide +kernel
theorem i216_14 : zfetch 216 14 = some (8, .iconst 0, 1) := by decide +kernel
theorem i216_15 : zfetch 216 15 = some (8, .istore_n 2, 1) := by decide +kernel
theorem i216_16 : zfetch 216 16 = some (8, .iload_n 2, 1) := by decide +kernel
theorem i216_17 : zfetch 216 17 = some (8, .iload_n 1, 1) := by decide +kernel
theorem i216_18 : zfetch 216 18 = some (8, .if_icmp .ge 39, 3) := by decide +kernel
theorem i216_21 : zfetch 216 21 = some (8, .aload_n 0, 1) := by decide +kernel
theorem i216_22 : zfetch 216 22 = some (8, .iload_n 2, 1) := by decide +kernel
theorem i216_23 : zfetch 216 23 = some (8, .invokevirtual 194, 3) := by decide +kernel
theorem i216_26 : zfetch 216 26 = some (8, .ifCond .eq 21, 3) := by decide +kernel
theorem i216_29 : zfetch 216 29 = some (8, .aload_n 0, 1) := by decide +kernel
theorem i216_30 : zfetch 216 30 = some (8, .getfield 7, 3) := by decide +kernel
theorem i216_33 : zfetch 216 33 = some (8, .sipush 370, 3) := by decide +kernel
theorem i216_36 : zfetch 216 36 = some (8, .iload_n 2, 1) := by decide +kernel
theorem i216_37 : zfetch 216 37 = some (8, .iadd, 1) := by decide +kernel
theorem i216_38 : zfetch 216 38 = some (8, .iaload, 1) := by decide +kernel
theorem i216_39 : zfetch 216 39 = some (8, .aload_n 0, 1) := by decide +kernel
theorem i216_40 : zfetch 216 40 = some (8, .iload_n 2, 1) := by decide +kernel
theorem i216_41 : zfetch 216 41 = some (8, .invokevirtual 181, 3) := by decide +kernel
theorem i216_44 : zfetch 216 44 = some (8, .if_icmp .eq 7, 3) := by decide +kernel
theorem i216_47 : zfetch 216 47 = some (8, .iconst 1, 1) := by decide +kernel
theorem i216_48 : zfetch 216 48 = some (8, .iload_n 2, 1) := by decide +kernel
theorem i216_49 : zfetch 216 49 = some (8, .iadd, 1) := by decide +kernel
theorem i216_50 : zfetch 216 50 = some (8, .ireturn, 1) := by decide +kernel
theorem i216_51 : zfetch 216 51 = some (8, .iinc 2 1, 3) := by decide +kernel
theorem i216_54 : zfetch 216 54 = some (8, .goto (-38), 3) := by decide +kernel
theorem i216_57 : zfetch 216 57 = some (8, .iconst 0, 1) := by decide +kernel
theorem i216_58 : zfetch 216 58 = some (8, .ireturn, 1) := by decide +kernel
theorem i217_0 : zfetch 217 0 = some (8, .iload_n 1, 1) := by decide +kernel
theorem i217_1 : zfetch 217 1 = some (8, .tableswitch 119 0 9 #[55, 62, 69, 76, 81, 87, 93, 100, 107, 112], 55) := by decide +kernel
theorem i217_56 : zfetch 217 56 = some (8, .aload_n 0, 1) := by decide +kernel
theorem i217_57 : zfetch 217 57 = some (8, .getfield 7, 3) := by decide +kernel
theorem i217_60 : zfetch 217 60 = some (8, .iconst 4, 1) := by decide +kernel
theorem i217_61 : zfetch 217 61 = some (8, .iaload, 1) := by decide +kernel
theorem i217_62 : zfetch 217 62 = some (8, .ireturn, 1) := by decide +kernel
theorem i217_63 : zfetch 217 63 = some (8, .aload_n 0, 1) := by decide +kernel
theorem i217_64 : zfetch 217 64 = some (8, .getfield 7, 3) := by decide +kernel
theorem i217_67 : zfetch 217 67 = some (8, .iconst 0, 1) := by decide +kernel
theorem i217_68 : zfetch 217 68 = some (8, .iaload, 1) := by decide +kernel
theorem i217_69 : zfetch 217 69 = some (8, .ireturn, 1) := by decide +kernel
theorem i217_70 : zfetch 217 70 = some (8, .aload_n 0, 1) := by decide +kernel
theorem i217_71 : zfetch 217 71 = some (8, .getfield 7, 3) := by decide +kernel
theorem i217_74 : zfetch 217 74 = some (8, .iconst 5, 1) := by decide +kernel
theorem i217_75 : zfetch 217 75 = some (8, .iaload, 1) := by decide +kernel
theorem i217_76 : zfetch 217 76 = some (8, .ireturn, 1) := by decide +kernel
theorem i217_77 : zfetch 217 77 = some (8, .aload_n 0, 1) := by decide +kernel
theorem i217_78 : zfetch 217 78 = some (8, .invokevirtual 240, 3) := by decide +kernel
theorem i217_81 : zfetch 217 81 = some (8, .ireturn, 1) := by decide +kernel
theorem i217_82 : zfetch 217 82 = some (8, .aload_n 0, 1) := by decide +kernel
theorem i217_83 : zfetch 217 83 = some (8, .iconst 4, 1) := by decide +kernel
theorem i217_84 : zfetch 217 84 = some (8, .invokevirtual 296, 3) := by decide +kernel
theorem i217_87 : zfetch 217 87 = some (8, .ireturn, 1) := by decide +kernel
theorem i217_88 : zfetch 217 88 = some (8, .aload_n 0, 1) := by decide +kernel
theorem i217_89 : zfetch 217 89 = some (8, .iconst 5, 1) := by decide +kernel
theorem i217_90 : zfetch 217 90 = some (8, .invokevirtual 296, 3) := by decide +kernel
theorem i217_93 : zfetch 217 93 = some (8, .ireturn, 1) := by decide +kernel
theorem i217_94 : zfetch 217 94 = some (8, .aload_n 0, 1) := by decide +kernel
theorem i217_95 : zfetch 217 95 = some (8, .getfield 7, 3) := by decide +kernel
theorem i217_98 : zfetch 217 98 = some (8, .iconst 2, 1) := by decide +kernel
theorem i217_99 : zfetch 217 99 = some (8, .iaload, 1) := by decide +kernel
theorem i217_100 : zfetch 217 100 = some (8, .ireturn, 1) := by decide +kernel
theorem i217_101 : zfetch 217 101 = some (8, .aload_n 0, 1) := by decide +kernel
theorem i217_102 : zfetch 217 102 = some (8, .getfield 7, 3) := by decide +kernel
theorem i217_105 : zfetch 217 105 = some (8, .iconst 3, 1) := by decide +kernel
theorem i217_106 : zfetch 217 106 = some (8, .iaload, 1) := by decide +kernel
theorem i217_107 : zfetch 217 107 = some (8, .ireturn, 1) := by decide +kernel
theorem i217_108 : zfetch 217 108 = some (8, .aload_n 0, 1) := by decide +kernel
theorem i217_109 : zfetch 217 109 = some (8, .getfield 255, 3) := by decide +kernel
theorem i217_112 : zfetch 217 112 = some (8, .ireturn, 1) := by decide +kernel
theorem i217_113 : zfetch 217 113 = some (8, .aload_n 0, 1) := by decide +kernel
theorem i217_114 : zfetch 217 114 = some (8, .getfield 7, 3) := by decide +kernel
theorem i217_117 : zfetch 217 117 = some (8, .iconst 1, 1) := by decide +kernel
theorem i217_118 : zfetch 217 118 = some (8, .iaload, 1) := by decide +kernel
theorem i217_119 : zfetch 217 119 = some (8, .ireturn, 1) := by decide +kernel
theorem i217_120 : zfetch 217 120 = some (8, .aload_n 0, 1) := by decide +kernel
theorem i217_121 : zfetch 217 121 = some (8, .iconst 1, 1) := by decide +kernel
theorem i217_122 : zfetch 217 122 = some (8, .invokevirtual 58, 3) := by decide +kernel
theorem i217_125 : zfetch 217 125 = some (8, .ireturn, 1) := by decide +kernel
theorem i218_0 : zfetch 218 0 = some (8, .iload_n 1, 1) := by decide +kernel
theorem i218_1 : zfetch 218 1 = some (8, .iconst 1, 1) := by decide +kernel
theorem i218_2 : zfetch 218 2 = some (8, .bipush 6, 2) := by decide +kernel
theorem i218_4 : zfetch 218 4 = some (8, .invokestatic 50, 3) := by decide +kernel
theorem i218_7 : zfetch 218 7 = some (8, .ifCond .eq 12, 3) := by decide +kernel
theorem i218_10 : zfetch 218 10 = some (8, .aload_n 0, 1) := by decide +kernel
theorem i218_11 : zfetch 218 11 = some (8, .getfield 22, 3) := by decide +kernel
theorem i218_14 : zfetch 218 14 = some (8, .iload_n 1, 1) := by decide +kernel
theorem i218_15 : zfetch 218 15 = some (8, .iaload, 1) := by decide +kernel
theorem i218_16 : zfetch 218 16 = some (8, .goto 8, 3) := by decide +kernel
theorem i218_19 : zfetch 218 19 = some (8, .aload_n 0, 1) := by decide +kernel
theorem i218_20 : zfetch 218 20 = some (8, .iconst 1, 1) := by decide +kernel
theorem i218_21 : zfetch 218 21 = some (8, .invokevirtual 58, 3) := by decide +kernel
theorem i218_24 : zfetch 218 24 = some (8, .ireturn, 1) := by decide +kernel
theorem i219_0 : zfetch 219 0 = some (10, .iload_n 0, 1) := by decide +kernel
theorem i219_1 : zfetch 219 1 = some (10, .iload_n 0, 1) := by decide +kernel
theorem i219_2 : zfetch 219 2 = some (10, .iconst 1, 1) := by decide +kernel
theorem i219_3 : zfetch 219 3 = some (10, .iushr, 1) := by decide +kernel
theorem i219_4 : zfetch 219 4 = some (10, .ldc_w 265, 3) := by decide +kernel
theorem i219_7 : zfetch 219 7 = some (10, .iand, 1) := by decide +kernel
theorem i219_8 : zfetch 219 8 = some (10, .isub, 1) := by decide +kernel
theorem i219_9 : zfetch 219 9 = some (10, .istore_n 0, 1) := by decide +kernel
theorem i219_10 : zfetch 219 10 = some (10, .iload_n 0, 1) := by decide +kernel
theorem i219_11 : zfetch 219 11 = some (10, .ldc_w 266, 3) := by decide +kernel
theorem i219_14 : zfetch 219 14 = some (10, .iand, 1) := by decide +kernel
theorem i219_15 : zfetch 219 15 = some (10, .iload_n 0, 1) := by decide +kernel
theorem i219_16 : zfetch 219 16 = some (10, .iconst 2, 1) := by decide +kernel
theorem i219_17 : zfetch 219 17 = some (10, .iushr, 1) := by decide +kernel
theorem i219_18 : zfetch 219 18 = some (10, .ldc_w 266, 3) := by decide +kernel
theorem i219_21 : zfetch 219 21 = some (10, .iand, 1) := by decide +kernel
theorem i219_22 : zfetch 219 22 = some (10, .iadd, 1) := by decide +kernel
theorem i219_23 : zfetch 219 23 = some (10, .istore_n 0, 1) := by decide +kernel
theorem i219_24 : zfetch 219 24 = some (10, .iload_n 0, 1) := by decide +kernel
theorem i219_25 : zfetch 219 25 = some (10, .iload_n 0, 1) := by decide +kernel
theorem i219_26 : zfetch 219 26 = some (10, .iconst 4, 1) := by decide +kernel
theorem i219_27 : zfetch 219 27 = some (10, .iushr, 1) := by decide +kernel
theorem i219_28 : zfetch 219 28 = some (10, .iadd, 1) := by decide +kernel
theorem i219_29 : zfetch 219 29 = some (10, .ldc_w 267, 3) := by decide +kernel
theorem i219_32 : zfetch 219 32 = some (10, .iand, 1) := by decide +kernel
theorem i219_33 : zfetch 219 33 = some (10, .istore_n 0, 1) := by decide +kernel
theorem i219_34 : zfetch 219 34 = some (10, .iload_n 0, 1) := by decide +kernel
theorem i219_35 : zfetch 219 35 = some (10, .iload_n 0, 1) := by decide +kernel
theorem i219_36 : zfetch 219 36 = some (10, .bipush 8, 2) := by decide +kernel
theorem i219_38 : zfetch 219 38 = some (10, .iushr, 1) := by decide +kernel
theorem i219_39 : zfetch 219 39 = some (10, .iadd, 1) := by decide +kernel
theorem i219_40 : zfetch 219 40 = some (10, .istore_n 0, 1) := by decide +kernel
theorem i219_41 : zfetch 219 41 = some (10, .iload_n 0, 1) := by decide +kernel
theorem i219_42 : zfetch 219 42 = some (10, .iload_n 0, 1) := by decide +kernel
theorem i219_43 : zfetch 219 43 = some (10, .bipush 16, 2) := by decide +kernel
theorem i219_45 : zfetch 219 45 = some (10, .iushr, 1) := by decide +kernel
theorem i219_46 : zfetch 219 46 = some (10, .iadd, 1) := by decide +kernel
theorem i219_47 : zfetch 219 47 = some (10, .istore_n 0, 1) := by decide +kernel
theorem i219_48 : zfetch 219 48 = some (10, .iload_n 0, 1) := by decide +kernel
theorem i219_49 : zfetch 219 49 = some (10, .bipush 63, 2) := by decide +kernel
theorem i219_51 : zfetch 219 51 = some (10, .iand, 1) := by decide +kernel
theorem i219_52 : zfetch 219 52 = some (10, .ireturn, 1) := by decide +kernel
theorem i220_0 : zfetch 220 0 = some (11, .iload_n 0, 1) := by decide +kernel
theorem i220_1 : zfetch 220 1 = some (11, .iload_n 1, 1) := by decide +kernel
theorem i220_2 : zfetch 220 2 = some (11, .irem, 1) := by decide +kernel
theorem i220_3 : zfetch 220 3 = some (11, .istore_n 2, 1) := by decide +kernel
theorem i220_4 : zfetch 220 4 = some (11, .iload_n 0, 1) := by decide +kernel
theorem i220_5 : zfetch 220 5 = some (11, .iload_n 1, 1) := by decide +kernel
theorem i220_6 : zfetch 220 6 = some (11, .ixor, 1) := by decide +kernel
theorem i220_7 : zfetch 220 7 = some (11, .ifCond .ge 11, 3) := by decide +kernel
theorem i220_10 : zfetch 220 10 = some (11, .iload_n 2, 1) := by decide +kernel
theorem i220_11 : zfetch 220 11 = some (11, .ifCond .eq 7, 3) := by decide +kernel
theorem i220_14 : zfetch 220 14 = some (11, .iload_n 2, 1) := by decide +kernel
theorem i220_15 : zfetch 220 15 = some (11, .iload_n 1, 1) := by decide +kernel
theorem i220_16 : zfetch 220 16 = some (11, .iadd, 1) := by decide +kernel
theorem i220_17 : zfetch 220 17 = some (11, .ireturn, 1) := by decide +kernel
theorem i220_18 : zfetch 220 18 = some (11, .iload_n 2, 1) := by decide +kernel
theorem i220_19 : zfetch 220 19 = some (11, .ireturn, 1) := by decide +kernel
theorem i221_0 : zfetch 221 0 = some (11, .iload_n 0, 1) := by decide +kernel
theorem i221_1 : zfetch 221 1 = some (11, .ifCond .ge 8, 3) := by decide +kernel
theorem i221_4 : zfetch 221 4 = some (11, .iload_n 0, 1) := by decide +kernel
theorem i221_5 : zfetch 221 5 = some (11, .ineg, 1) := by decide +kernel
theorem i221_6 : zfetch 221 6 = some (11, .goto 4, 3) := by decide +kernel
theorem i221_9 : zfetch 221 9 = some (11, .iload_n 0, 1) := by decide +kernel
theorem i221_10 : zfetch 221 10 = some (11, .ireturn, 1) := by decide +kernel
theorem i222_0 : zfetch 222 0 = some (11, .iload_n 0, 1) := by decide +kernel
theorem i222_1 : zfetch 222 1 = some (11, .iload_n 1, 1) := by decide +kernel
theorem i222_2 : zfetch 222 2 = some (11, .if_icmp .lt 7, 3) := by decide +kernel
theorem i222_5 : zfetch 222 5 = some (11, .iload_n 0, 1) := by decide +kernel
theorem i222_6 : zfetch 222 6 = some (11, .goto 4, 3) := by decide +kernel
theorem i222_9 : zfetch 222 9 = some (11, .iload_n 1, 1) := by decide +kernel
theorem i222_10 : zfetch 222 10 = some (11, .ireturn, 1) := by decide +kernel
theorem i223_0 : zfetch 223 0 = some (11, .iload_n 0, 1) := by decide +kernel
theorem i223_1 : zfetch 223 1 = some (11, .iload_n 1, 1) := by decide +kernel
theorem i223_2 : zfetch 223 2 = some (11, .if_icmp .gt 7, 3) := by decide +kernel
theorem i223_5 : zfetch 223 5 = some (11, .iload_n 0, 1) := by decide +kernel
theorem i223_6 : zfetch 223 6 = some (11, .goto 4, 3) := by decide +kernel
theorem i223_9 : zfetch 223 9 = some (11, .iload_n 1, 1) := by decide +kernel
theorem i223_10 : zfetch 223 10 = some (11, .ireturn, 1) := by decide +kernel
theorem i224_16 : zfetch 224 16 = some (9, .iconst 0, 1) := by decide +kernel
theorem i224_17 : zfetch 224 17 = some (9, .istore_n 3, 1) := by decide +kernel
theorem i224_18 : zfetch 224 18 = some (9, .iload_n 3, 1) := by decide +kernel
theorem i224_19 : zfetch 224 19 = some (9, .aload_n 0, 1) := by decide +kernel
theorem i224_20 : zfetch 224 20 = some (9, .arraylength, 1) := by decide +kernel
theorem i224_21 : zfetch 224 21 = some (9, .bipush 6, 2) := by decide +kernel
theorem i224_23 : zfetch 224 23 = some (9, .isub, 1) := by decide +kernel
theorem i224_24 : zfetch 224 24 = some (9, .if_icmp .gt 1447, 3) := by decide +kernel
theorem i224_27 : zfetch 224 27 = some (9, .aload_n 0, 1) := by decide +kernel
theorem i224_28 : zfetch 224 28 = some (9, .iload_n 3, 1) := by decide +kernel
theorem i224_29 : zfetch 224 29 = some (9, .iaload, 1) := by decide +kernel
theorem i224_30 : zfetch 224 30 = some (9, .bipush 63, 2) := by decide +kernel
theorem i224_32 : zfetch 224 32 = some (9, .iand, 1) := by decide +kernel
theorem i224_33 : zfetch 224 33 = some (9, .tableswitch 1432 0 40 #[179, 232, 265, 298, 331, 364, 387, 430, 453, 516, 539, 562, 615, 638, 661, 684, 707, 730, 763, 786, 809, 822, 855, 878, 911, 944, 977, 1020, 1063, 1106, 1129, 1172, 1215, 1278, 1301, 1324, 1337, 1350, 1373, 1386, 1409], 179) := by decide +kernel
theorem i224_212 : zfetch 224 212 = some (9, .aload_n 1, 1) := by decide +kernel
theorem i224_213 : zfetch 224 213 = some (9, .aload_n 0, 1) := by decide +kernel
theorem i224_214 : zfetch 224 214 = some (9, .iload_n 3, 1) := by decide +kernel
theorem i224_215 : zfetch 224 215 = some (9, .iconst 1, 1) := by decide +kernel
theorem i224_216 : zfetch 224 216 = some (9, .iadd, 1) := by decide +kernel
theorem i224_217 : zfetch 224 217 = some (9, .iaload, 1) := by decide +kernel
theorem i224_218 : zfetch 224 218 = some (9, .aload_n 0, 1) := by decide +kernel
theorem i224_219 : zfetch 224 219 = some (9, .iload_n 3, 1) := by decide +kernel
theorem i224_220 : zfetch 224 220 = some (9, .iconst 2, 1) := by decide +kernel
theorem i224_221 : zfetch 224 221 = some (9, .iadd, 1) := by decide +kernel
theorem i224_222 : zfetch 224 222 = some (9, .iaload, 1) := by decide +kernel
theorem i224_223 : zfetch 224 223 = some (9, .aload_n 0, 1) := by decide +kernel
theorem i224_224 : zfetch 224 224 = some (9, .iload_n 3, 1) := by decide +kernel
theorem i224_225 : zfetch 224 225 = some (9, .iconst 3, 1) := by decide +kernel
theorem i224_226 : zfetch 224 226 = some (9, .iadd, 1) := by decide +kernel
theorem i224_227 : zfetch 224 227 = some (9, .iaload, 1) := by decide +kernel
theorem i224_228 : zfetch 224 228 = some (9, .aload_n 0, 1) := by decide +kernel
theorem i224_229 : zfetch 224 229 = some (9, .iload_n 3, 1) := by decide +kernel
theorem i224_230 : zfetch 224 230 = some (9, .iconst 4, 1) := by decide +kernel
theorem i224_231 : zfetch 224 231 = some (9, .iadd, 1) := by decide +kernel
theorem i224_232 : zfetch 224 232 = some (9, .iaload, 1) := by decide +kernel
theorem i224_233 : zfetch 224 233 = some (9, .invokevirtual 13, 3) := by decide +kernel
theorem i224_236 : zfetch 224 236 = some (9, .aload_n 2, 1) := by decide +kernel
theorem i224_237 : zfetch 224 237 = some (9, .aload_n 0, 1) := by decide +kernel
theorem i224_238 : zfetch 224 238 = some (9, .iload_n 3, 1) := by decide +kernel
theorem i224_239 : zfetch 224 239 = some (9, .iconst 1, 1) := by decide +kernel
theorem i224_240 : zfetch 224 240 = some (9, .iadd, 1) := by decide +kernel
theorem i224_241 : zfetch 224 241 = some (9, .iaload, 1) := by decide +kernel
theorem i224_242 : zfetch 224 242 = some (9, .aload_n 0, 1) := by decide +kernel
theorem i224_243 : zfetch 224 243 = some (9, .iload_n 3, 1) := by decide +kernel
theorem i224_244 : zfetch 224 244 = some (9, .iconst 2, 1) := by decide +kernel
theorem i224_245 : zfetch 224 245 = some (9, .iadd, 1) := by decide +kernel
theorem i224_246 : zfetch 224 246 = some (9, .iaload, 1) := by decide +kernel
theorem i224_247 : zfetch 224 247 = some (9, .aload_n 0, 1) := by decide +kernel
theorem i224_248 : zfetch 224 248 = some (9, .iload_n 3, 1) := by decide +kernel
theorem i224_249 : zfetch 224 249 = some (9, .iconst 3, 1) := by decide +kernel
theorem i224_250 : zfetch 224 250 = some (9, .iadd, 1) := by decide +kernel
theorem i224_251 : zfetch 224 251 = some (9, .iaload, 1) := by decide +kernel
theorem i224_252 : zfetch 224 252 = some (9, .aload_n 0, 1) := by decide +kernel
theorem i224_253 : zfetch 224 253 = some (9, .iload_n 3, 1) := by decide +kernel
theorem i224_254 : zfetch 224 254 = some (9, .iconst 4, 1) := by decide +kernel
theorem i224_255 : zfetch 224 255 = some (9, .iadd, 1) := by decide +kernel
theorem i224_256 : zfetch 224 256 = some (9, .iaload, 1) := by decide +kernel
theorem i224_257 : zfetch 224 257 = some (9, .invokevirtual 17, 3) := by decide +kernel
theorem i224_260 : zfetch 224 260 = some (9, .if_icmp .eq 1205, 3) := by decide +kernel
theorem i224_263 : zfetch 224 263 = some (9, .iconst 0, 1) := by decide +kernel
theorem i224_264 : zfetch 224 264 = some (9, .ireturn, 1) := by decide +kernel
theorem i224_265 : zfetch 224 265 = some (9, .aload_n 1, 1) := by decide +kernel
theorem i224_266 : zfetch 224 266 = some (9, .aload_n 0, 1) := by decide +kernel
theorem i224_267 : zfetch 224 267 = some (9, .iload_n 3, 1) := by decide +kernel
theorem i224_268 : zfetch 224 268 = some (9, .iconst 1, 1) := by decide +kernel
theorem i224_269 : zfetch 224 269 = some (9, .iadd, 1) := by decide +kernel
theorem i224_270 : zfetch 224 270 = some (9, .iaload, 1) := by decide +kernel
theorem i224_271 : zfetch 224 271 = some (9, .aload_n 0, 1) := by decide +kernel
theorem i224_272 : zfetch 224 272 = some (9, .iload_n 3, 1) := by decide +kernel
theorem i224_273 : zfetch 224 273 = some (9, .iconst 2, 1) := by decide +kernel
theorem i224_274 : zfetch 224 274 = some (9, .iadd, 1) := by decide +kernel
theorem i224_275 : zfetch 224 275 = some (9, .iaload, 1) := by decide +kernel
theorem i224_276 : zfetch 224 276 = some (9, .invokevirtual 18, 3) := by decide +kernel
theorem i224_279 : zfetch 224 279 = some (9, .aload_n 2, 1) := by decide +kernel
theorem i224_280 : zfetch 224 280 = some (9, .aload_n 0, 1) := by decide +kernel
theorem i224_281 : zfetch 224 281 = some (9, .iload_n 3, 1) := by decide +kernel
theorem i224_282 : zfetch 224 282 = some (9, .iconst 1, 1) := by decide +kernel
theorem i224_283 : zfetch 224 283 = some (9, .iadd, 1) := by decide +kernel
theorem i224_284 : zfetch 224 284 = some (9, .iaload, 1) := by decide +kernel
theorem i224_285 : zfetch 224 285 = some (9, .aload_n 0, 1) := by decide +kernel
theorem i224_286 : zfetch 224 286 = some (9, .iload_n 3, 1) := by decide +kernel
theorem i224_287 : zfetch 224 287 = some (9, .iconst 2, 1) := by decide +kernel
theorem i224_288 : zfetch 224 288 = some (9, .iadd, 1) := by decide +kernel
theorem i224_289 : zfetch 224 289 = some (9, .iaload, 1) := by decide +kernel
theorem i224_290 : zfetch 224 290 = some (9, .invokevirtual 22, 3) := by decide +kernel
theorem i224_293 : zfetch 224 293 = some (9, .if_icmp .eq 1172, 3) := by decide +kernel
theorem i224_296 : zfetch 224 296 = some (9, .iconst 0, 1) := by decide +kernel
theorem i224_297 : zfetch 224 297 = some (9, .ireturn, 1) := by decide +kernel
theorem i224_298 : zfetch 224 298 = some (9, .aload_n 1, 1) := by decide +kernel
theorem i224_299 : zfetch 224 299 = some (9, .aload_n 0, 1) := by decide +kernel
theorem i224_300 : zfetch 224 300 = some (9, .iload_n 3, 1) := by decide +kernel
theorem i224_301 : zfetch 224 301 = some (9, .iconst 1, 1) := by decide +kernel
theorem i224_302 : zfetch 224 302 = some (9, .iadd, 1) := by decide +kernel
theorem i224_303 : zfetch 224 303 = some (9, .iaload, 1) := by decide +kernel
theorem i224_304 : zfetch 224 304 = some (9, .aload_n 0, 1) := by decide +kernel
theorem i224_305 : zfetch 224 305 = some (9, .iload_n 3, 1) := by decide +kernel
theorem i224_306 : zfetch 224 306 = some (9, .iconst 2, 1) := by decide +kernel
theorem i224_307 : zfetch 224 307 = some (9, .iadd, 1) := by decide +kernel
theorem i224_308 : zfetch 224 308 = some (9, .iaload, 1) := by decide +kernel
theorem i224_309 : zfetch 224 309 = some (9, .invokevirtual 23, 3) := by decide +kernel
theorem i224_312 : zfetch 224 312 = some (9, .aload_n 2, 1) := by decide +kernel
theorem i224_313 : zfetch 224 313 = some (9, .aload_n 0, 1) := by decide +kernel
theorem i224_314 : zfetch 224 314 = some (9, .iload_n 3, 1) := by decide +kernel
theorem i224_315 : zfetch 224 315 = some (9, .iconst 1, 1) := by decide +kernel
theorem i224_316 : zfetch 224 316 = some (9, .iadd, 1) := by decide +kernel
theorem i224_317 : zfetch 224 317 = some (9, .iaload, 1) := by decide +kernel
theorem i224_318 : zfetch 224 318 = some (9, .aload_n 0, 1) := by decide +kernel
theorem i224_319 : zfetch 224 319 = some (9, .iload_n 3, 1) := by decide +kernel
theorem i224_320 : zfetch 224 320 = some (9, .iconst 2, 1) := by decide +kernel
theorem i224_321 : zfetch 224 321 = some (9, .iadd, 1) := by decide +kernel
theorem i224_322 : zfetch 224 322 = some (9, .iaload, 1) := by decide +kernel
theorem i224_323 : zfetch 224 323 = some (9, .invokevirtual 26, 3) := by decide +kernel
theorem i224_326 : zfetch 224 326 = some (9, .if_icmp .eq 1139, 3) := by decide +kernel
theorem i224_329 : zfetch 224 329 = some (9, .iconst 0, 1) := by decide +kernel
theorem i224_330 : zfetch 224 330 = some (9, .ireturn, 1) := by decide +kernel
theorem i224_331 : zfetch 224 331 = some (9, .aload_n 1, 1) := by decide +kernel
theorem i224_332 : zfetch 224 332 = some (9, .aload_n 0, 1) := by decide +kernel
theorem i224_333 : zfetch 224 333 = some (9, .iload_n 3, 1) := by decide +kernel
theorem i224_334 : zfetch 224 334 = some (9, .iconst 1, 1) := by decide +kernel
theorem i224_335 : zfetch 224 335 = some (9, .iadd, 1) := by decide +kernel
theorem i224_336 : zfetch 224 336 = some (9, .iaload, 1) := by decide +kernel
theorem i224_337 : zfetch 224 337 = some (9, .aload_n 0, 1) := by decide +kernel
theorem i224_338 : zfetch 224 338 = some (9, .iload_n 3, 1) := by decide +kernel
theorem i224_339 : zfetch 224 339 = some (9, .iconst 2, 1) := by decide +kernel
theorem i224_340 : zfetch 224 340 = some (9, .iadd, 1) := by decide +kernel
theorem i224_341 : zfetch 224 341 = some (9, .iaload, 1) := by decide +kernel
theorem i224_342 : zfetch 224 342 = some (9, .invokevirtual 27, 3) := by decide +kernel
theorem i224_345 : zfetch 224 345 = some (9, .aload_n 2, 1) := by decide +kernel
theorem i224_346 : zfetch 224 346 = some (9, .aload_n 0, 1) := by decide +kernel
theorem i224_347 : zfetch 224 347 = some (9, .iload_n 3, 1) := by decide +kernel
theorem i224_348 : zfetch 224 348 = some (9, .iconst 1, 1) := by decide +kernel
theorem i224_349 : zfetch 224 349 = some (9, .iadd, 1) := by decide +kernel
theorem i224_350 : zfetch 224 350 = some (9, .iaload, 1) := by decide +kernel
theorem i224_351 : zfetch 224 351 = some (9, .aload_n 0, 1) := by decide +kernel
theorem i224_352 : zfetch 224 352 = some (9, .iload_n 3, 1) := by decide +kernel
theorem i224_353 : zfetch 224 353 = some (9, .iconst 2, 1) := by decide +kernel
theorem i224_354 : zfetch 224 354 = some (9, .iadd, 1) := by decide +kernel
theorem i224_355 : zfetch 224 355 = some (9, .iaload, 1) := by decide +kernel
theorem i224_356 : zfetch 224 356 = some (9, .invokevirtual 30, 3) := by decide +kernel
theorem i224_359 : zfetch 224 359 = some (9, .if_icmp .eq 1106, 3) := by decide +kernel
theorem i224_362 : zfetch 224 362 = some (9, .iconst 0, 1) := by decide +kernel
theorem i224_363 : zfetch 224 363 = some (9, .ireturn, 1) := by decide +kernel
theorem i224_364 : zfetch 224 364 = some (9, .aload_n 1, 1) := by decide +kernel
theorem i224_365 : zfetch 224 365 = some (9, .aload_n 0, 1) := by decide +kernel
theorem i224_366 : zfetch 224 366 = some (9, .iload_n 3, 1) := by decide +kernel
theorem i224_367 : zfetch 224 367 = some (9, .iconst 1, 1) := by decide +kernel
theorem i224_368 : zfetch 224 368 = some (9, .iadd, 1) := by decide +kernel
theorem i224_369 : zfetch 224 369 = some (9, .iaload, 1) := by decide +kernel
theorem i224_370 : zfetch 224 370 = some (9, .aload_n 0, 1) := by decide +kernel
theorem i224_371 : zfetch 224 371 = some (9, .iload_n 3, 1) := by decide +kernel
theorem i224_372 : zfetch 224 372 = some (9, .iconst 2, 1) := by decide +kernel
theorem i224_373 : zfetch 224 373 = some (9, .iadd, 1) := by decide +kernel
theorem i224_374 : zfetch 224 374 = some (9, .iaload, 1) := by decide +kernel
theorem i224_375 : zfetch 224 375 = some (9, .invokevirtual 31, 3) := by decide +kernel
theorem i224_378 : zfetch 224 378 = some (9, .aload_n 2, 1) := by decide +kernel
theorem i224_379 : zfetch 224 379 = some (9, .aload_n 0, 1) := by decide +kernel
theorem i224_380 : zfetch 224 380 = some (9, .iload_n 3, 1) := by decide +kernel
theorem i224_381 : zfetch 224 381 = some (9, .iconst 1, 1) := by decide +kernel
theorem i224_382 : zfetch 224 382 = some (9, .iadd, 1) := by decide +kernel
theorem i224_383 : zfetch 224 383 = some (9, .iaload, 1) := by decide +kernel
theorem i224_384 : zfetch 224 384 = some (9, .aload_n 0, 1) := by decide +kernel
theorem i224_385 : zfetch 224 385 = some (9, .iload_n 3, 1) := by decide +kernel
theorem i224_386 : zfetch 224 386 = some (9, .iconst 2, 1) := by decide +kernel
theorem i224_387 : zfetch 224 387 = some (9, .iadd, 1) := by decide +kernel
theorem i224_388 : zfetch 224 388 = some (9, .iaload, 1) := by decide +kernel
theorem i224_389 : zfetch 224 389 = some (9, .invokevirtual 34, 3) := by decide +kernel
theorem i224_392 : zfetch 224 392 = some (9, .if_icmp .eq 1073, 3) := by decide +kernel
theorem i224_395 : zfetch 224 395 = some (9, .iconst 0, 1) := by decide +kernel
theorem i224_396 : zfetch 224 396 = some (9, .ireturn, 1) := by decide +kernel
theorem i224_397 : zfetch 224 397 = some (9, .aload_n 1, 1) := by decide +kernel
theorem i224_398 : zfetch 224 398 = some (9, .aload_n 0, 1) := by decide +kernel
theorem i224_399 : zfetch 224 399 = some (9, .iload_n 3, 1) := by decide +kernel
theorem i224_400 : zfetch 224 400 = some (9, .iconst 1, 1) := by decide +kernel
theorem i224_401 : zfetch 224 401 = some (9, .iadd, 1) := by decide +kernel
theorem i224_402 : zfetch 224 402 = some (9, .iaload, 1) := by decide +kernel
theorem i224_403 : zfetch 224 403 = some (9, .invokevirtual 35, 3) := by decide +kernel
theorem i224_406 : zfetch 224 406 = some (9, .aload_n 2, 1) := by decide +kernel
theorem i224_407 : zfetch 224 407 = some (9, .aload_n 0, 1) := by decide +kernel
theorem i224_408 : zfetch 224 408 = some (9, .iload_n 3, 1) := by decide +kernel
theorem i224_409 : zfetch 224 409 = some (9, .iconst 1, 1) := by decide +kernel
theorem i224_410 : zfetch 224 410 = some (9, .iadd, 1) := by decide +kernel
theorem i224_411 : zfetch 224 411 = some (9, .iaload, 1) := by decide +kernel
theorem i224_412 : zfetch 224 412 = some (9, .invokevirtual 39, 3) := by decide +kernel
theorem i224_415 : zfetch 224 415 = some (9, .if_icmp .eq 1050, 3) := by decide +kernel
theorem i224_418 : zfetch 224 418 = some (9, .iconst 0, 1) := by decide +kernel
theorem i224_419 : zfetch 224 419 = some (9, .ireturn, 1) := by decide +kernel
theorem i224_420 : zfetch 224 420 = some (9, .aload_n 1, 1) := by decide +kernel
theorem i224_421 : zfetch 224 421 = some (9, .aload_n 0, 1) := by decide +kernel
theorem i224_422 : zfetch 224 422 = some (9, .iload_n 3, 1) := by decide +kernel
theorem i224_423 : zfetch 224 423 = some (9, .iconst 1, 1) := by decide +kernel
theorem i224_424 : zfetch 224 424 = some (9, .iadd, 1) := by decide +kernel
theorem i224_425 : zfetch 224 425 = some (9, .iaload, 1) := by decide +kernel
theorem i224_426 : zfetch 224 426 = some (9, .aload_n 0, 1) := by decide +kernel
theorem i224_427 : zfetch 224 427 = some (9, .iload_n 3, 1) := by decide +kernel
theorem i224_428 : zfetch 224 428 = some (9, .iconst 2, 1) := by decide +kernel
theorem i224_429 : zfetch 224 429 = some (9, .iadd, 1) := by decide +kernel
theorem i224_430 : zfetch 224 430 = some (9, .iaload, 1) := by decide +kernel
theorem i224_431 : zfetch 224 431 = some (9, .aload_n 0, 1) := by decide +kernel
theorem i224_432 : zfetch 224 432 = some (9, .iload_n 3, 1) := by decide +kernel
theorem i224_433 : zfetch 224 433 = some (9, .iconst 3, 1) := by decide +kernel
theorem i224_434 : zfetch 224 434 = some (9, .iadd, 1) := by decide +kernel
theorem i224_435 : zfetch 224 435 = some (9, .iaload, 1) := by decide +kernel
theorem i224_436 : zfetch 224 436 = some (9, .invokevirtual 40, 3) := by decide +kernel
theorem i224_439 : zfetch 224 439 = some (9, .aload_n 2, 1) := by decide +kernel
theorem i224_440 : zfetch 224 440 = some (9, .aload_n 0, 1) := by decide +kernel
theorem i224_441 : zfetch 224 441 = some (9, .iload_n 3, 1) := by decide +kernel
theorem i224_442 : zfetch 224 442 = some (9, .iconst 1, 1) := by decide +kernel
theorem i224_443 : zfetch 224 443 = some (9, .iadd, 1) := by decide +kernel
theorem i224_444 : zfetch 224 444 = some (9, .iaload, 1) := by decide +kernel
theorem i224_445 : zfetch 224 445 = some (9, .aload_n 0, 1) := by decide +kernel
theorem i224_446 : zfetch 224 446 = some (9, .iload_n 3, 1) := by decide +kernel
theorem i224_447 : zfetch 224 447 = some (9, .iconst 2, 1) := by decide +kernel
theorem i224_448 : zfetch 224 448 = some (9, .iadd, 1) := by decide +kernel
theorem i224_449 : zfetch 224 449 = some (9, .iaload, 1) := by decide +kernel
theorem i224_450 : zfetch 224 450 = some (9, .aload_n 0, 1) := by decide +kernel
theorem i224_451 : zfetch 224 451 = some (9, .iload_n 3, 1) := by decide +kernel
theorem i224_452 : zfetch 224 452 = some (9, .iconst 3, 1) := by decide +kernel
theorem i224_453 : zfetch 224 453 = some (9, .iadd, 1) := by decide +kernel
theorem i224_454 : zfetch 224 454 = some (9, .iaload, 1) := by decide +kernel
theorem i224_455 : zfetch 224 455 = some (9, .invokevirtual 44, 3) := by decide +kernel
theorem i224_458 : zfetch 224 458 = some (9, .if_icmp .eq 1007, 3) := by decide +kernel
theorem i224_461 : zfetch 224 461 = some (9, .iconst 0, 1) := by decide +kernel
theorem i224_462 : zfetch 224 462 = some (9, .ireturn, 1) := by decide +kernel
theorem i224_463 : zfetch 224 463 = some (9, .aload_n 1, 1) := by decide +kernel
theorem i224_464 : zfetch 224 464 = some (9, .aload_n 0, 1) := by decide +kernel
theorem i224_465 : zfetch 224 465 = some (9, .iload_n 3, 1) := by decide +kernel
theorem i224_466 : zfetch 224 466 = some (9, .iconst 1, 1) := by decide +kernel
theorem i224_467 : zfetch 224 467 = some (9, .iadd, 1) := by decide +kernel
theorem i224_468 : zfetch 224 468 = some (9, .iaload, 1) := by decide +kernel
theorem i224_469 : zfetch 224 469 = some (9, .invokevirtual 45, 3) := by decide +kernel
theorem i224_472 : zfetch 224 472 = some (9, .aload_n 2, 1) := by decide +kernel
theorem i224_473 : zfetch 224 473 = some (9, .aload_n 0, 1) := by decide +kernel
theorem i224_474 : zfetch 224 474 = some (9, .iload_n 3, 1) := by decide +kernel
theorem i224_475 : zfetch 224 475 = some (9, .iconst 1, 1) := by decide +kernel
theorem i224_476 : zfetch 224 476 = some (9, .iadd, 1) := by decide +kernel
theorem i224_477 : zfetch 224 477 = some (9, .iaload, 1) := by decide +kernel
theorem i224_478 : zfetch 224 478 = some (9, .invokevirtual 48, 3) := by decide +kernel
theorem i224_481 : zfetch 224 481 = some (9, .if_icmp .eq 984, 3) := by decide +kernel
theorem i224_484 : zfetch 224 484 = some (9, .iconst 0, 1) := by decide +kernel
theorem i224_485 : zfetch 224 485 = some (9, .ireturn, 1) := by decide +kernel
theorem i224_486 : zfetch 224 486 = some (9, .aload_n 1, 1) := by decide +kernel
theorem i224_487 : zfetch 224 487 = some (9, .aload_n 0, 1) := by decide +kernel
theorem i224_488 : zfetch 224 488 = some (9, .iload_n 3, 1) := by decide +kernel
theorem i224_489 : zfetch 224 489 = some (9, .iconst 1, 1) := by decide +kernel
theorem i224_490 : zfetch 224 490 = some (9, .iadd, 1) := by decide +kernel
theorem i224_491 : zfetch 224 491 = some (9, .iaload, 1) := by decide +kernel
theorem i224_492 : zfetch 224 492 = some (9, .i2l, 1) := by decide +kernel
theorem i224_493 : zfetch 224 493 = some (9, .bipush 32, 2) := by decide +kernel
theorem i224_495 : zfetch 224 495 = some (9, .lshl, 1) := by decide +kernel
theorem i224_496 : zfetch 224 496 = some (9, .aload_n 0, 1) := by decide +kernel
theorem i224_497 : zfetch 224 497 = some (9, .iload_n 3, 1) := by decide +kernel
theorem i224_498 : zfetch 224 498 = some (9, .iconst 2, 1) := by decide +kernel
theorem i224_499 : zfetch 224 499 = some (9, .iadd, 1) := by decide +kernel
theorem i224_500 : zfetch 224 500 = some (9, .iaload, 1) := by decide +kernel
theorem i224_501 : zfetch 224 501 = some (9, .i2l, 1) := by decide +kernel
theorem i224_502 : zfetch 224 502 = some (9, .ldc2_w 49, 3) := by decide +kernel
theorem i224_505 : zfetch 224 505 = some (9, .land, 1) := by decide +kernel
theorem i224_506 : zfetch 224 506 = some (9, .lor, 1) := by decide +kernel
theorem i224_507 : zfetch 224 507 = some (9, .aload_n 0, 1) := by decide +kernel
theorem i224_508 : zfetch 224 508 = some (9, .iload_n 3, 1) := by decide +kernel
theorem i224_509 : zfetch 224 509 = some (9, .iconst 3, 1) := by decide +kernel
theorem i224_510 : zfetch 224 510 = some (9, .iadd, 1) := by decide +kernel
theorem i224_511 : zfetch 224 511 = some (9, .iaload, 1) := by decide +kernel
theorem i224_512 : zfetch 224 512 = some (9, .invokevirtual 51, 3) := by decide +kernel
theorem i224_515 : zfetch 224 515 = some (9, .aload_n 2, 1) := by decide +kernel
theorem i224_516 : zfetch 224 516 = some (9, .aload_n 0, 1) := by decide +kernel
theorem i224_517 : zfetch 224 517 = some (9, .iload_n 3, 1) := by decide +kernel
theorem i224_518 : zfetch 224 518 = some (9, .iconst 1, 1) := by decide +kernel
theorem i224_519 : zfetch 224 519 = some (9, .iadd, 1) := by decide +kernel
theorem i224_520 : zfetch 224 520 = some (9, .iaload, 1) := by decide +kernel
theorem i224_521 : zfetch 224 521 = some (9, .i2l, 1) := by decide +kernel
theorem i224_522 : zfetch 224 522 = some (9, .bipush 32, 2) := by decide +kernel
theorem i224_524 : zfetch 224 524 = some (9, .lshl, 1) := by decide +kernel
theorem i224_525 : zfetch 224 525 = some (9, .aload_n 0, 1) := by decide +kernel
theorem i224_526 : zfetch 224 526 = some (9, .iload_n 3, 1) := by decide +kernel
theorem i224_527 : zfetch 224 527 = some (9, .iconst 2, 1) := by decide +kernel
theorem i224_528 : zfetch 224 528 = some (9, .iadd, 1) := by decide +kernel
theorem i224_529 : zfetch 224 529 = some (9, .iaload, 1) := by decide +kernel
theorem i224_530 : zfetch 224 530 = some (9, .i2l, 1) := by decide +kernel
theorem i224_531 : zfetch 224 531 = some (9, .ldc2_w 49, 3) := by decide +kernel
theorem i224_534 : zfetch 224 534 = some (9, .land, 1) := by decide +kernel
theorem i224_535 : zfetch 224 535 = some (9, .lor, 1) := by decide +kernel
theorem i224_536 : zfetch 224 536 = some (9, .aload_n 0, 1) := by decide +kernel
theorem i224_537 : zfetch 224 537 = some (9, .iload_n 3, 1) := by decide +kernel
theorem i224_538 : zfetch 224 538 = some (9, .iconst 3, 1) := by decide +kernel
theorem i224_539 : zfetch 224 539 = some (9, .iadd, 1) := by decide +kernel
theorem i224_540 : zfetch 224 540 = some (9, .iaload, 1) := by decide +kernel
theorem i224_541 : zfetch 224 541 = some (9, .invokevirtual 55, 3) := by decide +kernel
theorem i224_544 : zfetch 224 544 = some (9, .if_icmp .eq 921, 3) := by decide +kernel
theorem i224_547 : zfetch 224 547 = some (9, .iconst 0, 1) := by decide +kernel
theorem i224_548 : zfetch 224 548 = some (9, .ireturn, 1) := by decide +kernel
theorem i224_549 : zfetch 224 549 = some (9, .aload_n 1, 1) := by decide +kernel
theorem i224_550 : zfetch 224 550 = some (9, .aload_n 0, 1) := by decide +kernel
theorem i224_551 : zfetch 224 551 = some (9, .iload_n 3, 1) := by decide +kernel
theorem i224_552 : zfetch 224 552 = some (9, .iconst 1, 1) := by decide +kernel
theorem i224_553 : zfetch 224 553 = some (9, .iadd, 1) := by decide +kernel
theorem i224_554 : zfetch 224 554 = some (9, .iaload, 1) := by decide +kernel
theorem i224_555 : zfetch 224 555 = some (9, .invokevirtual 56, 3) := by decide +kernel
theorem i224_558 : zfetch 224 558 = some (9, .aload_n 2, 1) := by decide +kernel
theorem i224_559 : zfetch 224 559 = some (9, .aload_n 0, 1) := by decide +kernel
theorem i224_560 : zfetch 224 560 = some (9, .iload_n 3, 1) := by decide +kernel
theorem i224_561 : zfetch 224 561 = some (9, .iconst 1, 1) := by decide +kernel
theorem i224_562 : zfetch 224 562 = some (9, .iadd, 1) := by decide +kernel
theorem i224_563 : zfetch 224 563 = some (9, .iaload, 1) := by decide +kernel
theorem i224_564 : zfetch 224 564 = some (9, .invokevirtual 59, 3) := by decide +kernel
theorem i224_567 : zfetch 224 567 = some (9, .if_icmp .eq 898, 3) := by decide +kernel
theorem i224_570 : zfetch 224 570 = some (9, .iconst 0, 1) := by decide +kernel
theorem i224_571 : zfetch 224 571 = some (9, .ireturn, 1) := by decide +kernel
theorem i224_572 : zfetch 224 572 = some (9, .aload_n 1, 1) := by decide +kernel
theorem i224_573 : zfetch 224 573 = some (9, .aload_n 0, 1) := by decide +kernel
theorem i224_574 : zfetch 224 574 = some (9, .iload_n 3, 1) := by decide +kernel
theorem i224_575 : zfetch 224 575 = some (9, .iconst 1, 1) := by decide +kernel
theorem i224_576 : zfetch 224 576 = some (9, .iadd, 1) := by decide +kernel
theorem i224_577 : zfetch 224 577 = some (9, .iaload, 1) := by decide +kernel
theorem i224_578 : zfetch 224 578 = some (9, .invokevirtual 60, 3) := by decide +kernel
theorem i224_581 : zfetch 224 581 = some (9, .aload_n 2, 1) := by decide +kernel
theorem i224_582 : zfetch 224 582 = some (9, .aload_n 0, 1) := by decide +kernel
theorem i224_583 : zfetch 224 583 = some (9, .iload_n 3, 1) := by decide +kernel
theorem i224_584 : zfetch 224 584 = some (9, .iconst 1, 1) := by decide +kernel
theorem i224_585 : zfetch 224 585 = some (9, .iadd, 1) := by decide +kernel
theorem i224_586 : zfetch 224 586 = some (9, .iaload, 1) := by decide +kernel
theorem i224_587 : zfetch 224 587 = some (9, .invokevirtual 63, 3) := by decide +kernel
theorem i224_590 : zfetch 224 590 = some (9, .if_icmp .eq 875, 3) := by decide +kernel
theorem i224_593 : zfetch 224 593 = some (9, .iconst 0, 1) := by decide +kernel
theorem i224_594 : zfetch 224 594 = some (9, .ireturn, 1) := by decide +kernel
theorem i224_595 : zfetch 224 595 = some (9, .aload_n 1, 1) := by decide +kernel
theorem i224_596 : zfetch 224 596 = some (9, .aload_n 0, 1) := by decide +kernel
theorem i224_597 : zfetch 224 597 = some (9, .iload_n 3, 1) := by decide +kernel
theorem i224_598 : zfetch 224 598 = some (9, .iconst 1, 1) := by decide +kernel
theorem i224_599 : zfetch 224 599 = some (9, .iadd, 1) := by decide +kernel
theorem i224_600 : zfetch 224 600 = some (9, .iaload, 1) := by decide +kernel
theorem i224_601 : zfetch 224 601 = some (9, .aload_n 0, 1) := by decide +kernel
theorem i224_602 : zfetch 224 602 = some (9, .iload_n 3, 1) := by decide +kernel
theorem i224_603 : zfetch 224 603 = some (9, .iconst 2, 1) := by decide +kernel
theorem i224_604 : zfetch 224 604 = some (9, .iadd, 1) := by decide +kernel
theorem i224_605 : zfetch 224 605 = some (9, .iaload, 1) := by decide +kernel
theorem i224_606 : zfetch 224 606 = some (9, .aload_n 0, 1) := by decide +kernel
theorem i224_607 : zfetch 224 607 = some (9, .iload_n 3, 1) := by decide +kernel
theorem i224_608 : zfetch 224 608 = some (9, .iconst 3, 1) := by decide +kernel
theorem i224_609 : zfetch 224 609 = some (9, .iadd, 1) := by decide +kernel
theorem i224_610 : zfetch 224 610 = some (9, .iaload, 1) := by decide +kernel
theorem i224_611 : zfetch 224 611 = some (9, .aload_n 0, 1) := by decide +kernel
theorem i224_612 : zfetch 224 612 = some (9, .iload_n 3, 1) := by decide +kernel
theorem i224_613 : zfetch 224 613 = some (9, .iconst 4, 1) := by decide +kernel
theorem i224_614 : zfetch 224 614 = some (9, .iadd, 1) := by decide +kernel
theorem i224_615 : zfetch 224 615 = some (9, .iaload, 1) := by decide +kernel
theorem i224_616 : zfetch 224 616 = some (9, .invokevirtual 64, 3) := by decide +kernel
theorem i224_619 : zfetch 224 619 = some (9, .aload_n 2, 1) := by decide +kernel
theorem i224_620 : zfetch 224 620 = some (9, .aload_n 0, 1) := by decide +kernel
theorem i224_621 : zfetch 224 621 = some (9, .iload_n 3, 1) := by decide +kernel
theorem i224_622 : zfetch 224 622 = some (9, .iconst 1, 1) := by decide +kernel
theorem i224_623 : zfetch 224 623 = some (9, .iadd, 1) := by decide +kernel
theorem i224_624 : zfetch 224 624 = some (9, .iaload, 1) := by decide +kernel
theorem i224_625 : zfetch 224 625 = some (9, .aload_n 0, 1) := by decide +kernel
theorem i224_626 : zfetch 224 626 = some (9, .iload_n 3, 1) := by decide +kernel
theorem i224_627 : zfetch 224 627 = some (9, .iconst 2, 1) := by decide +kernel
theorem i224_628 : zfetch 224 628 = some (9, .iadd, 1) := by decide +kernel
theorem i224_629 : zfetch 224 629 = some (9, .iaload, 1) := by decide +kernel
theorem i224_630 : zfetch 224 630 = some (9, .aload_n 0, 1) := by decide +kernel
theorem i224_631 : zfetch 224 631 = some (9, .iload_n 3, 1) := by decide +kernel
theorem i224_632 : zfetch 224 632 = some (9, .iconst 3, 1) := by decide +kernel
theorem i224_633 : zfetch 224 633 = some (9, .iadd, 1) := by decide +kernel
theorem i224_634 : zfetch 224 634 = some (9, .iaload, 1) := by decide +kernel
theorem i224_635 : zfetch 224 635 = some (9, .aload_n 0, 1) := by decide +kernel
theorem i224_636 : zfetch 224 636 = some (9, .iload_n 3, 1) := by decide +kernel
theorem i224_637 : zfetch 224 637 = some (9, .iconst 4, 1) := by decide +kernel
theorem i224_638 : zfetch 224 638 = some (9, .iadd, 1) := by decide +kernel
theorem i224_639 : zfetch 224 639 = some (9, .iaload, 1) := by decide +kernel
theorem i224_640 : zfetch 224 640 = some (9, .invokevirtual 67, 3) := by decide +kernel
theorem i224_643 : zfetch 224 643 = some (9, .if_icmp .eq 822, 3) := by decide +kernel
theorem i224_646 : zfetch 224 646 = some (9, .iconst 0, 1) := by decide +kernel
theorem i224_647 : zfetch 224 647 = some (9, .ireturn, 1) := by decide +kernel
theorem i224_648 : zfetch 224 648 = some (9, .aload_n 1, 1) := by decide +kernel
theorem i224_649 : zfetch 224 649 = some (9, .aload_n 0, 1) := by decide +kernel
theorem i224_650 : zfetch 224 650 = some (9, .iload_n 3, 1) := by decide +kernel
theorem i224_651 : zfetch 224 651 = some (9, .iconst 1, 1) := by decide +kernel
theorem i224_652 : zfetch 224 652 = some (9, .iadd, 1) := by decide +kernel
theorem i224_653 : zfetch 224 653 = some (9, .iaload, 1) := by decide +kernel
theorem i224_654 : zfetch 224 654 = some (9, .invokevirtual 68, 3) := by decide +kernel
theorem i224_657 : zfetch 224 657 = some (9, .aload_n 2, 1) := by decide +kernel
theorem i224_658 : zfetch 224 658 = some (9, .aload_n 0, 1) := by decide +kernel
theorem i224_659 : zfetch 224 659 = some (9, .iload_n 3, 1) := by decide +kernel
theorem i224_660 : zfetch 224 660 = some (9, .iconst 1, 1) := by decide +kernel
theorem i224_661 : zfetch 224 661 = some (9, .iadd, 1) := by decide +kernel
theorem i224_662 : zfetch 224 662 = some (9, .iaload, 1) := by decide +kernel
theorem i224_663 : zfetch 224 663 = some (9, .invokevirtual 71, 3) := by decide +kernel
theorem i224_666 : zfetch 224 666 = some (9, .if_icmp .eq 799, 3) := by decide +kernel
theorem i224_669 : zfetch 224 669 = some (9, .iconst 0, 1) := by decide +kernel
theorem i224_670 : zfetch 224 670 = some (9, .ireturn, 1) := by decide +kernel
theorem i224_671 : zfetch 224 671 = some (9, .aload_n 1, 1) := by decide +kernel
theorem i224_672 : zfetch 224 672 = some (9, .aload_n 0, 1) := by decide +kernel
theorem i224_673 : zfetch 224 673 = some (9, .iload_n 3, 1) := by decide +kernel
theorem i224_674 : zfetch 224 674 = some (9, .iconst 1, 1) := by decide +kernel
theorem i224_675 : zfetch 224 675 = some (9, .iadd, 1) := by decide +kernel
theorem i224_676 : zfetch 224 676 = some (9, .iaload, 1) := by decide +kernel
theorem i224_677 : zfetch 224 677 = some (9, .invokevirtual 72, 3) := by decide +kernel
theorem i224_680 : zfetch 224 680 = some (9, .aload_n 2, 1) := by decide +kernel
theorem i224_681 : zfetch 224 681 = some (9, .aload_n 0, 1) := by decide +kernel
theorem i224_682 : zfetch 224 682 = some (9, .iload_n 3, 1) := by decide +kernel
theorem i224_683 : zfetch 224 683 = some (9, .iconst 1, 1) := by decide +kernel
theorem i224_684 : zfetch 224 684 = some (9, .iadd, 1) := by decide +kernel
theorem i224_685 : zfetch 224 685 = some (9, .iaload, 1) := by decide +kernel
theorem i224_686 : zfetch 224 686 = some (9, .invokevirtual 75, 3) := by decide +kernel
theorem i224_689 : zfetch 224 689 = some (9, .if_icmp .eq 776, 3) := by decide +kernel
theorem i224_692 : zfetch 224 692 = some (9, .iconst 0, 1) := by decide +kernel
theorem i224_693 : zfetch 224 693 = some (9, .ireturn, 1) := by decide +kernel
theorem i224_694 : zfetch 224 694 = some (9, .aload_n 1, 1) := by decide +kernel
theorem i224_695 : zfetch 224 695 = some (9, .aload_n 0, 1) := by decide +kernel
theorem i224_696 : zfetch 224 696 = some (9, .iload_n 3, 1) := by decide +kernel
theorem i224_697 : zfetch 224 697 = some (9, .iconst 1, 1) := by decide +kernel
theorem i224_698 : zfetch 224 698 = some (9, .iadd, 1) := by decide +kernel
theorem i224_699 : zfetch 224 699 = some (9, .iaload, 1) := by decide +kernel
theorem i224_700 : zfetch 224 700 = some (9, .invokevirtual 76, 3) := by decide +kernel
theorem i224_703 : zfetch 224 703 = some (9, .aload_n 2, 1) := by decide +kernel
theorem i224_704 : zfetch 224 704 = some (9, .aload_n 0, 1) := by decide +kernel
theorem i224_705 : zfetch 224 705 = some (9, .iload_n 3, 1) := by decide +kernel
theorem i224_706 : zfetch 224 706 = some (9, .iconst 1, 1) := by decide +kernel
theorem i224_707 : zfetch 224 707 = some (9, .iadd, 1) := by decide +kernel
theorem i224_708 : zfetch 224 708 = some (9, .iaload, 1) := by decide +kernel
theorem i224_709 : zfetch 224 709 = some (9, .invokevirtual 79, 3) := by decide +kernel
theorem i224_712 : zfetch 224 712 = some (9, .if_icmp .eq 753, 3) := by decide +kernel
theorem i224_715 : zfetch 224 715 = some (9, .iconst 0, 1) := by decide +kernel
theorem i224_716 : zfetch 224 716 = some (9, .ireturn, 1) := by decide +kernel
theorem i224_717 : zfetch 224 717 = some (9, .aload_n 1, 1) := by decide +kernel
theorem i224_718 : zfetch 224 718 = some (9, .aload_n 0, 1) := by decide +kernel
theorem i224_719 : zfetch 224 719 = some (9, .iload_n 3, 1) := by decide +kernel
theorem i224_720 : zfetch 224 720 = some (9, .iconst 1, 1) := by decide +kernel
theorem i224_721 : zfetch 224 721 = some (9, .iadd, 1) := by decide +kernel
theorem i224_722 : zfetch 224 722 = some (9, .iaload, 1) := by decide +kernel
theorem i224_723 : zfetch 224 723 = some (9, .invokevirtual 80, 3) := by decide +kernel
theorem i224_726 : zfetch 224 726 = some (9, .aload_n 2, 1) := by decide +kernel
theorem i224_727 : zfetch 224 727 = some (9, .aload_n 0, 1) := by decide +kernel
theorem i224_728 : zfetch 224 728 = some (9, .iload_n 3, 1) := by decide +kernel
theorem i224_729 : zfetch 224 729 = some (9, .iconst 1, 1) := by decide +kernel
theorem i224_730 : zfetch 224 730 = some (9, .iadd, 1) := by decide +kernel
theorem i224_731 : zfetch 224 731 = some (9, .iaload, 1) := by decide +kernel
theorem i224_732 : zfetch 224 732 = some (9, .invokevirtual 83, 3) := by decide +kernel
theorem i224_735 : zfetch 224 735 = some (9, .if_icmp .eq 730, 3) := by decide +kernel
theorem i224_738 : zfetch 224 738 = some (9, .iconst 0, 1) := by decide +kernel
theorem i224_739 : zfetch 224 739 = some (9, .ireturn, 1) := by decide +kernel
theorem i224_740 : zfetch 224 740 = some (9, .aload_n 1, 1) := by decide +kernel
theorem i224_741 : zfetch 224 741 = some (9, .aload_n 0, 1) := by decide +kernel
theorem i224_742 : zfetch 224 742 = some (9, .iload_n 3, 1) := by decide +kernel
theorem i224_743 : zfetch 224 743 = some (9, .iconst 1, 1) := by decide +kernel
theorem i224_744 : zfetch 224 744 = some (9, .iadd, 1) := by decide +kernel
theorem i224_745 : zfetch 224 745 = some (9, .iaload, 1) := by decide +kernel
theorem i224_746 : zfetch 224 746 = some (9, .invokevirtual 84, 3) := by decide +kernel
theorem i224_749 : zfetch 224 749 = some (9, .aload_n 2, 1) := by decide +kernel
theorem i224_750 : zfetch 224 750 = some (9, .aload_n 0, 1) := by decide +kernel
theorem i224_751 : zfetch 224 751 = some (9, .iload_n 3, 1) := by decide +kernel
theorem i224_752 : zfetch 224 752 = some (9, .iconst 1, 1) := by decide +kernel
theorem i224_753 : zfetch 224 753 = some (9, .iadd, 1) := by decide +kernel
theorem i224_754 : zfetch 224 754 = some (9, .iaload, 1) := by decide +kernel
theorem i224_755 : zfetch 224 755 = some (9, .invokevirtual 87, 3) := by decide +kernel
theorem i224_758 : zfetch 224 758 = some (9, .if_icmp .eq 707, 3) := by decide +kernel
theorem i224_761 : zfetch 224 761 = some (9, .iconst 0, 1) := by decide +kernel
theorem i224_762 : zfetch 224 762 = some (9, .ireturn, 1) := by decide +kernel
theorem i224_763 : zfetch 224 763 = some (9, .aload_n 1, 1) := by decide +kernel
theorem i224_764 : zfetch 224 764 = some (9, .aload_n 0, 1) := by decide +kernel
theorem i224_765 : zfetch 224 765 = some (9, .iload_n 3, 1) := by decide +kernel
theorem i224_766 : zfetch 224 766 = some (9, .iconst 1, 1) := by decide +kernel
theorem i224_767 : zfetch 224 767 = some (9, .iadd, 1) := by decide +kernel
theorem i224_768 : zfetch 224 768 = some (9, .iaload, 1) := by decide +kernel
theorem i224_769 : zfetch 224 769 = some (9, .aload_n 0, 1) := by decide +kernel
theorem i224_770 : zfetch 224 770 = some (9, .iload_n 3, 1) := by decide +kernel
theorem i224_771 : zfetch 224 771 = some (9, .iconst 2, 1) := by decide +kernel
theorem i224_772 : zfetch 224 772 = some (9, .iadd, 1) := by decide +kernel
theorem i224_773 : zfetch 224 773 = some (9, .iaload, 1) := by decide +kernel
theorem i224_774 : zfetch 224 774 = some (9, .invokevirtual 88, 3) := by decide +kernel
theorem i224_777 : zfetch 224 777 = some (9, .aload_n 2, 1) := by decide +kernel
theorem i224_778 : zfetch 224 778 = some (9, .aload_n 0, 1) := by decide +kernel
theorem i224_779 : zfetch 224 779 = some (9, .iload_n 3, 1) := by decide +kernel
theorem i224_780 : zfetch 224 780 = some (9, .iconst 1, 1) := by decide +kernel
theorem i224_781 : zfetch 224 781 = some (9, .iadd, 1) := by decide +kernel
theorem i224_782 : zfetch 224 782 = some (9, .iaload, 1) := by decide +kernel
theorem i224_783 : zfetch 224 783 = some (9, .aload_n 0, 1) := by decide +kernel
theorem i224_784 : zfetch 224 784 = some (9, .iload_n 3, 1) := by decide +kernel
theorem i224_785 : zfetch 224 785 = some (9, .iconst 2, 1) := by decide +kernel
theorem i224_786 : zfetch 224 786 = some (9, .iadd, 1) := by decide +kernel
theorem i224_787 : zfetch 224 787 = some (9, .iaload, 1) := by decide +kernel
theorem i224_788 : zfetch 224 788 = some (9, .invokevirtual 91, 3) := by decide +kernel
theorem i224_791 : zfetch 224 791 = some (9, .if_icmp .eq 674, 3) := by decide +kernel
theorem i224_794 : zfetch 224 794 = some (9, .iconst 0, 1) := by decide +kernel
theorem i224_795 : zfetch 224 795 = some (9, .ireturn, 1) := by decide +kernel
theorem i224_796 : zfetch 224 796 = some (9, .aload_n 1, 1) := by decide +kernel
theorem i224_797 : zfetch 224 797 = some (9, .aload_n 0, 1) := by decide +kernel
theorem i224_798 : zfetch 224 798 = some (9, .iload_n 3, 1) := by decide +kernel
theorem i224_799 : zfetch 224 799 = some (9, .iconst 1, 1) := by decide +kernel
theorem i224_800 : zfetch 224 800 = some (9, .iadd, 1) := by decide +kernel
theorem i224_801 : zfetch 224 801 = some (9, .iaload, 1) := by decide +kernel
theorem i224_802 : zfetch 224 802 = some (9, .invokevirtual 92, 3) := by decide +kernel
theorem i224_805 : zfetch 224 805 = some (9, .aload_n 2, 1) := by decide +kernel
theorem i224_806 : zfetch 224 806 = some (9, .aload_n 0, 1) := by decide +kernel
theorem i224_807 : zfetch 224 807 = some (9, .iload_n 3, 1) := by decide +kernel
theorem i224_808 : zfetch 224 808 = some (9, .iconst 1, 1) := by decide +kernel
theorem i224_809 : zfetch 224 809 = some (9, .iadd, 1) := by decide +kernel
theorem i224_810 : zfetch 224 810 = some (9, .iaload, 1) := by decide +kernel
theorem i224_811 : zfetch 224 811 = some (9, .invokevirtual 95, 3) := by decide +kernel
theorem i224_814 : zfetch 224 814 = some (9, .if_icmp .eq 651, 3) := by decide +kernel
theorem i224_817 : zfetch 224 817 = some (9, .iconst 0, 1) := by decide +kernel
theorem i224_818 : zfetch 224 818 = some (9, .ireturn, 1) := by decide +kernel
theorem i224_819 : zfetch 224 819 = some (9, .aload_n 1, 1) := by decide +kernel
theorem i224_820 : zfetch 224 820 = some (9, .aload_n 0, 1) := by decide +kernel
theorem i224_821 : zfetch 224 821 = some (9, .iload_n 3, 1) := by decide +kernel
theorem i224_822 : zfetch 224 822 = some (9, .iconst 1, 1) := by decide +kernel
theorem i224_823 : zfetch 224 823 = some (9, .iadd, 1) := by decide +kernel
theorem i224_824 : zfetch 224 824 = some (9, .iaload, 1) := by decide +kernel
theorem i224_825 : zfetch 224 825 = some (9, .invokevirtual 96, 3) := by decide +kernel
theorem i224_828 : zfetch 224 828 = some (9, .aload_n 2, 1) := by decide +kernel
theorem i224_829 : zfetch 224 829 = some (9, .aload_n 0, 1) := by decide +kernel
theorem i224_830 : zfetch 224 830 = some (9, .iload_n 3, 1) := by decide +kernel
theorem i224_831 : zfetch 224 831 = some (9, .iconst 1, 1) := by decide +kernel
theorem i224_832 : zfetch 224 832 = some (9, .iadd, 1) := by decide +kernel
theorem i224_833 : zfetch 224 833 = some (9, .iaload, 1) := by decide +kernel
theorem i224_834 : zfetch 224 834 = some (9, .invokevirtual 99, 3) := by decide +kernel
theorem i224_837 : zfetch 224 837 = some (9, .if_icmp .eq 628, 3) := by decide +kernel
theorem i224_840 : zfetch 224 840 = some (9, .iconst 0, 1) := by decide +kernel
theorem i224_841 : zfetch 224 841 = some (9, .ireturn, 1) := by decide +kernel
theorem i224_842 : zfetch 224 842 = some (9, .aload_n 1, 1) := by decide +kernel
theorem i224_843 : zfetch 224 843 = some (9, .invokevirtual 100, 3) := by decide +kernel
theorem i224_846 : zfetch 224 846 = some (9, .aload_n 2, 1) := by decide +kernel
theorem i224_847 : zfetch 224 847 = some (9, .invokevirtual 104, 3) := by decide +kernel
theorem i224_850 : zfetch 224 850 = some (9, .if_icmp .eq 615, 3) := by decide +kernel
theorem i224_853 : zfetch 224 853 = some (9, .iconst 0, 1) := by decide +kernel
theorem i224_854 : zfetch 224 854 = some (9, .ireturn, 1) := by decide +kernel
theorem i224_855 : zfetch 224 855 = some (9, .aload_n 1, 1) := by decide +kernel
theorem i224_856 : zfetch 224 856 = some (9, .aload_n 0, 1) := by decide +kernel
theorem i224_857 : zfetch 224 857 = some (9, .iload_n 3, 1) := by decide +kernel
theorem i224_858 : zfetch 224 858 = some (9, .iconst 1, 1) := by decide +kernel
theorem i224_859 : zfetch 224 859 = some (9, .iadd, 1) := by decide +kernel
theorem i224_860 : zfetch 224 860 = some (9, .iaload, 1) := by decide +kernel
theorem i224_861 : zfetch 224 861 = some (9, .aload_n 0, 1) := by decide +kernel
theorem i224_862 : zfetch 224 862 = some (9, .iload_n 3, 1) := by decide +kernel
theorem i224_863 : zfetch 224 863 = some (9, .iconst 2, 1) := by decide +kernel
theorem i224_864 : zfetch 224 864 = some (9, .iadd, 1) := by decide +kernel
theorem i224_865 : zfetch 224 865 = some (9, .iaload, 1) := by decide +kernel
theorem i224_866 : zfetch 224 866 = some (9, .invokevirtual 105, 3) := by decide +kernel
theorem i224_869 : zfetch 224 869 = some (9, .aload_n 2, 1) := by decide +kernel
theorem i224_870 : zfetch 224 870 = some (9, .aload_n 0, 1) := by decide +kernel
theorem i224_871 : zfetch 224 871 = some (9, .iload_n 3, 1) := by decide +kernel
theorem i224_872 : zfetch 224 872 = some (9, .iconst 1, 1) := by decide +kernel
theorem i224_873 : zfetch 224 873 = some (9, .iadd, 1) := by decide +kernel
theorem i224_874 : zfetch 224 874 = some (9, .iaload, 1) := by decide +kernel
theorem i224_875 : zfetch 224 875 = some (9, .aload_n 0, 1) := by decide +kernel
theorem i224_876 : zfetch 224 876 = some (9, .iload_n 3, 1) := by decide +kernel
theorem i224_877 : zfetch 224 877 = some (9, .iconst 2, 1) := by decide +kernel
theorem i224_878 : zfetch 224 878 = some (9, .iadd, 1) := by decide +kernel
theorem i224_879 : zfetch 224 879 = some (9, .iaload, 1) := by decide +kernel
theorem i224_880 : zfetch 224 880 = some (9, .invokevirtual 108, 3) := by decide +kernel
theorem i224_883 : zfetch 224 883 = some (9, .if_icmp .eq 582, 3) := by decide +kernel
theorem i224_886 : zfetch 224 886 = some (9, .iconst 0, 1) := by decide +kernel
theorem i224_887 : zfetch 224 887 = some (9, .ireturn, 1) := by decide +kernel
theorem i224_888 : zfetch 224 888 = some (9, .aload_n 1, 1) := by decide +kernel
theorem i224_889 : zfetch 224 889 = some (9, .aload_n 0, 1) := by decide +kernel
theorem i224_890 : zfetch 224 890 = some (9, .iload_n 3, 1) := by decide +kernel
theorem i224_891 : zfetch 224 891 = some (9, .iconst 1, 1) := by decide +kernel
theorem i224_892 : zfetch 224 892 = some (9, .iadd, 1) := by decide +kernel
theorem i224_893 : zfetch 224 893 = some (9, .iaload, 1) := by decide +kernel
theorem i224_894 : zfetch 224 894 = some (9, .invokevirtual 109, 3) := by decide +kernel
theorem i224_897 : zfetch 224 897 = some (9, .aload_n 2, 1) := by decide +kernel
theorem i224_898 : zfetch 224 898 = some (9, .aload_n 0, 1) := by decide +kernel
theorem i224_899 : zfetch 224 899 = some (9, .iload_n 3, 1) := by decide +kernel
theorem i224_900 : zfetch 224 900 = some (9, .iconst 1, 1) := by decide +kernel
theorem i224_901 : zfetch 224 901 = some (9, .iadd, 1) := by decide +kernel
theorem i224_902 : zfetch 224 902 = some (9, .iaload, 1) := by decide +kernel
theorem i224_903 : zfetch 224 903 = some (9, .invokevirtual 112, 3) := by decide +kernel
theorem i224_906 : zfetch 224 906 = some (9, .if_icmp .eq 559, 3) := by decide +kernel
theorem i224_909 : zfetch 224 909 = some (9, .iconst 0, 1) := by decide +kernel
theorem i224_910 : zfetch 224 910 = some (9, .ireturn, 1) := by decide +kernel
theorem i224_911 : zfetch 224 911 = some (9, .aload_n 1, 1) := by decide +kernel
theorem i224_912 : zfetch 224 912 = some (9, .aload_n 0, 1) := by decide +kernel
theorem i224_913 : zfetch 224 913 = some (9, .iload_n 3, 1) := by decide +kernel
theorem i224_914 : zfetch 224 914 = some (9, .iconst 1, 1) := by decide +kernel
theorem i224_915 : zfetch 224 915 = some (9, .iadd, 1) := by decide +kernel
theorem i224_916 : zfetch 224 916 = some (9, .iaload, 1) := by decide +kernel
theorem i224_917 : zfetch 224 917 = some (9, .aload_n 0, 1) := by decide +kernel
theorem i224_918 : zfetch 224 918 = some (9, .iload_n 3, 1) := by decide +kernel
theorem i224_919 : zfetch 224 919 = some (9, .iconst 2, 1) := by decide +kernel
theorem i224_920 : zfetch 224 920 = some (9, .iadd, 1) := by decide +kernel
theorem i224_921 : zfetch 224 921 = some (9, .iaload, 1) := by decide +kernel
theorem i224_922 : zfetch 224 922 = some (9, .invokevirtual 113, 3) := by decide +kernel
theorem i224_925 : zfetch 224 925 = some (9, .aload_n 2, 1) := by decide +kernel
theorem i224_926 : zfetch 224 926 = some (9, .aload_n 0, 1) := by decide +kernel
theorem i224_927 : zfetch 224 927 = some (9, .iload_n 3, 1) := by decide +kernel
theorem i224_928 : zfetch 224 928 = some (9, .iconst 1, 1) := by decide +kernel
theorem i224_929 : zfetch 224 929 = some (9, .iadd, 1) := by decide +kernel
theorem i224_930 : zfetch 224 930 = some (9, .iaload, 1) := by decide +kernel
theorem i224_931 : zfetch 224 931 = some (9, .aload_n 0, 1) := by decide +kernel
theorem i224_932 : zfetch 224 932 = some (9, .iload_n 3, 1) := by decide +kernel
theorem i224_933 : zfetch 224 933 = some (9, .iconst 2, 1) := by decide +kernel
theorem i224_934 : zfetch 224 934 = some (9, .iadd, 1) := by decide +kernel
theorem i224_935 : zfetch 224 935 = some (9, .iaload, 1) := by decide +kernel
theorem i224_936 : zfetch 224 936 = some (9, .invokevirtual 116, 3) := by decide +kernel
theorem i224_939 : zfetch 224 939 = some (9, .if_icmp .eq 526, 3) := by decide +kernel
theorem i224_942 : zfetch 224 942 = some (9, .iconst 0, 1) := by decide +kernel
theorem i224_943 : zfetch 224 943 = some (9, .ireturn, 1) := by decide +kernel
theorem i224_944 : zfetch 224 944 = some (9, .aload_n 1, 1) := by decide +kernel
theorem i224_945 : zfetch 224 945 = some (9, .aload_n 0, 1) := by decide +kernel
theorem i224_946 : zfetch 224 946 = some (9, .iload_n 3, 1) := by decide +kernel
theorem i224_947 : zfetch 224 947 = some (9, .iconst 1, 1) := by decide +kernel
theorem i224_948 : zfetch 224 948 = some (9, .iadd, 1) := by decide +kernel
theorem i224_949 : zfetch 224 949 = some (9, .iaload, 1) := by decide +kernel
theorem i224_950 : zfetch 224 950 = some (9, .aload_n 0, 1) := by decide +kernel
theorem i224_951 : zfetch 224 951 = some (9, .iload_n 3, 1) := by decide +kernel
theorem i224_952 : zfetch 224 952 = some (9, .iconst 2, 1) := by decide +kernel
theorem i224_953 : zfetch 224 953 = some (9, .iadd, 1) := by decide +kernel
theorem i224_954 : zfetch 224 954 = some (9, .iaload, 1) := by decide +kernel
theorem i224_955 : zfetch 224 955 = some (9, .invokevirtual 117, 3) := by decide +kernel
theorem i224_958 : zfetch 224 958 = some (9, .aload_n 2, 1) := by decide +kernel
theorem i224_959 : zfetch 224 959 = some (9, .aload_n 0, 1) := by decide +kernel
theorem i224_960 : zfetch 224 960 = some (9, .iload_n 3, 1) := by decide +kernel
theorem i224_961 : zfetch 224 961 = some (9, .iconst 1, 1) := by decide +kernel
theorem i224_962 : zfetch 224 962 = some (9, .iadd, 1) := by decide +kernel
theorem i224_963 : zfetch 224 963 = some (9, .iaload, 1) := by decide +kernel
theorem i224_964 : zfetch 224 964 = some (9, .aload_n 0, 1) := by decide +kernel
theorem i224_965 : zfetch 224 965 = some (9, .iload_n 3, 1) := by decide +kernel
theorem i224_966 : zfetch 224 966 = some (9, .iconst 2, 1) := by decide +kernel
theorem i224_967 : zfetch 224 967 = some (9, .iadd, 1) := by decide +kernel
theorem i224_968 : zfetch 224 968 = some (9, .iaload, 1) := by decide +kernel
theorem i224_969 : zfetch 224 969 = some (9, .invokevirtual 120, 3) := by decide +kernel
theorem i224_972 : zfetch 224 972 = some (9, .if_icmp .eq 493, 3) := by decide +kernel
theorem i224_975 : zfetch 224 975 = some (9, .iconst 0, 1) := by decide +kernel
theorem i224_976 : zfetch 224 976 = some (9, .ireturn, 1) := by decide +kernel
theorem i224_977 : zfetch 224 977 = some (9, .aload_n 1, 1) := by decide +kernel
theorem i224_978 : zfetch 224 978 = some (9, .aload_n 0, 1) := by decide +kernel
theorem i224_979 : zfetch 224 979 = some (9, .iload_n 3, 1) := by decide +kernel
theorem i224_980 : zfetch 224 980 = some (9, .iconst 1, 1) := by decide +kernel
theorem i224_981 : zfetch 224 981 = some (9, .iadd, 1) := by decide +kernel
theorem i224_982 : zfetch 224 982 = some (9, .iaload, 1) := by decide +kernel
theorem i224_983 : zfetch 224 983 = some (9, .aload_n 0, 1) := by decide +kernel
theorem i224_984 : zfetch 224 984 = some (9, .iload_n 3, 1) := by decide +kernel
theorem i224_985 : zfetch 224 985 = some (9, .iconst 2, 1) := by decide +kernel
theorem i224_986 : zfetch 224 986 = some (9, .iadd, 1) := by decide +kernel
theorem i224_987 : zfetch 224 987 = some (9, .iaload, 1) := by decide +kernel
theorem i224_988 : zfetch 224 988 = some (9, .invokevirtual 121, 3) := by decide +kernel
theorem i224_991 : zfetch 224 991 = some (9, .aload_n 2, 1) := by decide +kernel
theorem i224_992 : zfetch 224 992 = some (9, .aload_n 0, 1) := by decide +kernel
theorem i224_993 : zfetch 224 993 = some (9, .iload_n 3, 1) := by decide +kernel
theorem i224_994 : zfetch 224 994 = some (9, .iconst 1, 1) := by decide +kernel
theorem i224_995 : zfetch 224 995 = some (9, .iadd, 1) := by decide +kernel
theorem i224_996 : zfetch 224 996 = some (9, .iaload, 1) := by decide +kernel
theorem i224_997 : zfetch 224 997 = some (9, .aload_n 0, 1) := by decide +kernel
theorem i224_998 : zfetch 224 998 = some (9, .iload_n 3, 1) := by decide +kernel
theorem i224_999 : zfetch 224 999 = some (9, .iconst 2, 1) := by decide +kernel
theorem i224_1000 : zfetch 224 1000 = some (9, .iadd, 1) := by decide +kernel
theorem i224_1001 : zfetch 224 1001 = some (9, .iaload, 1) := by decide +kernel
theorem i224_1002 : zfetch 224 1002 = some (9, .invokevirtual 124, 3) := by decide +kernel
theorem i224_1005 : zfetch 224 1005 = some (9, .if_icmp .eq 460, 3) := by decide +kernel
theorem i224_1008 : zfetch 224 1008 = some (9, .iconst 0, 1) := by decide +kernel
theorem i224_1009 : zfetch 224 1009 = some (9, .ireturn, 1) := by decide +kernel
theorem i224_1010 : zfetch 224 1010 = some (9, .aload_n 1, 1) := by decide +kernel
theorem i224_1011 : zfetch 224 1011 = some (9, .aload_n 0, 1) := by decide +kernel
theorem i224_1012 : zfetch 224 1012 = some (9, .iload_n 3, 1) := by decide +kernel
theorem i224_1013 : zfetch 224 1013 = some (9, .iconst 1, 1) := by decide +kernel
theorem i224_1014 : zfetch 224 1014 = some (9, .iadd, 1) := by decide +kernel
theorem i224_1015 : zfetch 224 1015 = some (9, .iaload, 1) := by decide +kernel
theorem i224_1016 : zfetch 224 1016 = some (9, .aload_n 0, 1) := by decide +kernel
theorem i224_1017 : zfetch 224 1017 = some (9, .iload_n 3, 1) := by decide +kernel
theorem i224_1018 : zfetch 224 1018 = some (9, .iconst 2, 1) := by decide +kernel
theorem i224_1019 : zfetch 224 1019 = some (9, .iadd, 1) := by decide +kernel
theorem i224_1020 : zfetch 224 1020 = some (9, .iaload, 1) := by decide +kernel
theorem i224_1021 : zfetch 224 1021 = some (9, .aload_n 0, 1) := by decide +kernel
theorem i224_1022 : zfetch 224 1022 = some (9, .iload_n 3, 1) := by decide +kernel
theorem i224_1023 : zfetch 224 1023 = some (9, .iconst 3, 1) := by decide +kernel
theorem i224_1024 : zfetch 224 1024 = some (9, .iadd, 1) := by decide +kernel
theorem i224_1025 : zfetch 224 1025 = some (9, .iaload, 1) := by decide +kernel
theorem i224_1026 : zfetch 224 1026 = some (9, .invokevirtual 125, 3) := by decide +kernel
theorem i224_1029 : zfetch 224 1029 = some (9, .aload_n 2, 1) := by decide +kernel
theorem i224_1030 : zfetch 224 1030 = some (9, .aload_n 0, 1) := by decide +kernel
theorem i224_1031 : zfetch 224 1031 = some (9, .iload_n 3, 1) := by decide +kernel
theorem i224_1032 : zfetch 224 1032 = some (9, .iconst 1, 1) := by decide +kernel
theorem i224_1033 : zfetch 224 1033 = some (9, .iadd, 1) := by decide +kernel
theorem i224_1034 : zfetch 224 1034 = some (9, .iaload, 1) := by decide +kernel
theorem i224_1035 : zfetch 224 1035 = some (9, .aload_n 0, 1) := by decide +kernel
theorem i224_1036 : zfetch 224 1036 = some (9, .iload_n 3, 1) := by decide +kernel
theorem i224_1037 : zfetch 224 1037 = some (9, .iconst 2, 1) := by decide +kernel
theorem i224_1038 : zfetch 224 1038 = some (9, .iadd, 1) := by decide +kernel
theorem i224_1039 : zfetch 224 1039 = some (9, .iaload, 1) := by decide +kernel
theorem i224_1040 : zfetch 224 1040 = some (9, .aload_n 0, 1) := by decide +kernel
theorem i224_1041 : zfetch 224 1041 = some (9, .iload_n 3, 1) := by decide +kernel
theorem i224_1042 : zfetch 224 1042 = some (9, .iconst 3, 1) := by decide +kernel
theorem i224_1043 : zfetch 224 1043 = some (9, .iadd, 1) := by decide +kernel
theorem i224_1044 : zfetch 224 1044 = some (9, .iaload, 1) := by decide +kernel
theorem i224_1045 : zfetch 224 1045 = some (9, .invokevirtual 128, 3) := by decide +kernel
theorem i224_1048 : zfetch 224 1048 = some (9, .if_icmp .eq 417, 3) := by decide +kernel
theorem i224_1051 : zfetch 224 1051 = some (9, .iconst 0, 1) := by decide +kernel
theorem i224_1052 : zfetch 224 1052 = some (9, .ireturn, 1) := by decide +kernel
theorem i224_1053 : zfetch 224 1053 = some (9, .aload_n 1, 1) := by decide +kernel
theorem i224_1054 : zfetch 224 1054 = some (9, .aload_n 0, 1) := by decide +kernel
theorem i224_1055 : zfetch 224 1055 = some (9, .iload_n 3, 1) := by decide +kernel
theorem i224_1056 : zfetch 224 1056 = some (9, .iconst 1, 1) := by decide +kernel
theorem i224_1057 : zfetch 224 1057 = some (9, .iadd, 1) := by decide +kernel
theorem i224_1058 : zfetch 224 1058 = some (9, .iaload, 1) := by decide +kernel
theorem i224_1059 : zfetch 224 1059 = some (9, .aload_n 0, 1) := by decide +kernel
theorem i224_1060 : zfetch 224 1060 = some (9, .iload_n 3, 1) := by decide +kernel
theorem i224_1061 : zfetch 224 1061 = some (9, .iconst 2, 1) := by decide +kernel
theorem i224_1062 : zfetch 224 1062 = some (9, .iadd, 1) := by decide +kernel
theorem i224_1063 : zfetch 224 1063 = some (9, .iaload, 1) := by decide +kernel
theorem i224_1064 : zfetch 224 1064 = some (9, .aload_n 0, 1) := by decide +kernel
theorem i224_1065 : zfetch 224 1065 = some (9, .iload_n 3, 1) := by decide +kernel
theorem i224_1066 : zfetch 224 1066 = some (9, .iconst 3, 1) := by decide +kernel
theorem i224_1067 : zfetch 224 1067 = some (9, .iadd, 1) := by decide +kernel
theorem i224_1068 : zfetch 224 1068 = some (9, .iaload, 1) := by decide +kernel
theorem i224_1069 : zfetch 224 1069 = some (9, .invokevirtual 129, 3) := by decide +kernel
theorem i224_1072 : zfetch 224 1072 = some (9, .aload_n 2, 1) := by decide +kernel
theorem i224_1073 : zfetch 224 1073 = some (9, .aload_n 0, 1) := by decide +kernel
theorem i224_1074 : zfetch 224 1074 = some (9, .iload_n 3, 1) := by decide +kernel
theorem i224_1075 : zfetch 224 1075 = some (9, .iconst 1, 1) := by decide +kernel
theorem i224_1076 : zfetch 224 1076 = some (9, .iadd, 1) := by decide +kernel
theorem i224_1077 : zfetch 224 1077 = some (9, .iaload, 1) := by decide +kernel
theorem i224_1078 : zfetch 224 1078 = some (9, .aload_n 0, 1) := by decide +kernel
theorem i224_1079 : zfetch 224 1079 = some (9, .iload_n 3, 1) := by decide +kernel
theorem i224_1080 : zfetch 224 1080 = some (9, .iconst 2, 1) := by decide +kernel
theorem i224_1081 : zfetch 224 1081 = some (9, .iadd, 1) := by decide +kernel
theorem i224_1082 : zfetch 224 1082 = some (9, .iaload, 1) := by decide +kernel
theorem i224_1083 : zfetch 224 1083 = some (9, .aload_n 0, 1) := by decide +kernel
theorem i224_1084 : zfetch 224 1084 = some (9, .iload_n 3, 1) := by decide +kernel
theorem i224_1085 : zfetch 224 1085 = some (9, .iconst 3, 1) := by decide +kernel
theorem i224_1086 : zfetch 224 1086 = some (9, .iadd, 1) := by decide +kernel
theorem i224_1087 : zfetch 224 1087 = some (9, .iaload, 1) := by decide +kernel
theorem i224_1088 : zfetch 224 1088 = some (9, .invokevirtual 132, 3) := by decide +kernel
theorem i224_1091 : zfetch 224 1091 = some (9, .if_icmp .eq 374, 3) := by decide +kernel
theorem i224_1094 : zfetch 224 1094 = some (9, .iconst 0, 1) := by decide +kernel
theorem i224_1095 : zfetch 224 1095 = some (9, .ireturn, 1) := by decide +kernel
theorem i224_1096 : zfetch 224 1096 = some (9, .aload_n 1, 1) := by decide +kernel
theorem i224_1097 : zfetch 224 1097 = some (9, .aload_n 0, 1) := by decide +kernel
theorem i224_1098 : zfetch 224 1098 = some (9, .iload_n 3, 1) := by decide +kernel
theorem i224_1099 : zfetch 224 1099 = some (9, .iconst 1, 1) := by decide +kernel
theorem i224_1100 : zfetch 224 1100 = some (9, .iadd, 1) := by decide +kernel
theorem i224_1101 : zfetch 224 1101 = some (9, .iaload, 1) := by decide +kernel
theorem i224_1102 : zfetch 224 1102 = some (9, .aload_n 0, 1) := by decide +kernel
theorem i224_1103 : zfetch 224 1103 = some (9, .iload_n 3, 1) := by decide +kernel
theorem i224_1104 : zfetch 224 1104 = some (9, .iconst 2, 1) := by decide +kernel
theorem i224_1105 : zfetch 224 1105 = some (9, .iadd, 1) := by decide +kernel
theorem i224_1106 : zfetch 224 1106 = some (9, .iaload, 1) := by decide +kernel
theorem i224_1107 : zfetch 224 1107 = some (9, .aload_n 0, 1) := by decide +kernel
theorem i224_1108 : zfetch 224 1108 = some (9, .iload_n 3, 1) := by decide +kernel
theorem i224_1109 : zfetch 224 1109 = some (9, .iconst 3, 1) := by decide +kernel
theorem i224_1110 : zfetch 224 1110 = some (9, .iadd, 1) := by decide +kernel
theorem i224_1111 : zfetch 224 1111 = some (9, .iaload, 1) := by decide +kernel
theorem i224_1112 : zfetch 224 1112 = some (9, .invokevirtual 133, 3) := by decide +kernel
theorem i224_1115 : zfetch 224 1115 = some (9, .aload_n 2, 1) := by decide +kernel
theorem i224_1116 : zfetch 224 1116 = some (9, .aload_n 0, 1) := by decide +kernel
theorem i224_1117 : zfetch 224 1117 = some (9, .iload_n 3, 1) := by decide +kernel
theorem i224_1118 : zfetch 224 1118 = some (9, .iconst 1, 1) := by decide +kernel
theorem i224_1119 : zfetch 224 1119 = some (9, .iadd, 1) := by decide +kernel
theorem i224_1120 : zfetch 224 1120 = some (9, .iaload, 1) := by decide +kernel
theorem i224_1121 : zfetch 224 1121 = some (9, .aload_n 0, 1) := by decide +kernel
theorem i224_1122 : zfetch 224 1122 = some (9, .iload_n 3, 1) := by decide +kernel
theorem i224_1123 : zfetch 224 1123 = some (9, .iconst 2, 1) := by decide +kernel
theorem i224_1124 : zfetch 224 1124 = some (9, .iadd, 1) := by decide +kernel
theorem i224_1125 : zfetch 224 1125 = some (9, .iaload, 1) := by decide +kernel
theorem i224_1126 : zfetch 224 1126 = some (9, .aload_n 0, 1) := by decide +kernel
theorem i224_1127 : zfetch 224 1127 = some (9, .iload_n 3, 1) := by decide +kernel
theorem i224_1128 : zfetch 224 1128 = some (9, .iconst 3, 1) := by decide +kernel
theorem i224_1129 : zfetch 224 1129 = some (9, .iadd, 1) := by decide +kernel
theorem i224_1130 : zfetch 224 1130 = some (9, .iaload, 1) := by decide +kernel
theorem i224_1131 : zfetch 224 1131 = some (9, .invokevirtual 136, 3) := by decide +kernel
theorem i224_1134 : zfetch 224 1134 = some (9, .if_icmp .eq 331, 3) := by decide +kernel
theorem i224_1137 : zfetch 224 1137 = some (9, .iconst 0, 1) := by decide +kernel
theorem i224_1138 : zfetch 224 1138 = some (9, .ireturn, 1) := by decide +kernel
theorem i224_1139 : zfetch 224 1139 = some (9, .aload_n 1, 1) := by decide +kernel
theorem i224_1140 : zfetch 224 1140 = some (9, .aload_n 0, 1) := by decide +kernel
theorem i224_1141 : zfetch 224 1141 = some (9, .iload_n 3, 1) := by decide +kernel
theorem i224_1142 : zfetch 224 1142 = some (9, .iconst 1, 1) := by decide +kernel
theorem i224_1143 : zfetch 224 1143 = some (9, .iadd, 1) := by decide +kernel
theorem i224_1144 : zfetch 224 1144 = some (9, .iaload, 1) := by decide +kernel
theorem i224_1145 : zfetch 224 1145 = some (9, .invokevirtual 137, 3) := by decide +kernel
theorem i224_1148 : zfetch 224 1148 = some (9, .aload_n 2, 1) := by decide +kernel
theorem i224_1149 : zfetch 224 1149 = some (9, .aload_n 0, 1) := by decide +kernel
theorem i224_1150 : zfetch 224 1150 = some (9, .iload_n 3, 1) := by decide +kernel
theorem i224_1151 : zfetch 224 1151 = some (9, .iconst 1, 1) := by decide +kernel
theorem i224_1152 : zfetch 224 1152 = some (9, .iadd, 1) := by decide +kernel
theorem i224_1153 : zfetch 224 1153 = some (9, .iaload, 1) := by decide +kernel
theorem i224_1154 : zfetch 224 1154 = some (9, .invokevirtual 140, 3) := by decide +kernel
theorem i224_1157 : zfetch 224 1157 = some (9, .if_icmp .eq 308, 3) := by decide +kernel
theorem i224_1160 : zfetch 224 1160 = some (9, .iconst 0, 1) := by decide +kernel
theorem i224_1161 : zfetch 224 1161 = some (9, .ireturn, 1) := by decide +kernel
theorem i224_1162 : zfetch 224 1162 = some (9, .aload_n 1, 1) := by decide +kernel
theorem i224_1163 : zfetch 224 1163 = some (9, .aload_n 0, 1) := by decide +kernel
theorem i224_1164 : zfetch 224 1164 = some (9, .iload_n 3, 1) := by decide +kernel
theorem i224_1165 : zfetch 224 1165 = some (9, .iconst 1, 1) := by decide +kernel
theorem i224_1166 : zfetch 224 1166 = some (9, .iadd, 1) := by decide +kernel
theorem i224_1167 : zfetch 224 1167 = some (9, .iaload, 1) := by decide +kernel
theorem i224_1168 : zfetch 224 1168 = some (9, .aload_n 0, 1) := by decide +kernel
theorem i224_1169 : zfetch 224 1169 = some (9, .iload_n 3, 1) := by decide +kernel
theorem i224_1170 : zfetch 224 1170 = some (9, .iconst 2, 1) := by decide +kernel
theorem i224_1171 : zfetch 224 1171 = some (9, .iadd, 1) := by decide +kernel
theorem i224_1172 : zfetch 224 1172 = some (9, .iaload, 1) := by decide +kernel
theorem i224_1173 : zfetch 224 1173 = some (9, .aload_n 0, 1) := by decide +kernel
theorem i224_1174 : zfetch 224 1174 = some (9, .iload_n 3, 1) := by decide +kernel
theorem i224_1175 : zfetch 224 1175 = some (9, .iconst 3, 1) := by decide +kernel
theorem i224_1176 : zfetch 224 1176 = some (9, .iadd, 1) := by decide +kernel
theorem i224_1177 : zfetch 224 1177 = some (9, .iaload, 1) := by decide +kernel
theorem i224_1178 : zfetch 224 1178 = some (9, .invokevirtual 141, 3) := by decide +kernel
theorem i224_1181 : zfetch 224 1181 = some (9, .aload_n 2, 1) := by decide +kernel
theorem i224_1182 : zfetch 224 1182 = some (9, .aload_n 0, 1) := by decide +kernel
theorem i224_1183 : zfetch 224 1183 = some (9, .iload_n 3, 1) := by decide +kernel
theorem i224_1184 : zfetch 224 1184 = some (9, .iconst 1, 1) := by decide +kernel
theorem i224_1185 : zfetch 224 1185 = some (9, .iadd, 1) := by decide +kernel
theorem i224_1186 : zfetch 224 1186 = some (9, .iaload, 1) := by decide +kernel
theorem i224_1187 : zfetch 224 1187 = some (9, .aload_n 0, 1) := by decide +kernel
theorem i224_1188 : zfetch 224 1188 = some (9, .iload_n 3, 1) := by decide +kernel
theorem i224_1189 : zfetch 224 1189 = some (9, .iconst 2, 1) := by decide +kernel
theorem i224_1190 : zfetch 224 1190 = some (9, .iadd, 1) := by decide +kernel
theorem i224_1191 : zfetch 224 1191 = some (9, .iaload, 1) := by decide +kernel
theorem i224_1192 : zfetch 224 1192 = some (9, .aload_n 0, 1) := by decide +kernel
theorem i224_1193 : zfetch 224 1193 = some (9, .iload_n 3, 1) := by decide +kernel
theorem i224_1194 : zfetch 224 1194 = some (9, .iconst 3, 1) := by decide +kernel
theorem i224_1195 : zfetch 224 1195 = some (9, .iadd, 1) := by decide +kernel
theorem i224_1196 : zfetch 224 1196 = some (9, .iaload, 1) := by decide +kernel
theorem i224_1197 : zfetch 224 1197 = some (9, .invokevirtual 144, 3) := by decide +kernel
theorem i224_1200 : zfetch 224 1200 = some (9, .if_icmp .eq 265, 3) := by decide +kernel
theorem i224_1203 : zfetch 224 1203 = some (9, .iconst 0, 1) := by decide +kernel
theorem i224_1204 : zfetch 224 1204 = some (9, .ireturn, 1) := by decide +kernel
theorem i224_1205 : zfetch 224 1205 = some (9, .aload_n 1, 1) := by decide +kernel
theorem i224_1206 : zfetch 224 1206 = some (9, .aload_n 0, 1) := by decide +kernel
theorem i224_1207 : zfetch 224 1207 = some (9, .iload_n 3, 1) := by decide +kernel
theorem i224_1208 : zfetch 224 1208 = some (9, .iconst 1, 1) := by decide +kernel
theorem i224_1209 : zfetch 224 1209 = some (9, .iadd, 1) := by decide +kernel
theorem i224_1210 : zfetch 224 1210 = some (9, .iaload, 1) := by decide +kernel
theorem i224_1211 : zfetch 224 1211 = some (9, .aload_n 0, 1) := by decide +kernel
theorem i224_1212 : zfetch 224 1212 = some (9, .iload_n 3, 1) := by decide +kernel
theorem i224_1213 : zfetch 224 1213 = some (9, .iconst 2, 1) := by decide +kernel
theorem i224_1214 : zfetch 224 1214 = some (9, .iadd, 1) := by decide +kernel
theorem i224_1215 : zfetch 224 1215 = some (9, .iaload, 1) := by decide +kernel
theorem i224_1216 : zfetch 224 1216 = some (9, .aload_n 0, 1) := by decide +kernel
theorem i224_1217 : zfetch 224 1217 = some (9, .iload_n 3, 1) := by decide +kernel
theorem i224_1218 : zfetch 224 1218 = some (9, .iconst 3, 1) := by decide +kernel
theorem i224_1219 : zfetch 224 1219 = some (9, .iadd, 1) := by decide +kernel
theorem i224_1220 : zfetch 224 1220 = some (9, .iaload, 1) := by decide +kernel
theorem i224_1221 : zfetch 224 1221 = some (9, .invokevirtual 145, 3) := by decide +kernel
theorem i224_1224 : zfetch 224 1224 = some (9, .aload_n 2, 1) := by decide +kernel
theorem i224_1225 : zfetch 224 1225 = some (9, .aload_n 0, 1) := by decide +kernel
theorem i224_1226 : zfetch 224 1226 = some (9, .iload_n 3, 1) := by decide +kernel
theorem i224_1227 : zfetch 224 1227 = some (9, .iconst 1, 1) := by decide +kernel
theorem i224_1228 : zfetch 224 1228 = some (9, .iadd, 1) := by decide +kernel
theorem i224_1229 : zfetch 224 1229 = some (9, .iaload, 1) := by decide +kernel
theorem i224_1230 : zfetch 224 1230 = some (9, .aload_n 0, 1) := by decide +kernel
theorem i224_1231 : zfetch 224 1231 = some (9, .iload_n 3, 1) := by decide +kernel
theorem i224_1232 : zfetch 224 1232 = some (9, .iconst 2, 1) := by decide +kernel
theorem i224_1233 : zfetch 224 1233 = some (9, .iadd, 1) := by decide +kernel
theorem i224_1234 : zfetch 224 1234 = some (9, .iaload, 1) := by decide +kernel
theorem i224_1235 : zfetch 224 1235 = some (9, .aload_n 0, 1) := by decide +kernel
theorem i224_1236 : zfetch 224 1236 = some (9, .iload_n 3, 1) := by decide +kernel
theorem i224_1237 : zfetch 224 1237 = some (9, .iconst 3, 1) := by decide +kernel
theorem i224_1238 : zfetch 224 1238 = some (9, .iadd, 1) := by decide +kernel
theorem i224_1239 : zfetch 224 1239 = some (9, .iaload, 1) := by decide +kernel
theorem i224_1240 : zfetch 224 1240 = some (9, .invokevirtual 148, 3) := by decide +kernel
theorem i224_1243 : zfetch 224 1243 = some (9, .if_icmp .eq 222, 3) := by decide +kernel
theorem i224_1246 : zfetch 224 1246 = some (9, .iconst 0, 1) := by decide +kernel
theorem i224_1247 : zfetch 224 1247 = some (9, .ireturn, 1) := by decide +kernel
theorem i224_1248 : zfetch 224 1248 = some (9, .aload_n 1, 1) := by decide +kernel
theorem i224_1249 : zfetch 224 1249 = some (9, .aload_n 0, 1) := by decide +kernel
theorem i224_1250 : zfetch 224 1250 = some (9, .iload_n 3, 1) := by decide +kernel
theorem i224_1251 : zfetch 224 1251 = some (9, .iconst 1, 1) := by decide +kernel
theorem i224_1252 : zfetch 224 1252 = some (9, .iadd, 1) := by decide +kernel
theorem i224_1253 : zfetch 224 1253 = some (9, .iaload, 1) := by decide +kernel
theorem i224_1254 : zfetch 224 1254 = some (9, .aload_n 0, 1) := by decide +kernel
theorem i224_1255 : zfetch 224 1255 = some (9, .iload_n 3, 1) := by decide +kernel
theorem i224_1256 : zfetch 224 1256 = some (9, .iconst 2, 1) := by decide +kernel
theorem i224_1257 : zfetch 224 1257 = some (9, .iadd, 1) := by decide +kernel
theorem i224_1258 : zfetch 224 1258 = some (9, .iaload, 1) := by decide +kernel
theorem i224_1259 : zfetch 224 1259 = some (9, .aload_n 0, 1) := by decide +kernel
theorem i224_1260 : zfetch 224 1260 = some (9, .iload_n 3, 1) := by decide +kernel
theorem i224_1261 : zfetch 224 1261 = some (9, .iconst 3, 1) := by decide +kernel
theorem i224_1262 : zfetch 224 1262 = some (9, .iadd, 1) := by decide +kernel
theorem i224_1263 : zfetch 224 1263 = some (9, .iaload, 1) := by decide +kernel
theorem i224_1264 : zfetch 224 1264 = some (9, .aload_n 0, 1) := by decide +kernel
theorem i224_1265 : zfetch 224 1265 = some (9, .iload_n 3, 1) := by decide +kernel
theorem i224_1266 : zfetch 224 1266 = some (9, .iconst 4, 1) := by decide +kernel
theorem i224_1267 : zfetch 224 1267 = some (9, .iadd, 1) := by decide +kernel
theorem i224_1268 : zfetch 224 1268 = some (9, .iaload, 1) := by decide +kernel
theorem i224_1269 : zfetch 224 1269 = some (9, .aload_n 0, 1) := by decide +kernel
theorem i224_1270 : zfetch 224 1270 = some (9, .iload_n 3, 1) := by decide +kernel
theorem i224_1271 : zfetch 224 1271 = some (9, .iconst 5, 1) := by decide +kernel
theorem i224_1272 : zfetch 224 1272 = some (9, .iadd, 1) := by decide +kernel
theorem i224_1273 : zfetch 224 1273 = some (9, .iaload, 1) := by decide +kernel
theorem i224_1274 : zfetch 224 1274 = some (9, .invokevirtual 149, 3) := by decide +kernel
theorem i224_1277 : zfetch 224 1277 = some (9, .aload_n 2, 1) := by decide +kernel
theorem i224_1278 : zfetch 224 1278 = some (9, .aload_n 0, 1) := by decide +kernel
theorem i224_1279 : zfetch 224 1279 = some (9, .iload_n 3, 1) := by decide +kernel
theorem i224_1280 : zfetch 224 1280 = some (9, .iconst 1, 1) := by decide +kernel
theorem i224_1281 : zfetch 224 1281 = some (9, .iadd, 1) := by decide +kernel
theorem i224_1282 : zfetch 224 1282 = some (9, .iaload, 1) := by decide +kernel
theorem i224_1283 : zfetch 224 1283 = some (9, .aload_n 0, 1) := by decide +kernel
theorem i224_1284 : zfetch 224 1284 = some (9, .iload_n 3, 1) := by decide +kernel
theorem i224_1285 : zfetch 224 1285 = some (9, .iconst 2, 1) := by decide +kernel
theorem i224_1286 : zfetch 224 1286 = some (9, .iadd, 1) := by decide +kernel
theorem i224_1287 : zfetch 224 1287 = some (9, .iaload, 1) := by decide +kernel
theorem i224_1288 : zfetch 224 1288 = some (9, .aload_n 0, 1) := by decide +kernel
theorem i224_1289 : zfetch 224 1289 = some (9, .iload_n 3, 1) := by decide +kernel
theorem i224_1290 : zfetch 224 1290 = some (9, .iconst 3, 1) := by decide +kernel
theorem i224_1291 : zfetch 224 1291 = some (9, .iadd, 1) := by decide +kernel
theorem i224_1292 : zfetch 224 1292 = some (9, .iaload, 1) := by decide +kernel
theorem i224_1293 : zfetch 224 1293 = some (9, .aload_n 0, 1) := by decide +kernel
theorem i224_1294 : zfetch 224 1294 = some (9, .iload_n 3, 1) := by decide +kernel
theorem i224_1295 : zfetch 224 1295 = some (9, .iconst 4, 1) := by decide +kernel
theorem i224_1296 : zfetch 224 1296 = some (9, .iadd, 1) := by decide +kernel
theorem i224_1297 : zfetch 224 1297 = some (9, .iaload, 1) := by decide +kernel
theorem i224_1298 : zfetch 224 1298 = some (9, .aload_n 0, 1) := by decide +kernel
theorem i224_1299 : zfetch 224 1299 = some (9, .iload_n 3, 1) := by decide +kernel
theorem i224_1300 : zfetch 224 1300 = some (9, .iconst 5, 1) := by decide +kernel
theorem i224_1301 : zfetch 224 1301 = some (9, .iadd, 1) := by decide +kernel
theorem i224_1302 : zfetch 224 1302 = some (9, .iaload, 1) := by decide +kernel
theorem i224_1303 : zfetch 224 1303 = some (9, .invokevirtual 153, 3) := by decide +kernel
theorem i224_1306 : zfetch 224 1306 = some (9, .if_icmp .eq 159, 3) := by decide +kernel
theorem i224_1309 : zfetch 224 1309 = some (9, .iconst 0, 1) := by decide +kernel
theorem i224_1310 : zfetch 224 1310 = some (9, .ireturn, 1) := by decide +kernel
theorem i224_1311 : zfetch 224 1311 = some (9, .aload_n 1, 1) := by decide +kernel
theorem i224_1312 : zfetch 224 1312 = some (9, .aload_n 0, 1) := by decide +kernel
theorem i224_1313 : zfetch 224 1313 = some (9, .iload_n 3, 1) := by decide +kernel
theorem i224_1314 : zfetch 224 1314 = some (9, .iconst 1, 1) := by decide +kernel
theorem i224_1315 : zfetch 224 1315 = some (9, .iadd, 1) := by decide +kernel
theorem i224_1316 : zfetch 224 1316 = some (9, .iaload, 1) := by decide +kernel
theorem i224_1317 : zfetch 224 1317 = some (9, .invokevirtual 154, 3) := by decide +kernel
theorem i224_1320 : zfetch 224 1320 = some (9, .aload_n 2, 1) := by decide +kernel
theorem i224_1321 : zfetch 224 1321 = some (9, .aload_n 0, 1) := by decide +kernel
theorem i224_1322 : zfetch 224 1322 = some (9, .iload_n 3, 1) := by decide +kernel
theorem i224_1323 : zfetch 224 1323 = some (9, .iconst 1, 1) := by decide +kernel
theorem i224_1324 : zfetch 224 1324 = some (9, .iadd, 1) := by decide +kernel
theorem i224_1325 : zfetch 224 1325 = some (9, .iaload, 1) := by decide +kernel
theorem i224_1326 : zfetch 224 1326 = some (9, .invokevirtual 157, 3) := by decide +kernel
theorem i224_1329 : zfetch 224 1329 = some (9, .if_icmp .eq 136, 3) := by decide +kernel
theorem i224_1332 : zfetch 224 1332 = some (9, .iconst 0, 1) := by decide +kernel
theorem i224_1333 : zfetch 224 1333 = some (9, .ireturn, 1) := by decide +kernel
theorem i224_1334 : zfetch 224 1334 = some (9, .aload_n 1, 1) := by decide +kernel
theorem i224_1335 : zfetch 224 1335 = some (9, .aload_n 0, 1) := by decide +kernel
theorem i224_1336 : zfetch 224 1336 = some (9, .iload_n 3, 1) := by decide +kernel
theorem i224_1337 : zfetch 224 1337 = some (9, .iconst 1, 1) := by decide +kernel
theorem i224_1338 : zfetch 224 1338 = some (9, .iadd, 1) := by decide +kernel
theorem i224_1339 : zfetch 224 1339 = some (9, .iaload, 1) := by decide +kernel
theorem i224_1340 : zfetch 224 1340 = some (9, .invokevirtual 158, 3) := by decide +kernel
theorem i224_1343 : zfetch 224 1343 = some (9, .aload_n 2, 1) := by decide +kernel
theorem i224_1344 : zfetch 224 1344 = some (9, .aload_n 0, 1) := by decide +kernel
theorem i224_1345 : zfetch 224 1345 = some (9, .iload_n 3, 1) := by decide +kernel
theorem i224_1346 : zfetch 224 1346 = some (9, .iconst 1, 1) := by decide +kernel
theorem i224_1347 : zfetch 224 1347 = some (9, .iadd, 1) := by decide +kernel
theorem i224_1348 : zfetch 224 1348 = some (9, .iaload, 1) := by decide +kernel
theorem i224_1349 : zfetch 224 1349 = some (9, .invokevirtual 161, 3) := by decide +kernel
theorem i224_1352 : zfetch 224 1352 = some (9, .if_icmp .eq 113, 3) := by decide +kernel
theorem i224_1355 : zfetch 224 1355 = some (9, .iconst 0, 1) := by decide +kernel
theorem i224_1356 : zfetch 224 1356 = some (9, .ireturn, 1) := by decide +kernel
theorem i224_1357 : zfetch 224 1357 = some (9, .aload_n 1, 1) := by decide +kernel
theorem i224_1358 : zfetch 224 1358 = some (9, .invokevirtual 162, 3) := by decide +kernel
theorem i224_1361 : zfetch 224 1361 = some (9, .aload_n 2, 1) := by decide +kernel
theorem i224_1362 : zfetch 224 1362 = some (9, .invokevirtual 165, 3) := by decide +kernel
theorem i224_1365 : zfetch 224 1365 = some (9, .if_icmp .eq 100, 3) := by decide +kernel
theorem i224_1368 : zfetch 224 1368 = some (9, .iconst 0, 1) := by decide +kernel
theorem i224_1369 : zfetch 224 1369 = some (9, .ireturn, 1) := by decide +kernel
theorem i224_1370 : zfetch 224 1370 = some (9, .aload_n 1, 1) := by decide +kernel
theorem i224_1371 : zfetch 224 1371 = some (9, .invokevirtual 166, 3) := by decide +kernel
theorem i224_1374 : zfetch 224 1374 = some (9, .aload_n 2, 1) := by decide +kernel
theorem i224_1375 : zfetch 224 1375 = some (9, .invokevirtual 169, 3) := by decide +kernel
theorem i224_1378 : zfetch 224 1378 = some (9, .if_icmp .eq 87, 3) := by decide +kernel
theorem i224_1381 : zfetch 224 1381 = some (9, .iconst 0, 1) := by decide +kernel
theorem i224_1382 : zfetch 224 1382 = some (9, .ireturn, 1) := by decide +kernel
theorem i224_1383 : zfetch 224 1383 = some (9, .aload_n 1, 1) := by decide +kernel
theorem i224_1384 : zfetch 224 1384 = some (9, .aload_n 0, 1) := by decide +kernel
theorem i224_1385 : zfetch 224 1385 = some (9, .iload_n 3, 1) := by decide +kernel
theorem i224_1386 : zfetch 224 1386 = some (9, .iconst 1, 1) := by decide +kernel
theorem i224_1387 : zfetch 224 1387 = some (9, .iadd, 1) := by decide +kernel
theorem i224_1388 : zfetch 224 1388 = some (9, .iaload, 1) := by decide +kernel
theorem i224_1389 : zfetch 224 1389 = some (9, .invokevirtual 170, 3) := by decide +kernel
theorem i224_1392 : zfetch 224 1392 = some (9, .aload_n 2, 1) := by decide +kernel
theorem i224_1393 : zfetch 224 1393 = some (9, .aload_n 0, 1) := by decide +kernel
theorem i224_1394 : zfetch 224 1394 = some (9, .iload_n 3, 1) := by decide +kernel
theorem i224_1395 : zfetch 224 1395 = some (9, .iconst 1, 1) := by decide +kernel
theorem i224_1396 : zfetch 224 1396 = some (9, .iadd, 1) := by decide +kernel
theorem i224_1397 : zfetch 224 1397 = some (9, .iaload, 1) := by decide +kernel
theorem i224_1398 : zfetch 224 1398 = some (9, .invokevirtual 173, 3) := by decide +kernel
theorem i224_1401 : zfetch 224 1401 = some (9, .if_icmp .eq 64, 3) := by decide +kernel
theorem i224_1404 : zfetch 224 1404 = some (9, .iconst 0, 1) := by decide +kernel
theorem i224_1405 : zfetch 224 1405 = some (9, .ireturn, 1) := by decide +kernel
theorem i224_1406 : zfetch 224 1406 = some (9, .aload_n 1, 1) := by decide +kernel
theorem i224_1407 : zfetch 224 1407 = some (9, .invokevirtual 174, 3) := by decide +kernel
theorem i224_1410 : zfetch 224 1410 = some (9, .aload_n 2, 1) := by decide +kernel
theorem i224_1411 : zfetch 224 1411 = some (9, .invokevirtual 177, 3) := by decide +kernel
theorem i224_1414 : zfetch 224 1414 = some (9, .if_icmp .eq 51, 3) := by decide +kernel
theorem i224_1417 : zfetch 224 1417 = some (9, .iconst 0, 1) := by decide +kernel
theorem i224_1418 : zfetch 224 1418 = some (9, .ireturn, 1) := by decide +kernel
theorem i224_1419 : zfetch 224 1419 = some (9, .aload_n 1, 1) := by decide +kernel
theorem i224_1420 : zfetch 224 1420 = some (9, .aload_n 0, 1) := by decide +kernel
theorem i224_1421 : zfetch 224 1421 = some (9, .iload_n 3, 1) := by decide +kernel
theorem i224_1422 : zfetch 224 1422 = some (9, .iconst 1, 1) := by decide +kernel
theorem i224_1423 : zfetch 224 1423 = some (9, .iadd, 1) := by decide +kernel
theorem i224_1424 : zfetch 224 1424 = some (9, .iaload, 1) := by decide +kernel
theorem i224_1425 : zfetch 224 1425 = some (9, .invokevirtual 178, 3) := by decide +kernel
theorem i224_1428 : zfetch 224 1428 = some (9, .aload_n 2, 1) := by decide +kernel
theorem i224_1429 : zfetch 224 1429 = some (9, .aload_n 0, 1) := by decide +kernel
theorem i224_1430 : zfetch 224 1430 = some (9, .iload_n 3, 1) := by decide +kernel
theorem i224_1431 : zfetch 224 1431 = some (9, .iconst 1, 1) := by decide +kernel
theorem i224_1432 : zfetch 224 1432 = some (9, .iadd, 1) := by decide +kernel
theorem i224_1433 : zfetch 224 1433 = some (9, .iaload, 1) := by decide +kernel
theorem i224_1434 : zfetch 224 1434 = some (9, .invokevirtual 181, 3) := by decide +kernel
theorem i224_1437 : zfetch 224 1437 = some (9, .if_icmp .eq 28, 3) := by decide +kernel
theorem i224_1440 : zfetch 224 1440 = some (9, .iconst 0, 1) := by decide +kernel
theorem i224_1441 : zfetch 224 1441 = some (9, .ireturn, 1) := by decide +kernel
theorem i224_1442 : zfetch 224 1442 = some (9, .aload_n 1, 1) := by decide +kernel
theorem i224_1443 : zfetch 224 1443 = some (9, .aload_n 0, 1) := by decide +kernel
theorem i224_1444 : zfetch 224 1444 = some (9, .iload_n 3, 1) := by decide +kernel
theorem i224_1445 : zfetch 224 1445 = some (9, .iconst 1, 1) := by decide +kernel
theorem i224_1446 : zfetch 224 1446 = some (9, .iadd, 1) := by decide +kernel
theorem i224_1447 : zfetch 224 1447 = some (9, .iaload, 1) := by decide +kernel
theorem i224_1448 : zfetch 224 1448 = some (9, .invokevirtual 182, 3) := by decide +kernel
theorem i224_1451 : zfetch 224 1451 = some (9, .aload_n 2, 1) := by decide +kernel
theorem i224_1452 : zfetch 224 1452 = some (9, .aload_n 0, 1) := by decide +kernel
theorem i224_1453 : zfetch 224 1453 = some (9, .iload_n 3, 1) := by decide +kernel
theorem i224_1454 : zfetch 224 1454 = some (9, .iconst 1, 1) := by decide +kernel
theorem i224_1455 : zfetch 224 1455 = some (9, .iadd, 1) := by decide +kernel
theorem i224_1456 : zfetch 224 1456 = some (9, .iaload, 1) := by decide +kernel
theorem i224_1457 : zfetch 224 1457 = some (9, .invokevirtual 185, 3) := by decide +kernel
theorem i224_1460 : zfetch 224 1460 = some (9, .if_icmp .eq 5, 3) := by decide +kernel
theorem i224_1463 : zfetch 224 1463 = some (9, .iconst 0, 1) := by decide +kernel
theorem i224_1464 : zfetch 224 1464 = some (9, .ireturn, 1) := by decide +kernel
theorem i224_1465 : zfetch 224 1465 = some (9, .iinc 3 6, 3) := by decide +kernel
theorem i224_1468 : zfetch 224 1468 = some (9, .goto (-1450), 3) := by decide +kernel
theorem i224_1471 : zfetch 224 1471 = some (9, .iconst 1, 1) := by decide +kernel
theorem i224_1472 : zfetch 224 1472 = some (9, .ireturn, 1) := by decide +kernel
end
section
theorem zf0_9 : zf 0 9 = some (0, 0) := by decide +kernel
theorem zf5_42 : zf 5 42 = some (0, 0) := by decide +kernel
theorem zf5_46 : zf 5 46 = some (0, 1) := by decide +kernel
theorem zf0_22 : zf 0 22 = some (0, 1) := by decide +kernel
theorem zf7_153 : zf 7 153 = some (0, 1) := by decide +kernel
theorem zf0_18 : zf 0 18 = some (0, 2) := by decide +kernel
theorem zf0_15 : zf 0 15 = some (0, 3) := by decide +kernel
theorem zf2_40 : zf 2 40 = some (2, 0) := by decide +kernel
theorem zf2_44 : zf 2 44 = some (2, 1) := by decide +kernel
theorem zf2_9 : zf 2 9 = some (2, 2) := by decide +kernel
theorem zf7_84 : zf 7 84 = some (2, 2) := by decide +kernel
theorem zf2_15 : zf 2 15 = some (2, 3) := by decide +kernel
theorem zf7_87 : zf 7 87 = some (2, 3) := by decide +kernel
theorem zf2_18 : zf 2 18 = some (2, 4) := by decide +kernel
theorem zf7_90 : zf 7 90 = some (2, 4) := by decide +kernel
theorem zf2_21 : zf 2 21 = some (2, 5) := by decide +kernel
theorem zf7_93 : zf 7 93 = some (2, 5) := by decide +kernel
theorem zf2_24 : zf 2 24 = some (2, 6) := by decide +kernel
theorem zf7_96 : zf 7 96 = some (2, 6) := by decide +kernel
theorem zf2_27 : zf 2 27 = some (2, 7) := by decide +kernel
theorem zf7_99 : zf 7 99 = some (2, 7) := by decide +kernel
theorem zf2_30 : zf 2 30 = some (2, 8) := by decide +kernel
theorem zf7_121 : zf 7 121 = some (2, 8) := by decide +kernel
theorem zf7_76 : zf 7 76 = some (2, 9) := by decide +kernel
theorem zf2_53 : zf 2 53 = some (2, 9) := by decide +kernel
theorem zf2_56 : zf 2 56 = some (2, 10) := by decide +kernel
theorem zf7_158 : zf 7 158 = some (2, 10) := by decide +kernel
theorem zf2_59 : zf 2 59 = some (2, 11) := by decide +kernel
theorem zf7_164 : zf 7 164 = some (2, 11) := by decide +kernel
theorem zf2_33 : zf 2 33 = some (2, 12) := by decide +kernel
theorem zf7_173 : zf 7 173 = some (2, 12) := by decide +kernel
theorem zf2_37 : zf 2 37 = some (2, 13) := by decide +kernel
theorem zf2_118 : zf 2 118 = some (2, 14) := by decide +kernel
theorem zf3_7 : zf 3 7 = some (3, 0) := by decide +kernel
theorem zf1_39 : zf 1 39 = some (3, 0) := by decide +kernel
theorem zf7_264 : zf 7 264 = some (3, 0) := by decide +kernel
theorem zf3_13 : zf 3 13 = some (3, 1) := by decide +kernel
theorem zf1_32 : zf 1 32 = some (3, 1) := by decide +kernel
theorem zf7_128 : zf 7 128 = some (3, 1) := by decide +kernel
theorem zf5_14 : zf 5 14 = some (5, 0) := by decide +kernel
theorem zf7_50 : zf 7 50 = some (5, 0) := by decide +kernel
theorem zf5_20 : zf 5 20 = some (5, 1) := by decide +kernel
theorem zf7_54 : zf 7 54 = some (5, 1) := by decide +kernel
theorem zf5_28 : zf 5 28 = some (5, 2) := by decide +kernel
theorem zf7_43 : zf 7 43 = some (5, 2) := by decide +kernel
theorem zf5_35 : zf 5 35 = some (5, 3) := by decide +kernel
theorem zf7_124 : zf 7 124 = some (5, 3) := by decide +kernel
theorem zf5_39 : zf 5 39 = some (5, 4) := by decide +kernel
theorem zf7_261 : zf 7 261 = some (5, 4) := by decide +kernel
theorem zf1_9 : zf 1 9 = some (1, 0) := by decide +kernel
theorem zf7_143 : zf 7 143 = some (1, 0) := by decide +kernel
theorem zf1_18 : zf 1 18 = some (1, 1) := by decide +kernel
theorem zf7_146 : zf 7 146 = some (1, 1) := by decide +kernel
theorem zf1_15 : zf 1 15 = some (1, 2) := by decide +kernel
theorem zf1_22 : zf 1 22 = some (1, 3) := by decide +kernel
theorem zf1_25 : zf 1 25 = some (1, 4) := by decide +kernel
theorem zf1_28 : zf 1 28 = some (1, 5) := by decide +kernel
theorem zf6_11 : zf 6 11 = some (6, 0) := by decide +kernel
theorem zf7_229 : zf 7 229 = some (6, 0) := by decide +kernel
theorem zf6_32 : zf 6 32 = some (6, 1) := by decide +kernel
theorem zf7_228 : zf 7 228 = some (6, 1) := by decide +kernel
theorem zf6_28 : zf 6 28 = some (6, 2) := by decide +kernel
theorem zf7_224 : zf 7 224 = some (6, 2) := by decide +kernel
theorem zf6_18 : zf 6 18 = some (6, 3) := by decide +kernel
theorem zf6_22 : zf 6 22 = some (6, 4) := by decide +kernel
theorem zf6_25 : zf 6 25 = some (6, 5) := by decide +kernel
theorem zf4_9 : zf 4 9 = some (4, 0) := by decide +kernel
theorem zf7_246 : zf 7 246 = some (4, 0) := by decide +kernel
theorem zf4_19 : zf 4 19 = some (4, 1) := by decide +kernel
theorem zf7_236 : zf 7 236 = some (4, 1) := by decide +kernel
theorem zf4_15 : zf 4 15 = some (4, 2) := by decide +kernel
theorem zf7_240 : zf 7 240 = some (4, 2) := by decide +kernel
theorem zf7_10 : zf 7 10 = some (7, 0) := by decide +kernel
theorem zf7_16 : zf 7 16 = some (7, 1) := by decide +kernel
theorem zf7_47 : zf 7 47 = some (7, 2) := by decide +kernel
theorem zf7_60 : zf 7 60 = some (7, 3) := by decide +kernel
theorem zf7_22 : zf 7 22 = some (7, 4) := by decide +kernel
theorem zf7_29 : zf 7 29 = some (7, 5) := by decide +kernel
theorem zf7_35 : zf 7 35 = some (7, 6) := by decide +kernel
theorem zf7_39 : zf 7 39 = some (7, 7) := by decide +kernel
theorem zf7_258 : zf 7 258 = some (7, 8) := by decide +kernel
theorem zc9_13 : zc 9 13 = some 61 := by decide +kernel
theorem zc7_64 : zc 7 64 = some 103 := by decide +kernel
theorem zn7_64 : za 7 64 = false := by decide +kernel
theorem zc7_68 : zc 7 68 = some 104 := by decide +kernel
theorem zc7_72 : zc 7 72 = some 102 := by decide +kernel
theorem zk7_269 (ln pc : Nat) (ls : zO) (st : List zA) (σ : zS) : zstep 7 (.ldc 269) 2 pc ls st σ = some (pc + 2, ls, zI (-1000000000) :: st, σ) := by
  have h : zk 7 269 = some (-1000000000) := by decide +kernel
  simp only [zstep, h, zpush]
theorem zkw7_269 (ln pc : Nat) (ls : zO) (st : List zA) (σ : zS) : zstep 7 (.ldc_w 269) 3 pc ls st σ = some (pc + 3, ls, zI (-1000000000) :: st, σ) := by
  have h : zk 7 269 = some (-1000000000) := by decide +kernel
  simp only [zstep, h, zpush]
theorem zc7_80 : zc 7 80 = some 18 := by decide +kernel
theorem zc2_62 : zc 2 62 = some 22 := by decide +kernel
theorem zc2_70 : zc 2 70 = some 221 := by decide +kernel
theorem zn2_70 : za 2 70 = false := by decide +kernel
theorem zc9_18 : zc 9 18 = some 62 := by decide +kernel
theorem zc7_102 : zc 7 102 = some 22 := by decide +kernel
theorem zc7_105 : zc 7 105 = some 30 := by decide +kernel
theorem zc2_85 : zc 2 85 = some 32 := by decide +kernel
theorem zc2_97 : zc 2 97 = some 33 := by decide +kernel
theorem zc2_88 : zc 2 88 = some 1 := by decide +kernel
theorem zc0_25 : zc 0 25 = some 2 := by decide +kernel
theorem zn0_25 : za 0 25 = false := by decide +kernel
theorem zc0_29 : zc 0 29 = some 220 := by decide +kernel
theorem zn0_29 : za 0 29 = false := by decide +kernel
theorem zc0_35 : zc 0 35 = some 223 := by decide +kernel
theorem zn0_35 : za 0 35 = false := by decide +kernel
theorem zc0_38 : zc 0 38 = some 222 := by decide +kernel
theorem zn0_38 : za 0 38 = false := by decide +kernel
theorem zc7_108 : zc 7 108 = some 31 := by decide +kernel
theorem zc2_94 : zc 2 94 = some 34 := by decide +kernel
theorem zc9_23 : zc 9 23 = some 63 := by decide +kernel
theorem zc9_27 : zc 9 27 = some 64 := by decide +kernel
theorem zc7_111 : zc 7 111 = some 55 := by decide +kernel
theorem zn7_111 : za 7 111 = false := by decide +kernel
theorem zg6_15 : zg 6 15 = some 52 := by decide +kernel
theorem zc9_31 : zc 9 31 = some 65 := by decide +kernel
theorem zc7_114 : zc 7 114 = some 19 := by decide +kernel
theorem zc9_35 : zc 9 35 = some 66 := by decide +kernel
theorem zc7_117 : zc 7 117 = some 21 := by decide +kernel
theorem zc9_40 : zc 9 40 = some 67 := by decide +kernel
theorem zc9_45 : zc 9 45 = some 68 := by decide +kernel
theorem zc9_51 : zc 9 51 = some 69 := by decide +kernel
theorem zc7_133 : zc 7 133 = some 48 := by decide +kernel
theorem zc9_56 : zc 9 56 = some 70 := by decide +kernel
theorem zc7_135 : zc 7 135 = some 3 := by decide +kernel
theorem zc1_35 : zc 1 35 = some 4 := by decide +kernel
theorem zc1_50 : zc 1 50 = some 5 := by decide +kernel
theorem zc1_72 : zc 1 72 = some 15 := by decide +kernel
theorem zc1_53 : zc 1 53 = some 6 := by decide +kernel
theorem zn1_53 : za 1 53 = false := by decide +kernel
theorem zc1_75 : zc 1 75 = some 7 := by decide +kernel
theorem zn1_75 : za 1 75 = false := by decide +kernel
theorem zc1_57 : zc 1 57 = some 8 := by decide +kernel
theorem zn1_57 : za 1 57 = false := by decide +kernel
theorem zc1_60 : zc 1 60 = some 16 := by decide +kernel
theorem zc1_63 : zc 1 63 = some 9 := by decide +kernel
theorem zn1_63 : za 1 63 = false := by decide +kernel
theorem zg1_79 : zg 1 79 = some 51 := by decide +kernel
theorem zc1_69 : zc 1 69 = some 10 := by decide +kernel
theorem zc1_42 : zc 1 42 = some 11 := by decide +kernel
theorem zc1_83 : zc 1 83 = some 12 := by decide +kernel
theorem zc1_46 : zc 1 46 = some 13 := by decide +kernel
theorem zc1_87 : zc 1 87 = some 14 := by decide +kernel
theorem zn1_87 : za 1 87 = false := by decide +kernel
theorem zc7_139 : zc 7 139 = some 106 := by decide +kernel
theorem zc7_147 : zc 7 147 = some 0 := by decide +kernel
theorem zc9_60 : zc 9 60 = some 71 := by decide +kernel
theorem zc9_64 : zc 9 64 = some 72 := by decide +kernel
theorem zc7_154 : zc 7 154 = some 1 := by decide +kernel
theorem zc9_68 : zc 9 68 = some 73 := by decide +kernel
theorem zc7_161 : zc 7 161 = some 35 := by decide +kernel
theorem zc2_100 : zc 2 100 = some 36 := by decide +kernel
theorem zc2_103 : zc 2 103 = some 31 := by decide +kernel
theorem zc2_106 : zc 2 106 = some 39 := by decide +kernel
theorem zc2_115 : zc 2 115 = some 40 := by decide +kernel
theorem za2_47 : za 2 47 = true := by decide +kernel
theorem zc2_121 : zc 2 121 = some 42 := by decide +kernel
theorem zc2_124 : zc 2 124 = some 45 := by decide +kernel
theorem zc2_128 : zc 2 128 = some 43 := by decide +kernel
theorem zc2_131 : zc 2 131 = some 30 := by decide +kernel
theorem zc2_134 : zc 2 134 = some 41 := by decide +kernel
theorem zc2_137 : zc 2 137 = some 44 := by decide +kernel
theorem zc2_141 : zc 2 141 = some 46 := by decide +kernel
theorem zc2_148 : zc 2 148 = some 21 := by decide +kernel
theorem zc2_145 : zc 2 145 = some 47 := by decide +kernel
theorem zc9_72 : zc 9 72 = some 74 := by decide +kernel
theorem zc7_167 : zc 7 167 = some 37 := by decide +kernel
theorem zc2_110 : zc 2 110 = some 38 := by decide +kernel
theorem zk2_114 (ln pc : Nat) (ls : zO) (st : List zA) (σ : zS) : zstep 2 (.ldc 114) 2 pc ls st σ = some (pc + 2, ls, zI (1103515245) :: st, σ) := by
  have h : zk 2 114 = some (1103515245) := by decide +kernel
  simp only [zstep, h, zpush]
theorem zkw2_114 (ln pc : Nat) (ls : zO) (st : List zA) (σ : zS) : zstep 2 (.ldc_w 114) 3 pc ls st σ = some (pc + 3, ls, zI (1103515245) :: st, σ) := by
  have h : zk 2 114 = some (1103515245) := by decide +kernel
  simp only [zstep, h, zpush]
theorem zc7_170 : zc 7 170 = some 36 := by decide +kernel
theorem zc9_76 : zc 9 76 = some 75 := by decide +kernel
theorem zc9_80 : zc 9 80 = some 76 := by decide +kernel
theorem zc9_84 : zc 9 84 = some 77 := by decide +kernel
theorem zc7_176 : zc 7 176 = some 24 := by decide +kernel
theorem zc9_88 : zc 9 88 = some 78 := by decide +kernel
theorem zc7_179 : zc 7 179 = some 25 := by decide +kernel
theorem zc9_92 : zc 9 92 = some 79 := by decide +kernel
theorem zc7_183 : zc 7 183 = some 28 := by decide +kernel
theorem zc2_66 : zc 2 66 = some 19 := by decide +kernel
theorem zc2_79 : zc 2 79 = some 26 := by decide +kernel
theorem zc2_75 : zc 2 75 = some 223 := by decide +kernel
theorem zn2_75 : za 2 75 = false := by decide +kernel
theorem zc2_82 : zc 2 82 = some 27 := by decide +kernel
theorem zc9_96 : zc 9 96 = some 80 := by decide +kernel
theorem zc7_186 : zc 7 186 = some 219 := by decide +kernel
theorem zn7_186 : za 7 186 = false := by decide +kernel
theorem zk10_265 (ln pc : Nat) (ls : zO) (st : List zA) (σ : zS) : zstep 10 (.ldc 265) 2 pc ls st σ = some (pc + 2, ls, zI (1431655765) :: st, σ) := by
  have h : zk 10 265 = some (1431655765) := by decide +kernel
  simp only [zstep, h, zpush]
theorem zkw10_265 (ln pc : Nat) (ls : zO) (st : List zA) (σ : zS) : zstep 10 (.ldc_w 265) 3 pc ls st σ = some (pc + 3, ls, zI (1431655765) :: st, σ) := by
  have h : zk 10 265 = some (1431655765) := by decide +kernel
  simp only [zstep, h, zpush]
theorem zk10_266 (ln pc : Nat) (ls : zO) (st : List zA) (σ : zS) : zstep 10 (.ldc 266) 2 pc ls st σ = some (pc + 2, ls, zI (858993459) :: st, σ) := by
  have h : zk 10 266 = some (858993459) := by decide +kernel
  simp only [zstep, h, zpush]
theorem zkw10_266 (ln pc : Nat) (ls : zO) (st : List zA) (σ : zS) : zstep 10 (.ldc_w 266) 3 pc ls st σ = some (pc + 3, ls, zI (858993459) :: st, σ) := by
  have h : zk 10 266 = some (858993459) := by decide +kernel
  simp only [zstep, h, zpush]
theorem zk10_267 (ln pc : Nat) (ls : zO) (st : List zA) (σ : zS) : zstep 10 (.ldc 267) 2 pc ls st σ = some (pc + 2, ls, zI (252645135) :: st, σ) := by
  have h : zk 10 267 = some (252645135) := by decide +kernel
  simp only [zstep, h, zpush]
theorem zkw10_267 (ln pc : Nat) (ls : zO) (st : List zA) (σ : zS) : zstep 10 (.ldc_w 267) 3 pc ls st σ = some (pc + 3, ls, zI (252645135) :: st, σ) := by
  have h : zk 10 267 = some (252645135) := by decide +kernel
  simp only [zstep, h, zpush]
theorem zc9_100 : zc 9 100 = some 81 := by decide +kernel
theorem zc7_191 : zc 7 191 = some 29 := by decide +kernel
theorem zc9_105 : zc 9 105 = some 82 := by decide +kernel
theorem zc7_194 : zc 7 194 = some 17 := by decide +kernel
theorem zc9_109 : zc 9 109 = some 83 := by decide +kernel
theorem zc7_198 : zc 7 198 = some 20 := by decide +kernel
theorem zc9_113 : zc 9 113 = some 84 := by decide +kernel
theorem zc9_117 : zc 9 117 = some 85 := by decide +kernel
theorem zc7_202 : zc 7 202 = some 107 := by decide +kernel
theorem zc9_121 : zc 9 121 = some 86 := by decide +kernel
theorem zc7_206 : zc 7 206 = some 108 := by decide +kernel
theorem zc9_125 : zc 9 125 = some 87 := by decide +kernel
theorem zc9_129 : zc 9 129 = some 88 := by decide +kernel
theorem zc7_209 : zc 7 209 = some 105 := by decide +kernel
theorem zn7_209 : za 7 209 = false := by decide +kernel
theorem zc7_212 : zc 7 212 = some 50 := by decide +kernel
theorem zc7_216 : zc 7 216 = some 109 := by decide +kernel
theorem zc9_133 : zc 9 133 = some 89 := by decide +kernel
theorem zc7_220 : zc 7 220 = some 56 := by decide +kernel
theorem zc6_35 : zc 6 35 = some 57 := by decide +kernel
theorem zc6_39 : zc 6 39 = some 60 := by decide +kernel
theorem zn6_39 : za 6 39 = false := by decide +kernel
theorem zg6_50 : zg 6 50 = some 53 := by decide +kernel
theorem zc6_43 : zc 6 43 = some 58 := by decide +kernel
theorem zc6_47 : zc 6 47 = some 59 := by decide +kernel
theorem zc9_137 : zc 9 137 = some 90 := by decide +kernel
theorem zc9_141 : zc 9 141 = some 91 := by decide +kernel
theorem zc7_232 : zc 7 232 = some 51 := by decide +kernel
theorem zc9_145 : zc 9 145 = some 92 := by decide +kernel
theorem zc7_237 : zc 7 237 = some 52 := by decide +kernel
theorem zc9_149 : zc 9 149 = some 93 := by decide +kernel
theorem zc7_243 : zc 7 243 = some 53 := by decide +kernel
theorem za7_249 : za 7 249 = true := by decide +kernel
theorem zc9_154 : zc 9 154 = some 94 := by decide +kernel
theorem zc9_158 : zc 9 158 = some 95 := by decide +kernel
theorem zc9_162 : zc 9 162 = some 96 := by decide +kernel
theorem zc7_255 : zc 7 255 = some 54 := by decide +kernel
theorem zc5_50 : zc 5 50 = some 0 := by decide +kernel
theorem zc5_54 : zc 5 54 = some 17 := by decide +kernel
theorem zc5_58 : zc 5 58 = some 49 := by decide +kernel
theorem zc9_166 : zc 9 166 = some 97 := by decide +kernel
theorem zc9_170 : zc 9 170 = some 98 := by decide +kernel
theorem zc9_174 : zc 9 174 = some 99 := by decide +kernel
theorem zc9_178 : zc 9 178 = some 100 := by decide +kernel
theorem zc7_265 : zc 7 265 = some 23 := by decide +kernel
theorem zc9_182 : zc 9 182 = some 101 := by decide +kernel
theorem zf8_7 : zf 8 7 = some (8, 0) := by decide +kernel
theorem zf8_13 : zf 8 13 = some (8, 1) := by decide +kernel
theorem zf8_16 : zf 8 16 = some (8, 2) := by decide +kernel
theorem zf8_19 : zf 8 19 = some (8, 3) := by decide +kernel
theorem zf8_293 : zf 8 293 = some (8, 4) := by decide +kernel
theorem zf8_22 : zf 8 22 = some (8, 5) := by decide +kernel
theorem zf8_64 : zf 8 64 = some (8, 6) := by decide +kernel
theorem zf8_98 : zf 8 98 = some (8, 7) := by decide +kernel
theorem zf8_71 : zf 8 71 = some (8, 8) := by decide +kernel
theorem zf8_68 : zf 8 68 = some (8, 9) := by decide +kernel
theorem zf8_25 : zf 8 25 = some (8, 10) := by decide +kernel
theorem zf8_28 : zf 8 28 = some (8, 11) := by decide +kernel
theorem zf8_31 : zf 8 31 = some (8, 12) := by decide +kernel
theorem zf8_157 : zf 8 157 = some (8, 13) := by decide +kernel
theorem zf8_255 : zf 8 255 = some (8, 14) := by decide +kernel
theorem zf8_34 : zf 8 34 = some (8, 15) := by decide +kernel
theorem zf8_258 : zf 8 258 = some (8, 16) := by decide +kernel
theorem zf8_279 : zf 8 279 = some (8, 17) := by decide +kernel
theorem zf8_37 : zf 8 37 = some (8, 18) := by decide +kernel
theorem zf8_40 : zf 8 40 = some (8, 19) := by decide +kernel
theorem zf8_43 : zf 8 43 = some (8, 20) := by decide +kernel
theorem zf8_46 : zf 8 46 = some (8, 21) := by decide +kernel
theorem zc9_55 : zc 9 55 = some 122 := by decide +kernel
theorem zc8_50 : zc 8 50 = some 111 := by decide +kernel
theorem zn8_50 : za 8 50 = false := by decide +kernel
theorem zc8_58 : zc 8 58 = some 110 := by decide +kernel
theorem zk8_49 (ln pc : Nat) (ls : zO) (st : List zA) (σ : zS) : zstep 8 (.ldc 49) 2 pc ls st σ = some (pc + 2, ls, zI (-1000000000) :: st, σ) := by
  have h : zk 8 49 = some (-1000000000) := by decide +kernel
  simp only [zstep, h, zpush]
theorem zkw8_49 (ln pc : Nat) (ls : zO) (st : List zA) (σ : zS) : zstep 8 (.ldc_w 49) 3 pc ls st σ = some (pc + 3, ls, zI (-1000000000) :: st, σ) := by
  have h : zk 8 49 = some (-1000000000) := by decide +kernel
  simp only [zstep, h, zpush]
theorem zkl8_62 (ln pc : Nat) (ls : zO) (st : List zA) (σ : zS) : zstep 8 (.ldc2_w 62) 3 pc ls st σ = some (pc + 3, ls, zL (255) :: st, σ) := by
  have h : zkL 8 62 = some (255) := by decide +kernel
  simp only [zstep, h, zpush]
theorem zc9_59 : zc 9 59 = some 134 := by decide +kernel
theorem zc8_108 : zc 8 108 = some 126 := by decide +kernel
theorem zc8_74 : zc 8 74 = some 127 := by decide +kernel
theorem zc8_86 : zc 8 86 = some 128 := by decide +kernel
theorem zc8_89 : zc 8 89 = some 129 := by decide +kernel
theorem zc8_92 : zc 8 92 = some 130 := by decide +kernel
theorem zc8_95 : zc 8 95 = some 132 := by decide +kernel
theorem zc8_78 : zc 8 78 = some 123 := by decide +kernel
theorem zc8_101 : zc 8 101 = some 124 := by decide +kernel
theorem zc8_82 : zc 8 82 = some 125 := by decide +kernel
theorem zc8_105 : zc 8 105 = some 131 := by decide +kernel
theorem zc9_63 : zc 9 63 = some 135 := by decide +kernel
theorem zc8_111 : zc 8 111 = some 133 := by decide +kernel
theorem zc9_17 : zc 9 17 = some 159 := by decide +kernel
theorem zc8_191 : zc 8 191 = some 158 := by decide +kernel
theorem zn8_191 : za 8 191 = false := by decide +kernel
theorem zc8_172 : zc 8 172 = some 117 := by decide +kernel
theorem zn8_172 : za 8 172 = false := by decide +kernel
theorem zc8_149 : zc 8 149 = some 119 := by decide +kernel
theorem zc8_146 : zc 8 146 = some 146 := by decide +kernel
theorem zc8_140 : zc 8 140 = some 121 := by decide +kernel
theorem zc8_54 : zc 8 54 = some 118 := by decide +kernel
theorem zc8_143 : zc 8 143 = some 145 := by decide +kernel
theorem zn8_143 : za 8 143 = false := by decide +kernel
theorem zc9_22 : zc 9 22 = some 160 := by decide +kernel
theorem zc8_194 : zc 8 194 = some 116 := by decide +kernel
theorem zc8_166 : zc 8 166 = some 143 := by decide +kernel
theorem zc8_130 : zc 8 130 = some 139 := by decide +kernel
theorem zc8_118 : zc 8 118 = some 138 := by decide +kernel
theorem zc8_133 : zc 8 133 = some 142 := by decide +kernel
theorem zc8_121 : zc 8 121 = some 137 := by decide +kernel
theorem zc8_114 : zc 8 114 = some 136 := by decide +kernel
theorem zn8_114 : za 8 114 = false := by decide +kernel
theorem zc8_124 : zc 8 124 = some 141 := by decide +kernel
theorem zn8_124 : za 8 124 = false := by decide +kernel
theorem zc8_127 : zc 8 127 = some 112 := by decide +kernel
theorem zn8_127 : za 8 127 = false := by decide +kernel
theorem zc8_181 : zc 8 181 = some 144 := by decide +kernel
theorem zc8_137 : zc 8 137 = some 140 := by decide +kernel
theorem zc9_26 : zc 9 26 = some 161 := by decide +kernel
theorem zc9_30 : zc 9 30 = some 162 := by decide +kernel
theorem zc8_197 : zc 8 197 = some 197 := by decide +kernel
theorem zn8_197 : za 8 197 = false := by decide +kernel
theorem zc9_34 : zc 9 34 = some 163 := by decide +kernel
theorem zc8_200 : zc 8 200 = some 120 := by decide +kernel
theorem zc9_39 : zc 9 39 = some 164 := by decide +kernel
theorem zc8_153 : zc 8 153 = some 148 := by decide +kernel
theorem zc9_44 : zc 9 44 = some 166 := by decide +kernel
theorem zc8_203 : zc 8 203 = some 165 := by decide +kernel
theorem zn8_203 : za 8 203 = false := by decide +kernel
theorem zc9_48 : zc 9 48 = some 167 := by decide +kernel
theorem zc9_67 : zc 9 67 = some 168 := by decide +kernel
theorem zc9_71 : zc 9 71 = some 169 := by decide +kernel
theorem zc8_206 : zc 8 206 = some 155 := by decide +kernel
theorem zc8_188 : zc 8 188 = some 154 := by decide +kernel
theorem zc8_184 : zc 8 184 = some 153 := by decide +kernel
theorem zc8_175 : zc 8 175 = some 147 := by decide +kernel
theorem zc8_178 : zc 8 178 = some 152 := by decide +kernel
theorem zc8_160 : zc 8 160 = some 150 := by decide +kernel
theorem zc8_163 : zc 8 163 = some 149 := by decide +kernel
theorem zc8_169 : zc 8 169 = some 151 := by decide +kernel
theorem zc9_75 : zc 9 75 = some 171 := by decide +kernel
theorem zc8_210 : zc 8 210 = some 170 := by decide +kernel
theorem zk8_209 (ln pc : Nat) (ls : zO) (st : List zA) (σ : zS) : zstep 8 (.ldc 209) 2 pc ls st σ = some (pc + 2, ls, zI (1103515245) :: st, σ) := by
  have h : zk 8 209 = some (1103515245) := by decide +kernel
  simp only [zstep, h, zpush]
theorem zkw8_209 (ln pc : Nat) (ls : zO) (st : List zA) (σ : zS) : zstep 8 (.ldc_w 209) 3 pc ls st σ = some (pc + 3, ls, zI (1103515245) :: st, σ) := by
  have h : zk 8 209 = some (1103515245) := by decide +kernel
  simp only [zstep, h, zpush]
theorem zc9_79 : zc 9 79 = some 172 := by decide +kernel
theorem zc9_83 : zc 9 83 = some 173 := by decide +kernel
theorem zc9_87 : zc 9 87 = some 175 := by decide +kernel
theorem zc8_213 : zc 8 213 = some 174 := by decide +kernel
theorem zc9_91 : zc 9 91 = some 177 := by decide +kernel
theorem zc8_216 : zc 8 216 = some 176 := by decide +kernel
theorem zc9_95 : zc 9 95 = some 182 := by decide +kernel
theorem zc8_225 : zc 8 225 = some 180 := by decide +kernel
theorem zc8_219 : zc 8 219 = some 178 := by decide +kernel
theorem zc8_222 : zc 8 222 = some 179 := by decide +kernel
theorem zc9_99 : zc 9 99 = some 183 := by decide +kernel
theorem zc8_228 : zc 8 228 = some 181 := by decide +kernel
theorem zn8_228 : za 8 228 = false := by decide +kernel
theorem zc9_104 : zc 9 104 = some 185 := by decide +kernel
theorem zc8_231 : zc 8 231 = some 184 := by decide +kernel
theorem zc9_108 : zc 9 108 = some 186 := by decide +kernel
theorem zc8_234 : zc 8 234 = some 114 := by decide +kernel
theorem zc8_237 : zc 8 237 = some 115 := by decide +kernel
theorem zc9_112 : zc 9 112 = some 187 := by decide +kernel
theorem zc8_240 : zc 8 240 = some 156 := by decide +kernel
theorem zc9_116 : zc 9 116 = some 188 := by decide +kernel
theorem zc9_120 : zc 9 120 = some 190 := by decide +kernel
theorem zc8_243 : zc 8 243 = some 189 := by decide +kernel
theorem zc9_124 : zc 9 124 = some 192 := by decide +kernel
theorem zc8_246 : zc 8 246 = some 191 := by decide +kernel
theorem zc9_128 : zc 9 128 = some 194 := by decide +kernel
theorem zc8_249 : zc 8 249 = some 193 := by decide +kernel
theorem zn8_249 : za 8 249 = false := by decide +kernel
theorem zc9_132 : zc 9 132 = some 195 := by decide +kernel
theorem zc8_252 : zc 8 252 = some 206 := by decide +kernel
theorem zn8_252 : za 8 252 = false := by decide +kernel
theorem zc9_136 : zc 9 136 = some 204 := by decide +kernel
theorem zc8_267 : zc 8 267 = some 198 := by decide +kernel
theorem zc8_264 : zc 8 264 = some 200 := by decide +kernel
theorem zc8_261 : zc 8 261 = some 196 := by decide +kernel
theorem zc8_270 : zc 8 270 = some 201 := by decide +kernel
theorem zc8_273 : zc 8 273 = some 199 := by decide +kernel
theorem zc8_276 : zc 8 276 = some 202 := by decide +kernel
theorem zc8_283 : zc 8 283 = some 203 := by decide +kernel
theorem zc9_140 : zc 9 140 = some 205 := by decide +kernel
theorem zc9_144 : zc 9 144 = some 207 := by decide +kernel
theorem zc9_148 : zc 9 148 = some 208 := by decide +kernel
theorem zc9_153 : zc 9 153 = some 209 := by decide +kernel
theorem zc9_157 : zc 9 157 = some 211 := by decide +kernel
theorem zc8_286 : zc 8 286 = some 210 := by decide +kernel
theorem zc9_161 : zc 9 161 = some 212 := by decide +kernel
theorem zc9_165 : zc 9 165 = some 213 := by decide +kernel
theorem zc8_289 : zc 8 289 = some 113 := by decide +kernel
theorem zn8_289 : za 8 289 = false := by decide +kernel
theorem zc9_169 : zc 9 169 = some 214 := by decide +kernel
theorem zc9_173 : zc 9 173 = some 215 := by decide +kernel
theorem zc9_177 : zc 9 177 = some 216 := by decide +kernel
theorem zc9_181 : zc 9 181 = some 217 := by decide +kernel
theorem zc8_296 : zc 8 296 = some 157 := by decide +kernel
theorem zc9_185 : zc 9 185 = some 218 := by decide +kernel
theorem zkl9_49 (ln pc : Nat) (ls : zO) (st : List zA) (σ : zS) : zstep 9 (.ldc2_w 49) 3 pc ls st σ = some (pc + 3, ls, zL (4294967295) :: st, σ) := by
  have h : zkL 9 49 = some (4294967295) := by decide +kernel
  simp only [zstep, h, zpush]
theorem zm0 : zst 0 = false ∧ zna 0 = 3 ∧ zn 0 = 4 := by decide +kernel
theorem zr0 : zr 0 = none := by decide +kernel
theorem zo0 : zo 0 = 0 := by decide +kernel
theorem zm1 : zst 1 = false ∧ zna 1 = 4 ∧ zn 1 = 7 := by decide +kernel
theorem zr1 : zr 1 = some .int := by decide +kernel
theorem zo1 : zo 1 = 0 := by decide +kernel
theorem zm2 : zst 2 = true ∧ zna 2 = 3 ∧ zn 2 = 3 := by decide +kernel
theorem zr2 : zr 2 = some .int := by decide +kernel
theorem zo2 : zo 2 = 0 := by decide +kernel
theorem zm3 : zst 3 = false ∧ zna 3 = 3 ∧ zn 3 = 6 := by decide +kernel
theorem zr3 : zr 3 = some .int := by decide +kernel
theorem zo3 : zo 3 = 1 := by decide +kernel
theorem zm4 : zst 4 = false ∧ zna 4 = 4 ∧ zn 4 = 7 := by decide +kernel
theorem zr4 : zr 4 = some .int := by decide +kernel
theorem zo4 : zo 4 = 1 := by decide +kernel
theorem zm5 : zst 5 = false ∧ zna 5 = 2 ∧ zn 5 = 2 := by decide +kernel
theorem zr5 : zr 5 = some .int := by decide +kernel
theorem zo5 : zo 5 = 1 := by decide +kernel
theorem zm6 : zst 6 = true ∧ zna 6 = 2 ∧ zn 6 = 4 := by decide +kernel
theorem zr6 : zr 6 = some .int := by decide +kernel
theorem zo6 : zo 6 = 1 := by decide +kernel
theorem zm7 : zst 7 = true ∧ zna 7 = 1 ∧ zn 7 = 1 := by decide +kernel
theorem zr7 : zr 7 = some .boolean := by decide +kernel
theorem zo7 : zo 7 = 1 := by decide +kernel
theorem zm8 : zst 8 = true ∧ zna 8 = 3 ∧ zn 8 = 5 := by decide +kernel
theorem zr8 : zr 8 = some .int := by decide +kernel
theorem zo8 : zo 8 = 1 := by decide +kernel
theorem zm9 : zst 9 = true ∧ zna 9 = 2 ∧ zn 9 = 3 := by decide +kernel
theorem zr9 : zr 9 = some .int := by decide +kernel
theorem zo9 : zo 9 = 1 := by decide +kernel
theorem zm10 : zst 10 = false ∧ zna 10 = 1 ∧ zn 10 = 2 := by decide +kernel
theorem zr10 : zr 10 = none := by decide +kernel
theorem zo10 : zo 10 = 1 := by decide +kernel
theorem zm11 : zst 11 = false ∧ zna 11 = 2 ∧ zn 11 = 3 := by decide +kernel
theorem zr11 : zr 11 = some .int := by decide +kernel
theorem zo11 : zo 11 = 1 := by decide +kernel
theorem zm12 : zst 12 = false ∧ zna 12 = 1 ∧ zn 12 = 1 := by decide +kernel
theorem zr12 : zr 12 = some .int := by decide +kernel
theorem zo12 : zo 12 = 1 := by decide +kernel
theorem zm13 : zst 13 = false ∧ zna 13 = 2 ∧ zn 13 = 3 := by decide +kernel
theorem zr13 : zr 13 = none := by decide +kernel
theorem zo13 : zo 13 = 1 := by decide +kernel
theorem zm14 : zst 14 = true ∧ zna 14 = 1 ∧ zn 14 = 1 := by decide +kernel
theorem zr14 : zr 14 = some .int := by decide +kernel
theorem zo14 : zo 14 = 1 := by decide +kernel
theorem zm15 : zst 15 = false ∧ zna 15 = 2 ∧ zn 15 = 2 := by decide +kernel
theorem zr15 : zr 15 = none := by decide +kernel
theorem zo15 : zo 15 = 1 := by decide +kernel
theorem zm16 : zst 16 = false ∧ zna 16 = 2 ∧ zn 16 = 2 := by decide +kernel
theorem zr16 : zr 16 = none := by decide +kernel
theorem zo16 : zo 16 = 1 := by decide +kernel
theorem zm17 : zst 17 = false ∧ zna 17 = 2 ∧ zn 17 = 2 := by decide +kernel
theorem zr17 : zr 17 = none := by decide +kernel
theorem zo17 : zo 17 = 2 := by decide +kernel
theorem zm18 : zst 18 = false ∧ zna 18 = 5 ∧ zn 18 = 6 := by decide +kernel
theorem zr18 : zr 18 = some .int := by decide +kernel
theorem zo18 : zo 18 = 2 := by decide +kernel
theorem zm19 : zst 19 = false ∧ zna 19 = 2 ∧ zn 19 = 2 := by decide +kernel
theorem zr19 : zr 19 = some .boolean := by decide +kernel
theorem zo19 : zo 19 = 2 := by decide +kernel
theorem zm20 : zst 20 = false ∧ zna 20 = 1 ∧ zn 20 = 3 := by decide +kernel
theorem zr20 : zr 20 = some .int := by decide +kernel
theorem zo20 : zo 20 = 2 := by decide +kernel
theorem zm21 : zst 21 = false ∧ zna 21 = 2 ∧ zn 21 = 2 := by decide +kernel
theorem zr21 : zr 21 = none := by decide +kernel
theorem zo21 : zo 21 = 2 := by decide +kernel
theorem zm22 : zst 22 = false ∧ zna 22 = 2 ∧ zn 22 = 3 := by decide +kernel
theorem zr22 : zr 22 = some .int := by decide +kernel
theorem zo22 : zo 22 = 2 := by decide +kernel
theorem zm23 : zst 23 = false ∧ zna 23 = 2 ∧ zn 23 = 4 := by decide +kernel
theorem zr23 : zr 23 = some .int := by decide +kernel
theorem zo23 : zo 23 = 2 := by decide +kernel
theorem zm24 : zst 24 = false ∧ zna 24 = 2 ∧ zn 24 = 5 := by decide +kernel
theorem zr24 : zr 24 = some .int := by decide +kernel
theorem zo24 : zo 24 = 2 := by decide +kernel
theorem zm25 : zst 25 = false ∧ zna 25 = 3 ∧ zn 25 = 6 := by decide +kernel
theorem zr25 : zr 25 = some .int := by decide +kernel
theorem zo25 : zo 25 = 2 := by decide +kernel
theorem zm26 : zst 26 = false ∧ zna 26 = 2 ∧ zn 26 = 3 := by decide +kernel
theorem zr26 : zr 26 = some .int := by decide +kernel
theorem zo26 : zo 26 = 2 := by decide +kernel
theorem zm27 : zst 27 = false ∧ zna 27 = 2 ∧ zn 27 = 2 := by decide +kernel
theorem zr27 : zr 27 = some .int := by decide +kernel
theorem zo27 : zo 27 = 2 := by decide +kernel
theorem zm28 : zst 28 = false ∧ zna 28 = 2 ∧ zn 28 = 4 := by decide +kernel
theorem zr28 : zr 28 = some .int := by decide +kernel
theorem zo28 : zo 28 = 2 := by decide +kernel
theorem zm29 : zst 29 = false ∧ zna 29 = 3 ∧ zn 29 = 5 := by decide +kernel
theorem zr29 : zr 29 = some .boolean := by decide +kernel
theorem zo29 : zo 29 = 2 := by decide +kernel
theorem zm30 : zst 30 = false ∧ zna 30 = 2 ∧ zn 30 = 2 := by decide +kernel
theorem zr30 : zr 30 = some .int := by decide +kernel
theorem zo30 : zo 30 = 2 := by decide +kernel
theorem zm31 : zst 31 = false ∧ zna 31 = 2 ∧ zn 31 = 2 := by decide +kernel
theorem zr31 : zr 31 = some .int := by decide +kernel
theorem zo31 : zo 31 = 2 := by decide +kernel
theorem zm32 : zst 32 = false ∧ zna 32 = 2 ∧ zn 32 = 2 := by decide +kernel
theorem zr32 : zr 32 = some .int := by decide +kernel
theorem zo32 : zo 32 = 2 := by decide +kernel
theorem zm33 : zst 33 = false ∧ zna 33 = 2 ∧ zn 33 = 3 := by decide +kernel
theorem zr33 : zr 33 = some .boolean := by decide +kernel
theorem zo33 : zo 33 = 2 := by decide +kernel
theorem zm34 : zst 34 = false ∧ zna 34 = 2 ∧ zn 34 = 2 := by decide +kernel
theorem zr34 : zr 34 = some .int := by decide +kernel
theorem zo34 : zo 34 = 2 := by decide +kernel
theorem zm35 : zst 35 = false ∧ zna 35 = 2 ∧ zn 35 = 3 := by decide +kernel
theorem zr35 : zr 35 = none := by decide +kernel
theorem zo35 : zo 35 = 2 := by decide +kernel
theorem zm36 : zst 36 = false ∧ zna 36 = 1 ∧ zn 36 = 6 := by decide +kernel
theorem zr36 : zr 36 = none := by decide +kernel
theorem zo36 : zo 36 = 2 := by decide +kernel
theorem zm37 : zst 37 = false ∧ zna 37 = 1 ∧ zn 37 = 3 := by decide +kernel
theorem zr37 : zr 37 = none := by decide +kernel
theorem zo37 : zo 37 = 2 := by decide +kernel
theorem zm38 : zst 38 = false ∧ zna 38 = 1 ∧ zn 38 = 1 := by decide +kernel
theorem zr38 : zr 38 = some .int := by decide +kernel
theorem zo38 : zo 38 = 2 := by decide +kernel
theorem zm39 : zst 39 = false ∧ zna 39 = 3 ∧ zn 39 = 8 := by decide +kernel
theorem zr39 : zr 39 = some .boolean := by decide +kernel
theorem zo39 : zo 39 = 2 := by decide +kernel
theorem zm40 : zst 40 = false ∧ zna 40 = 1 ∧ zn 40 = 1 := by decide +kernel
theorem zr40 : zr 40 = none := by decide +kernel
theorem zo40 : zo 40 = 2 := by decide +kernel
theorem zm41 : zst 41 = false ∧ zna 41 = 1 ∧ zn 41 = 1 := by decide +kernel
theorem zr41 : zr 41 = none := by decide +kernel
theorem zo41 : zo 41 = 2 := by decide +kernel
theorem zm42 : zst 42 = false ∧ zna 42 = 1 ∧ zn 42 = 3 := by decide +kernel
theorem zr42 : zr 42 = some .int := by decide +kernel
theorem zo42 : zo 42 = 2 := by decide +kernel
theorem zm43 : zst 43 = false ∧ zna 43 = 2 ∧ zn 43 = 3 := by decide +kernel
theorem zr43 : zr 43 = some .int := by decide +kernel
theorem zo43 : zo 43 = 2 := by decide +kernel
theorem zm44 : zst 44 = false ∧ zna 44 = 4 ∧ zn 44 = 4 := by decide +kernel
theorem zr44 : zr 44 = none := by decide +kernel
theorem zo44 : zo 44 = 2 := by decide +kernel
theorem zm45 : zst 45 = false ∧ zna 45 = 3 ∧ zn 45 = 3 := by decide +kernel
theorem zr45 : zr 45 = none := by decide +kernel
theorem zo45 : zo 45 = 2 := by decide +kernel
theorem zm46 : zst 46 = false ∧ zna 46 = 2 ∧ zn 46 = 2 := by decide +kernel
theorem zr46 : zr 46 = none := by decide +kernel
theorem zo46 : zo 46 = 2 := by decide +kernel
theorem zm47 : zst 47 = false ∧ zna 47 = 3 ∧ zn 47 = 3 := by decide +kernel
theorem zr47 : zr 47 = none := by decide +kernel
theorem zo47 : zo 47 = 2 := by decide +kernel
theorem zm48 : zst 48 = false ∧ zna 48 = 2 ∧ zn 48 = 2 := by decide +kernel
theorem zr48 : zr 48 = none := by decide +kernel
theorem zo48 : zo 48 = 3 := by decide +kernel
theorem zm49 : zst 49 = false ∧ zna 49 = 2 ∧ zn 49 = 3 := by decide +kernel
theorem zr49 : zr 49 = none := by decide +kernel
theorem zo49 : zo 49 = 3 := by decide +kernel
theorem zm50 : zst 50 = false ∧ zna 50 = 1 ∧ zn 50 = 1 := by decide +kernel
theorem zr50 : zr 50 = some .boolean := by decide +kernel
theorem zo50 : zo 50 = 4 := by decide +kernel
theorem zm51 : zst 51 = false ∧ zna 51 = 3 ∧ zn 51 = 4 := by decide +kernel
theorem zr51 : zr 51 = none := by decide +kernel
theorem zo51 : zo 51 = 4 := by decide +kernel
theorem zm52 : zst 52 = false ∧ zna 52 = 3 ∧ zn 52 = 3 := by decide +kernel
theorem zr52 : zr 52 = none := by decide +kernel
theorem zo52 : zo 52 = 4 := by decide +kernel
theorem zm53 : zst 53 = false ∧ zna 53 = 3 ∧ zn 53 = 3 := by decide +kernel
theorem zr53 : zr 53 = some .boolean := by decide +kernel
theorem zo53 : zo 53 = 4 := by decide +kernel
theorem zm54 : zst 54 = false ∧ zna 54 = 2 ∧ zn 54 = 2 := by decide +kernel
theorem zr54 : zr 54 = none := by decide +kernel
theorem zo54 : zo 54 = 5 := by decide +kernel
theorem zm55 : zst 55 = true ∧ zna 55 = 2 ∧ zn 55 = 4 := by decide +kernel
theorem zr55 : zr 55 = some .boolean := by decide +kernel
theorem zo55 : zo 55 = 6 := by decide +kernel
theorem zm56 : zst 56 = false ∧ zna 56 = 6 ∧ zn 56 = 6 := by decide +kernel
theorem zr56 : zr 56 = some .int := by decide +kernel
theorem zo56 : zo 56 = 6 := by decide +kernel
theorem zm57 : zst 57 = false ∧ zna 57 = 5 ∧ zn 57 = 6 := by decide +kernel
theorem zr57 : zr 57 = some .int := by decide +kernel
theorem zo57 : zo 57 = 6 := by decide +kernel
theorem zm58 : zst 58 = false ∧ zna 58 = 4 ∧ zn 58 = 4 := by decide +kernel
theorem zr58 : zr 58 = some .int := by decide +kernel
theorem zo58 : zo 58 = 6 := by decide +kernel
theorem zm59 : zst 59 = false ∧ zna 59 = 4 ∧ zn 59 = 6 := by decide +kernel
theorem zr59 : zr 59 = some .int := by decide +kernel
theorem zo59 : zo 59 = 6 := by decide +kernel
theorem zm60 : zst 60 = true ∧ zna 60 = 2 ∧ zn 60 = 5 := by decide +kernel
theorem zr60 : zr 60 = some .int := by decide +kernel
theorem zo60 : zo 60 = 6 := by decide +kernel
theorem zm61 : zst 61 = false ∧ zna 61 = 5 ∧ zn 61 = 6 := by decide +kernel
theorem zr61 : zr 61 = some .int := by decide +kernel
theorem zo61 : zo 61 = 7 := by decide +kernel
theorem zm62 : zst 62 = false ∧ zna 62 = 3 ∧ zn 62 = 3 := by decide +kernel
theorem zr62 : zr 62 = some .int := by decide +kernel
theorem zo62 : zo 62 = 7 := by decide +kernel
theorem zm63 : zst 63 = false ∧ zna 63 = 3 ∧ zn 63 = 4 := by decide +kernel
theorem zr63 : zr 63 = some .int := by decide +kernel
theorem zo63 : zo 63 = 7 := by decide +kernel
theorem zm64 : zst 64 = false ∧ zna 64 = 3 ∧ zn 64 = 3 := by decide +kernel
theorem zr64 : zr 64 = some .int := by decide +kernel
theorem zo64 : zo 64 = 7 := by decide +kernel
theorem zm65 : zst 65 = false ∧ zna 65 = 3 ∧ zn 65 = 4 := by decide +kernel
theorem zr65 : zr 65 = some .int := by decide +kernel
theorem zo65 : zo 65 = 7 := by decide +kernel
theorem zm66 : zst 66 = false ∧ zna 66 = 2 ∧ zn 66 = 3 := by decide +kernel
theorem zr66 : zr 66 = some .int := by decide +kernel
theorem zo66 : zo 66 = 7 := by decide +kernel
theorem zm67 : zst 67 = false ∧ zna 67 = 4 ∧ zn 67 = 5 := by decide +kernel
theorem zr67 : zr 67 = some .int := by decide +kernel
theorem zo67 : zo 67 = 7 := by decide +kernel
theorem zm68 : zst 68 = false ∧ zna 68 = 2 ∧ zn 68 = 2 := by decide +kernel
theorem zr68 : zr 68 = some .int := by decide +kernel
theorem zo68 : zo 68 = 7 := by decide +kernel
theorem zm69 : zst 69 = false ∧ zna 69 = 3 ∧ zn 69 = 5 := by decide +kernel
theorem zr69 : zr 69 = some .int := by decide +kernel
theorem zo69 : zo 69 = 7 := by decide +kernel
theorem zm70 : zst 70 = false ∧ zna 70 = 2 ∧ zn 70 = 3 := by decide +kernel
theorem zr70 : zr 70 = some .int := by decide +kernel
theorem zo70 : zo 70 = 7 := by decide +kernel
theorem zm71 : zst 71 = false ∧ zna 71 = 2 ∧ zn 71 = 3 := by decide +kernel
theorem zr71 : zr 71 = some .int := by decide +kernel
theorem zo71 : zo 71 = 7 := by decide +kernel
theorem zm72 : zst 72 = false ∧ zna 72 = 5 ∧ zn 72 = 5 := by decide +kernel
theorem zr72 : zr 72 = some .int := by decide +kernel
theorem zo72 : zo 72 = 7 := by decide +kernel
theorem zm73 : zst 73 = false ∧ zna 73 = 2 ∧ zn 73 = 2 := by decide +kernel
theorem zr73 : zr 73 = some .int := by decide +kernel
theorem zo73 : zo 73 = 7 := by decide +kernel
theorem zm74 : zst 74 = false ∧ zna 74 = 2 ∧ zn 74 = 3 := by decide +kernel
theorem zr74 : zr 74 = some .int := by decide +kernel
theorem zo74 : zo 74 = 7 := by decide +kernel
theorem zm75 : zst 75 = false ∧ zna 75 = 2 ∧ zn 75 = 3 := by decide +kernel
theorem zr75 : zr 75 = some .int := by decide +kernel
theorem zo75 : zo 75 = 7 := by decide +kernel
theorem zm76 : zst 76 = false ∧ zna 76 = 2 ∧ zn 76 = 3 := by decide +kernel
theorem zr76 : zr 76 = some .int := by decide +kernel
theorem zo76 : zo 76 = 7 := by decide +kernel
theorem zm77 : zst 77 = false ∧ zna 77 = 2 ∧ zn 77 = 2 := by decide +kernel
theorem zr77 : zr 77 = some .int := by decide +kernel
theorem zo77 : zo 77 = 7 := by decide +kernel
theorem zm78 : zst 78 = false ∧ zna 78 = 3 ∧ zn 78 = 4 := by decide +kernel
theorem zr78 : zr 78 = some .int := by decide +kernel
theorem zo78 : zo 78 = 7 := by decide +kernel
theorem zm79 : zst 79 = false ∧ zna 79 = 2 ∧ zn 79 = 2 := by decide +kernel
theorem zr79 : zr 79 = some .int := by decide +kernel
theorem zo79 : zo 79 = 7 := by decide +kernel
theorem zm80 : zst 80 = false ∧ zna 80 = 2 ∧ zn 80 = 6 := by decide +kernel
theorem zr80 : zr 80 = some .int := by decide +kernel
theorem zo80 : zo 80 = 7 := by decide +kernel
theorem zm81 : zst 81 = false ∧ zna 81 = 1 ∧ zn 81 = 4 := by decide +kernel
theorem zr81 : zr 81 = some .int := by decide +kernel
theorem zo81 : zo 81 = 7 := by decide +kernel
theorem zm82 : zst 82 = false ∧ zna 82 = 3 ∧ zn 82 = 3 := by decide +kernel
theorem zr82 : zr 82 = some .int := by decide +kernel
theorem zo82 : zo 82 = 7 := by decide +kernel
theorem zm83 : zst 83 = false ∧ zna 83 = 2 ∧ zn 83 = 2 := by decide +kernel
theorem zr83 : zr 83 = some .int := by decide +kernel
theorem zo83 : zo 83 = 7 := by decide +kernel
theorem zm84 : zst 84 = false ∧ zna 84 = 3 ∧ zn 84 = 4 := by decide +kernel
theorem zr84 : zr 84 = some .int := by decide +kernel
theorem zo84 : zo 84 = 7 := by decide +kernel
theorem zm85 : zst 85 = false ∧ zna 85 = 3 ∧ zn 85 = 4 := by decide +kernel
theorem zr85 : zr 85 = some .int := by decide +kernel
theorem zo85 : zo 85 = 7 := by decide +kernel
theorem zm86 : zst 86 = false ∧ zna 86 = 3 ∧ zn 86 = 7 := by decide +kernel
theorem zr86 : zr 86 = some .int := by decide +kernel
theorem zo86 : zo 86 = 7 := by decide +kernel
theorem zm87 : zst 87 = false ∧ zna 87 = 4 ∧ zn 87 = 7 := by decide +kernel
theorem zr87 : zr 87 = some .int := by decide +kernel
theorem zo87 : zo 87 = 7 := by decide +kernel
theorem zm88 : zst 88 = false ∧ zna 88 = 4 ∧ zn 88 = 6 := by decide +kernel
theorem zr88 : zr 88 = some .int := by decide +kernel
theorem zo88 : zo 88 = 7 := by decide +kernel
theorem zm89 : zst 89 = false ∧ zna 89 = 4 ∧ zn 89 = 5 := by decide +kernel
theorem zr89 : zr 89 = some .int := by decide +kernel
theorem zo89 : zo 89 = 7 := by decide +kernel
theorem zm90 : zst 90 = false ∧ zna 90 = 2 ∧ zn 90 = 2 := by decide +kernel
theorem zr90 : zr 90 = some .int := by decide +kernel
theorem zo90 : zo 90 = 7 := by decide +kernel
theorem zm91 : zst 91 = false ∧ zna 91 = 4 ∧ zn 91 = 4 := by decide +kernel
theorem zr91 : zr 91 = some .int := by decide +kernel
theorem zo91 : zo 91 = 7 := by decide +kernel
theorem zm92 : zst 92 = false ∧ zna 92 = 4 ∧ zn 92 = 4 := by decide +kernel
theorem zr92 : zr 92 = some .int := by decide +kernel
theorem zo92 : zo 92 = 7 := by decide +kernel
theorem zm93 : zst 93 = false ∧ zna 93 = 6 ∧ zn 93 = 8 := by decide +kernel
theorem zr93 : zr 93 = some .int := by decide +kernel
theorem zo93 : zo 93 = 7 := by decide +kernel
theorem zm94 : zst 94 = false ∧ zna 94 = 2 ∧ zn 94 = 5 := by decide +kernel
theorem zr94 : zr 94 = some .int := by decide +kernel
theorem zo94 : zo 94 = 7 := by decide +kernel
theorem zm95 : zst 95 = false ∧ zna 95 = 2 ∧ zn 95 = 5 := by decide +kernel
theorem zr95 : zr 95 = some .int := by decide +kernel
theorem zo95 : zo 95 = 7 := by decide +kernel
theorem zm96 : zst 96 = false ∧ zna 96 = 1 ∧ zn 96 = 1 := by decide +kernel
theorem zr96 : zr 96 = some .int := by decide +kernel
theorem zo96 : zo 96 = 7 := by decide +kernel
theorem zm97 : zst 97 = false ∧ zna 97 = 1 ∧ zn 97 = 1 := by decide +kernel
theorem zr97 : zr 97 = some .int := by decide +kernel
theorem zo97 : zo 97 = 7 := by decide +kernel
theorem zm98 : zst 98 = false ∧ zna 98 = 2 ∧ zn 98 = 2 := by decide +kernel
theorem zr98 : zr 98 = some .int := by decide +kernel
theorem zo98 : zo 98 = 7 := by decide +kernel
theorem zm99 : zst 99 = false ∧ zna 99 = 1 ∧ zn 99 = 3 := by decide +kernel
theorem zr99 : zr 99 = some .int := by decide +kernel
theorem zo99 : zo 99 = 7 := by decide +kernel
theorem zm100 : zst 100 = false ∧ zna 100 = 2 ∧ zn 100 = 2 := by decide +kernel
theorem zr100 : zr 100 = some .int := by decide +kernel
theorem zo100 : zo 100 = 7 := by decide +kernel
theorem zm101 : zst 101 = false ∧ zna 101 = 2 ∧ zn 101 = 2 := by decide +kernel
theorem zr101 : zr 101 = some .int := by decide +kernel
theorem zo101 : zo 101 = 7 := by decide +kernel
theorem zm102 : zst 102 = false ∧ zna 102 = 2 ∧ zn 102 = 2 := by decide +kernel
theorem zr102 : zr 102 = some .int := by decide +kernel
theorem zo102 : zo 102 = 7 := by decide +kernel
theorem zm103 : zst 103 = true ∧ zna 103 = 2 ∧ zn 103 = 2 := by decide +kernel
theorem zr103 : zr 103 = some .boolean := by decide +kernel
theorem zo103 : zo 103 = 7 := by decide +kernel
theorem zm104 : zst 104 = false ∧ zna 104 = 2 ∧ zn 104 = 2 := by decide +kernel
theorem zr104 : zr 104 = some .boolean := by decide +kernel
theorem zo104 : zo 104 = 7 := by decide +kernel
theorem zm105 : zst 105 = true ∧ zna 105 = 1 ∧ zn 105 = 1 := by decide +kernel
theorem zr105 : zr 105 = some .boolean := by decide +kernel
theorem zo105 : zo 105 = 7 := by decide +kernel
theorem zm106 : zst 106 = false ∧ zna 106 = 2 ∧ zn 106 = 2 := by decide +kernel
theorem zr106 : zr 106 = (some (.object "ApronStrings$Law")) := by decide +kernel
theorem zo106 : zo 106 = 7 := by decide +kernel
theorem zm107 : zst 107 = false ∧ zna 107 = 4 ∧ zn 107 = 5 := by decide +kernel
theorem zr107 : zr 107 = some .boolean := by decide +kernel
theorem zo107 : zo 107 = 7 := by decide +kernel
theorem zm108 : zst 108 = false ∧ zna 108 = 4 ∧ zn 108 = 5 := by decide +kernel
theorem zr108 : zr 108 = some .int := by decide +kernel
theorem zo108 : zo 108 = 7 := by decide +kernel
theorem zm109 : zst 109 = false ∧ zna 109 = 4 ∧ zn 109 = 5 := by decide +kernel
theorem zr109 : zr 109 = some .boolean := by decide +kernel
theorem zo109 : zo 109 = 7 := by decide +kernel
theorem zm110 : zst 110 = false ∧ zna 110 = 2 ∧ zn 110 = 2 := by decide +kernel
theorem zr110 : zr 110 = some .int := by decide +kernel
theorem zo110 : zo 110 = 8 := by decide +kernel
theorem zm111 : zst 111 = true ∧ zna 111 = 3 ∧ zn 111 = 3 := by decide +kernel
theorem zr111 : zr 111 = some .boolean := by decide +kernel
theorem zo111 : zo 111 = 8 := by decide +kernel
theorem zm112 : zst 112 = true ∧ zna 112 = 3 ∧ zn 112 = 3 := by decide +kernel
theorem zr112 : zr 112 = some .int := by decide +kernel
theorem zo112 : zo 112 = 8 := by decide +kernel
theorem zm113 : zst 113 = true ∧ zna 113 = 2 ∧ zn 113 = 3 := by decide +kernel
theorem zr113 : zr 113 = none := by decide +kernel
theorem zo113 : zo 113 = 8 := by decide +kernel
theorem zm114 : zst 114 = false ∧ zna 114 = 1 ∧ zn 114 = 2 := by decide +kernel
theorem zr114 : zr 114 = none := by decide +kernel
theorem zo114 : zo 114 = 8 := by decide +kernel
theorem zm115 : zst 115 = false ∧ zna 115 = 1 ∧ zn 115 = 2 := by decide +kernel
theorem zr115 : zr 115 = none := by decide +kernel
theorem zo115 : zo 115 = 8 := by decide +kernel
theorem zm116 : zst 116 = false ∧ zna 116 = 2 ∧ zn 116 = 2 := by decide +kernel
theorem zr116 : zr 116 = some .boolean := by decide +kernel
theorem zo116 : zo 116 = 8 := by decide +kernel
theorem zm117 : zst 117 = true ∧ zna 117 = 1 ∧ zn 117 = 1 := by decide +kernel
theorem zr117 : zr 117 = some .boolean := by decide +kernel
theorem zo117 : zo 117 = 8 := by decide +kernel
theorem zm118 : zst 118 = false ∧ zna 118 = 3 ∧ zn 118 = 3 := by decide +kernel
theorem zr118 : zr 118 = some .int := by decide +kernel
theorem zo118 : zo 118 = 8 := by decide +kernel
theorem zm119 : zst 119 = false ∧ zna 119 = 4 ∧ zn 119 = 4 := by decide +kernel
theorem zr119 : zr 119 = none := by decide +kernel
theorem zo119 : zo 119 = 8 := by decide +kernel
theorem zm120 : zst 120 = false ∧ zna 120 = 3 ∧ zn 120 = 4 := by decide +kernel
theorem zr120 : zr 120 = some .int := by decide +kernel
theorem zo120 : zo 120 = 8 := by decide +kernel
theorem zm121 : zst 121 = false ∧ zna 121 = 2 ∧ zn 121 = 2 := by decide +kernel
theorem zr121 : zr 121 = some .boolean := by decide +kernel
theorem zo121 : zo 121 = 8 := by decide +kernel
theorem zm122 : zst 122 = false ∧ zna 122 = 3 ∧ zn 122 = 5 := by decide +kernel
theorem zr122 : zr 122 = some .int := by decide +kernel
theorem zo122 : zo 122 = 8 := by decide +kernel
theorem zm123 : zst 123 = false ∧ zna 123 = 1 ∧ zn 123 = 1 := by decide +kernel
theorem zr123 : zr 123 = some .int := by decide +kernel
theorem zo123 : zo 123 = 8 := by decide +kernel
theorem zm124 : zst 124 = false ∧ zna 124 = 2 ∧ zn 124 = 2 := by decide +kernel
theorem zr124 : zr 124 = some .boolean := by decide +kernel
theorem zo124 : zo 124 = 8 := by decide +kernel
theorem zm125 : zst 125 = false ∧ zna 125 = 3 ∧ zn 125 = 3 := by decide +kernel
theorem zr125 : zr 125 = none := by decide +kernel
theorem zo125 : zo 125 = 8 := by decide +kernel
theorem zm126 : zst 126 = false ∧ zna 126 = 1 ∧ zn 126 = 1 := by decide +kernel
theorem zr126 : zr 126 = some .boolean := by decide +kernel
theorem zo126 : zo 126 = 8 := by decide +kernel
theorem zm127 : zst 127 = false ∧ zna 127 = 1 ∧ zn 127 = 1 := by decide +kernel
theorem zr127 : zr 127 = some .boolean := by decide +kernel
theorem zo127 : zo 127 = 8 := by decide +kernel
theorem zm128 : zst 128 = false ∧ zna 128 = 1 ∧ zn 128 = 2 := by decide +kernel
theorem zr128 : zr 128 = some .boolean := by decide +kernel
theorem zo128 : zo 128 = 8 := by decide +kernel
theorem zm129 : zst 129 = false ∧ zna 129 = 1 ∧ zn 129 = 2 := by decide +kernel
theorem zr129 : zr 129 = some .boolean := by decide +kernel
theorem zo129 : zo 129 = 8 := by decide +kernel
theorem zm130 : zst 130 = false ∧ zna 130 = 1 ∧ zn 130 = 2 := by decide +kernel
theorem zr130 : zr 130 = some .boolean := by decide +kernel
theorem zo130 : zo 130 = 8 := by decide +kernel
theorem zm131 : zst 131 = false ∧ zna 131 = 1 ∧ zn 131 = 1 := by decide +kernel
theorem zr131 : zr 131 = some .boolean := by decide +kernel
theorem zo131 : zo 131 = 8 := by decide +kernel
theorem zm132 : zst 132 = false ∧ zna 132 = 1 ∧ zn 132 = 4 := by decide +kernel
theorem zr132 : zr 132 = some .boolean := by decide +kernel
theorem zo132 : zo 132 = 8 := by decide +kernel
theorem zm133 : zst 133 = false ∧ zna 133 = 2 ∧ zn 133 = 2 := by decide +kernel
theorem zr133 : zr 133 = some .boolean := by decide +kernel
theorem zo133 : zo 133 = 8 := by decide +kernel
theorem zm134 : zst 134 = false ∧ zna 134 = 2 ∧ zn 134 = 5 := by decide +kernel
theorem zr134 : zr 134 = some .int := by decide +kernel
theorem zo134 : zo 134 = 8 := by decide +kernel
theorem zm135 : zst 135 = false ∧ zna 135 = 2 ∧ zn 135 = 3 := by decide +kernel
theorem zr135 : zr 135 = some .int := by decide +kernel
theorem zo135 : zo 135 = 8 := by decide +kernel
theorem zm136 : zst 136 = true ∧ zna 136 = 3 ∧ zn 136 = 3 := by decide +kernel
theorem zr136 : zr 136 = some .int := by decide +kernel
theorem zo136 : zo 136 = 8 := by decide +kernel
theorem zm137 : zst 137 = false ∧ zna 137 = 2 ∧ zn 137 = 7 := by decide +kernel
theorem zr137 : zr 137 = some .int := by decide +kernel
theorem zo137 : zo 137 = 8 := by decide +kernel
theorem zm138 : zst 138 = false ∧ zna 138 = 2 ∧ zn 138 = 4 := by decide +kernel
theorem zr138 : zr 138 = some .boolean := by decide +kernel
theorem zo138 : zo 138 = 8 := by decide +kernel
theorem zm139 : zst 139 = false ∧ zna 139 = 2 ∧ zn 139 = 4 := by decide +kernel
theorem zr139 : zr 139 = some .int := by decide +kernel
theorem zo139 : zo 139 = 8 := by decide +kernel
theorem zm140 : zst 140 = false ∧ zna 140 = 2 ∧ zn 140 = 4 := by decide +kernel
theorem zr140 : zr 140 = some .int := by decide +kernel
theorem zo140 : zo 140 = 8 := by decide +kernel
theorem zm141 : zst 141 = true ∧ zna 141 = 1 ∧ zn 141 = 2 := by decide +kernel
theorem zr141 : zr 141 = some .int := by decide +kernel
theorem zo141 : zo 141 = 8 := by decide +kernel
theorem zm142 : zst 142 = false ∧ zna 142 = 5 ∧ zn 142 = 6 := by decide +kernel
theorem zr142 : zr 142 = some .int := by decide +kernel
theorem zo142 : zo 142 = 8 := by decide +kernel
theorem zm143 : zst 143 = false ∧ zna 143 = 2 ∧ zn 143 = 2 := by decide +kernel
theorem zr143 : zr 143 = some .int := by decide +kernel
theorem zo143 : zo 143 = 8 := by decide +kernel
theorem zm144 : zst 144 = false ∧ zna 144 = 2 ∧ zn 144 = 2 := by decide +kernel
theorem zr144 : zr 144 = some .int := by decide +kernel
theorem zo144 : zo 144 = 8 := by decide +kernel
theorem zm145 : zst 145 = true ∧ zna 145 = 2 ∧ zn 145 = 2 := by decide +kernel
theorem zr145 : zr 145 = some .int := by decide +kernel
theorem zo145 : zo 145 = 8 := by decide +kernel
theorem zm146 : zst 146 = false ∧ zna 146 = 2 ∧ zn 146 = 2 := by decide +kernel
theorem zr146 : zr 146 = some .int := by decide +kernel
theorem zo146 : zo 146 = 8 := by decide +kernel
theorem zm147 : zst 147 = false ∧ zna 147 = 1 ∧ zn 147 = 2 := by decide +kernel
theorem zr147 : zr 147 = some .int := by decide +kernel
theorem zo147 : zo 147 = 8 := by decide +kernel
theorem zm148 : zst 148 = false ∧ zna 148 = 2 ∧ zn 148 = 2 := by decide +kernel
theorem zr148 : zr 148 = none := by decide +kernel
theorem zo148 : zo 148 = 8 := by decide +kernel
theorem zm149 : zst 149 = false ∧ zna 149 = 2 ∧ zn 149 = 2 := by decide +kernel
theorem zr149 : zr 149 = none := by decide +kernel
theorem zo149 : zo 149 = 8 := by decide +kernel
theorem zm150 : zst 150 = false ∧ zna 150 = 3 ∧ zn 150 = 3 := by decide +kernel
theorem zr150 : zr 150 = none := by decide +kernel
theorem zo150 : zo 150 = 8 := by decide +kernel
theorem zm151 : zst 151 = false ∧ zna 151 = 3 ∧ zn 151 = 3 := by decide +kernel
theorem zr151 : zr 151 = none := by decide +kernel
theorem zo151 : zo 151 = 8 := by decide +kernel
theorem zm152 : zst 152 = false ∧ zna 152 = 2 ∧ zn 152 = 7 := by decide +kernel
theorem zr152 : zr 152 = some .boolean := by decide +kernel
theorem zo152 : zo 152 = 8 := by decide +kernel
theorem zm153 : zst 153 = false ∧ zna 153 = 3 ∧ zn 153 = 6 := by decide +kernel
theorem zr153 : zr 153 = some .boolean := by decide +kernel
theorem zo153 : zo 153 = 8 := by decide +kernel
theorem zm154 : zst 154 = false ∧ zna 154 = 1 ∧ zn 154 = 6 := by decide +kernel
theorem zr154 : zr 154 = none := by decide +kernel
theorem zo154 : zo 154 = 8 := by decide +kernel
theorem zm155 : zst 155 = false ∧ zna 155 = 2 ∧ zn 155 = 3 := by decide +kernel
theorem zr155 : zr 155 = none := by decide +kernel
theorem zo155 : zo 155 = 8 := by decide +kernel
theorem zm156 : zst 156 = false ∧ zna 156 = 1 ∧ zn 156 = 3 := by decide +kernel
theorem zr156 : zr 156 = some .int := by decide +kernel
theorem zo156 : zo 156 = 8 := by decide +kernel
theorem zm157 : zst 157 = false ∧ zna 157 = 2 ∧ zn 157 = 4 := by decide +kernel
theorem zr157 : zr 157 = some .int := by decide +kernel
theorem zo157 : zo 157 = 8 := by decide +kernel
theorem zm158 : zst 158 = true ∧ zna 158 = 1 ∧ zn 158 = 1 := by decide +kernel
theorem zr158 : zr 158 = some .boolean := by decide +kernel
theorem zo158 : zo 158 = 8 := by decide +kernel
theorem zm159 : zst 159 = false ∧ zna 159 = 5 ∧ zn 159 = 6 := by decide +kernel
theorem zr159 : zr 159 = some .int := by decide +kernel
theorem zo159 : zo 159 = 8 := by decide +kernel
theorem zm160 : zst 160 = false ∧ zna 160 = 3 ∧ zn 160 = 3 := by decide +kernel
theorem zr160 : zr 160 = some .int := by decide +kernel
theorem zo160 : zo 160 = 8 := by decide +kernel
theorem zm161 : zst 161 = false ∧ zna 161 = 3 ∧ zn 161 = 4 := by decide +kernel
theorem zr161 : zr 161 = some .int := by decide +kernel
theorem zo161 : zo 161 = 8 := by decide +kernel
theorem zm162 : zst 162 = false ∧ zna 162 = 3 ∧ zn 162 = 5 := by decide +kernel
theorem zr162 : zr 162 = some .int := by decide +kernel
theorem zo162 : zo 162 = 8 := by decide +kernel
theorem zm163 : zst 163 = false ∧ zna 163 = 3 ∧ zn 163 = 3 := by decide +kernel
theorem zr163 : zr 163 = some .int := by decide +kernel
theorem zo163 : zo 163 = 8 := by decide +kernel
theorem zm164 : zst 164 = false ∧ zna 164 = 2 ∧ zn 164 = 3 := by decide +kernel
theorem zr164 : zr 164 = some .int := by decide +kernel
theorem zo164 : zo 164 = 8 := by decide +kernel
theorem zm165 : zst 165 = true ∧ zna 165 = 1 ∧ zn 165 = 1 := by decide +kernel
theorem zr165 : zr 165 = some .boolean := by decide +kernel
theorem zo165 : zo 165 = 8 := by decide +kernel
theorem zm166 : zst 166 = false ∧ zna 166 = 4 ∧ zn 166 = 4 := by decide +kernel
theorem zr166 : zr 166 = some .int := by decide +kernel
theorem zo166 : zo 166 = 8 := by decide +kernel
theorem zm167 : zst 167 = false ∧ zna 167 = 2 ∧ zn 167 = 2 := by decide +kernel
theorem zr167 : zr 167 = some .int := by decide +kernel
theorem zo167 : zo 167 = 8 := by decide +kernel
theorem zm168 : zst 168 = false ∧ zna 168 = 5 ∧ zn 168 = 5 := by decide +kernel
theorem zr168 : zr 168 = some .int := by decide +kernel
theorem zo168 : zo 168 = 8 := by decide +kernel
theorem zm169 : zst 169 = false ∧ zna 169 = 2 ∧ zn 169 = 2 := by decide +kernel
theorem zr169 : zr 169 = some .int := by decide +kernel
theorem zo169 : zo 169 = 8 := by decide +kernel
theorem zm170 : zst 170 = false ∧ zna 170 = 1 ∧ zn 170 = 1 := by decide +kernel
theorem zr170 : zr 170 = some .int := by decide +kernel
theorem zo170 : zo 170 = 8 := by decide +kernel
theorem zm171 : zst 171 = false ∧ zna 171 = 2 ∧ zn 171 = 4 := by decide +kernel
theorem zr171 : zr 171 = some .int := by decide +kernel
theorem zo171 : zo 171 = 8 := by decide +kernel
theorem zm172 : zst 172 = false ∧ zna 172 = 2 ∧ zn 172 = 2 := by decide +kernel
theorem zr172 : zr 172 = some .int := by decide +kernel
theorem zo172 : zo 172 = 8 := by decide +kernel
theorem zm173 : zst 173 = false ∧ zna 173 = 2 ∧ zn 173 = 2 := by decide +kernel
theorem zr173 : zr 173 = some .int := by decide +kernel
theorem zo173 : zo 173 = 8 := by decide +kernel
theorem zm174 : zst 174 = false ∧ zna 174 = 2 ∧ zn 174 = 4 := by decide +kernel
theorem zr174 : zr 174 = some .int := by decide +kernel
theorem zo174 : zo 174 = 8 := by decide +kernel
theorem zm175 : zst 175 = false ∧ zna 175 = 2 ∧ zn 175 = 2 := by decide +kernel
theorem zr175 : zr 175 = some .int := by decide +kernel
theorem zo175 : zo 175 = 8 := by decide +kernel
theorem zm176 : zst 176 = false ∧ zna 176 = 3 ∧ zn 176 = 5 := by decide +kernel
theorem zr176 : zr 176 = some .int := by decide +kernel
theorem zo176 : zo 176 = 8 := by decide +kernel
theorem zm177 : zst 177 = false ∧ zna 177 = 3 ∧ zn 177 = 4 := by decide +kernel
theorem zr177 : zr 177 = some .int := by decide +kernel
theorem zo177 : zo 177 = 8 := by decide +kernel
theorem zm178 : zst 178 = false ∧ zna 178 = 2 ∧ zn 178 = 4 := by decide +kernel
theorem zr178 : zr 178 = some .int := by decide +kernel
theorem zo178 : zo 178 = 8 := by decide +kernel
theorem zm179 : zst 179 = false ∧ zna 179 = 2 ∧ zn 179 = 2 := by decide +kernel
theorem zr179 : zr 179 = some .int := by decide +kernel
theorem zo179 : zo 179 = 8 := by decide +kernel
theorem zm180 : zst 180 = false ∧ zna 180 = 2 ∧ zn 180 = 4 := by decide +kernel
theorem zr180 : zr 180 = some .int := by decide +kernel
theorem zo180 : zo 180 = 8 := by decide +kernel
theorem zm181 : zst 181 = true ∧ zna 181 = 1 ∧ zn 181 = 3 := by decide +kernel
theorem zr181 : zr 181 = some .int := by decide +kernel
theorem zo181 : zo 181 = 8 := by decide +kernel
theorem zm182 : zst 182 = false ∧ zna 182 = 2 ∧ zn 182 = 2 := by decide +kernel
theorem zr182 : zr 182 = some .int := by decide +kernel
theorem zo182 : zo 182 = 8 := by decide +kernel
theorem zm183 : zst 183 = false ∧ zna 183 = 2 ∧ zn 183 = 6 := by decide +kernel
theorem zr183 : zr 183 = some .int := by decide +kernel
theorem zo183 : zo 183 = 8 := by decide +kernel
theorem zm184 : zst 184 = false ∧ zna 184 = 3 ∧ zn 184 = 3 := by decide +kernel
theorem zr184 : zr 184 = some .boolean := by decide +kernel
theorem zo184 : zo 184 = 8 := by decide +kernel
theorem zm185 : zst 185 = false ∧ zna 185 = 1 ∧ zn 185 = 4 := by decide +kernel
theorem zr185 : zr 185 = some .int := by decide +kernel
theorem zo185 : zo 185 = 8 := by decide +kernel
theorem zm186 : zst 186 = false ∧ zna 186 = 3 ∧ zn 186 = 4 := by decide +kernel
theorem zr186 : zr 186 = some .int := by decide +kernel
theorem zo186 : zo 186 = 8 := by decide +kernel
theorem zm187 : zst 187 = false ∧ zna 187 = 2 ∧ zn 187 = 3 := by decide +kernel
theorem zr187 : zr 187 = some .int := by decide +kernel
theorem zo187 : zo 187 = 8 := by decide +kernel
theorem zm188 : zst 188 = false ∧ zna 188 = 3 ∧ zn 188 = 4 := by decide +kernel
theorem zr188 : zr 188 = some .int := by decide +kernel
theorem zo188 : zo 188 = 8 := by decide +kernel
theorem zm189 : zst 189 = false ∧ zna 189 = 4 ∧ zn 189 = 5 := by decide +kernel
theorem zr189 : zr 189 = some .boolean := by decide +kernel
theorem zo189 : zo 189 = 8 := by decide +kernel
theorem zm190 : zst 190 = false ∧ zna 190 = 3 ∧ zn 190 = 4 := by decide +kernel
theorem zr190 : zr 190 = some .int := by decide +kernel
theorem zo190 : zo 190 = 8 := by decide +kernel
theorem zm191 : zst 191 = false ∧ zna 191 = 4 ∧ zn 191 = 6 := by decide +kernel
theorem zr191 : zr 191 = some .boolean := by decide +kernel
theorem zo191 : zo 191 = 8 := by decide +kernel
theorem zm192 : zst 192 = false ∧ zna 192 = 3 ∧ zn 192 = 7 := by decide +kernel
theorem zr192 : zr 192 = some .int := by decide +kernel
theorem zo192 : zo 192 = 8 := by decide +kernel
theorem zm193 : zst 193 = true ∧ zna 193 = 2 ∧ zn 193 = 5 := by decide +kernel
theorem zr193 : zr 193 = some .int := by decide +kernel
theorem zo193 : zo 193 = 8 := by decide +kernel
theorem zm194 : zst 194 = false ∧ zna 194 = 4 ∧ zn 194 = 6 := by decide +kernel
theorem zr194 : zr 194 = some .int := by decide +kernel
theorem zo194 : zo 194 = 8 := by decide +kernel
theorem zm195 : zst 195 = false ∧ zna 195 = 4 ∧ zn 195 = 8 := by decide +kernel
theorem zr195 : zr 195 = some .int := by decide +kernel
theorem zo195 : zo 195 = 8 := by decide +kernel
theorem zm196 : zst 196 = false ∧ zna 196 = 2 ∧ zn 196 = 2 := by decide +kernel
theorem zr196 : zr 196 = none := by decide +kernel
theorem zo196 : zo 196 = 8 := by decide +kernel
theorem zm197 : zst 197 = true ∧ zna 197 = 1 ∧ zn 197 = 1 := by decide +kernel
theorem zr197 : zr 197 = some .int := by decide +kernel
theorem zo197 : zo 197 = 8 := by decide +kernel
theorem zm198 : zst 198 = false ∧ zna 198 = 1 ∧ zn 198 = 1 := by decide +kernel
theorem zr198 : zr 198 = some .int := by decide +kernel
theorem zo198 : zo 198 = 8 := by decide +kernel
theorem zm199 : zst 199 = false ∧ zna 199 = 1 ∧ zn 199 = 1 := by decide +kernel
theorem zr199 : zr 199 = some .int := by decide +kernel
theorem zo199 : zo 199 = 8 := by decide +kernel
theorem zm200 : zst 200 = false ∧ zna 200 = 3 ∧ zn 200 = 3 := by decide +kernel
theorem zr200 : zr 200 = some .int := by decide +kernel
theorem zo200 : zo 200 = 8 := by decide +kernel
theorem zm201 : zst 201 = false ∧ zna 201 = 3 ∧ zn 201 = 3 := by decide +kernel
theorem zr201 : zr 201 = some .int := by decide +kernel
theorem zo201 : zo 201 = 8 := by decide +kernel
theorem zm202 : zst 202 = false ∧ zna 202 = 3 ∧ zn 202 = 3 := by decide +kernel
theorem zr202 : zr 202 = some .int := by decide +kernel
theorem zo202 : zo 202 = 8 := by decide +kernel
theorem zm203 : zst 203 = false ∧ zna 203 = 3 ∧ zn 203 = 5 := by decide +kernel
theorem zr203 : zr 203 = some .int := by decide +kernel
theorem zo203 : zo 203 = 8 := by decide +kernel
theorem zm204 : zst 204 = false ∧ zna 204 = 4 ∧ zn 204 = 6 := by decide +kernel
theorem zr204 : zr 204 = some .int := by decide +kernel
theorem zo204 : zo 204 = 8 := by decide +kernel
theorem zm205 : zst 205 = false ∧ zna 205 = 2 ∧ zn 205 = 2 := by decide +kernel
theorem zr205 : zr 205 = some .int := by decide +kernel
theorem zo205 : zo 205 = 8 := by decide +kernel
theorem zm206 : zst 206 = true ∧ zna 206 = 1 ∧ zn 206 = 1 := by decide +kernel
theorem zr206 : zr 206 = some .boolean := by decide +kernel
theorem zo206 : zo 206 = 8 := by decide +kernel
theorem zm207 : zst 207 = false ∧ zna 207 = 4 ∧ zn 207 = 5 := by decide +kernel
theorem zr207 : zr 207 = some .int := by decide +kernel
theorem zo207 : zo 207 = 8 := by decide +kernel
theorem zm208 : zst 208 = false ∧ zna 208 = 4 ∧ zn 208 = 5 := by decide +kernel
theorem zr208 : zr 208 = some .int := by decide +kernel
theorem zo208 : zo 208 = 8 := by decide +kernel
theorem zm209 : zst 209 = false ∧ zna 209 = 6 ∧ zn 209 = 7 := by decide +kernel
theorem zr209 : zr 209 = some .int := by decide +kernel
theorem zo209 : zo 209 = 8 := by decide +kernel
theorem zm210 : zst 210 = false ∧ zna 210 = 2 ∧ zn 210 = 2 := by decide +kernel
theorem zr210 : zr 210 = some .int := by decide +kernel
theorem zo210 : zo 210 = 8 := by decide +kernel
theorem zm211 : zst 211 = false ∧ zna 211 = 2 ∧ zn 211 = 4 := by decide +kernel
theorem zr211 : zr 211 = some .int := by decide +kernel
theorem zo211 : zo 211 = 8 := by decide +kernel
theorem zm212 : zst 212 = false ∧ zna 212 = 2 ∧ zn 212 = 4 := by decide +kernel
theorem zr212 : zr 212 = some .int := by decide +kernel
theorem zo212 : zo 212 = 8 := by decide +kernel
theorem zm213 : zst 213 = false ∧ zna 213 = 1 ∧ zn 213 = 1 := by decide +kernel
theorem zr213 : zr 213 = some .int := by decide +kernel
theorem zo213 : zo 213 = 8 := by decide +kernel
theorem zm214 : zst 214 = false ∧ zna 214 = 1 ∧ zn 214 = 1 := by decide +kernel
theorem zr214 : zr 214 = some .int := by decide +kernel
theorem zo214 : zo 214 = 8 := by decide +kernel
theorem zm215 : zst 215 = false ∧ zna 215 = 2 ∧ zn 215 = 2 := by decide +kernel
theorem zr215 : zr 215 = some .int := by decide +kernel
theorem zo215 : zo 215 = 8 := by decide +kernel
theorem zm216 : zst 216 = false ∧ zna 216 = 1 ∧ zn 216 = 3 := by decide +kernel
theorem zr216 : zr 216 = some .int := by decide +kernel
theorem zo216 : zo 216 = 8 := by decide +kernel
theorem zm217 : zst 217 = false ∧ zna 217 = 2 ∧ zn 217 = 2 := by decide +kernel
theorem zr217 : zr 217 = some .int := by decide +kernel
theorem zo217 : zo 217 = 8 := by decide +kernel
theorem zm218 : zst 218 = false ∧ zna 218 = 2 ∧ zn 218 = 2 := by decide +kernel
theorem zr218 : zr 218 = some .int := by decide +kernel
theorem zo218 : zo 218 = 8 := by decide +kernel
theorem zm219 : zst 219 = true ∧ zna 219 = 1 ∧ zn 219 = 1 := by decide +kernel
theorem zr219 : zr 219 = some .int := by decide +kernel
theorem zo219 : zo 219 = 10 := by decide +kernel
theorem zm220 : zst 220 = true ∧ zna 220 = 2 ∧ zn 220 = 3 := by decide +kernel
theorem zr220 : zr 220 = some .int := by decide +kernel
theorem zo220 : zo 220 = 11 := by decide +kernel
theorem zm221 : zst 221 = true ∧ zna 221 = 1 ∧ zn 221 = 1 := by decide +kernel
theorem zr221 : zr 221 = some .int := by decide +kernel
theorem zo221 : zo 221 = 11 := by decide +kernel
theorem zm222 : zst 222 = true ∧ zna 222 = 2 ∧ zn 222 = 2 := by decide +kernel
theorem zr222 : zr 222 = some .int := by decide +kernel
theorem zo222 : zo 222 = 11 := by decide +kernel
theorem zm223 : zst 223 = true ∧ zna 223 = 2 ∧ zn 223 = 2 := by decide +kernel
theorem zr223 : zr 223 = some .int := by decide +kernel
theorem zo223 : zo 223 = 11 := by decide +kernel
theorem zm224 : zst 224 = true ∧ zna 224 = 1 ∧ zn 224 = 4 := by decide +kernel
theorem zr224 : zr 224 = some .boolean := by decide +kernel
theorem zo224 : zo 224 = 9 := by decide +kernel
theorem zic_m1 (o pc : Nat) (ls : zO) (st : List zA) (σ : zS) : zstep o (.iconst (-1)) 1 pc ls st σ = some (pc + 1, ls, zI (-1) :: st, σ) := rfl
theorem zic_0 (o pc : Nat) (ls : zO) (st : List zA) (σ : zS) : zstep o (.iconst (0)) 1 pc ls st σ = some (pc + 1, ls, zI (0) :: st, σ) := rfl
theorem zic_1 (o pc : Nat) (ls : zO) (st : List zA) (σ : zS) : zstep o (.iconst (1)) 1 pc ls st σ = some (pc + 1, ls, zI (1) :: st, σ) := rfl
theorem zic_2 (o pc : Nat) (ls : zO) (st : List zA) (σ : zS) : zstep o (.iconst (2)) 1 pc ls st σ = some (pc + 1, ls, zI (2) :: st, σ) := rfl
theorem zic_3 (o pc : Nat) (ls : zO) (st : List zA) (σ : zS) : zstep o (.iconst (3)) 1 pc ls st σ = some (pc + 1, ls, zI (3) :: st, σ) := rfl
theorem zic_4 (o pc : Nat) (ls : zO) (st : List zA) (σ : zS) : zstep o (.iconst (4)) 1 pc ls st σ = some (pc + 1, ls, zI (4) :: st, σ) := rfl
theorem zic_5 (o pc : Nat) (ls : zO) (st : List zA) (σ : zS) : zstep o (.iconst (5)) 1 pc ls st σ = some (pc + 1, ls, zI (5) :: st, σ) := rfl
theorem zib_m10 (o pc : Nat) (ls : zO) (st : List zA) (σ : zS) : zstep o (.bipush (-10)) 2 pc ls st σ = some (pc + 2, ls, zI (-10) :: st, σ) := rfl
theorem zib_6 (o pc : Nat) (ls : zO) (st : List zA) (σ : zS) : zstep o (.bipush (6)) 2 pc ls st σ = some (pc + 2, ls, zI (6) :: st, σ) := rfl
theorem zib_7 (o pc : Nat) (ls : zO) (st : List zA) (σ : zS) : zstep o (.bipush (7)) 2 pc ls st σ = some (pc + 2, ls, zI (7) :: st, σ) := rfl
theorem zib_8 (o pc : Nat) (ls : zO) (st : List zA) (σ : zS) : zstep o (.bipush (8)) 2 pc ls st σ = some (pc + 2, ls, zI (8) :: st, σ) := rfl
theorem zib_9 (o pc : Nat) (ls : zO) (st : List zA) (σ : zS) : zstep o (.bipush (9)) 2 pc ls st σ = some (pc + 2, ls, zI (9) :: st, σ) := rfl
theorem zib_10 (o pc : Nat) (ls : zO) (st : List zA) (σ : zS) : zstep o (.bipush (10)) 2 pc ls st σ = some (pc + 2, ls, zI (10) :: st, σ) := rfl
theorem zib_11 (o pc : Nat) (ls : zO) (st : List zA) (σ : zS) : zstep o (.bipush (11)) 2 pc ls st σ = some (pc + 2, ls, zI (11) :: st, σ) := rfl
theorem zib_12 (o pc : Nat) (ls : zO) (st : List zA) (σ : zS) : zstep o (.bipush (12)) 2 pc ls st σ = some (pc + 2, ls, zI (12) :: st, σ) := rfl
theorem zib_13 (o pc : Nat) (ls : zO) (st : List zA) (σ : zS) : zstep o (.bipush (13)) 2 pc ls st σ = some (pc + 2, ls, zI (13) :: st, σ) := rfl
theorem zib_16 (o pc : Nat) (ls : zO) (st : List zA) (σ : zS) : zstep o (.bipush (16)) 2 pc ls st σ = some (pc + 2, ls, zI (16) :: st, σ) := rfl
theorem zib_20 (o pc : Nat) (ls : zO) (st : List zA) (σ : zS) : zstep o (.bipush (20)) 2 pc ls st σ = some (pc + 2, ls, zI (20) :: st, σ) := rfl
theorem zib_21 (o pc : Nat) (ls : zO) (st : List zA) (σ : zS) : zstep o (.bipush (21)) 2 pc ls st σ = some (pc + 2, ls, zI (21) :: st, σ) := rfl
theorem zib_24 (o pc : Nat) (ls : zO) (st : List zA) (σ : zS) : zstep o (.bipush (24)) 2 pc ls st σ = some (pc + 2, ls, zI (24) :: st, σ) := rfl
theorem zib_30 (o pc : Nat) (ls : zO) (st : List zA) (σ : zS) : zstep o (.bipush (30)) 2 pc ls st σ = some (pc + 2, ls, zI (30) :: st, σ) := rfl
theorem zib_31 (o pc : Nat) (ls : zO) (st : List zA) (σ : zS) : zstep o (.bipush (31)) 2 pc ls st σ = some (pc + 2, ls, zI (31) :: st, σ) := rfl
theorem zib_32 (o pc : Nat) (ls : zO) (st : List zA) (σ : zS) : zstep o (.bipush (32)) 2 pc ls st σ = some (pc + 2, ls, zI (32) :: st, σ) := rfl
theorem zib_33 (o pc : Nat) (ls : zO) (st : List zA) (σ : zS) : zstep o (.bipush (33)) 2 pc ls st σ = some (pc + 2, ls, zI (33) :: st, σ) := rfl
theorem zib_37 (o pc : Nat) (ls : zO) (st : List zA) (σ : zS) : zstep o (.bipush (37)) 2 pc ls st σ = some (pc + 2, ls, zI (37) :: st, σ) := rfl
theorem zib_38 (o pc : Nat) (ls : zO) (st : List zA) (σ : zS) : zstep o (.bipush (38)) 2 pc ls st σ = some (pc + 2, ls, zI (38) :: st, σ) := rfl
theorem zib_40 (o pc : Nat) (ls : zO) (st : List zA) (σ : zS) : zstep o (.bipush (40)) 2 pc ls st σ = some (pc + 2, ls, zI (40) :: st, σ) := rfl
theorem zib_41 (o pc : Nat) (ls : zO) (st : List zA) (σ : zS) : zstep o (.bipush (41)) 2 pc ls st σ = some (pc + 2, ls, zI (41) :: st, σ) := rfl
theorem zib_42 (o pc : Nat) (ls : zO) (st : List zA) (σ : zS) : zstep o (.bipush (42)) 2 pc ls st σ = some (pc + 2, ls, zI (42) :: st, σ) := rfl
theorem zib_43 (o pc : Nat) (ls : zO) (st : List zA) (σ : zS) : zstep o (.bipush (43)) 2 pc ls st σ = some (pc + 2, ls, zI (43) :: st, σ) := rfl
theorem zib_45 (o pc : Nat) (ls : zO) (st : List zA) (σ : zS) : zstep o (.bipush (45)) 2 pc ls st σ = some (pc + 2, ls, zI (45) :: st, σ) := rfl
theorem zib_47 (o pc : Nat) (ls : zO) (st : List zA) (σ : zS) : zstep o (.bipush (47)) 2 pc ls st σ = some (pc + 2, ls, zI (47) :: st, σ) := rfl
theorem zib_48 (o pc : Nat) (ls : zO) (st : List zA) (σ : zS) : zstep o (.bipush (48)) 2 pc ls st σ = some (pc + 2, ls, zI (48) :: st, σ) := rfl
theorem zib_50 (o pc : Nat) (ls : zO) (st : List zA) (σ : zS) : zstep o (.bipush (50)) 2 pc ls st σ = some (pc + 2, ls, zI (50) :: st, σ) := rfl
theorem zib_51 (o pc : Nat) (ls : zO) (st : List zA) (σ : zS) : zstep o (.bipush (51)) 2 pc ls st σ = some (pc + 2, ls, zI (51) :: st, σ) := rfl
theorem zib_57 (o pc : Nat) (ls : zO) (st : List zA) (σ : zS) : zstep o (.bipush (57)) 2 pc ls st σ = some (pc + 2, ls, zI (57) :: st, σ) := rfl
theorem zib_60 (o pc : Nat) (ls : zO) (st : List zA) (σ : zS) : zstep o (.bipush (60)) 2 pc ls st σ = some (pc + 2, ls, zI (60) :: st, σ) := rfl
theorem zib_61 (o pc : Nat) (ls : zO) (st : List zA) (σ : zS) : zstep o (.bipush (61)) 2 pc ls st σ = some (pc + 2, ls, zI (61) :: st, σ) := rfl
theorem zib_62 (o pc : Nat) (ls : zO) (st : List zA) (σ : zS) : zstep o (.bipush (62)) 2 pc ls st σ = some (pc + 2, ls, zI (62) :: st, σ) := rfl
theorem zib_63 (o pc : Nat) (ls : zO) (st : List zA) (σ : zS) : zstep o (.bipush (63)) 2 pc ls st σ = some (pc + 2, ls, zI (63) :: st, σ) := rfl
theorem zib_64 (o pc : Nat) (ls : zO) (st : List zA) (σ : zS) : zstep o (.bipush (64)) 2 pc ls st σ = some (pc + 2, ls, zI (64) :: st, σ) := rfl
theorem zib_69 (o pc : Nat) (ls : zO) (st : List zA) (σ : zS) : zstep o (.bipush (69)) 2 pc ls st σ = some (pc + 2, ls, zI (69) :: st, σ) := rfl
theorem zib_70 (o pc : Nat) (ls : zO) (st : List zA) (σ : zS) : zstep o (.bipush (70)) 2 pc ls st σ = some (pc + 2, ls, zI (70) :: st, σ) := rfl
theorem zib_71 (o pc : Nat) (ls : zO) (st : List zA) (σ : zS) : zstep o (.bipush (71)) 2 pc ls st σ = some (pc + 2, ls, zI (71) :: st, σ) := rfl
theorem zib_96 (o pc : Nat) (ls : zO) (st : List zA) (σ : zS) : zstep o (.bipush (96)) 2 pc ls st σ = some (pc + 2, ls, zI (96) :: st, σ) := rfl
theorem zib_99 (o pc : Nat) (ls : zO) (st : List zA) (σ : zS) : zstep o (.bipush (99)) 2 pc ls st σ = some (pc + 2, ls, zI (99) :: st, σ) := rfl
theorem zib_100 (o pc : Nat) (ls : zO) (st : List zA) (σ : zS) : zstep o (.bipush (100)) 2 pc ls st σ = some (pc + 2, ls, zI (100) :: st, σ) := rfl
theorem zib_111 (o pc : Nat) (ls : zO) (st : List zA) (σ : zS) : zstep o (.bipush (111)) 2 pc ls st σ = some (pc + 2, ls, zI (111) :: st, σ) := rfl
theorem zib_115 (o pc : Nat) (ls : zO) (st : List zA) (σ : zS) : zstep o (.bipush (115)) 2 pc ls st σ = some (pc + 2, ls, zI (115) :: st, σ) := rfl
theorem zib_121 (o pc : Nat) (ls : zO) (st : List zA) (σ : zS) : zstep o (.bipush (121)) 2 pc ls st σ = some (pc + 2, ls, zI (121) :: st, σ) := rfl
theorem zib_124 (o pc : Nat) (ls : zO) (st : List zA) (σ : zS) : zstep o (.bipush (124)) 2 pc ls st σ = some (pc + 2, ls, zI (124) :: st, σ) := rfl
theorem zib_125 (o pc : Nat) (ls : zO) (st : List zA) (σ : zS) : zstep o (.bipush (125)) 2 pc ls st σ = some (pc + 2, ls, zI (125) :: st, σ) := rfl
theorem zis_128 (o pc : Nat) (ls : zO) (st : List zA) (σ : zS) : zstep o (.sipush (128)) 3 pc ls st σ = some (pc + 3, ls, zI (128) :: st, σ) := rfl
theorem zis_255 (o pc : Nat) (ls : zO) (st : List zA) (σ : zS) : zstep o (.sipush (255)) 3 pc ls st σ = some (pc + 3, ls, zI (255) :: st, σ) := rfl
theorem zis_310 (o pc : Nat) (ls : zO) (st : List zA) (σ : zS) : zstep o (.sipush (310)) 3 pc ls st σ = some (pc + 3, ls, zI (310) :: st, σ) := rfl
theorem zis_370 (o pc : Nat) (ls : zO) (st : List zA) (σ : zS) : zstep o (.sipush (370)) 3 pc ls st σ = some (pc + 3, ls, zI (370) :: st, σ) := rfl
theorem zis_394 (o pc : Nat) (ls : zO) (st : List zA) (σ : zS) : zstep o (.sipush (394)) 3 pc ls st σ = some (pc + 3, ls, zI (394) :: st, σ) := rfl
theorem zis_9999 (o pc : Nat) (ls : zO) (st : List zA) (σ : zS) : zstep o (.sipush (9999)) 3 pc ls st σ = some (pc + 3, ls, zI (9999) :: st, σ) := rfl
theorem zis_10000 (o pc : Nat) (ls : zO) (st : List zA) (σ : zS) : zstep o (.sipush (10000)) 3 pc ls st σ = some (pc + 3, ls, zI (10000) :: st, σ) := rfl
theorem zis_10001 (o pc : Nat) (ls : zO) (st : List zA) (σ : zS) : zstep o (.sipush (10001)) 3 pc ls st σ = some (pc + 3, ls, zI (10001) :: st, σ) := rfl
theorem zis_12345 (o pc : Nat) (ls : zO) (st : List zA) (σ : zS) : zstep o (.sipush (12345)) 3 pc ls st σ = some (pc + 3, ls, zI (12345) :: st, σ) := rfl
theorem zis_20000 (o pc : Nat) (ls : zO) (st : List zA) (σ : zS) : zstep o (.sipush (20000)) 3 pc ls st σ = some (pc + 3, ls, zI (20000) :: st, σ) := rfl
theorem zis_20033 (o pc : Nat) (ls : zO) (st : List zA) (σ : zS) : zstep o (.sipush (20033)) 3 pc ls st σ = some (pc + 3, ls, zI (20033) :: st, σ) := rfl
theorem zii_m1 : Int32.ofInt (-1) = -1 := rfl
theorem zii_1 : Int32.ofInt (1) = 1 := rfl
theorem zii_6 : Int32.ofInt (6) = 6 := rfl
end
